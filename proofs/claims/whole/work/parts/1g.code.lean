/-! ClassOfManyModel.send()I -/
theorem dX10_send_0 : decode cX10_send 0 = .ok (.aload_n 0, 1) := by decide +kernel
theorem dX10_send_1 : decode cX10_send 1 = .ok (.getfield 7, 3) := by decide +kernel
theorem dX10_send_4 : decode cX10_send 4 = .ok (.bipush 11, 2) := by decide +kernel
theorem dX10_send_6 : decode cX10_send 6 = .ok (.iaload, 1) := by decide +kernel
theorem dX10_send_7 : decode cX10_send 7 = .ok (.ifCond .ge 12, 3) := by decide +kernel
theorem dX10_send_10 : decode cX10_send 10 = .ok (.aload_n 0, 1) := by decide +kernel
theorem dX10_send_11 : decode cX10_send 11 = .ok (.getfield 7, 3) := by decide +kernel
theorem dX10_send_14 : decode cX10_send 14 = .ok (.iconst 1, 1) := by decide +kernel
theorem dX10_send_15 : decode cX10_send 15 = .ok (.iaload, 1) := by decide +kernel
theorem dX10_send_16 : decode cX10_send 16 = .ok (.ifCond .ne 5, 3) := by decide +kernel
theorem dX10_send_19 : decode cX10_send 19 = .ok (.iconst (-1), 1) := by decide +kernel
theorem dX10_send_20 : decode cX10_send 20 = .ok (.ireturn, 1) := by decide +kernel
theorem dX10_send_21 : decode cX10_send 21 = .ok (.aload_n 0, 1) := by decide +kernel
theorem dX10_send_22 : decode cX10_send 22 = .ok (.bipush 11, 2) := by decide +kernel
theorem dX10_send_24 : decode cX10_send 24 = .ok (.aload_n 0, 1) := by decide +kernel
theorem dX10_send_25 : decode cX10_send 25 = .ok (.getfield 7, 3) := by decide +kernel
theorem dX10_send_28 : decode cX10_send 28 = .ok (.bipush 8, 2) := by decide +kernel
theorem dX10_send_30 : decode cX10_send 30 = .ok (.iaload, 1) := by decide +kernel
theorem dX10_send_31 : decode cX10_send 31 = .ok (.invokevirtual 290, 3) := by decide +kernel
theorem dX10_send_34 : decode cX10_send 34 = .ok (.istore_n 1, 1) := by decide +kernel
theorem dX10_send_35 : decode cX10_send 35 = .ok (.aload_n 0, 1) := by decide +kernel
theorem dX10_send_36 : decode cX10_send 36 = .ok (.invokevirtual 250, 3) := by decide +kernel
theorem dX10_send_39 : decode cX10_send 39 = .ok (.ireturn, 1) := by decide +kernel
theorem zm_X10_send : ZMv "ClassOfManyModel" yX10_send cX10_send 2 (some .int) 0 := ⟨kw_6_232, kw_6_230, kw_6_231, kw_1_10, by decide +kernel, by decide⟩
def zf_X10_send_j19 (M : ZMem) : Option (Int32 × ZMem) :=
  some ((-1 : Int32), M)
def zf_X10_send (n : Nat) (M : ZMem) : Option (Int32 × ZMem) :=
  zrd M 78 73 (11 : Int32) (fun v27 => (if 0 ≤ v27 then (zf_X10_send_j19 M) else zrd M 78 73 (1 : Int32) (fun v28 => (if v28 = 0 then (zf_X10_send_j19 M) else zrd M 78 73 (8 : Int32) (fun v29 => zb2 (zf_X10_put n (11 : Int32) v29 M) (fun v30 M31 => zb1 (zf_X10_costs n M31) (fun v32 => some (v32, M31))))))))
set_option maxHeartbeats 4000000 in
set_option maxRecDepth 100000 in
theorem zc_X10_send {l : Launch} {D : va_G} {ad : Nat → Nat} {cA : Nat → ClassId} {n : Nat} {M : ZMem} {r : Int32} {M' : ZMem} (hf : zf_X10_send n M = some (r, M')) : ZCt l D ad cA yX10_send cX10_send 2 (some .int) 4 [.ref (ad 77)] M (some (.int r)) M' := by
  refine zct (by decide +kernel) (Nat.le_of_ble_eq_true rfl) (lv := [(0, .ref (ad 77))]) rfl (fun E hl hD had hcA hN hC hR => ?_)
  subst hl; subst hD; subst had; subst hcA
  unfold zf_X10_send at hf
  refine zw_aload_n hC dX10_send_0 rfl 0 rfl ?_
  refine zw_getr (k' := 78) hC zF_Model_now zk_77 rfl dX10_send_1 kw_5_227 ?_
  refine zw_bipush hC (v := (11 : Int32)) dX10_send_4 (by decide) ?_
  refine zw_iald hC hf zk_78 dX10_send_6 (fun v27 hf => ?_)
  have hj19 : zf_X10_send_j19 M = some (r, M') → ZW E 19 [] [] M := by
    intro  hf
    unfold zf_X10_send_j19 at hf
    refine zw_iconst hC (v := (-1 : Int32)) dX10_send_19 (by decide) ?_
    obtain ⟨h1, h2⟩ := Prod.mk.inj (Option.some.inj hf)
    subst h1; subst h2
    exact zw_iret hC hR dX10_send_20
  refine zw_if_ge hC 19 hf dX10_send_7 (by decide) (fun hf => ?_) (fun hf => ?_)
  · exact zw_sub [] rfl (hj19 hf)
  · refine zw_aload_n hC dX10_send_10 rfl 0 rfl ?_
    refine zw_getr (k' := 78) hC zF_Model_now zk_77 rfl dX10_send_11 kw_5_227 ?_
    refine zw_iconst hC (v := (1 : Int32)) dX10_send_14 (by decide) ?_
    refine zw_iald hC hf zk_78 dX10_send_15 (fun v28 hf => ?_)
    refine zw_if_ne hC 21 hf dX10_send_16 (by decide) (fun hf => ?_) (fun hf => ?_)
    · refine zw_aload_n hC dX10_send_21 rfl 0 rfl ?_
      refine zw_bipush hC (v := (11 : Int32)) dX10_send_22 (by decide) ?_
      refine zw_aload_n hC dX10_send_24 rfl 0 rfl ?_
      refine zw_getr (k' := 78) hC zF_Model_now zk_77 rfl dX10_send_25 kw_5_227 ?_
      refine zw_bipush hC (v := (8 : Int32)) dX10_send_28 (by decide) ?_
      refine zw_iald hC hf zk_78 dX10_send_30 (fun v29 hf => ?_)
      obtain ⟨v30, M31, hcM31, hf⟩ := zb2_some hf
      refine zw_cV hC [.int (11 : Int32), .int v29] [] (st1 := [.int v30]) zm_X10_put (zc_X10_put hcM31) zk_77 rfl kw_6_205 dX10_send_31 rfl (by decide) (Nat.le_of_ble_eq_true rfl) rfl rfl ?_
      refine zw_istore_n hC (lv' := [(1, .int v30), (0, .ref (zad E 77))]) dX10_send_34 rfl hN (by decide) rfl ?_
      refine zw_aload_n hC dX10_send_35 rfl 1 rfl ?_
      obtain ⟨v32, hc32, hf⟩ := zb1_some hf
      refine zw_cV hC [] [] (st1 := [.int v32]) zm_X10_costs (zc_X10_costs hc32) zk_77 rfl kw_6_233 dX10_send_36 rfl (by decide) (Nat.le_of_ble_eq_true rfl) rfl rfl ?_
      obtain ⟨h1, h2⟩ := Prod.mk.inj (Option.some.inj hf)
      subst h1; subst h2
      exact zw_iret hC hR dX10_send_39
    · exact zw_sub [] rfl (hj19 hf)
/-! ClassOfManyModel.out(I)I -/
theorem dX10_out_0 : decode cX10_out 0 = .ok (.aload_n 0, 1) := by decide +kernel
theorem dX10_out_1 : decode cX10_out 1 = .ok (.iload_n 1, 1) := by decide +kernel
theorem dX10_out_2 : decode cX10_out 2 = .ok (.invokevirtual 296, 3) := by decide +kernel
theorem dX10_out_5 : decode cX10_out 5 = .ok (.ifCond .eq 41, 3) := by decide +kernel
theorem dX10_out_8 : decode cX10_out 8 = .ok (.aload_n 0, 1) := by decide +kernel
theorem dX10_out_9 : decode cX10_out 9 = .ok (.getfield 7, 3) := by decide +kernel
theorem dX10_out_12 : decode cX10_out 12 = .ok (.bipush 12, 2) := by decide +kernel
theorem dX10_out_14 : decode cX10_out 14 = .ok (.iaload, 1) := by decide +kernel
theorem dX10_out_15 : decode cX10_out 15 = .ok (.iload_n 1, 1) := by decide +kernel
theorem dX10_out_16 : decode cX10_out 16 = .ok (.invokestatic 118, 3) := by decide +kernel
theorem dX10_out_19 : decode cX10_out 19 = .ok (.ifCond .ne 27, 3) := by decide +kernel
theorem dX10_out_22 : decode cX10_out 22 = .ok (.aload_n 0, 1) := by decide +kernel
theorem dX10_out_23 : decode cX10_out 23 = .ok (.iload_n 1, 1) := by decide +kernel
theorem dX10_out_24 : decode cX10_out 24 = .ok (.invokevirtual 299, 3) := by decide +kernel
theorem dX10_out_27 : decode cX10_out 27 = .ok (.ifCond .eq 19, 3) := by decide +kernel
theorem dX10_out_30 : decode cX10_out 30 = .ok (.aload_n 0, 1) := by decide +kernel
theorem dX10_out_31 : decode cX10_out 31 = .ok (.getfield 7, 3) := by decide +kernel
theorem dX10_out_34 : decode cX10_out 34 = .ok (.bipush 8, 2) := by decide +kernel
theorem dX10_out_36 : decode cX10_out 36 = .ok (.iaload, 1) := by decide +kernel
theorem dX10_out_37 : decode cX10_out 37 = .ok (.aload_n 0, 1) := by decide +kernel
theorem dX10_out_38 : decode cX10_out 38 = .ok (.getfield 7, 3) := by decide +kernel
theorem dX10_out_41 : decode cX10_out 41 = .ok (.iconst 5, 1) := by decide +kernel
theorem dX10_out_42 : decode cX10_out 42 = .ok (.iaload, 1) := by decide +kernel
theorem dX10_out_43 : decode cX10_out 43 = .ok (.if_icmp .le 5, 3) := by decide +kernel
theorem dX10_out_46 : decode cX10_out 46 = .ok (.iconst (-1), 1) := by decide +kernel
theorem dX10_out_47 : decode cX10_out 47 = .ok (.ireturn, 1) := by decide +kernel
theorem dX10_out_48 : decode cX10_out 48 = .ok (.aload_n 0, 1) := by decide +kernel
theorem dX10_out_49 : decode cX10_out 49 = .ok (.bipush 12, 2) := by decide +kernel
theorem dX10_out_51 : decode cX10_out 51 = .ok (.aload_n 0, 1) := by decide +kernel
theorem dX10_out_52 : decode cX10_out 52 = .ok (.getfield 7, 3) := by decide +kernel
theorem dX10_out_55 : decode cX10_out 55 = .ok (.bipush 12, 2) := by decide +kernel
theorem dX10_out_57 : decode cX10_out 57 = .ok (.iaload, 1) := by decide +kernel
theorem dX10_out_58 : decode cX10_out 58 = .ok (.iconst 1, 1) := by decide +kernel
theorem dX10_out_59 : decode cX10_out 59 = .ok (.iload_n 1, 1) := by decide +kernel
theorem dX10_out_60 : decode cX10_out 60 = .ok (.ishl, 1) := by decide +kernel
theorem dX10_out_61 : decode cX10_out 61 = .ok (.ior, 1) := by decide +kernel
theorem dX10_out_62 : decode cX10_out 62 = .ok (.invokevirtual 290, 3) := by decide +kernel
theorem dX10_out_65 : decode cX10_out 65 = .ok (.istore_n 2, 1) := by decide +kernel
theorem dX10_out_66 : decode cX10_out 66 = .ok (.aload_n 0, 1) := by decide +kernel
theorem dX10_out_67 : decode cX10_out 67 = .ok (.getfield 7, 3) := by decide +kernel
theorem dX10_out_70 : decode cX10_out 70 = .ok (.bipush 12, 2) := by decide +kernel
theorem dX10_out_72 : decode cX10_out 72 = .ok (.iaload, 1) := by decide +kernel
theorem dX10_out_73 : decode cX10_out 73 = .ok (.invokestatic 262, 3) := by decide +kernel
theorem dX10_out_76 : decode cX10_out 76 = .ok (.ireturn, 1) := by decide +kernel
theorem zm_X10_out : ZMv "ClassOfManyModel" yX10_out cX10_out 3 (some .int) 1 := ⟨kw_7_4, kw_7_2, kw_7_3, kw_1_10, by decide +kernel, by decide⟩
def zf_X10_out_j46 (M : ZMem) : Option (Int32 × ZMem) :=
  some ((-1 : Int32), M)
def zf_X10_out (n : Nat) (a1 : Int32) (M : ZMem) : Option (Int32 × ZMem) :=
  zb1 (zf_X10_isMember a1 M) (fun v32 => (if v32 = 0 then (zf_X10_out_j46 M) else zrd M 78 73 (12 : Int32) (fun v33 => zb1 (zf_X10_has v33 a1) (fun v34 => (if v34 = 0 then zb1 (zf_X10_isReached n a1 M) (fun v35 => (if v35 = 0 then (zf_X10_out_j46 M) else zrd M 78 73 (8 : Int32) (fun v36 => zrd M 78 73 (5 : Int32) (fun v37 => (if v36 ≤ v37 then zrd M 78 73 (12 : Int32) (fun v38 => zb2 (zf_X10_put n (12 : Int32) (v38 ||| ((1 : Int32) <<< (a1 &&& 31))) M) (fun v39 M40 => zrd M40 78 73 (12 : Int32) (fun v41 => zb1 (zf_X10_bits n v41) (fun v42 => some (v42, M40))))) else (zf_X10_out_j46 M)))))) else (zf_X10_out_j46 M))))))
set_option maxHeartbeats 4000000 in
set_option maxRecDepth 100000 in
theorem zc_X10_out {l : Launch} {D : va_G} {ad : Nat → Nat} {cA : Nat → ClassId} {n : Nat} {a1 : Int32} {M : ZMem} {r : Int32} {M' : ZMem} (hf : zf_X10_out n a1 M = some (r, M')) : ZCt l D ad cA yX10_out cX10_out 3 (some .int) 5 [.ref (ad 77), .int a1] M (some (.int r)) M' := by
  refine zct (by decide +kernel) (Nat.le_of_ble_eq_true rfl) (lv := [(0, .ref (ad 77)), (1, .int a1)]) rfl (fun E hl hD had hcA hN hC hR => ?_)
  subst hl; subst hD; subst had; subst hcA
  unfold zf_X10_out at hf
  refine zw_aload_n hC dX10_out_0 rfl 0 rfl ?_
  refine zw_iload_n hC dX10_out_1 rfl 1 rfl ?_
  obtain ⟨v32, hc32, hf⟩ := zb1_some hf
  refine zw_cV hC [.int a1] [] (st1 := [.int v32]) zm_X10_isMember (zc_X10_isMember hc32) zk_77 rfl kw_7_5 dX10_out_2 rfl (by decide) (Nat.le_of_ble_eq_true rfl) rfl rfl ?_
  have hj46 : zf_X10_out_j46 M = some (r, M') → ZW E 46 [] [] M := by
    intro  hf
    unfold zf_X10_out_j46 at hf
    refine zw_iconst hC (v := (-1 : Int32)) dX10_out_46 (by decide) ?_
    obtain ⟨h1, h2⟩ := Prod.mk.inj (Option.some.inj hf)
    subst h1; subst h2
    exact zw_iret hC hR dX10_out_47
  refine zw_if_eq hC 46 hf dX10_out_5 (by decide) (fun hf => ?_) (fun hf => ?_)
  · exact zw_sub [] rfl (hj46 hf)
  · refine zw_aload_n hC dX10_out_8 rfl 0 rfl ?_
    refine zw_getr (k' := 78) hC zF_Model_now zk_77 rfl dX10_out_9 kw_5_227 ?_
    refine zw_bipush hC (v := (12 : Int32)) dX10_out_12 (by decide) ?_
    refine zw_iald hC hf zk_78 dX10_out_14 (fun v33 hf => ?_)
    refine zw_iload_n hC dX10_out_15 rfl 1 rfl ?_
    obtain ⟨v34, hc34, hf⟩ := zb1_some hf
    refine zw_cS hC [.int v33, .int a1] [] (st1 := [.int v34]) zm_X10_has (zc_X10_has hc34) kw_6_150 dX10_out_16 rfl (by decide) (Nat.le_of_ble_eq_true rfl) rfl rfl ?_
    refine zw_if_ne hC 46 hf dX10_out_19 (by decide) (fun hf => ?_) (fun hf => ?_)
    · exact zw_sub [] rfl (hj46 hf)
    · refine zw_aload_n hC dX10_out_22 rfl 0 rfl ?_
      refine zw_iload_n hC dX10_out_23 rfl 1 rfl ?_
      obtain ⟨v35, hc35, hf⟩ := zb1_some hf
      refine zw_cV hC [.int a1] [] (st1 := [.int v35]) zm_X10_isReached (zc_X10_isReached hc35) zk_77 rfl kw_7_9 dX10_out_24 rfl (by decide) (Nat.le_of_ble_eq_true rfl) rfl rfl ?_
      refine zw_if_eq hC 46 hf dX10_out_27 (by decide) (fun hf => ?_) (fun hf => ?_)
      · exact zw_sub [] rfl (hj46 hf)
      · refine zw_aload_n hC dX10_out_30 rfl 0 rfl ?_
        refine zw_getr (k' := 78) hC zF_Model_now zk_77 rfl dX10_out_31 kw_5_227 ?_
        refine zw_bipush hC (v := (8 : Int32)) dX10_out_34 (by decide) ?_
        refine zw_iald hC hf zk_78 dX10_out_36 (fun v36 hf => ?_)
        refine zw_aload_n hC dX10_out_37 rfl 0 rfl ?_
        refine zw_getr (k' := 78) hC zF_Model_now zk_77 rfl dX10_out_38 kw_5_227 ?_
        refine zw_iconst hC (v := (5 : Int32)) dX10_out_41 (by decide) ?_
        refine zw_iald hC hf zk_78 dX10_out_42 (fun v37 hf => ?_)
        refine zw_icmp_le hC 48 hf dX10_out_43 (by decide) (fun hf => ?_) (fun hf => ?_)
        · refine zw_aload_n hC dX10_out_48 rfl 0 rfl ?_
          refine zw_bipush hC (v := (12 : Int32)) dX10_out_49 (by decide) ?_
          refine zw_aload_n hC dX10_out_51 rfl 0 rfl ?_
          refine zw_getr (k' := 78) hC zF_Model_now zk_77 rfl dX10_out_52 kw_5_227 ?_
          refine zw_bipush hC (v := (12 : Int32)) dX10_out_55 (by decide) ?_
          refine zw_iald hC hf zk_78 dX10_out_57 (fun v38 hf => ?_)
          refine zw_iconst hC (v := (1 : Int32)) dX10_out_58 (by decide) ?_
          refine zw_iload_n hC dX10_out_59 rfl 1 rfl ?_
          refine zw_ishl hC dX10_out_60 ?_
          refine zw_ior hC dX10_out_61 ?_
          obtain ⟨v39, M40, hcM40, hf⟩ := zb2_some hf
          refine zw_cV hC [.int (12 : Int32), .int (v38 ||| ((1 : Int32) <<< (a1 &&& 31)))] [] (st1 := [.int v39]) zm_X10_put (zc_X10_put hcM40) zk_77 rfl kw_6_205 dX10_out_62 rfl (by decide) (Nat.le_of_ble_eq_true rfl) rfl rfl ?_
          refine zw_istore_n hC (lv' := [(2, .int v39), (0, .ref (zad E 77)), (1, .int a1)]) dX10_out_65 rfl hN (by decide) rfl ?_
          refine zw_aload_n hC dX10_out_66 rfl 1 rfl ?_
          refine zw_getr (k' := 78) hC zF_Model_now zk_77 rfl dX10_out_67 kw_5_227 ?_
          refine zw_bipush hC (v := (12 : Int32)) dX10_out_70 (by decide) ?_
          refine zw_iald hC hf zk_78 dX10_out_72 (fun v41 hf => ?_)
          obtain ⟨v42, hc42, hf⟩ := zb1_some hf
          refine zw_cS hC [.int v41] [] (st1 := [.int v42]) zm_X10_bits (zc_X10_bits hc42) kw_7_21 dX10_out_73 rfl (by decide) (Nat.le_of_ble_eq_true rfl) rfl rfl ?_
          obtain ⟨h1, h2⟩ := Prod.mk.inj (Option.some.inj hf)
          subst h1; subst h2
          exact zw_iret hC hR dX10_out_76
        · exact zw_sub [] rfl (hj46 hf)
/-! ClassOfManyModel.file(I)I -/
theorem dX10_file_0 : decode cX10_file 0 = .ok (.aload_n 0, 1) := by decide +kernel
theorem dX10_file_1 : decode cX10_file 1 = .ok (.iload_n 1, 1) := by decide +kernel
theorem dX10_file_2 : decode cX10_file 2 = .ok (.invokevirtual 296, 3) := by decide +kernel
theorem dX10_file_5 : decode cX10_file 5 = .ok (.ifCond .eq 39, 3) := by decide +kernel
theorem dX10_file_8 : decode cX10_file 8 = .ok (.aload_n 0, 1) := by decide +kernel
theorem dX10_file_9 : decode cX10_file 9 = .ok (.getfield 7, 3) := by decide +kernel
theorem dX10_file_12 : decode cX10_file 12 = .ok (.bipush 12, 2) := by decide +kernel
theorem dX10_file_14 : decode cX10_file 14 = .ok (.iaload, 1) := by decide +kernel
theorem dX10_file_15 : decode cX10_file 15 = .ok (.iload_n 1, 1) := by decide +kernel
theorem dX10_file_16 : decode cX10_file 16 = .ok (.invokestatic 118, 3) := by decide +kernel
theorem dX10_file_19 : decode cX10_file 19 = .ok (.ifCond .ne 25, 3) := by decide +kernel
theorem dX10_file_22 : decode cX10_file 22 = .ok (.aload_n 0, 1) := by decide +kernel
theorem dX10_file_23 : decode cX10_file 23 = .ok (.getfield 7, 3) := by decide +kernel
theorem dX10_file_26 : decode cX10_file 26 = .ok (.bipush 13, 2) := by decide +kernel
theorem dX10_file_28 : decode cX10_file 28 = .ok (.iaload, 1) := by decide +kernel
theorem dX10_file_29 : decode cX10_file 29 = .ok (.iload_n 1, 1) := by decide +kernel
theorem dX10_file_30 : decode cX10_file 30 = .ok (.invokestatic 118, 3) := by decide +kernel
theorem dX10_file_33 : decode cX10_file 33 = .ok (.ifCond .ne 11, 3) := by decide +kernel
theorem dX10_file_36 : decode cX10_file 36 = .ok (.aload_n 0, 1) := by decide +kernel
theorem dX10_file_37 : decode cX10_file 37 = .ok (.iload_n 1, 1) := by decide +kernel
theorem dX10_file_38 : decode cX10_file 38 = .ok (.invokevirtual 299, 3) := by decide +kernel
theorem dX10_file_41 : decode cX10_file 41 = .ok (.ifCond .ne 5, 3) := by decide +kernel
theorem dX10_file_44 : decode cX10_file 44 = .ok (.iconst (-1), 1) := by decide +kernel
theorem dX10_file_45 : decode cX10_file 45 = .ok (.ireturn, 1) := by decide +kernel
theorem dX10_file_46 : decode cX10_file 46 = .ok (.aload_n 0, 1) := by decide +kernel
theorem dX10_file_47 : decode cX10_file 47 = .ok (.bipush 13, 2) := by decide +kernel
theorem dX10_file_49 : decode cX10_file 49 = .ok (.aload_n 0, 1) := by decide +kernel
theorem dX10_file_50 : decode cX10_file 50 = .ok (.getfield 7, 3) := by decide +kernel
theorem dX10_file_53 : decode cX10_file 53 = .ok (.bipush 13, 2) := by decide +kernel
theorem dX10_file_55 : decode cX10_file 55 = .ok (.iaload, 1) := by decide +kernel
theorem dX10_file_56 : decode cX10_file 56 = .ok (.iconst 1, 1) := by decide +kernel
theorem dX10_file_57 : decode cX10_file 57 = .ok (.iload_n 1, 1) := by decide +kernel
theorem dX10_file_58 : decode cX10_file 58 = .ok (.ishl, 1) := by decide +kernel
theorem dX10_file_59 : decode cX10_file 59 = .ok (.ior, 1) := by decide +kernel
theorem dX10_file_60 : decode cX10_file 60 = .ok (.invokevirtual 290, 3) := by decide +kernel
theorem dX10_file_63 : decode cX10_file 63 = .ok (.istore_n 2, 1) := by decide +kernel
theorem dX10_file_64 : decode cX10_file 64 = .ok (.aload_n 0, 1) := by decide +kernel
theorem dX10_file_65 : decode cX10_file 65 = .ok (.getfield 7, 3) := by decide +kernel
theorem dX10_file_68 : decode cX10_file 68 = .ok (.bipush 13, 2) := by decide +kernel
theorem dX10_file_70 : decode cX10_file 70 = .ok (.iaload, 1) := by decide +kernel
theorem dX10_file_71 : decode cX10_file 71 = .ok (.invokestatic 262, 3) := by decide +kernel
theorem dX10_file_74 : decode cX10_file 74 = .ok (.ireturn, 1) := by decide +kernel
theorem zm_X10_file : ZMv "ClassOfManyModel" yX10_file cX10_file 3 (some .int) 1 := ⟨kw_7_27, kw_7_25, kw_7_26, kw_1_10, by decide +kernel, by decide⟩
def zf_X10_file_j44 (M : ZMem) : Option (Int32 × ZMem) :=
  some ((-1 : Int32), M)
def zf_X10_file (n : Nat) (a1 : Int32) (M : ZMem) : Option (Int32 × ZMem) :=
  zb1 (zf_X10_isMember a1 M) (fun v32 => (if v32 = 0 then (zf_X10_file_j44 M) else zrd M 78 73 (12 : Int32) (fun v33 => zb1 (zf_X10_has v33 a1) (fun v34 => (if v34 = 0 then zrd M 78 73 (13 : Int32) (fun v35 => zb1 (zf_X10_has v35 a1) (fun v36 => (if v36 = 0 then zb1 (zf_X10_isReached n a1 M) (fun v37 => (if v37 = 0 then (zf_X10_file_j44 M) else zrd M 78 73 (13 : Int32) (fun v38 => zb2 (zf_X10_put n (13 : Int32) (v38 ||| ((1 : Int32) <<< (a1 &&& 31))) M) (fun v39 M40 => zrd M40 78 73 (13 : Int32) (fun v41 => zb1 (zf_X10_bits n v41) (fun v42 => some (v42, M40))))))) else (zf_X10_file_j44 M)))) else (zf_X10_file_j44 M))))))
set_option maxHeartbeats 4000000 in
set_option maxRecDepth 100000 in
theorem zc_X10_file {l : Launch} {D : va_G} {ad : Nat → Nat} {cA : Nat → ClassId} {n : Nat} {a1 : Int32} {M : ZMem} {r : Int32} {M' : ZMem} (hf : zf_X10_file n a1 M = some (r, M')) : ZCt l D ad cA yX10_file cX10_file 3 (some .int) 5 [.ref (ad 77), .int a1] M (some (.int r)) M' := by
  refine zct (by decide +kernel) (Nat.le_of_ble_eq_true rfl) (lv := [(0, .ref (ad 77)), (1, .int a1)]) rfl (fun E hl hD had hcA hN hC hR => ?_)
  subst hl; subst hD; subst had; subst hcA
  unfold zf_X10_file at hf
  refine zw_aload_n hC dX10_file_0 rfl 0 rfl ?_
  refine zw_iload_n hC dX10_file_1 rfl 1 rfl ?_
  obtain ⟨v32, hc32, hf⟩ := zb1_some hf
  refine zw_cV hC [.int a1] [] (st1 := [.int v32]) zm_X10_isMember (zc_X10_isMember hc32) zk_77 rfl kw_7_5 dX10_file_2 rfl (by decide) (Nat.le_of_ble_eq_true rfl) rfl rfl ?_
  have hj44 : zf_X10_file_j44 M = some (r, M') → ZW E 44 [] [] M := by
    intro  hf
    unfold zf_X10_file_j44 at hf
    refine zw_iconst hC (v := (-1 : Int32)) dX10_file_44 (by decide) ?_
    obtain ⟨h1, h2⟩ := Prod.mk.inj (Option.some.inj hf)
    subst h1; subst h2
    exact zw_iret hC hR dX10_file_45
  refine zw_if_eq hC 44 hf dX10_file_5 (by decide) (fun hf => ?_) (fun hf => ?_)
  · exact zw_sub [] rfl (hj44 hf)
  · refine zw_aload_n hC dX10_file_8 rfl 0 rfl ?_
    refine zw_getr (k' := 78) hC zF_Model_now zk_77 rfl dX10_file_9 kw_5_227 ?_
    refine zw_bipush hC (v := (12 : Int32)) dX10_file_12 (by decide) ?_
    refine zw_iald hC hf zk_78 dX10_file_14 (fun v33 hf => ?_)
    refine zw_iload_n hC dX10_file_15 rfl 1 rfl ?_
    obtain ⟨v34, hc34, hf⟩ := zb1_some hf
    refine zw_cS hC [.int v33, .int a1] [] (st1 := [.int v34]) zm_X10_has (zc_X10_has hc34) kw_6_150 dX10_file_16 rfl (by decide) (Nat.le_of_ble_eq_true rfl) rfl rfl ?_
    refine zw_if_ne hC 44 hf dX10_file_19 (by decide) (fun hf => ?_) (fun hf => ?_)
    · exact zw_sub [] rfl (hj44 hf)
    · refine zw_aload_n hC dX10_file_22 rfl 0 rfl ?_
      refine zw_getr (k' := 78) hC zF_Model_now zk_77 rfl dX10_file_23 kw_5_227 ?_
      refine zw_bipush hC (v := (13 : Int32)) dX10_file_26 (by decide) ?_
      refine zw_iald hC hf zk_78 dX10_file_28 (fun v35 hf => ?_)
      refine zw_iload_n hC dX10_file_29 rfl 1 rfl ?_
      obtain ⟨v36, hc36, hf⟩ := zb1_some hf
      refine zw_cS hC [.int v35, .int a1] [] (st1 := [.int v36]) zm_X10_has (zc_X10_has hc36) kw_6_150 dX10_file_30 rfl (by decide) (Nat.le_of_ble_eq_true rfl) rfl rfl ?_
      refine zw_if_ne hC 44 hf dX10_file_33 (by decide) (fun hf => ?_) (fun hf => ?_)
      · exact zw_sub [] rfl (hj44 hf)
      · refine zw_aload_n hC dX10_file_36 rfl 0 rfl ?_
        refine zw_iload_n hC dX10_file_37 rfl 1 rfl ?_
        obtain ⟨v37, hc37, hf⟩ := zb1_some hf
        refine zw_cV hC [.int a1] [] (st1 := [.int v37]) zm_X10_isReached (zc_X10_isReached hc37) zk_77 rfl kw_7_9 dX10_file_38 rfl (by decide) (Nat.le_of_ble_eq_true rfl) rfl rfl ?_
        refine zw_if_ne hC 46 hf dX10_file_41 (by decide) (fun hf => ?_) (fun hf => ?_)
        · refine zw_aload_n hC dX10_file_46 rfl 0 rfl ?_
          refine zw_bipush hC (v := (13 : Int32)) dX10_file_47 (by decide) ?_
          refine zw_aload_n hC dX10_file_49 rfl 0 rfl ?_
          refine zw_getr (k' := 78) hC zF_Model_now zk_77 rfl dX10_file_50 kw_5_227 ?_
          refine zw_bipush hC (v := (13 : Int32)) dX10_file_53 (by decide) ?_
          refine zw_iald hC hf zk_78 dX10_file_55 (fun v38 hf => ?_)
          refine zw_iconst hC (v := (1 : Int32)) dX10_file_56 (by decide) ?_
          refine zw_iload_n hC dX10_file_57 rfl 1 rfl ?_
          refine zw_ishl hC dX10_file_58 ?_
          refine zw_ior hC dX10_file_59 ?_
          obtain ⟨v39, M40, hcM40, hf⟩ := zb2_some hf
          refine zw_cV hC [.int (13 : Int32), .int (v38 ||| ((1 : Int32) <<< (a1 &&& 31)))] [] (st1 := [.int v39]) zm_X10_put (zc_X10_put hcM40) zk_77 rfl kw_6_205 dX10_file_60 rfl (by decide) (Nat.le_of_ble_eq_true rfl) rfl rfl ?_
          refine zw_istore_n hC (lv' := [(2, .int v39), (0, .ref (zad E 77)), (1, .int a1)]) dX10_file_63 rfl hN (by decide) rfl ?_
          refine zw_aload_n hC dX10_file_64 rfl 1 rfl ?_
          refine zw_getr (k' := 78) hC zF_Model_now zk_77 rfl dX10_file_65 kw_5_227 ?_
          refine zw_bipush hC (v := (13 : Int32)) dX10_file_68 (by decide) ?_
          refine zw_iald hC hf zk_78 dX10_file_70 (fun v41 hf => ?_)
          obtain ⟨v42, hc42, hf⟩ := zb1_some hf
          refine zw_cS hC [.int v41] [] (st1 := [.int v42]) zm_X10_bits (zc_X10_bits hc42) kw_7_21 dX10_file_71 rfl (by decide) (Nat.le_of_ble_eq_true rfl) rfl rfl ?_
          obtain ⟨h1, h2⟩ := Prod.mk.inj (Option.some.inj hf)
          subst h1; subst h2
          exact zw_iret hC hR dX10_file_74
        · exact zw_sub [] rfl (hj44 hf)
/-! ClassOfManyModel.lazy(IZ)Z -/
theorem dX10_lazy_0 : decode cX10_lazy 0 = .ok (.aload_n 0, 1) := by decide +kernel
theorem dX10_lazy_1 : decode cX10_lazy 1 = .ok (.iload_n 1, 1) := by decide +kernel
theorem dX10_lazy_2 : decode cX10_lazy 2 = .ok (.invokevirtual 296, 3) := by decide +kernel
theorem dX10_lazy_5 : decode cX10_lazy 5 = .ok (.ifCond .eq 18, 3) := by decide +kernel
theorem dX10_lazy_8 : decode cX10_lazy 8 = .ok (.aload_n 0, 1) := by decide +kernel
theorem dX10_lazy_9 : decode cX10_lazy 9 = .ok (.getfield 7, 3) := by decide +kernel
theorem dX10_lazy_12 : decode cX10_lazy 12 = .ok (.bipush 14, 2) := by decide +kernel
theorem dX10_lazy_14 : decode cX10_lazy 14 = .ok (.iaload, 1) := by decide +kernel
theorem dX10_lazy_15 : decode cX10_lazy 15 = .ok (.iload_n 1, 1) := by decide +kernel
theorem dX10_lazy_16 : decode cX10_lazy 16 = .ok (.invokestatic 118, 3) := by decide +kernel
theorem dX10_lazy_19 : decode cX10_lazy 19 = .ok (.iload_n 2, 1) := by decide +kernel
theorem dX10_lazy_20 : decode cX10_lazy 20 = .ok (.if_icmp .ne 5, 3) := by decide +kernel
theorem dX10_lazy_23 : decode cX10_lazy 23 = .ok (.iconst 0, 1) := by decide +kernel
theorem dX10_lazy_24 : decode cX10_lazy 24 = .ok (.ireturn, 1) := by decide +kernel
theorem dX10_lazy_25 : decode cX10_lazy 25 = .ok (.aload_n 0, 1) := by decide +kernel
theorem dX10_lazy_26 : decode cX10_lazy 26 = .ok (.bipush 14, 2) := by decide +kernel
theorem dX10_lazy_28 : decode cX10_lazy 28 = .ok (.aload_n 0, 1) := by decide +kernel
theorem dX10_lazy_29 : decode cX10_lazy 29 = .ok (.getfield 7, 3) := by decide +kernel
theorem dX10_lazy_32 : decode cX10_lazy 32 = .ok (.bipush 14, 2) := by decide +kernel
theorem dX10_lazy_34 : decode cX10_lazy 34 = .ok (.iaload, 1) := by decide +kernel
theorem dX10_lazy_35 : decode cX10_lazy 35 = .ok (.iconst 1, 1) := by decide +kernel
theorem dX10_lazy_36 : decode cX10_lazy 36 = .ok (.iload_n 1, 1) := by decide +kernel
theorem dX10_lazy_37 : decode cX10_lazy 37 = .ok (.ishl, 1) := by decide +kernel
theorem dX10_lazy_38 : decode cX10_lazy 38 = .ok (.ixor, 1) := by decide +kernel
theorem dX10_lazy_39 : decode cX10_lazy 39 = .ok (.invokevirtual 290, 3) := by decide +kernel
theorem dX10_lazy_42 : decode cX10_lazy 42 = .ok (.istore_n 3, 1) := by decide +kernel
theorem dX10_lazy_43 : decode cX10_lazy 43 = .ok (.iconst 1, 1) := by decide +kernel
theorem dX10_lazy_44 : decode cX10_lazy 44 = .ok (.ireturn, 1) := by decide +kernel
theorem zm_X10_lazy : ZMv "ClassOfManyModel" yX10_lazy cX10_lazy 4 (some .boolean) 2 := ⟨kw_7_31, kw_7_29, kw_7_30, kw_1_10, by decide +kernel, by decide⟩
def zf_X10_lazy_j23 (M : ZMem) : Option (Int32 × ZMem) :=
  some ((0 : Int32), M)
def zf_X10_lazy (n : Nat) (a1 : Int32) (a2 : Int32) (M : ZMem) : Option (Int32 × ZMem) :=
  zb1 (zf_X10_isMember a1 M) (fun v27 => (if v27 = 0 then (zf_X10_lazy_j23 M) else zrd M 78 73 (14 : Int32) (fun v28 => zb1 (zf_X10_has v28 a1) (fun v29 => (if v29 = a2 then (zf_X10_lazy_j23 M) else zrd M 78 73 (14 : Int32) (fun v30 => zb2 (zf_X10_put n (14 : Int32) (v30 ^^^ ((1 : Int32) <<< (a1 &&& 31))) M) (fun v31 M32 => some ((1 : Int32), M32))))))))
set_option maxHeartbeats 4000000 in
set_option maxRecDepth 100000 in
theorem zc_X10_lazy {l : Launch} {D : va_G} {ad : Nat → Nat} {cA : Nat → ClassId} {n : Nat} {a1 : Int32} {a2 : Int32} {M : ZMem} {r : Int32} {M' : ZMem} (hf : zf_X10_lazy n a1 a2 M = some (r, M')) : ZCt l D ad cA yX10_lazy cX10_lazy 4 (some .boolean) 3 [.ref (ad 77), .int a1, .int a2] M (some (.int r)) M' := by
  refine zct (by decide +kernel) (Nat.le_of_ble_eq_true rfl) (lv := [(0, .ref (ad 77)), (1, .int a1), (2, .int a2)]) rfl (fun E hl hD had hcA hN hC hR => ?_)
  subst hl; subst hD; subst had; subst hcA
  unfold zf_X10_lazy at hf
  refine zw_aload_n hC dX10_lazy_0 rfl 0 rfl ?_
  refine zw_iload_n hC dX10_lazy_1 rfl 1 rfl ?_
  obtain ⟨v27, hc27, hf⟩ := zb1_some hf
  refine zw_cV hC [.int a1] [] (st1 := [.int v27]) zm_X10_isMember (zc_X10_isMember hc27) zk_77 rfl kw_7_5 dX10_lazy_2 rfl (by decide) (Nat.le_of_ble_eq_true rfl) rfl rfl ?_
  have hj23 : zf_X10_lazy_j23 M = some (r, M') → ZW E 23 [] [] M := by
    intro  hf
    unfold zf_X10_lazy_j23 at hf
    refine zw_iconst hC (v := (0 : Int32)) dX10_lazy_23 (by decide) ?_
    obtain ⟨h1, h2⟩ := Prod.mk.inj (Option.some.inj hf)
    subst h1; subst h2
    exact zw_zret hC hR rfl dX10_lazy_24
  refine zw_if_eq hC 23 hf dX10_lazy_5 (by decide) (fun hf => ?_) (fun hf => ?_)
  · exact zw_sub [] rfl (hj23 hf)
  · refine zw_aload_n hC dX10_lazy_8 rfl 0 rfl ?_
    refine zw_getr (k' := 78) hC zF_Model_now zk_77 rfl dX10_lazy_9 kw_5_227 ?_
    refine zw_bipush hC (v := (14 : Int32)) dX10_lazy_12 (by decide) ?_
    refine zw_iald hC hf zk_78 dX10_lazy_14 (fun v28 hf => ?_)
    refine zw_iload_n hC dX10_lazy_15 rfl 1 rfl ?_
    obtain ⟨v29, hc29, hf⟩ := zb1_some hf
    refine zw_cS hC [.int v28, .int a1] [] (st1 := [.int v29]) zm_X10_has (zc_X10_has hc29) kw_6_150 dX10_lazy_16 rfl (by decide) (Nat.le_of_ble_eq_true rfl) rfl rfl ?_
    refine zw_iload_n hC dX10_lazy_19 rfl 2 rfl ?_
    refine zw_icmp_ne hC 25 hf dX10_lazy_20 (by decide) (fun hf => ?_) (fun hf => ?_)
    · refine zw_aload_n hC dX10_lazy_25 rfl 0 rfl ?_
      refine zw_bipush hC (v := (14 : Int32)) dX10_lazy_26 (by decide) ?_
      refine zw_aload_n hC dX10_lazy_28 rfl 0 rfl ?_
      refine zw_getr (k' := 78) hC zF_Model_now zk_77 rfl dX10_lazy_29 kw_5_227 ?_
      refine zw_bipush hC (v := (14 : Int32)) dX10_lazy_32 (by decide) ?_
      refine zw_iald hC hf zk_78 dX10_lazy_34 (fun v30 hf => ?_)
      refine zw_iconst hC (v := (1 : Int32)) dX10_lazy_35 (by decide) ?_
      refine zw_iload_n hC dX10_lazy_36 rfl 1 rfl ?_
      refine zw_ishl hC dX10_lazy_37 ?_
      refine zw_ixor hC dX10_lazy_38 ?_
      obtain ⟨v31, M32, hcM32, hf⟩ := zb2_some hf
      refine zw_cV hC [.int (14 : Int32), .int (v30 ^^^ ((1 : Int32) <<< (a1 &&& 31)))] [] (st1 := [.int v31]) zm_X10_put (zc_X10_put hcM32) zk_77 rfl kw_6_205 dX10_lazy_39 rfl (by decide) (Nat.le_of_ble_eq_true rfl) rfl rfl ?_
      refine zw_istore_n hC (lv' := [(3, .int v31), (0, .ref (zad E 77)), (1, .int a1), (2, .int a2)]) dX10_lazy_42 rfl hN (by decide) rfl ?_
      refine zw_iconst hC (v := (1 : Int32)) dX10_lazy_43 (by decide) ?_
      obtain ⟨h1, h2⟩ := Prod.mk.inj (Option.some.inj hf)
      subst h1; subst h2
      exact zw_zret hC hR rfl dX10_lazy_44
    · exact zw_sub [] rfl (hj23 hf)
/-! ClassOfManyModel.fund(I)I -/
theorem dX10_fund_0 : decode cX10_fund 0 = .ok (.iload_n 1, 1) := by decide +kernel
theorem dX10_fund_1 : decode cX10_fund 1 = .ok (.iconst 0, 1) := by decide +kernel
theorem dX10_fund_2 : decode cX10_fund 2 = .ok (.ldc 147, 2) := by decide +kernel
theorem dX10_fund_4 : decode cX10_fund 4 = .ok (.invokestatic 65, 3) := by decide +kernel
theorem dX10_fund_7 : decode cX10_fund 7 = .ok (.ifCond .eq 22, 3) := by decide +kernel
theorem dX10_fund_10 : decode cX10_fund 10 = .ok (.iload_n 1, 1) := by decide +kernel
theorem dX10_fund_11 : decode cX10_fund 11 = .ok (.aload_n 0, 1) := by decide +kernel
theorem dX10_fund_12 : decode cX10_fund 12 = .ok (.getfield 7, 3) := by decide +kernel
theorem dX10_fund_15 : decode cX10_fund 15 = .ok (.iconst 2, 1) := by decide +kernel
theorem dX10_fund_16 : decode cX10_fund 16 = .ok (.iaload, 1) := by decide +kernel
theorem dX10_fund_17 : decode cX10_fund 17 = .ok (.if_icmp .eq 12, 3) := by decide +kernel
theorem dX10_fund_20 : decode cX10_fund 20 = .ok (.aload_n 0, 1) := by decide +kernel
theorem dX10_fund_21 : decode cX10_fund 21 = .ok (.iconst 2, 1) := by decide +kernel
theorem dX10_fund_22 : decode cX10_fund 22 = .ok (.iload_n 1, 1) := by decide +kernel
theorem dX10_fund_23 : decode cX10_fund 23 = .ok (.invokevirtual 290, 3) := by decide +kernel
theorem dX10_fund_26 : decode cX10_fund 26 = .ok (.goto 4, 3) := by decide +kernel
theorem dX10_fund_29 : decode cX10_fund 29 = .ok (.iconst (-1), 1) := by decide +kernel
theorem dX10_fund_30 : decode cX10_fund 30 = .ok (.ireturn, 1) := by decide +kernel
theorem zm_X10_fund : ZMv "ClassOfManyModel" yX10_fund cX10_fund 2 (some .int) 1 := ⟨kw_7_35, kw_7_33, kw_7_34, kw_1_10, by decide +kernel, by decide⟩
def zf_X10_fund_j30 (v26 : Int32) (M27 : ZMem) : Option (Int32 × ZMem) :=
  some (v26, M27)
def zf_X10_fund_j29 (M : ZMem) : Option (Int32 × ZMem) :=
  (zf_X10_fund_j30 (-1 : Int32) M)
def zf_X10_fund (n : Nat) (a1 : Int32) (M : ZMem) : Option (Int32 × ZMem) :=
  zb1 (zf_X10_isIn a1 (0 : Int32) (99999 : Int32)) (fun v25 => (if v25 = 0 then (zf_X10_fund_j29 M) else zrd M 78 73 (2 : Int32) (fun v28 => (if a1 = v28 then (zf_X10_fund_j29 M) else zb2 (zf_X10_put n (2 : Int32) a1 M) (fun v29 M30 => (zf_X10_fund_j30 v29 M30))))))
set_option maxHeartbeats 4000000 in
set_option maxRecDepth 100000 in
theorem zc_X10_fund {l : Launch} {D : va_G} {ad : Nat → Nat} {cA : Nat → ClassId} {n : Nat} {a1 : Int32} {M : ZMem} {r : Int32} {M' : ZMem} (hf : zf_X10_fund n a1 M = some (r, M')) : ZCt l D ad cA yX10_fund cX10_fund 2 (some .int) 3 [.ref (ad 77), .int a1] M (some (.int r)) M' := by
  refine zct (by decide +kernel) (Nat.le_of_ble_eq_true rfl) (lv := [(0, .ref (ad 77)), (1, .int a1)]) rfl (fun E hl hD had hcA hN hC hR => ?_)
  subst hl; subst hD; subst had; subst hcA
  unfold zf_X10_fund at hf
  refine zw_iload_n hC dX10_fund_0 rfl 1 rfl ?_
  refine zw_iconst hC (v := (0 : Int32)) dX10_fund_1 (by decide) ?_
  refine zw_ldc hC dX10_fund_2 kw_6_141 ?_
  obtain ⟨v25, hc25, hf⟩ := zb1_some hf
  refine zw_cS hC [.int a1, .int (0 : Int32), .int (99999 : Int32)] [] (st1 := [.int v25]) zm_X10_isIn (zc_X10_isIn hc25) kw_6_106 dX10_fund_4 rfl (by decide) (Nat.le_of_ble_eq_true rfl) rfl rfl ?_
  have hj30 : ∀ (v26 : Int32), ∀ (M27 : ZMem), zf_X10_fund_j30 v26 M27 = some (r, M') → ZW E 30 [] [.int v26] M27 := by
    intro v26 M27 hf
    unfold zf_X10_fund_j30 at hf
    obtain ⟨h1, h2⟩ := Prod.mk.inj (Option.some.inj hf)
    subst h1; subst h2
    exact zw_iret hC hR dX10_fund_30
  have hj29 : zf_X10_fund_j29 M = some (r, M') → ZW E 29 [] [] M := by
    intro  hf
    unfold zf_X10_fund_j29 at hf
    refine zw_iconst hC (v := (-1 : Int32)) dX10_fund_29 (by decide) ?_
    exact hj30 (-1 : Int32) M hf
  refine zw_if_eq hC 29 hf dX10_fund_7 (by decide) (fun hf => ?_) (fun hf => ?_)
  · exact zw_sub [] rfl (hj29 hf)
  · refine zw_iload_n hC dX10_fund_10 rfl 1 rfl ?_
    refine zw_aload_n hC dX10_fund_11 rfl 0 rfl ?_
    refine zw_getr (k' := 78) hC zF_Model_now zk_77 rfl dX10_fund_12 kw_5_227 ?_
    refine zw_iconst hC (v := (2 : Int32)) dX10_fund_15 (by decide) ?_
    refine zw_iald hC hf zk_78 dX10_fund_16 (fun v28 hf => ?_)
    refine zw_icmp_eq hC 29 hf dX10_fund_17 (by decide) (fun hf => ?_) (fun hf => ?_)
    · exact zw_sub [] rfl (hj29 hf)
    · refine zw_aload_n hC dX10_fund_20 rfl 0 rfl ?_
      refine zw_iconst hC (v := (2 : Int32)) dX10_fund_21 (by decide) ?_
      refine zw_iload_n hC dX10_fund_22 rfl 1 rfl ?_
      obtain ⟨v29, M30, hcM30, hf⟩ := zb2_some hf
      refine zw_cV hC [.int (2 : Int32), .int a1] [] (st1 := [.int v29]) zm_X10_put (zc_X10_put hcM30) zk_77 rfl kw_6_205 dX10_fund_23 rfl (by decide) (Nat.le_of_ble_eq_true rfl) rfl rfl ?_
      refine zw_goto hC 30 dX10_fund_26 (by decide) ?_
      exact zw_sub [] rfl (hj30 v29 M30 hf)
/-! ClassOfManyModel.rule(I)I -/
theorem dX10_rule_0 : decode cX10_rule 0 = .ok (.iload_n 1, 1) := by decide +kernel
theorem dX10_rule_1 : decode cX10_rule 1 = .ok (.iconst 0, 1) := by decide +kernel
theorem dX10_rule_2 : decode cX10_rule 2 = .ok (.iconst 2, 1) := by decide +kernel
theorem dX10_rule_3 : decode cX10_rule 3 = .ok (.invokestatic 65, 3) := by decide +kernel
theorem dX10_rule_6 : decode cX10_rule 6 = .ok (.ifCond .eq 24, 3) := by decide +kernel
theorem dX10_rule_9 : decode cX10_rule 9 = .ok (.iload_n 1, 1) := by decide +kernel
theorem dX10_rule_10 : decode cX10_rule 10 = .ok (.aload_n 0, 1) := by decide +kernel
theorem dX10_rule_11 : decode cX10_rule 11 = .ok (.getfield 7, 3) := by decide +kernel
theorem dX10_rule_14 : decode cX10_rule 14 = .ok (.bipush 9, 2) := by decide +kernel
theorem dX10_rule_16 : decode cX10_rule 16 = .ok (.iaload, 1) := by decide +kernel
theorem dX10_rule_17 : decode cX10_rule 17 = .ok (.if_icmp .eq 13, 3) := by decide +kernel
theorem dX10_rule_20 : decode cX10_rule 20 = .ok (.aload_n 0, 1) := by decide +kernel
theorem dX10_rule_21 : decode cX10_rule 21 = .ok (.bipush 9, 2) := by decide +kernel
theorem dX10_rule_23 : decode cX10_rule 23 = .ok (.iload_n 1, 1) := by decide +kernel
theorem dX10_rule_24 : decode cX10_rule 24 = .ok (.invokevirtual 290, 3) := by decide +kernel
theorem dX10_rule_27 : decode cX10_rule 27 = .ok (.goto 4, 3) := by decide +kernel
theorem dX10_rule_30 : decode cX10_rule 30 = .ok (.iconst (-1), 1) := by decide +kernel
theorem dX10_rule_31 : decode cX10_rule 31 = .ok (.ireturn, 1) := by decide +kernel
theorem zm_X10_rule : ZMv "ClassOfManyModel" yX10_rule cX10_rule 2 (some .int) 1 := ⟨kw_7_39, kw_7_37, kw_7_38, kw_1_10, by decide +kernel, by decide⟩
def zf_X10_rule_j31 (v26 : Int32) (M27 : ZMem) : Option (Int32 × ZMem) :=
  some (v26, M27)
def zf_X10_rule_j30 (M : ZMem) : Option (Int32 × ZMem) :=
  (zf_X10_rule_j31 (-1 : Int32) M)
def zf_X10_rule (n : Nat) (a1 : Int32) (M : ZMem) : Option (Int32 × ZMem) :=
  zb1 (zf_X10_isIn a1 (0 : Int32) (2 : Int32)) (fun v25 => (if v25 = 0 then (zf_X10_rule_j30 M) else zrd M 78 73 (9 : Int32) (fun v28 => (if a1 = v28 then (zf_X10_rule_j30 M) else zb2 (zf_X10_put n (9 : Int32) a1 M) (fun v29 M30 => (zf_X10_rule_j31 v29 M30))))))
set_option maxHeartbeats 4000000 in
set_option maxRecDepth 100000 in
theorem zc_X10_rule {l : Launch} {D : va_G} {ad : Nat → Nat} {cA : Nat → ClassId} {n : Nat} {a1 : Int32} {M : ZMem} {r : Int32} {M' : ZMem} (hf : zf_X10_rule n a1 M = some (r, M')) : ZCt l D ad cA yX10_rule cX10_rule 2 (some .int) 3 [.ref (ad 77), .int a1] M (some (.int r)) M' := by
  refine zct (by decide +kernel) (Nat.le_of_ble_eq_true rfl) (lv := [(0, .ref (ad 77)), (1, .int a1)]) rfl (fun E hl hD had hcA hN hC hR => ?_)
  subst hl; subst hD; subst had; subst hcA
  unfold zf_X10_rule at hf
  refine zw_iload_n hC dX10_rule_0 rfl 1 rfl ?_
  refine zw_iconst hC (v := (0 : Int32)) dX10_rule_1 (by decide) ?_
  refine zw_iconst hC (v := (2 : Int32)) dX10_rule_2 (by decide) ?_
  obtain ⟨v25, hc25, hf⟩ := zb1_some hf
  refine zw_cS hC [.int a1, .int (0 : Int32), .int (2 : Int32)] [] (st1 := [.int v25]) zm_X10_isIn (zc_X10_isIn hc25) kw_6_106 dX10_rule_3 rfl (by decide) (Nat.le_of_ble_eq_true rfl) rfl rfl ?_
  have hj31 : ∀ (v26 : Int32), ∀ (M27 : ZMem), zf_X10_rule_j31 v26 M27 = some (r, M') → ZW E 31 [] [.int v26] M27 := by
    intro v26 M27 hf
    unfold zf_X10_rule_j31 at hf
    obtain ⟨h1, h2⟩ := Prod.mk.inj (Option.some.inj hf)
    subst h1; subst h2
    exact zw_iret hC hR dX10_rule_31
  have hj30 : zf_X10_rule_j30 M = some (r, M') → ZW E 30 [] [] M := by
    intro  hf
    unfold zf_X10_rule_j30 at hf
    refine zw_iconst hC (v := (-1 : Int32)) dX10_rule_30 (by decide) ?_
    exact hj31 (-1 : Int32) M hf
  refine zw_if_eq hC 30 hf dX10_rule_6 (by decide) (fun hf => ?_) (fun hf => ?_)
  · exact zw_sub [] rfl (hj30 hf)
  · refine zw_iload_n hC dX10_rule_9 rfl 1 rfl ?_
    refine zw_aload_n hC dX10_rule_10 rfl 0 rfl ?_
    refine zw_getr (k' := 78) hC zF_Model_now zk_77 rfl dX10_rule_11 kw_5_227 ?_
    refine zw_bipush hC (v := (9 : Int32)) dX10_rule_14 (by decide) ?_
    refine zw_iald hC hf zk_78 dX10_rule_16 (fun v28 hf => ?_)
    refine zw_icmp_eq hC 30 hf dX10_rule_17 (by decide) (fun hf => ?_) (fun hf => ?_)
    · exact zw_sub [] rfl (hj30 hf)
    · refine zw_aload_n hC dX10_rule_20 rfl 0 rfl ?_
      refine zw_bipush hC (v := (9 : Int32)) dX10_rule_21 (by decide) ?_
      refine zw_iload_n hC dX10_rule_23 rfl 1 rfl ?_
      obtain ⟨v29, M30, hcM30, hf⟩ := zb2_some hf
      refine zw_cV hC [.int (9 : Int32), .int a1] [] (st1 := [.int v29]) zm_X10_put (zc_X10_put hcM30) zk_77 rfl kw_6_205 dX10_rule_24 rfl (by decide) (Nat.le_of_ble_eq_true rfl) rfl rfl ?_
      refine zw_goto hC 31 dX10_rule_27 (by decide) ?_
      exact zw_sub [] rfl (hj31 v29 M30 hf)
/-! ClassOfManyModel.period(II)I -/
theorem dX10_period_0 : decode cX10_period 0 = .ok (.iload_n 1, 1) := by decide +kernel
theorem dX10_period_1 : decode cX10_period 1 = .ok (.iconst 0, 1) := by decide +kernel
theorem dX10_period_2 : decode cX10_period 2 = .ok (.bipush 99, 2) := by decide +kernel
theorem dX10_period_4 : decode cX10_period 4 = .ok (.invokestatic 65, 3) := by decide +kernel
theorem dX10_period_7 : decode cX10_period 7 = .ok (.ifCond .eq 35, 3) := by decide +kernel
theorem dX10_period_10 : decode cX10_period 10 = .ok (.iload_n 2, 1) := by decide +kernel
theorem dX10_period_11 : decode cX10_period 11 = .ok (.iload_n 1, 1) := by decide +kernel
theorem dX10_period_12 : decode cX10_period 12 = .ok (.bipush 99, 2) := by decide +kernel
theorem dX10_period_14 : decode cX10_period 14 = .ok (.invokestatic 65, 3) := by decide +kernel
theorem dX10_period_17 : decode cX10_period 17 = .ok (.ifCond .eq 25, 3) := by decide +kernel
theorem dX10_period_20 : decode cX10_period 20 = .ok (.iload_n 1, 1) := by decide +kernel
theorem dX10_period_21 : decode cX10_period 21 = .ok (.aload_n 0, 1) := by decide +kernel
theorem dX10_period_22 : decode cX10_period 22 = .ok (.getfield 7, 3) := by decide +kernel
theorem dX10_period_25 : decode cX10_period 25 = .ok (.bipush 6, 2) := by decide +kernel
theorem dX10_period_27 : decode cX10_period 27 = .ok (.iaload, 1) := by decide +kernel
theorem dX10_period_28 : decode cX10_period 28 = .ok (.if_icmp .ne 16, 3) := by decide +kernel
theorem dX10_period_31 : decode cX10_period 31 = .ok (.iload_n 2, 1) := by decide +kernel
theorem dX10_period_32 : decode cX10_period 32 = .ok (.aload_n 0, 1) := by decide +kernel
theorem dX10_period_33 : decode cX10_period 33 = .ok (.getfield 7, 3) := by decide +kernel
theorem dX10_period_36 : decode cX10_period 36 = .ok (.bipush 7, 2) := by decide +kernel
theorem dX10_period_38 : decode cX10_period 38 = .ok (.iaload, 1) := by decide +kernel
theorem dX10_period_39 : decode cX10_period 39 = .ok (.if_icmp .ne 5, 3) := by decide +kernel
theorem dX10_period_42 : decode cX10_period 42 = .ok (.iconst (-1), 1) := by decide +kernel
theorem dX10_period_43 : decode cX10_period 43 = .ok (.ireturn, 1) := by decide +kernel
theorem dX10_period_44 : decode cX10_period 44 = .ok (.aload_n 0, 1) := by decide +kernel
theorem dX10_period_45 : decode cX10_period 45 = .ok (.bipush 6, 2) := by decide +kernel
theorem dX10_period_47 : decode cX10_period 47 = .ok (.iload_n 1, 1) := by decide +kernel
theorem dX10_period_48 : decode cX10_period 48 = .ok (.invokevirtual 290, 3) := by decide +kernel
theorem dX10_period_51 : decode cX10_period 51 = .ok (.istore_n 3, 1) := by decide +kernel
theorem dX10_period_52 : decode cX10_period 52 = .ok (.aload_n 0, 1) := by decide +kernel
theorem dX10_period_53 : decode cX10_period 53 = .ok (.getfield 7, 3) := by decide +kernel
theorem dX10_period_56 : decode cX10_period 56 = .ok (.bipush 7, 2) := by decide +kernel
theorem dX10_period_58 : decode cX10_period 58 = .ok (.iload_n 2, 1) := by decide +kernel
theorem dX10_period_59 : decode cX10_period 59 = .ok (.iastore, 1) := by decide +kernel
theorem dX10_period_60 : decode cX10_period 60 = .ok (.aload_n 0, 1) := by decide +kernel
theorem dX10_period_61 : decode cX10_period 61 = .ok (.aload_n 0, 1) := by decide +kernel
theorem dX10_period_62 : decode cX10_period 62 = .ok (.invokevirtual 223, 3) := by decide +kernel
theorem dX10_period_65 : decode cX10_period 65 = .ok (.invokevirtual 259, 3) := by decide +kernel
theorem dX10_period_68 : decode cX10_period 68 = .ok (.ireturn, 1) := by decide +kernel
theorem zm_X10_period : ZMv "ClassOfManyModel" yX10_period cX10_period 4 (some .int) 2 := ⟨kw_7_43, kw_7_41, kw_7_42, kw_1_10, by decide +kernel, by decide⟩
def zf_X10_period_j42 (M : ZMem) : Option (Int32 × ZMem) :=
  some ((-1 : Int32), M)
def zf_X10_period_j44 (n : Nat) (a1 : Int32) (M : ZMem) (a2 : Int32) : Option (Int32 × ZMem) :=
  zb2 (zf_X10_put n (6 : Int32) a1 M) (fun v33 M34 => zst M34 78 73 (7 : Int32) a2 (fun M35 => zb1 (zf_X10_all M35) (fun v36 => zb1 (zf_X10_claims n v36 M35) (fun v37 => some (v37, M35)))))
def zf_X10_period (n : Nat) (a1 : Int32) (a2 : Int32) (M : ZMem) : Option (Int32 × ZMem) :=
  zb1 (zf_X10_isIn a1 (0 : Int32) (99 : Int32)) (fun v30 => (if v30 = 0 then (zf_X10_period_j42 M) else zb1 (zf_X10_isIn a2 a1 (99 : Int32)) (fun v31 => (if v31 = 0 then (zf_X10_period_j42 M) else zrd M 78 73 (6 : Int32) (fun v32 => (if a1 = v32 then zrd M 78 73 (7 : Int32) (fun v38 => (if a2 = v38 then (zf_X10_period_j42 M) else (zf_X10_period_j44 n a1 M a2))) else (zf_X10_period_j44 n a1 M a2)))))))
set_option maxHeartbeats 4000000 in
set_option maxRecDepth 100000 in
theorem zc_X10_period {l : Launch} {D : va_G} {ad : Nat → Nat} {cA : Nat → ClassId} {n : Nat} {a1 : Int32} {a2 : Int32} {M : ZMem} {r : Int32} {M' : ZMem} (hf : zf_X10_period n a1 a2 M = some (r, M')) : ZCt l D ad cA yX10_period cX10_period 4 (some .int) 4 [.ref (ad 77), .int a1, .int a2] M (some (.int r)) M' := by
  refine zct (by decide +kernel) (Nat.le_of_ble_eq_true rfl) (lv := [(0, .ref (ad 77)), (1, .int a1), (2, .int a2)]) rfl (fun E hl hD had hcA hN hC hR => ?_)
  subst hl; subst hD; subst had; subst hcA
  unfold zf_X10_period at hf
  refine zw_iload_n hC dX10_period_0 rfl 1 rfl ?_
  refine zw_iconst hC (v := (0 : Int32)) dX10_period_1 (by decide) ?_
  refine zw_bipush hC (v := (99 : Int32)) dX10_period_2 (by decide) ?_
  obtain ⟨v30, hc30, hf⟩ := zb1_some hf
  refine zw_cS hC [.int a1, .int (0 : Int32), .int (99 : Int32)] [] (st1 := [.int v30]) zm_X10_isIn (zc_X10_isIn hc30) kw_6_106 dX10_period_4 rfl (by decide) (Nat.le_of_ble_eq_true rfl) rfl rfl ?_
  have hj42 : zf_X10_period_j42 M = some (r, M') → ZW E 42 [] [] M := by
    intro  hf
    unfold zf_X10_period_j42 at hf
    refine zw_iconst hC (v := (-1 : Int32)) dX10_period_42 (by decide) ?_
    obtain ⟨h1, h2⟩ := Prod.mk.inj (Option.some.inj hf)
    subst h1; subst h2
    exact zw_iret hC hR dX10_period_43
  refine zw_if_eq hC 42 hf dX10_period_7 (by decide) (fun hf => ?_) (fun hf => ?_)
  · exact zw_sub [] rfl (hj42 hf)
  · refine zw_iload_n hC dX10_period_10 rfl 2 rfl ?_
    refine zw_iload_n hC dX10_period_11 rfl 1 rfl ?_
    refine zw_bipush hC (v := (99 : Int32)) dX10_period_12 (by decide) ?_
    obtain ⟨v31, hc31, hf⟩ := zb1_some hf
    refine zw_cS hC [.int a2, .int a1, .int (99 : Int32)] [] (st1 := [.int v31]) zm_X10_isIn (zc_X10_isIn hc31) kw_6_106 dX10_period_14 rfl (by decide) (Nat.le_of_ble_eq_true rfl) rfl rfl ?_
    refine zw_if_eq hC 42 hf dX10_period_17 (by decide) (fun hf => ?_) (fun hf => ?_)
    · exact zw_sub [] rfl (hj42 hf)
    · refine zw_iload_n hC dX10_period_20 rfl 1 rfl ?_
      refine zw_aload_n hC dX10_period_21 rfl 0 rfl ?_
      refine zw_getr (k' := 78) hC zF_Model_now zk_77 rfl dX10_period_22 kw_5_227 ?_
      refine zw_bipush hC (v := (6 : Int32)) dX10_period_25 (by decide) ?_
      refine zw_iald hC hf zk_78 dX10_period_27 (fun v32 hf => ?_)
      have hj44 : zf_X10_period_j44 n a1 M a2 = some (r, M') → ZW E 44 [(0, .ref (zad E 77)), (1, .int a1), (2, .int a2)] [] M := by
        intro  hf
        unfold zf_X10_period_j44 at hf
        refine zw_aload_n hC dX10_period_44 rfl 0 rfl ?_
        refine zw_bipush hC (v := (6 : Int32)) dX10_period_45 (by decide) ?_
        refine zw_iload_n hC dX10_period_47 rfl 1 rfl ?_
        obtain ⟨v33, M34, hcM34, hf⟩ := zb2_some hf
        refine zw_cV hC [.int (6 : Int32), .int a1] [] (st1 := [.int v33]) zm_X10_put (zc_X10_put hcM34) zk_77 rfl kw_6_205 dX10_period_48 rfl (by decide) (Nat.le_of_ble_eq_true rfl) rfl rfl ?_
        refine zw_istore_n hC (lv' := [(3, .int v33), (0, .ref (zad E 77)), (1, .int a1), (2, .int a2)]) dX10_period_51 rfl hN (by decide) rfl ?_
        refine zw_aload_n hC dX10_period_52 rfl 1 rfl ?_
        refine zw_getr (k' := 78) hC zF_Model_now zk_77 rfl dX10_period_53 kw_5_227 ?_
        refine zw_bipush hC (v := (7 : Int32)) dX10_period_56 (by decide) ?_
        refine zw_iload_n hC dX10_period_58 rfl 3 rfl ?_
        refine zw_iast hC hf zk_78 dX10_period_59 (fun M35 hf => ?_)
        refine zw_aload_n hC dX10_period_60 rfl 1 rfl ?_
        refine zw_aload_n hC dX10_period_61 rfl 1 rfl ?_
        obtain ⟨v36, hc36, hf⟩ := zb1_some hf
        refine zw_cV hC [] [.ref (zad E 77)] (st1 := [.int v36, .ref (zad E 77)]) zm_X10_all (zc_X10_all hc36) zk_77 rfl kw_7_44 dX10_period_62 rfl (by decide) (Nat.le_of_ble_eq_true rfl) rfl rfl ?_
        obtain ⟨v37, hc37, hf⟩ := zb1_some hf
        refine zw_cV hC [.int v36] [] (st1 := [.int v37]) zm_X10_claims (zc_X10_claims hc37) zk_77 rfl kw_7_48 dX10_period_65 rfl (by decide) (Nat.le_of_ble_eq_true rfl) rfl rfl ?_
        obtain ⟨h1, h2⟩ := Prod.mk.inj (Option.some.inj hf)
        subst h1; subst h2
        exact zw_iret hC hR dX10_period_68
      refine zw_icmp_ne hC 44 hf dX10_period_28 (by decide) (fun hf => ?_) (fun hf => ?_)
      · exact hj44 hf
      · refine zw_iload_n hC dX10_period_31 rfl 2 rfl ?_
        refine zw_aload_n hC dX10_period_32 rfl 0 rfl ?_
        refine zw_getr (k' := 78) hC zF_Model_now zk_77 rfl dX10_period_33 kw_5_227 ?_
        refine zw_bipush hC (v := (7 : Int32)) dX10_period_36 (by decide) ?_
        refine zw_iald hC hf zk_78 dX10_period_38 (fun v38 hf => ?_)
        refine zw_icmp_ne hC 44 hf dX10_period_39 (by decide) (fun hf => ?_) (fun hf => ?_)
        · exact hj44 hf
        · exact zw_sub [] rfl (hj42 hf)
/-! ClassOfManyModel.areTwo(II)Z -/
theorem dX10_areTwo_0 : decode cX10_areTwo 0 = .ok (.aload_n 0, 1) := by decide +kernel
theorem dX10_areTwo_1 : decode cX10_areTwo 1 = .ok (.iload_n 1, 1) := by decide +kernel
theorem dX10_areTwo_2 : decode cX10_areTwo 2 = .ok (.invokevirtual 296, 3) := by decide +kernel
theorem dX10_areTwo_5 : decode cX10_areTwo 5 = .ok (.ifCond .eq 20, 3) := by decide +kernel
theorem dX10_areTwo_8 : decode cX10_areTwo 8 = .ok (.aload_n 0, 1) := by decide +kernel
theorem dX10_areTwo_9 : decode cX10_areTwo 9 = .ok (.iload_n 2, 1) := by decide +kernel
theorem dX10_areTwo_10 : decode cX10_areTwo 10 = .ok (.invokevirtual 296, 3) := by decide +kernel
theorem dX10_areTwo_13 : decode cX10_areTwo 13 = .ok (.ifCond .eq 12, 3) := by decide +kernel
theorem dX10_areTwo_16 : decode cX10_areTwo 16 = .ok (.iload_n 1, 1) := by decide +kernel
theorem dX10_areTwo_17 : decode cX10_areTwo 17 = .ok (.iload_n 2, 1) := by decide +kernel
theorem dX10_areTwo_18 : decode cX10_areTwo 18 = .ok (.if_icmp .eq 7, 3) := by decide +kernel
theorem dX10_areTwo_21 : decode cX10_areTwo 21 = .ok (.iconst 1, 1) := by decide +kernel
theorem dX10_areTwo_22 : decode cX10_areTwo 22 = .ok (.goto 4, 3) := by decide +kernel
theorem dX10_areTwo_25 : decode cX10_areTwo 25 = .ok (.iconst 0, 1) := by decide +kernel
theorem dX10_areTwo_26 : decode cX10_areTwo 26 = .ok (.ireturn, 1) := by decide +kernel
theorem zm_X10_areTwo : ZMv "ClassOfManyModel" yX10_areTwo cX10_areTwo 3 (some .boolean) 2 := ⟨kw_7_66, kw_7_65, kp_90, kw_1_10, by decide +kernel, by decide⟩
def zf_X10_areTwo_j26 (v24 : Int32) : Option (Int32) :=
  zbz v24 (some v24)
def zf_X10_areTwo_j25 : Option (Int32) :=
  (zf_X10_areTwo_j26 (0 : Int32))
def zf_X10_areTwo (a1 : Int32) (a2 : Int32) (M : ZMem) : Option (Int32) :=
  zb1 (zf_X10_isMember a1 M) (fun v23 => (if v23 = 0 then (zf_X10_areTwo_j25) else zb1 (zf_X10_isMember a2 M) (fun v25 => (if v25 = 0 then (zf_X10_areTwo_j25) else (if a1 = a2 then (zf_X10_areTwo_j25) else (zf_X10_areTwo_j26 (1 : Int32)))))))
set_option maxHeartbeats 4000000 in
set_option maxRecDepth 100000 in
theorem zc_X10_areTwo {l : Launch} {D : va_G} {ad : Nat → Nat} {cA : Nat → ClassId} {a1 : Int32} {a2 : Int32} {M : ZMem} {r : Int32} (hf : zf_X10_areTwo a1 a2 M = some r) : ZCt l D ad cA yX10_areTwo cX10_areTwo 3 (some .boolean) 3 [.ref (ad 77), .int a1, .int a2] M (some (.int r)) M := by
  refine zct (by decide +kernel) (Nat.le_of_ble_eq_true rfl) (lv := [(0, .ref (ad 77)), (1, .int a1), (2, .int a2)]) rfl (fun E hl hD had hcA hN hC hR => ?_)
  subst hl; subst hD; subst had; subst hcA
  unfold zf_X10_areTwo at hf
  refine zw_aload_n hC dX10_areTwo_0 rfl 0 rfl ?_
  refine zw_iload_n hC dX10_areTwo_1 rfl 1 rfl ?_
  obtain ⟨v23, hc23, hf⟩ := zb1_some hf
  refine zw_cV hC [.int a1] [] (st1 := [.int v23]) zm_X10_isMember (zc_X10_isMember hc23) zk_77 rfl kw_7_5 dX10_areTwo_2 rfl (by decide) (Nat.le_of_ble_eq_true rfl) rfl rfl ?_
  have hj26 : ∀ (v24 : Int32), zf_X10_areTwo_j26 v24 = some r → ZW E 26 [] [.int v24] M := by
    intro v24 hf
    unfold zf_X10_areTwo_j26 at hf
    obtain ⟨hz, hf⟩ := zbz_some hf
    have h1 := Option.some.inj hf
    subst h1
    exact zw_zret hC hR hz dX10_areTwo_26
  have hj25 : zf_X10_areTwo_j25 = some r → ZW E 25 [] [] M := by
    intro  hf
    unfold zf_X10_areTwo_j25 at hf
    refine zw_iconst hC (v := (0 : Int32)) dX10_areTwo_25 (by decide) ?_
    exact hj26 (0 : Int32) hf
  refine zw_if_eq hC 25 hf dX10_areTwo_5 (by decide) (fun hf => ?_) (fun hf => ?_)
  · exact zw_sub [] rfl (hj25 hf)
  · refine zw_aload_n hC dX10_areTwo_8 rfl 0 rfl ?_
    refine zw_iload_n hC dX10_areTwo_9 rfl 2 rfl ?_
    obtain ⟨v25, hc25, hf⟩ := zb1_some hf
    refine zw_cV hC [.int a2] [] (st1 := [.int v25]) zm_X10_isMember (zc_X10_isMember hc25) zk_77 rfl kw_7_5 dX10_areTwo_10 rfl (by decide) (Nat.le_of_ble_eq_true rfl) rfl rfl ?_
    refine zw_if_eq hC 25 hf dX10_areTwo_13 (by decide) (fun hf => ?_) (fun hf => ?_)
    · exact zw_sub [] rfl (hj25 hf)
    · refine zw_iload_n hC dX10_areTwo_16 rfl 1 rfl ?_
      refine zw_iload_n hC dX10_areTwo_17 rfl 2 rfl ?_
      refine zw_icmp_eq hC 25 hf dX10_areTwo_18 (by decide) (fun hf => ?_) (fun hf => ?_)
      · exact zw_sub [] rfl (hj25 hf)
      · refine zw_iconst hC (v := (1 : Int32)) dX10_areTwo_21 (by decide) ?_
        refine zw_goto hC 26 dX10_areTwo_22 (by decide) ?_
        exact zw_sub [] rfl (hj26 (1 : Int32) hf)
/-! ClassOfManyModel.quarrel(II)I -/
theorem dX10_quarrel_0 : decode cX10_quarrel 0 = .ok (.aload_n 0, 1) := by decide +kernel
theorem dX10_quarrel_1 : decode cX10_quarrel 1 = .ok (.iload_n 1, 1) := by decide +kernel
theorem dX10_quarrel_2 : decode cX10_quarrel 2 = .ok (.iload_n 2, 1) := by decide +kernel
theorem dX10_quarrel_3 : decode cX10_quarrel 3 = .ok (.invokevirtual 302, 3) := by decide +kernel
theorem dX10_quarrel_6 : decode cX10_quarrel 6 = .ok (.ifCond .ne 5, 3) := by decide +kernel
theorem dX10_quarrel_9 : decode cX10_quarrel 9 = .ok (.iconst (-1), 1) := by decide +kernel
theorem dX10_quarrel_10 : decode cX10_quarrel 10 = .ok (.ireturn, 1) := by decide +kernel
theorem dX10_quarrel_11 : decode cX10_quarrel 11 = .ok (.aload_n 0, 1) := by decide +kernel
theorem dX10_quarrel_12 : decode cX10_quarrel 12 = .ok (.invokevirtual 287, 3) := by decide +kernel
theorem dX10_quarrel_15 : decode cX10_quarrel 15 = .ok (.aload_n 0, 1) := by decide +kernel
theorem dX10_quarrel_16 : decode cX10_quarrel 16 = .ok (.iload_n 1, 1) := by decide +kernel
theorem dX10_quarrel_17 : decode cX10_quarrel 17 = .ok (.iload_n 2, 1) := by decide +kernel
theorem dX10_quarrel_18 : decode cX10_quarrel 18 = .ok (.invokevirtual 138, 3) := by decide +kernel
theorem dX10_quarrel_21 : decode cX10_quarrel 21 = .ok (.aload_n 0, 1) := by decide +kernel
theorem dX10_quarrel_22 : decode cX10_quarrel 22 = .ok (.getfield 7, 3) := by decide +kernel
theorem dX10_quarrel_25 : decode cX10_quarrel 25 = .ok (.bipush 63, 2) := by decide +kernel
theorem dX10_quarrel_27 : decode cX10_quarrel 27 = .ok (.iload_n 1, 1) := by decide +kernel
theorem dX10_quarrel_28 : decode cX10_quarrel 28 = .ok (.iadd, 1) := by decide +kernel
theorem dX10_quarrel_29 : decode cX10_quarrel 29 = .ok (.iaload, 1) := by decide +kernel
theorem dX10_quarrel_30 : decode cX10_quarrel 30 = .ok (.iload_n 2, 1) := by decide +kernel
theorem dX10_quarrel_31 : decode cX10_quarrel 31 = .ok (.invokestatic 118, 3) := by decide +kernel
theorem dX10_quarrel_34 : decode cX10_quarrel 34 = .ok (.ifCond .eq 7, 3) := by decide +kernel
theorem dX10_quarrel_37 : decode cX10_quarrel 37 = .ok (.iconst 1, 1) := by decide +kernel
theorem dX10_quarrel_38 : decode cX10_quarrel 38 = .ok (.goto 4, 3) := by decide +kernel
theorem dX10_quarrel_41 : decode cX10_quarrel 41 = .ok (.iconst 0, 1) := by decide +kernel
theorem dX10_quarrel_42 : decode cX10_quarrel 42 = .ok (.ireturn, 1) := by decide +kernel
theorem zm_X10_quarrel : ZMv "ClassOfManyModel" yX10_quarrel cX10_quarrel 3 (some .int) 2 := ⟨kw_7_62, kw_7_60, kw_7_61, kw_1_10, by decide +kernel, by decide⟩
def zf_X10_quarrel_j42 (M28 : ZMem) (v31 : Int32) : Option (Int32 × ZMem) :=
  some (v31, M28)
def zf_X10_quarrel (n : Nat) (a1 : Int32) (a2 : Int32) (M : ZMem) : Option (Int32 × ZMem) :=
  zb1 (zf_X10_areTwo a1 a2 M) (fun v26 => (if v26 = 0 then some ((-1 : Int32), M) else zb1 (zf_X10_remembers n M) (fun M27 => zb1 (zf_X10_quarrels a1 a2 M27) (fun M28 => zrd M28 78 73 ((63 : Int32) + a1) (fun v29 => zb1 (zf_X10_has v29 a2) (fun v30 => (if v30 = 0 then (zf_X10_quarrel_j42 M28 (0 : Int32)) else (zf_X10_quarrel_j42 M28 (1 : Int32)))))))))
set_option maxHeartbeats 4000000 in
set_option maxRecDepth 100000 in
theorem zc_X10_quarrel {l : Launch} {D : va_G} {ad : Nat → Nat} {cA : Nat → ClassId} {n : Nat} {a1 : Int32} {a2 : Int32} {M : ZMem} {r : Int32} {M' : ZMem} (hf : zf_X10_quarrel n a1 a2 M = some (r, M')) : ZCt l D ad cA yX10_quarrel cX10_quarrel 3 (some .int) 4 [.ref (ad 77), .int a1, .int a2] M (some (.int r)) M' := by
  refine zct (by decide +kernel) (Nat.le_of_ble_eq_true rfl) (lv := [(0, .ref (ad 77)), (1, .int a1), (2, .int a2)]) rfl (fun E hl hD had hcA hN hC hR => ?_)
  subst hl; subst hD; subst had; subst hcA
  unfold zf_X10_quarrel at hf
  refine zw_aload_n hC dX10_quarrel_0 rfl 0 rfl ?_
  refine zw_iload_n hC dX10_quarrel_1 rfl 1 rfl ?_
  refine zw_iload_n hC dX10_quarrel_2 rfl 2 rfl ?_
  obtain ⟨v26, hc26, hf⟩ := zb1_some hf
  refine zw_cV hC [.int a1, .int a2] [] (st1 := [.int v26]) zm_X10_areTwo (zc_X10_areTwo hc26) zk_77 rfl kw_7_63 dX10_quarrel_3 rfl (by decide) (Nat.le_of_ble_eq_true rfl) rfl rfl ?_
  refine zw_if_ne hC 11 hf dX10_quarrel_6 (by decide) (fun hf => ?_) (fun hf => ?_)
  · refine zw_aload_n hC dX10_quarrel_11 rfl 0 rfl ?_
    obtain ⟨M27, hcM27, hf⟩ := zb1_some hf
    refine zw_cV hC [] [] (st1 := []) zm_X10_remembers (zc_X10_remembers hcM27) zk_77 rfl kw_6_209 dX10_quarrel_12 rfl (by decide) (Nat.le_of_ble_eq_true rfl) rfl rfl ?_
    refine zw_aload_n hC dX10_quarrel_15 rfl 0 rfl ?_
    refine zw_iload_n hC dX10_quarrel_16 rfl 1 rfl ?_
    refine zw_iload_n hC dX10_quarrel_17 rfl 2 rfl ?_
    obtain ⟨M28, hcM28, hf⟩ := zb1_some hf
    refine zw_cV hC [.int a1, .int a2] [] (st1 := []) zm_X10_quarrels (zc_X10_quarrels hcM28) zk_77 rfl kw_6_193 dX10_quarrel_18 rfl (by decide) (Nat.le_of_ble_eq_true rfl) rfl rfl ?_
    refine zw_aload_n hC dX10_quarrel_21 rfl 0 rfl ?_
    refine zw_getr (k' := 78) hC zF_Model_now zk_77 rfl dX10_quarrel_22 kw_5_227 ?_
    refine zw_bipush hC (v := (63 : Int32)) dX10_quarrel_25 (by decide) ?_
    refine zw_iload_n hC dX10_quarrel_27 rfl 1 rfl ?_
    refine zw_iadd hC dX10_quarrel_28 ?_
    refine zw_iald hC hf zk_78 dX10_quarrel_29 (fun v29 hf => ?_)
    refine zw_iload_n hC dX10_quarrel_30 rfl 2 rfl ?_
    obtain ⟨v30, hc30, hf⟩ := zb1_some hf
    refine zw_cS hC [.int v29, .int a2] [] (st1 := [.int v30]) zm_X10_has (zc_X10_has hc30) kw_6_150 dX10_quarrel_31 rfl (by decide) (Nat.le_of_ble_eq_true rfl) rfl rfl ?_
    have hj42 : ∀ (v31 : Int32), zf_X10_quarrel_j42 M28 v31 = some (r, M') → ZW E 42 [] [.int v31] M28 := by
      intro v31 hf
      unfold zf_X10_quarrel_j42 at hf
      obtain ⟨h1, h2⟩ := Prod.mk.inj (Option.some.inj hf)
      subst h1; subst h2
      exact zw_iret hC hR dX10_quarrel_42
    refine zw_if_eq hC 41 hf dX10_quarrel_34 (by decide) (fun hf => ?_) (fun hf => ?_)
    · refine zw_iconst hC (v := (0 : Int32)) dX10_quarrel_41 (by decide) ?_
      exact zw_sub [] rfl (hj42 (0 : Int32) hf)
    · refine zw_iconst hC (v := (1 : Int32)) dX10_quarrel_37 (by decide) ?_
      refine zw_goto hC 42 dX10_quarrel_38 (by decide) ?_
      exact zw_sub [] rfl (hj42 (1 : Int32) hf)
  · refine zw_iconst hC (v := (-1 : Int32)) dX10_quarrel_9 (by decide) ?_
    obtain ⟨h1, h2⟩ := Prod.mk.inj (Option.some.inj hf)
    subst h1; subst h2
    exact zw_iret hC hR dX10_quarrel_10
/-! ClassOfManyModel.undo()I -/
theorem dX10_undo_0 : decode cX10_undo 0 = .ok (.aload_n 0, 1) := by decide +kernel
theorem dX10_undo_1 : decode cX10_undo 1 = .ok (.getfield 188, 3) := by decide +kernel
theorem dX10_undo_4 : decode cX10_undo 4 = .ok (.ifCond .ne 5, 3) := by decide +kernel
theorem dX10_undo_7 : decode cX10_undo 7 = .ok (.iconst (-1), 1) := by decide +kernel
theorem dX10_undo_8 : decode cX10_undo 8 = .ok (.ireturn, 1) := by decide +kernel
theorem dX10_undo_9 : decode cX10_undo 9 = .ok (.aload_n 0, 1) := by decide +kernel
theorem dX10_undo_10 : decode cX10_undo 10 = .ok (.dup, 1) := by decide +kernel
theorem dX10_undo_11 : decode cX10_undo 11 = .ok (.getfield 188, 3) := by decide +kernel
theorem dX10_undo_14 : decode cX10_undo 14 = .ok (.iconst 1, 1) := by decide +kernel
theorem dX10_undo_15 : decode cX10_undo 15 = .ok (.isub, 1) := by decide +kernel
theorem dX10_undo_16 : decode cX10_undo 16 = .ok (.putfield 188, 3) := by decide +kernel
theorem dX10_undo_19 : decode cX10_undo 19 = .ok (.iconst 0, 1) := by decide +kernel
theorem dX10_undo_20 : decode cX10_undo 20 = .ok (.istore_n 1, 1) := by decide +kernel
theorem dX10_undo_21 : decode cX10_undo 21 = .ok (.iload_n 1, 1) := by decide +kernel
theorem dX10_undo_22 : decode cX10_undo 22 = .ok (.bipush 73, 2) := by decide +kernel
theorem dX10_undo_24 : decode cX10_undo 24 = .ok (.if_icmp .ge 29, 3) := by decide +kernel
theorem dX10_undo_27 : decode cX10_undo 27 = .ok (.aload_n 0, 1) := by decide +kernel
theorem dX10_undo_28 : decode cX10_undo 28 = .ok (.getfield 7, 3) := by decide +kernel
theorem dX10_undo_31 : decode cX10_undo 31 = .ok (.iload_n 1, 1) := by decide +kernel
theorem dX10_undo_32 : decode cX10_undo 32 = .ok (.aload_n 0, 1) := by decide +kernel
theorem dX10_undo_33 : decode cX10_undo 33 = .ok (.getfield 16, 3) := by decide +kernel
theorem dX10_undo_36 : decode cX10_undo 36 = .ok (.bipush 73, 2) := by decide +kernel
theorem dX10_undo_38 : decode cX10_undo 38 = .ok (.aload_n 0, 1) := by decide +kernel
theorem dX10_undo_39 : decode cX10_undo 39 = .ok (.getfield 188, 3) := by decide +kernel
theorem dX10_undo_42 : decode cX10_undo 42 = .ok (.imul, 1) := by decide +kernel
theorem dX10_undo_43 : decode cX10_undo 43 = .ok (.iload_n 1, 1) := by decide +kernel
theorem dX10_undo_44 : decode cX10_undo 44 = .ok (.iadd, 1) := by decide +kernel
theorem dX10_undo_45 : decode cX10_undo 45 = .ok (.iaload, 1) := by decide +kernel
theorem dX10_undo_46 : decode cX10_undo 46 = .ok (.iastore, 1) := by decide +kernel
theorem dX10_undo_47 : decode cX10_undo 47 = .ok (.iinc 1 1, 3) := by decide +kernel
theorem dX10_undo_50 : decode cX10_undo 50 = .ok (.goto (-29), 3) := by decide +kernel
theorem dX10_undo_53 : decode cX10_undo 53 = .ok (.aload_n 0, 1) := by decide +kernel
theorem dX10_undo_54 : decode cX10_undo 54 = .ok (.getfield 188, 3) := by decide +kernel
theorem dX10_undo_57 : decode cX10_undo 57 = .ok (.ireturn, 1) := by decide +kernel
theorem zm_X10_undo : ZMv "ClassOfManyModel" yX10_undo cX10_undo 2 (some .int) 0 := ⟨kw_7_70, kw_7_68, kw_7_69, kw_1_10, by decide +kernel, by decide⟩
def zf_X10_undo_L21 (K53 : ZMem → Option (Int32 × ZMem)) : Nat → Int32 → ZMem → Option (Int32 × ZMem)
  | 0, _, _ => none
  | n21 + 1, v25, M26 =>
  (if (73 : Int32) ≤ v25 then (K53 M26) else zrd M26 80 876 (((73 : Int32) * (M26 77 4)) + v25) (fun v28 => zst M26 78 73 v25 v28 (fun M29 => (zf_X10_undo_L21 K53 n21 (v25 + (1 : Int32)) M29))))
def zf_X10_undo (n : Nat) (M : ZMem) : Option (Int32 × ZMem) :=
  (if (M 77 4) = 0 then some ((-1 : Int32), M) else zput M 77 4 ((M 77 4) - (1 : Int32)) (fun M24 => (zf_X10_undo_L21 (fun M30 => some ((M30 77 4), M30)) n (0 : Int32) M24)))
set_option maxHeartbeats 4000000 in
set_option maxRecDepth 100000 in
theorem zc_X10_undo {l : Launch} {D : va_G} {ad : Nat → Nat} {cA : Nat → ClassId} {n : Nat} {M : ZMem} {r : Int32} {M' : ZMem} (hf : zf_X10_undo n M = some (r, M')) : ZCt l D ad cA yX10_undo cX10_undo 2 (some .int) 1 [.ref (ad 77)] M (some (.int r)) M' := by
  refine zct (by decide +kernel) (Nat.le_of_ble_eq_true rfl) (lv := [(0, .ref (ad 77))]) rfl (fun E hl hD had hcA hN hC hR => ?_)
  subst hl; subst hD; subst had; subst hcA
  unfold zf_X10_undo at hf
  refine zw_aload_n hC dX10_undo_0 rfl 0 rfl ?_
  refine zw_geti hC zF_Model_undoMany zk_77 dX10_undo_1 kw_5_230 ?_
  refine zw_if_ne hC 9 hf dX10_undo_4 (by decide) (fun hf => ?_) (fun hf => ?_)
  · refine zw_aload_n hC dX10_undo_9 rfl 0 rfl ?_
    refine zw_dup hC dX10_undo_10 rfl ?_
    refine zw_geti hC zF_Model_undoMany zk_77 dX10_undo_11 kw_5_230 ?_
    refine zw_iconst hC (v := (1 : Int32)) dX10_undo_14 (by decide) ?_
    refine zw_isub hC dX10_undo_15 ?_
    refine zw_puti hC hf zF_Model_undoMany zk_77 dX10_undo_16 kw_5_230 (fun M24 hf => ?_)
    refine zw_iconst hC (v := (0 : Int32)) dX10_undo_19 (by decide) ?_
    refine zw_istore_n hC (lv' := [(1, .int (0 : Int32)), (0, .ref (zad E 77))]) dX10_undo_20 rfl hN (by decide) rfl ?_
    have hL21 : ∀ (K53 : ZMem → Option (Int32 × ZMem)), (∀ (M27 : ZMem), K53 M27 = some (r, M') → ZW E 53 [(0, .ref (zad E 77))] [] M27) → ∀ (n21 : Nat), ∀ (v25 : Int32), ∀ (M26 : ZMem), zf_X10_undo_L21 K53 n21 v25 M26 = some (r, M') → ZW E 21 [(0, .ref (zad E 77)), (1, .int v25)] [] M26 := by
      intro K53 hK53
      intro n21
      induction n21 with
      | zero => intro v25 M26 hf; rw [zf_X10_undo_L21] at hf; cases hf
      | succ n21 ih21 =>
        intro v25 M26 hf
        rw [zf_X10_undo_L21] at hf
        refine zw_iload_n hC dX10_undo_21 rfl 1 rfl ?_
        refine zw_bipush hC (v := (73 : Int32)) dX10_undo_22 (by decide) ?_
        refine zw_icmp_ge hC 53 hf dX10_undo_24 (by decide) (fun hf => ?_) (fun hf => ?_)
        · exact zw_sub [0] rfl (hK53 M26 hf)
        · refine zw_aload_n hC dX10_undo_27 rfl 0 rfl ?_
          refine zw_getr (k' := 78) hC zF_Model_now zk_77 rfl dX10_undo_28 kw_5_227 ?_
          refine zw_iload_n hC dX10_undo_31 rfl 1 rfl ?_
          refine zw_aload_n hC dX10_undo_32 rfl 0 rfl ?_
          refine zw_getr (k' := 80) hC zF_Model_undos zk_77 rfl dX10_undo_33 kw_5_229 ?_
          refine zw_bipush hC (v := (73 : Int32)) dX10_undo_36 (by decide) ?_
          refine zw_aload_n hC dX10_undo_38 rfl 0 rfl ?_
          refine zw_geti hC zF_Model_undoMany zk_77 dX10_undo_39 kw_5_230 ?_
          refine zw_imul hC dX10_undo_42 ?_
          refine zw_iload_n hC dX10_undo_43 rfl 1 rfl ?_
          refine zw_iadd hC dX10_undo_44 ?_
          refine zw_iald hC hf zk_80 dX10_undo_45 (fun v28 hf => ?_)
          refine zw_iast hC hf zk_78 dX10_undo_46 (fun M29 hf => ?_)
          refine zw_iinc hC (v := (1 : Int32)) (lv' := [(1, .int (v25 + (1 : Int32))), (0, .ref (zad E 77))]) dX10_undo_47 1 rfl (by decide) hN (by decide) rfl ?_
          refine zw_goto hC 21 dX10_undo_50 (by decide) ?_
          exact zw_sub [1, 0] rfl (ih21 (v25 + (1 : Int32)) M29 hf)
    refine zw_sub [1, 0] rfl (hL21 _ ?_ n (0 : Int32) M24 hf)
    · intro M30 hf
      refine zw_aload_n hC dX10_undo_53 rfl 0 rfl ?_
      refine zw_geti hC zF_Model_undoMany zk_77 dX10_undo_54 kw_5_230 ?_
      obtain ⟨h1, h2⟩ := Prod.mk.inj (Option.some.inj hf)
      subst h1; subst h2
      exact zw_iret hC hR dX10_undo_57
  · refine zw_iconst hC (v := (-1 : Int32)) dX10_undo_7 (by decide) ?_
    obtain ⟨h1, h2⟩ := Prod.mk.inj (Option.some.inj hf)
    subst h1; subst h2
    exact zw_iret hC hR dX10_undo_8
/-! ClassOfManyModel.member(II)I -/
theorem dX10_member_0 : decode cX10_member 0 = .ok (.aload_n 0, 1) := by decide +kernel
theorem dX10_member_1 : decode cX10_member 1 = .ok (.iload_n 1, 1) := by decide +kernel
theorem dX10_member_2 : decode cX10_member 2 = .ok (.invokevirtual 296, 3) := by decide +kernel
theorem dX10_member_5 : decode cX10_member 5 = .ok (.ifCond .ne 5, 3) := by decide +kernel
theorem dX10_member_8 : decode cX10_member 8 = .ok (.iconst (-1), 1) := by decide +kernel
theorem dX10_member_9 : decode cX10_member 9 = .ok (.ireturn, 1) := by decide +kernel
theorem dX10_member_10 : decode cX10_member 10 = .ok (.iload_n 2, 1) := by decide +kernel
theorem dX10_member_11 : decode cX10_member 11 = .ok (.tableswitch 131 0 9 #[53, 63, 73, 83, 93, 99, 99, 99, 115, 121], 53) := by decide +kernel
theorem dX10_member_64 : decode cX10_member 64 = .ok (.aload_n 0, 1) := by decide +kernel
theorem dX10_member_65 : decode cX10_member 65 = .ok (.getfield 7, 3) := by decide +kernel
theorem dX10_member_68 : decode cX10_member 68 = .ok (.bipush 15, 2) := by decide +kernel
theorem dX10_member_70 : decode cX10_member 70 = .ok (.iload_n 1, 1) := by decide +kernel
theorem dX10_member_71 : decode cX10_member 71 = .ok (.iadd, 1) := by decide +kernel
theorem dX10_member_72 : decode cX10_member 72 = .ok (.iaload, 1) := by decide +kernel
theorem dX10_member_73 : decode cX10_member 73 = .ok (.ireturn, 1) := by decide +kernel
theorem dX10_member_74 : decode cX10_member 74 = .ok (.aload_n 0, 1) := by decide +kernel
theorem dX10_member_75 : decode cX10_member 75 = .ok (.getfield 7, 3) := by decide +kernel
theorem dX10_member_78 : decode cX10_member 78 = .ok (.bipush 25, 2) := by decide +kernel
theorem dX10_member_80 : decode cX10_member 80 = .ok (.iload_n 1, 1) := by decide +kernel
theorem dX10_member_81 : decode cX10_member 81 = .ok (.iadd, 1) := by decide +kernel
theorem dX10_member_82 : decode cX10_member 82 = .ok (.iaload, 1) := by decide +kernel
theorem dX10_member_83 : decode cX10_member 83 = .ok (.ireturn, 1) := by decide +kernel
theorem dX10_member_84 : decode cX10_member 84 = .ok (.aload_n 0, 1) := by decide +kernel
theorem dX10_member_85 : decode cX10_member 85 = .ok (.getfield 7, 3) := by decide +kernel
theorem dX10_member_88 : decode cX10_member 88 = .ok (.bipush 35, 2) := by decide +kernel
theorem dX10_member_90 : decode cX10_member 90 = .ok (.iload_n 1, 1) := by decide +kernel
theorem dX10_member_91 : decode cX10_member 91 = .ok (.iadd, 1) := by decide +kernel
theorem dX10_member_92 : decode cX10_member 92 = .ok (.iaload, 1) := by decide +kernel
theorem dX10_member_93 : decode cX10_member 93 = .ok (.ireturn, 1) := by decide +kernel
theorem dX10_member_94 : decode cX10_member 94 = .ok (.aload_n 0, 1) := by decide +kernel
theorem dX10_member_95 : decode cX10_member 95 = .ok (.getfield 7, 3) := by decide +kernel
theorem dX10_member_98 : decode cX10_member 98 = .ok (.bipush 45, 2) := by decide +kernel
theorem dX10_member_100 : decode cX10_member 100 = .ok (.iload_n 1, 1) := by decide +kernel
theorem dX10_member_101 : decode cX10_member 101 = .ok (.iadd, 1) := by decide +kernel
theorem dX10_member_102 : decode cX10_member 102 = .ok (.iaload, 1) := by decide +kernel
theorem dX10_member_103 : decode cX10_member 103 = .ok (.ireturn, 1) := by decide +kernel
theorem dX10_member_104 : decode cX10_member 104 = .ok (.aload_n 0, 1) := by decide +kernel
theorem dX10_member_105 : decode cX10_member 105 = .ok (.iload_n 1, 1) := by decide +kernel
theorem dX10_member_106 : decode cX10_member 106 = .ok (.invokevirtual 211, 3) := by decide +kernel
theorem dX10_member_109 : decode cX10_member 109 = .ok (.ireturn, 1) := by decide +kernel
theorem dX10_member_110 : decode cX10_member 110 = .ok (.aload_n 0, 1) := by decide +kernel
theorem dX10_member_111 : decode cX10_member 111 = .ok (.getfield 7, 3) := by decide +kernel
theorem dX10_member_114 : decode cX10_member 114 = .ok (.bipush 12, 2) := by decide +kernel
theorem dX10_member_116 : decode cX10_member 116 = .ok (.iload_n 2, 1) := by decide +kernel
theorem dX10_member_117 : decode cX10_member 117 = .ok (.iadd, 1) := by decide +kernel
theorem dX10_member_118 : decode cX10_member 118 = .ok (.iconst 5, 1) := by decide +kernel
theorem dX10_member_119 : decode cX10_member 119 = .ok (.isub, 1) := by decide +kernel
theorem dX10_member_120 : decode cX10_member 120 = .ok (.iaload, 1) := by decide +kernel
theorem dX10_member_121 : decode cX10_member 121 = .ok (.iload_n 1, 1) := by decide +kernel
theorem dX10_member_122 : decode cX10_member 122 = .ok (.ishr, 1) := by decide +kernel
theorem dX10_member_123 : decode cX10_member 123 = .ok (.iconst 1, 1) := by decide +kernel
theorem dX10_member_124 : decode cX10_member 124 = .ok (.iand, 1) := by decide +kernel
theorem dX10_member_125 : decode cX10_member 125 = .ok (.ireturn, 1) := by decide +kernel
theorem dX10_member_126 : decode cX10_member 126 = .ok (.aload_n 0, 1) := by decide +kernel
theorem dX10_member_127 : decode cX10_member 127 = .ok (.iload_n 1, 1) := by decide +kernel
theorem dX10_member_128 : decode cX10_member 128 = .ok (.invokevirtual 204, 3) := by decide +kernel
theorem dX10_member_131 : decode cX10_member 131 = .ok (.ireturn, 1) := by decide +kernel
theorem dX10_member_132 : decode cX10_member 132 = .ok (.aload_n 0, 1) := by decide +kernel
theorem dX10_member_133 : decode cX10_member 133 = .ok (.getfield 7, 3) := by decide +kernel
theorem dX10_member_136 : decode cX10_member 136 = .ok (.bipush 63, 2) := by decide +kernel
theorem dX10_member_138 : decode cX10_member 138 = .ok (.iload_n 1, 1) := by decide +kernel
theorem dX10_member_139 : decode cX10_member 139 = .ok (.iadd, 1) := by decide +kernel
theorem dX10_member_140 : decode cX10_member 140 = .ok (.iaload, 1) := by decide +kernel
theorem dX10_member_141 : decode cX10_member 141 = .ok (.ireturn, 1) := by decide +kernel
theorem dX10_member_142 : decode cX10_member 142 = .ok (.iconst (-1), 1) := by decide +kernel
theorem dX10_member_143 : decode cX10_member 143 = .ok (.ireturn, 1) := by decide +kernel
theorem zm_X10_member : ZMv "ClassOfManyModel" yX10_member cX10_member 3 (some .int) 2 := ⟨kw_7_74, kw_7_72, kw_7_73, kw_1_10, by decide +kernel, by decide⟩
def zf_X10_member (n : Nat) (a1 : Int32) (a2 : Int32) (M : ZMem) : Option (Int32) :=
  zb1 (zf_X10_isMember a1 M) (fun v30 => (if v30 = 0 then some (-1 : Int32) else (if a2 = (0 : Int32) then zrd M 78 73 ((15 : Int32) + a1) (fun v31 => some v31) else (if a2 = (1 : Int32) then zrd M 78 73 ((25 : Int32) + a1) (fun v32 => some v32) else (if a2 = (2 : Int32) then zrd M 78 73 ((35 : Int32) + a1) (fun v33 => some v33) else (if a2 = (3 : Int32) then zrd M 78 73 ((45 : Int32) + a1) (fun v34 => some v34) else (if a2 = (4 : Int32) then zb1 (zf_X10_claim a1 M) (fun v35 => some v35) else (if a2 = (5 : Int32) then zrd M 78 73 (((12 : Int32) + a2) - (5 : Int32)) (fun v36 => some ((v36 >>> (a1 &&& 31)) &&& (1 : Int32))) else (if a2 = (6 : Int32) then zrd M 78 73 (((12 : Int32) + a2) - (5 : Int32)) (fun v37 => some ((v37 >>> (a1 &&& 31)) &&& (1 : Int32))) else (if a2 = (7 : Int32) then zrd M 78 73 (((12 : Int32) + a2) - (5 : Int32)) (fun v38 => some ((v38 >>> (a1 &&& 31)) &&& (1 : Int32))) else (if a2 = (8 : Int32) then zb1 (zf_X10_reachedOn n a1 M) (fun v39 => some v39) else (if a2 = (9 : Int32) then zrd M 78 73 ((63 : Int32) + a1) (fun v40 => some v40) else some (-1 : Int32)))))))))))))
set_option maxHeartbeats 4000000 in
set_option maxRecDepth 100000 in
theorem zc_X10_member {l : Launch} {D : va_G} {ad : Nat → Nat} {cA : Nat → ClassId} {n : Nat} {a1 : Int32} {a2 : Int32} {M : ZMem} {r : Int32} (hf : zf_X10_member n a1 a2 M = some r) : ZCt l D ad cA yX10_member cX10_member 3 (some .int) 4 [.ref (ad 77), .int a1, .int a2] M (some (.int r)) M := by
  refine zct (by decide +kernel) (Nat.le_of_ble_eq_true rfl) (lv := [(0, .ref (ad 77)), (1, .int a1), (2, .int a2)]) rfl (fun E hl hD had hcA hN hC hR => ?_)
  subst hl; subst hD; subst had; subst hcA
  unfold zf_X10_member at hf
  refine zw_aload_n hC dX10_member_0 rfl 0 rfl ?_
  refine zw_iload_n hC dX10_member_1 rfl 1 rfl ?_
  obtain ⟨v30, hc30, hf⟩ := zb1_some hf
  refine zw_cV hC [.int a1] [] (st1 := [.int v30]) zm_X10_isMember (zc_X10_isMember hc30) zk_77 rfl kw_7_5 dX10_member_2 rfl (by decide) (Nat.le_of_ble_eq_true rfl) rfl rfl ?_
  refine zw_if_ne hC 10 hf dX10_member_5 (by decide) (fun hf => ?_) (fun hf => ?_)
  · refine zw_iload_n hC dX10_member_10 rfl 2 rfl ?_
    by_cases hx11_0 : a2 = (0 : Int32)
    · rw [if_pos hx11_0] at hf
      refine zw_tin hC hx11_0 (tgt := 64) dX10_member_11 (by decide) (by decide) rfl (by decide) ?_
      refine zw_aload_n hC dX10_member_64 rfl 0 rfl ?_
      refine zw_getr (k' := 78) hC zF_Model_now zk_77 rfl dX10_member_65 kw_5_227 ?_
      refine zw_bipush hC (v := (15 : Int32)) dX10_member_68 (by decide) ?_
      refine zw_iload_n hC dX10_member_70 rfl 1 rfl ?_
      refine zw_iadd hC dX10_member_71 ?_
      refine zw_iald hC hf zk_78 dX10_member_72 (fun v31 hf => ?_)
      have h1 := Option.some.inj hf
      subst h1
      exact zw_iret hC hR dX10_member_73
    rw [if_neg hx11_0] at hf
    by_cases hx11_1 : a2 = (1 : Int32)
    · rw [if_pos hx11_1] at hf
      refine zw_tin hC hx11_1 (tgt := 74) dX10_member_11 (by decide) (by decide) rfl (by decide) ?_
      refine zw_aload_n hC dX10_member_74 rfl 0 rfl ?_
      refine zw_getr (k' := 78) hC zF_Model_now zk_77 rfl dX10_member_75 kw_5_227 ?_
      refine zw_bipush hC (v := (25 : Int32)) dX10_member_78 (by decide) ?_
      refine zw_iload_n hC dX10_member_80 rfl 1 rfl ?_
      refine zw_iadd hC dX10_member_81 ?_
      refine zw_iald hC hf zk_78 dX10_member_82 (fun v32 hf => ?_)
      have h1 := Option.some.inj hf
      subst h1
      exact zw_iret hC hR dX10_member_83
    rw [if_neg hx11_1] at hf
    by_cases hx11_2 : a2 = (2 : Int32)
    · rw [if_pos hx11_2] at hf
      refine zw_tin hC hx11_2 (tgt := 84) dX10_member_11 (by decide) (by decide) rfl (by decide) ?_
      refine zw_aload_n hC dX10_member_84 rfl 0 rfl ?_
      refine zw_getr (k' := 78) hC zF_Model_now zk_77 rfl dX10_member_85 kw_5_227 ?_
      refine zw_bipush hC (v := (35 : Int32)) dX10_member_88 (by decide) ?_
      refine zw_iload_n hC dX10_member_90 rfl 1 rfl ?_
      refine zw_iadd hC dX10_member_91 ?_
      refine zw_iald hC hf zk_78 dX10_member_92 (fun v33 hf => ?_)
      have h1 := Option.some.inj hf
      subst h1
      exact zw_iret hC hR dX10_member_93
    rw [if_neg hx11_2] at hf
    by_cases hx11_3 : a2 = (3 : Int32)
    · rw [if_pos hx11_3] at hf
      refine zw_tin hC hx11_3 (tgt := 94) dX10_member_11 (by decide) (by decide) rfl (by decide) ?_
      refine zw_aload_n hC dX10_member_94 rfl 0 rfl ?_
      refine zw_getr (k' := 78) hC zF_Model_now zk_77 rfl dX10_member_95 kw_5_227 ?_
      refine zw_bipush hC (v := (45 : Int32)) dX10_member_98 (by decide) ?_
      refine zw_iload_n hC dX10_member_100 rfl 1 rfl ?_
      refine zw_iadd hC dX10_member_101 ?_
      refine zw_iald hC hf zk_78 dX10_member_102 (fun v34 hf => ?_)
      have h1 := Option.some.inj hf
      subst h1
      exact zw_iret hC hR dX10_member_103
    rw [if_neg hx11_3] at hf
    by_cases hx11_4 : a2 = (4 : Int32)
    · rw [if_pos hx11_4] at hf
      refine zw_tin hC hx11_4 (tgt := 104) dX10_member_11 (by decide) (by decide) rfl (by decide) ?_
      refine zw_aload_n hC dX10_member_104 rfl 0 rfl ?_
      refine zw_iload_n hC dX10_member_105 rfl 1 rfl ?_
      obtain ⟨v35, hc35, hf⟩ := zb1_some hf
      refine zw_cV hC [.int a1] [] (st1 := [.int v35]) zm_X10_claim (zc_X10_claim hc35) zk_77 rfl kw_7_52 dX10_member_106 rfl (by decide) (Nat.le_of_ble_eq_true rfl) rfl rfl ?_
      have h1 := Option.some.inj hf
      subst h1
      exact zw_iret hC hR dX10_member_109
    rw [if_neg hx11_4] at hf
    by_cases hx11_5 : a2 = (5 : Int32)
    · rw [if_pos hx11_5] at hf
      refine zw_tin hC hx11_5 (tgt := 110) dX10_member_11 (by decide) (by decide) rfl (by decide) ?_
      refine zw_aload_n hC dX10_member_110 rfl 0 rfl ?_
      refine zw_getr (k' := 78) hC zF_Model_now zk_77 rfl dX10_member_111 kw_5_227 ?_
      refine zw_bipush hC (v := (12 : Int32)) dX10_member_114 (by decide) ?_
      refine zw_iload_n hC dX10_member_116 rfl 2 rfl ?_
      refine zw_iadd hC dX10_member_117 ?_
      refine zw_iconst hC (v := (5 : Int32)) dX10_member_118 (by decide) ?_
      refine zw_isub hC dX10_member_119 ?_
      refine zw_iald hC hf zk_78 dX10_member_120 (fun v36 hf => ?_)
      refine zw_iload_n hC dX10_member_121 rfl 1 rfl ?_
      refine zw_ishr hC dX10_member_122 ?_
      refine zw_iconst hC (v := (1 : Int32)) dX10_member_123 (by decide) ?_
      refine zw_iand hC dX10_member_124 ?_
      have h1 := Option.some.inj hf
      subst h1
      exact zw_iret hC hR dX10_member_125
    rw [if_neg hx11_5] at hf
    by_cases hx11_6 : a2 = (6 : Int32)
    · rw [if_pos hx11_6] at hf
      refine zw_tin hC hx11_6 (tgt := 110) dX10_member_11 (by decide) (by decide) rfl (by decide) ?_
      refine zw_aload_n hC dX10_member_110 rfl 0 rfl ?_
      refine zw_getr (k' := 78) hC zF_Model_now zk_77 rfl dX10_member_111 kw_5_227 ?_
      refine zw_bipush hC (v := (12 : Int32)) dX10_member_114 (by decide) ?_
      refine zw_iload_n hC dX10_member_116 rfl 2 rfl ?_
      refine zw_iadd hC dX10_member_117 ?_
      refine zw_iconst hC (v := (5 : Int32)) dX10_member_118 (by decide) ?_
      refine zw_isub hC dX10_member_119 ?_
      refine zw_iald hC hf zk_78 dX10_member_120 (fun v37 hf => ?_)
      refine zw_iload_n hC dX10_member_121 rfl 1 rfl ?_
      refine zw_ishr hC dX10_member_122 ?_
      refine zw_iconst hC (v := (1 : Int32)) dX10_member_123 (by decide) ?_
      refine zw_iand hC dX10_member_124 ?_
      have h1 := Option.some.inj hf
      subst h1
      exact zw_iret hC hR dX10_member_125
    rw [if_neg hx11_6] at hf
    by_cases hx11_7 : a2 = (7 : Int32)
    · rw [if_pos hx11_7] at hf
      refine zw_tin hC hx11_7 (tgt := 110) dX10_member_11 (by decide) (by decide) rfl (by decide) ?_
      refine zw_aload_n hC dX10_member_110 rfl 0 rfl ?_
      refine zw_getr (k' := 78) hC zF_Model_now zk_77 rfl dX10_member_111 kw_5_227 ?_
      refine zw_bipush hC (v := (12 : Int32)) dX10_member_114 (by decide) ?_
      refine zw_iload_n hC dX10_member_116 rfl 2 rfl ?_
      refine zw_iadd hC dX10_member_117 ?_
      refine zw_iconst hC (v := (5 : Int32)) dX10_member_118 (by decide) ?_
      refine zw_isub hC dX10_member_119 ?_
      refine zw_iald hC hf zk_78 dX10_member_120 (fun v38 hf => ?_)
      refine zw_iload_n hC dX10_member_121 rfl 1 rfl ?_
      refine zw_ishr hC dX10_member_122 ?_
      refine zw_iconst hC (v := (1 : Int32)) dX10_member_123 (by decide) ?_
      refine zw_iand hC dX10_member_124 ?_
      have h1 := Option.some.inj hf
      subst h1
      exact zw_iret hC hR dX10_member_125
    rw [if_neg hx11_7] at hf
    by_cases hx11_8 : a2 = (8 : Int32)
    · rw [if_pos hx11_8] at hf
      refine zw_tin hC hx11_8 (tgt := 126) dX10_member_11 (by decide) (by decide) rfl (by decide) ?_
      refine zw_aload_n hC dX10_member_126 rfl 0 rfl ?_
      refine zw_iload_n hC dX10_member_127 rfl 1 rfl ?_
      obtain ⟨v39, hc39, hf⟩ := zb1_some hf
      refine zw_cV hC [.int a1] [] (st1 := [.int v39]) zm_X10_reachedOn (zc_X10_reachedOn hc39) zk_77 rfl kw_7_13 dX10_member_128 rfl (by decide) (Nat.le_of_ble_eq_true rfl) rfl rfl ?_
      have h1 := Option.some.inj hf
      subst h1
      exact zw_iret hC hR dX10_member_131
    rw [if_neg hx11_8] at hf
    by_cases hx11_9 : a2 = (9 : Int32)
    · rw [if_pos hx11_9] at hf
      refine zw_tin hC hx11_9 (tgt := 132) dX10_member_11 (by decide) (by decide) rfl (by decide) ?_
      refine zw_aload_n hC dX10_member_132 rfl 0 rfl ?_
      refine zw_getr (k' := 78) hC zF_Model_now zk_77 rfl dX10_member_133 kw_5_227 ?_
      refine zw_bipush hC (v := (63 : Int32)) dX10_member_136 (by decide) ?_
      refine zw_iload_n hC dX10_member_138 rfl 1 rfl ?_
      refine zw_iadd hC dX10_member_139 ?_
      refine zw_iald hC hf zk_78 dX10_member_140 (fun v40 hf => ?_)
      have h1 := Option.some.inj hf
      subst h1
      exact zw_iret hC hR dX10_member_141
    rw [if_neg hx11_9] at hf
    refine zw_tout hC (tgt := 142) dX10_member_11 (ztout (n := 9) (fun k hk => by match k, hk with | 0, _ => exact hx11_0 | 1, _ => exact hx11_1 | 2, _ => exact hx11_2 | 3, _ => exact hx11_3 | 4, _ => exact hx11_4 | 5, _ => exact hx11_5 | 6, _ => exact hx11_6 | 7, _ => exact hx11_7 | 8, _ => exact hx11_8 | 9, _ => exact hx11_9 | k + 10, hk => exact absurd hk (by omega))) (by decide) ?_
    refine zw_iconst hC (v := (-1 : Int32)) dX10_member_142 (by decide) ?_
    have h1 := Option.some.inj hf
    subst h1
    exact zw_iret hC hR dX10_member_143
  · refine zw_iconst hC (v := (-1 : Int32)) dX10_member_8 (by decide) ?_
    have h1 := Option.some.inj hf
    subst h1
    exact zw_iret hC hR dX10_member_9
/-! ClassOfManyModel.channel(II)I -/
theorem dX10_channel_0 : decode cX10_channel 0 = .ok (.iload_n 1, 1) := by decide +kernel
theorem dX10_channel_1 : decode cX10_channel 1 = .ok (.iconst 0, 1) := by decide +kernel
theorem dX10_channel_2 : decode cX10_channel 2 = .ok (.aload_n 0, 1) := by decide +kernel
theorem dX10_channel_3 : decode cX10_channel 3 = .ok (.getfield 7, 3) := by decide +kernel
theorem dX10_channel_6 : decode cX10_channel 6 = .ok (.iconst 1, 1) := by decide +kernel
theorem dX10_channel_7 : decode cX10_channel 7 = .ok (.iaload, 1) := by decide +kernel
theorem dX10_channel_8 : decode cX10_channel 8 = .ok (.iconst 1, 1) := by decide +kernel
theorem dX10_channel_9 : decode cX10_channel 9 = .ok (.isub, 1) := by decide +kernel
theorem dX10_channel_10 : decode cX10_channel 10 = .ok (.invokestatic 65, 3) := by decide +kernel
theorem dX10_channel_13 : decode cX10_channel 13 = .ok (.ifCond .eq 12, 3) := by decide +kernel
theorem dX10_channel_16 : decode cX10_channel 16 = .ok (.iload_n 2, 1) := by decide +kernel
theorem dX10_channel_17 : decode cX10_channel 17 = .ok (.iconst 0, 1) := by decide +kernel
theorem dX10_channel_18 : decode cX10_channel 18 = .ok (.iconst 2, 1) := by decide +kernel
theorem dX10_channel_19 : decode cX10_channel 19 = .ok (.invokestatic 65, 3) := by decide +kernel
theorem dX10_channel_22 : decode cX10_channel 22 = .ok (.ifCond .ne 5, 3) := by decide +kernel
theorem dX10_channel_25 : decode cX10_channel 25 = .ok (.iconst (-1), 1) := by decide +kernel
theorem dX10_channel_26 : decode cX10_channel 26 = .ok (.ireturn, 1) := by decide +kernel
theorem dX10_channel_27 : decode cX10_channel 27 = .ok (.iload_n 2, 1) := by decide +kernel
theorem dX10_channel_28 : decode cX10_channel 28 = .ok (.iconst 2, 1) := by decide +kernel
theorem dX10_channel_29 : decode cX10_channel 29 = .ok (.if_icmp .ge 22, 3) := by decide +kernel
theorem dX10_channel_32 : decode cX10_channel 32 = .ok (.aload_n 0, 1) := by decide +kernel
theorem dX10_channel_33 : decode cX10_channel 33 = .ok (.getfield 7, 3) := by decide +kernel
theorem dX10_channel_36 : decode cX10_channel 36 = .ok (.iload_n 2, 1) := by decide +kernel
theorem dX10_channel_37 : decode cX10_channel 37 = .ok (.ifCond .ne 8, 3) := by decide +kernel
theorem dX10_channel_40 : decode cX10_channel 40 = .ok (.bipush 55, 2) := by decide +kernel
theorem dX10_channel_42 : decode cX10_channel 42 = .ok (.goto 5, 3) := by decide +kernel
theorem dX10_channel_45 : decode cX10_channel 45 = .ok (.bipush 59, 2) := by decide +kernel
theorem dX10_channel_47 : decode cX10_channel 47 = .ok (.iload_n 1, 1) := by decide +kernel
theorem dX10_channel_48 : decode cX10_channel 48 = .ok (.iadd, 1) := by decide +kernel
theorem dX10_channel_49 : decode cX10_channel 49 = .ok (.iaload, 1) := by decide +kernel
theorem dX10_channel_50 : decode cX10_channel 50 = .ok (.ireturn, 1) := by decide +kernel
theorem dX10_channel_51 : decode cX10_channel 51 = .ok (.iconst 0, 1) := by decide +kernel
theorem dX10_channel_52 : decode cX10_channel 52 = .ok (.istore_n 3, 1) := by decide +kernel
theorem dX10_channel_53 : decode cX10_channel 53 = .ok (.iconst 0, 1) := by decide +kernel
theorem dX10_channel_54 : decode cX10_channel 54 = .ok (.istore 4, 2) := by decide +kernel
theorem dX10_channel_56 : decode cX10_channel 56 = .ok (.iload 4, 2) := by decide +kernel
theorem dX10_channel_58 : decode cX10_channel 58 = .ok (.aload_n 0, 1) := by decide +kernel
theorem dX10_channel_59 : decode cX10_channel 59 = .ok (.getfield 7, 3) := by decide +kernel
theorem dX10_channel_62 : decode cX10_channel 62 = .ok (.iconst 0, 1) := by decide +kernel
theorem dX10_channel_63 : decode cX10_channel 63 = .ok (.iaload, 1) := by decide +kernel
theorem dX10_channel_64 : decode cX10_channel 64 = .ok (.if_icmp .ge 26, 3) := by decide +kernel
theorem dX10_channel_67 : decode cX10_channel 67 = .ok (.iload_n 3, 1) := by decide +kernel
theorem dX10_channel_68 : decode cX10_channel 68 = .ok (.aload_n 0, 1) := by decide +kernel
theorem dX10_channel_69 : decode cX10_channel 69 = .ok (.getfield 7, 3) := by decide +kernel
theorem dX10_channel_72 : decode cX10_channel 72 = .ok (.bipush 45, 2) := by decide +kernel
theorem dX10_channel_74 : decode cX10_channel 74 = .ok (.iload 4, 2) := by decide +kernel
theorem dX10_channel_76 : decode cX10_channel 76 = .ok (.iadd, 1) := by decide +kernel
theorem dX10_channel_77 : decode cX10_channel 77 = .ok (.iaload, 1) := by decide +kernel
theorem dX10_channel_78 : decode cX10_channel 78 = .ok (.iload_n 1, 1) := by decide +kernel
theorem dX10_channel_79 : decode cX10_channel 79 = .ok (.ishr, 1) := by decide +kernel
theorem dX10_channel_80 : decode cX10_channel 80 = .ok (.iconst 1, 1) := by decide +kernel
theorem dX10_channel_81 : decode cX10_channel 81 = .ok (.iand, 1) := by decide +kernel
theorem dX10_channel_82 : decode cX10_channel 82 = .ok (.iadd, 1) := by decide +kernel
theorem dX10_channel_83 : decode cX10_channel 83 = .ok (.istore_n 3, 1) := by decide +kernel
theorem dX10_channel_84 : decode cX10_channel 84 = .ok (.iinc 4 1, 3) := by decide +kernel
theorem dX10_channel_87 : decode cX10_channel 87 = .ok (.goto (-31), 3) := by decide +kernel
theorem dX10_channel_90 : decode cX10_channel 90 = .ok (.iload_n 3, 1) := by decide +kernel
theorem dX10_channel_91 : decode cX10_channel 91 = .ok (.ireturn, 1) := by decide +kernel
theorem zm_X10_channel : ZMv "ClassOfManyModel" yX10_channel cX10_channel 5 (some .int) 2 := ⟨kw_7_78, kw_7_76, kw_7_77, kw_1_10, by decide +kernel, by decide⟩
def zf_X10_channel_j25 : Option (Int32) :=
  some (-1 : Int32)
def zf_X10_channel_L56 (M : ZMem) (a1 : Int32) (K90 : Int32 → Option (Int32)) : Nat → Int32 → Int32 → Option (Int32)
  | 0, _, _ => none
  | n56 + 1, v30, v31 =>
  zrd M 78 73 (0 : Int32) (fun v33 => (if v33 ≤ v31 then (K90 v30) else zrd M 78 73 ((45 : Int32) + v31) (fun v34 => (zf_X10_channel_L56 M a1 K90 n56 (v30 + ((v34 >>> (a1 &&& 31)) &&& (1 : Int32))) (v31 + (1 : Int32))))))
def zf_X10_channel_j47 (M : ZMem) (a1 : Int32) (v36 : Int32) : Option (Int32) :=
  zrd M 78 73 (v36 + a1) (fun v37 => some v37)
def zf_X10_channel (n : Nat) (a1 : Int32) (a2 : Int32) (M : ZMem) : Option (Int32) :=
  zrd M 78 73 (1 : Int32) (fun v27 => zb1 (zf_X10_isIn a1 (0 : Int32) (v27 - (1 : Int32))) (fun v28 => (if v28 = 0 then (zf_X10_channel_j25) else zb1 (zf_X10_isIn a2 (0 : Int32) (2 : Int32)) (fun v29 => (if v29 = 0 then (zf_X10_channel_j25) else (if (2 : Int32) ≤ a2 then (zf_X10_channel_L56 M a1 (fun v35 => some v35) n (0 : Int32) (0 : Int32)) else (if a2 = 0 then (zf_X10_channel_j47 M a1 (55 : Int32)) else (zf_X10_channel_j47 M a1 (59 : Int32)))))))))
set_option maxHeartbeats 4000000 in
set_option maxRecDepth 100000 in
theorem zc_X10_channel {l : Launch} {D : va_G} {ad : Nat → Nat} {cA : Nat → ClassId} {n : Nat} {a1 : Int32} {a2 : Int32} {M : ZMem} {r : Int32} (hf : zf_X10_channel n a1 a2 M = some r) : ZCt l D ad cA yX10_channel cX10_channel 5 (some .int) 2 [.ref (ad 77), .int a1, .int a2] M (some (.int r)) M := by
  refine zct (by decide +kernel) (Nat.le_of_ble_eq_true rfl) (lv := [(0, .ref (ad 77)), (1, .int a1), (2, .int a2)]) rfl (fun E hl hD had hcA hN hC hR => ?_)
  subst hl; subst hD; subst had; subst hcA
  unfold zf_X10_channel at hf
  refine zw_iload_n hC dX10_channel_0 rfl 1 rfl ?_
  refine zw_iconst hC (v := (0 : Int32)) dX10_channel_1 (by decide) ?_
  refine zw_aload_n hC dX10_channel_2 rfl 0 rfl ?_
  refine zw_getr (k' := 78) hC zF_Model_now zk_77 rfl dX10_channel_3 kw_5_227 ?_
  refine zw_iconst hC (v := (1 : Int32)) dX10_channel_6 (by decide) ?_
  refine zw_iald hC hf zk_78 dX10_channel_7 (fun v27 hf => ?_)
  refine zw_iconst hC (v := (1 : Int32)) dX10_channel_8 (by decide) ?_
  refine zw_isub hC dX10_channel_9 ?_
  obtain ⟨v28, hc28, hf⟩ := zb1_some hf
  refine zw_cS hC [.int a1, .int (0 : Int32), .int (v27 - (1 : Int32))] [] (st1 := [.int v28]) zm_X10_isIn (zc_X10_isIn hc28) kw_6_106 dX10_channel_10 rfl (by decide) (Nat.le_of_ble_eq_true rfl) rfl rfl ?_
  have hj25 : zf_X10_channel_j25 = some r → ZW E 25 [] [] M := by
    intro  hf
    unfold zf_X10_channel_j25 at hf
    refine zw_iconst hC (v := (-1 : Int32)) dX10_channel_25 (by decide) ?_
    have h1 := Option.some.inj hf
    subst h1
    exact zw_iret hC hR dX10_channel_26
  refine zw_if_eq hC 25 hf dX10_channel_13 (by decide) (fun hf => ?_) (fun hf => ?_)
  · exact zw_sub [] rfl (hj25 hf)
  · refine zw_iload_n hC dX10_channel_16 rfl 2 rfl ?_
    refine zw_iconst hC (v := (0 : Int32)) dX10_channel_17 (by decide) ?_
    refine zw_iconst hC (v := (2 : Int32)) dX10_channel_18 (by decide) ?_
    obtain ⟨v29, hc29, hf⟩ := zb1_some hf
    refine zw_cS hC [.int a2, .int (0 : Int32), .int (2 : Int32)] [] (st1 := [.int v29]) zm_X10_isIn (zc_X10_isIn hc29) kw_6_106 dX10_channel_19 rfl (by decide) (Nat.le_of_ble_eq_true rfl) rfl rfl ?_
    refine zw_if_ne hC 27 hf dX10_channel_22 (by decide) (fun hf => ?_) (fun hf => ?_)
    · refine zw_iload_n hC dX10_channel_27 rfl 2 rfl ?_
      refine zw_iconst hC (v := (2 : Int32)) dX10_channel_28 (by decide) ?_
      refine zw_icmp_ge hC 51 hf dX10_channel_29 (by decide) (fun hf => ?_) (fun hf => ?_)
      · refine zw_iconst hC (v := (0 : Int32)) dX10_channel_51 (by decide) ?_
        refine zw_istore_n hC (lv' := [(3, .int (0 : Int32)), (0, .ref (zad E 77)), (1, .int a1), (2, .int a2)]) dX10_channel_52 rfl hN (by decide) rfl ?_
        refine zw_iconst hC (v := (0 : Int32)) dX10_channel_53 (by decide) ?_
        refine zw_istore hC (lv' := [(4, .int (0 : Int32)), (3, .int (0 : Int32)), (0, .ref (zad E 77)), (1, .int a1), (2, .int a2)]) dX10_channel_54 hN (by decide) rfl ?_
        have hL56 : ∀ (K90 : Int32 → Option (Int32)), (∀ (v32 : Int32), K90 v32 = some r → ZW E 90 [(3, .int v32)] [] M) → ∀ (n56 : Nat), ∀ (v30 : Int32), ∀ (v31 : Int32), zf_X10_channel_L56 M a1 K90 n56 v30 v31 = some r → ZW E 56 [(0, .ref (zad E 77)), (1, .int a1), (3, .int v30), (4, .int v31)] [] M := by
          intro K90 hK90
          intro n56
          induction n56 with
          | zero => intro v30 v31 hf; rw [zf_X10_channel_L56] at hf; cases hf
          | succ n56 ih56 =>
            intro v30 v31 hf
            rw [zf_X10_channel_L56] at hf
            refine zw_iload hC dX10_channel_56 3 rfl ?_
            refine zw_aload_n hC dX10_channel_58 rfl 0 rfl ?_
            refine zw_getr (k' := 78) hC zF_Model_now zk_77 rfl dX10_channel_59 kw_5_227 ?_
            refine zw_iconst hC (v := (0 : Int32)) dX10_channel_62 (by decide) ?_
            refine zw_iald hC hf zk_78 dX10_channel_63 (fun v33 hf => ?_)
            refine zw_icmp_ge hC 90 hf dX10_channel_64 (by decide) (fun hf => ?_) (fun hf => ?_)
            · exact zw_sub [2] rfl (hK90 v30 hf)
            · refine zw_iload_n hC dX10_channel_67 rfl 2 rfl ?_
              refine zw_aload_n hC dX10_channel_68 rfl 0 rfl ?_
              refine zw_getr (k' := 78) hC zF_Model_now zk_77 rfl dX10_channel_69 kw_5_227 ?_
              refine zw_bipush hC (v := (45 : Int32)) dX10_channel_72 (by decide) ?_
              refine zw_iload hC dX10_channel_74 3 rfl ?_
              refine zw_iadd hC dX10_channel_76 ?_
              refine zw_iald hC hf zk_78 dX10_channel_77 (fun v34 hf => ?_)
              refine zw_iload_n hC dX10_channel_78 rfl 1 rfl ?_
              refine zw_ishr hC dX10_channel_79 ?_
              refine zw_iconst hC (v := (1 : Int32)) dX10_channel_80 (by decide) ?_
              refine zw_iand hC dX10_channel_81 ?_
              refine zw_iadd hC dX10_channel_82 ?_
              refine zw_istore_n hC (lv' := [(3, .int (v30 + ((v34 >>> (a1 &&& 31)) &&& (1 : Int32)))), (0, .ref (zad E 77)), (1, .int a1), (4, .int v31)]) dX10_channel_83 rfl hN (by decide) rfl ?_
              refine zw_iinc hC (v := (1 : Int32)) (lv' := [(4, .int (v31 + (1 : Int32))), (3, .int (v30 + ((v34 >>> (a1 &&& 31)) &&& (1 : Int32)))), (0, .ref (zad E 77)), (1, .int a1)]) dX10_channel_84 3 rfl (by decide) hN (by decide) rfl ?_
              refine zw_goto hC 56 dX10_channel_87 (by decide) ?_
              exact zw_sub [2, 3, 1, 0] rfl (ih56 (v30 + ((v34 >>> (a1 &&& 31)) &&& (1 : Int32))) (v31 + (1 : Int32)) hf)
        refine zw_sub [2, 3, 1, 0] rfl (hL56 _ ?_ n (0 : Int32) (0 : Int32) hf)
        · intro v35 hf
          refine zw_iload_n hC dX10_channel_90 rfl 0 rfl ?_
          have h1 := Option.some.inj hf
          subst h1
          exact zw_iret hC hR dX10_channel_91
      · refine zw_aload_n hC dX10_channel_32 rfl 0 rfl ?_
        refine zw_getr (k' := 78) hC zF_Model_now zk_77 rfl dX10_channel_33 kw_5_227 ?_
        refine zw_iload_n hC dX10_channel_36 rfl 2 rfl ?_
        have hj47 : ∀ (v36 : Int32), zf_X10_channel_j47 M a1 v36 = some r → ZW E 47 [(1, .int a1)] [.int v36, .ref (zad E 78)] M := by
          intro v36 hf
          unfold zf_X10_channel_j47 at hf
          refine zw_iload_n hC dX10_channel_47 rfl 0 rfl ?_
          refine zw_iadd hC dX10_channel_48 ?_
          refine zw_iald hC hf zk_78 dX10_channel_49 (fun v37 hf => ?_)
          have h1 := Option.some.inj hf
          subst h1
          exact zw_iret hC hR dX10_channel_50
        refine zw_if_ne hC 45 hf dX10_channel_37 (by decide) (fun hf => ?_) (fun hf => ?_)
        · refine zw_bipush hC (v := (59 : Int32)) dX10_channel_45 (by decide) ?_
          exact zw_sub [1] rfl (hj47 (59 : Int32) hf)
        · refine zw_bipush hC (v := (55 : Int32)) dX10_channel_40 (by decide) ?_
          refine zw_goto hC 47 dX10_channel_42 (by decide) ?_
          exact zw_sub [1] rfl (hj47 (55 : Int32) hf)
    · exact zw_sub [] rfl (hj25 hf)
/-! ClassOfManyModel.line(II)I -/
theorem dX10_line_0 : decode cX10_line 0 = .ok (.iload_n 1, 1) := by decide +kernel
theorem dX10_line_1 : decode cX10_line 1 = .ok (.iconst 0, 1) := by decide +kernel
theorem dX10_line_2 : decode cX10_line 2 = .ok (.aload_n 0, 1) := by decide +kernel
theorem dX10_line_3 : decode cX10_line 3 = .ok (.getfield 185, 3) := by decide +kernel
theorem dX10_line_6 : decode cX10_line 6 = .ok (.iconst 1, 1) := by decide +kernel
theorem dX10_line_7 : decode cX10_line 7 = .ok (.isub, 1) := by decide +kernel
theorem dX10_line_8 : decode cX10_line 8 = .ok (.invokestatic 65, 3) := by decide +kernel
theorem dX10_line_11 : decode cX10_line 11 = .ok (.ifCond .eq 7, 3) := by decide +kernel
theorem dX10_line_14 : decode cX10_line 14 = .ok (.iload_n 2, 1) := by decide +kernel
theorem dX10_line_15 : decode cX10_line 15 = .ok (.ifCond .ge 5, 3) := by decide +kernel
theorem dX10_line_18 : decode cX10_line 18 = .ok (.iconst (-1), 1) := by decide +kernel
theorem dX10_line_19 : decode cX10_line 19 = .ok (.ireturn, 1) := by decide +kernel
theorem dX10_line_20 : decode cX10_line 20 = .ok (.iload_n 2, 1) := by decide +kernel
theorem dX10_line_21 : decode cX10_line 21 = .ok (.ifCond .ne 10, 3) := by decide +kernel
theorem dX10_line_24 : decode cX10_line 24 = .ok (.aload_n 0, 1) := by decide +kernel
theorem dX10_line_25 : decode cX10_line 25 = .ok (.getfield 22, 3) := by decide +kernel
theorem dX10_line_28 : decode cX10_line 28 = .ok (.iload_n 1, 1) := by decide +kernel
theorem dX10_line_29 : decode cX10_line 29 = .ok (.iaload, 1) := by decide +kernel
theorem dX10_line_30 : decode cX10_line 30 = .ok (.ireturn, 1) := by decide +kernel
theorem dX10_line_31 : decode cX10_line 31 = .ok (.iload_n 2, 1) := by decide +kernel
theorem dX10_line_32 : decode cX10_line 32 = .ok (.aload_n 0, 1) := by decide +kernel
theorem dX10_line_33 : decode cX10_line 33 = .ok (.getfield 25, 3) := by decide +kernel
theorem dX10_line_36 : decode cX10_line 36 = .ok (.iload_n 1, 1) := by decide +kernel
theorem dX10_line_37 : decode cX10_line 37 = .ok (.iaload, 1) := by decide +kernel
theorem dX10_line_38 : decode cX10_line 38 = .ok (.if_icmp .gt 19, 3) := by decide +kernel
theorem dX10_line_41 : decode cX10_line 41 = .ok (.aload_n 0, 1) := by decide +kernel
theorem dX10_line_42 : decode cX10_line 42 = .ok (.getfield 28, 3) := by decide +kernel
theorem dX10_line_45 : decode cX10_line 45 = .ok (.bipush 8, 2) := by decide +kernel
theorem dX10_line_47 : decode cX10_line 47 = .ok (.iload_n 1, 1) := by decide +kernel
theorem dX10_line_48 : decode cX10_line 48 = .ok (.imul, 1) := by decide +kernel
theorem dX10_line_49 : decode cX10_line 49 = .ok (.iload_n 2, 1) := by decide +kernel
theorem dX10_line_50 : decode cX10_line 50 = .ok (.iadd, 1) := by decide +kernel
theorem dX10_line_51 : decode cX10_line 51 = .ok (.iconst 1, 1) := by decide +kernel
theorem dX10_line_52 : decode cX10_line 52 = .ok (.isub, 1) := by decide +kernel
theorem dX10_line_53 : decode cX10_line 53 = .ok (.iaload, 1) := by decide +kernel
theorem dX10_line_54 : decode cX10_line 54 = .ok (.goto 5, 3) := by decide +kernel
theorem dX10_line_57 : decode cX10_line 57 = .ok (.bipush (-2), 2) := by decide +kernel
theorem dX10_line_59 : decode cX10_line 59 = .ok (.ireturn, 1) := by decide +kernel
theorem zm_X10_line : ZMv "ClassOfManyModel" yX10_line cX10_line 3 (some .int) 2 := ⟨kw_7_82, kw_7_80, kw_7_81, kw_1_10, by decide +kernel, by decide⟩
def zf_X10_line_j18 : Option (Int32) :=
  some (-1 : Int32)
def zf_X10_line_j59 (v27 : Int32) : Option (Int32) :=
  some v27
def zf_X10_line (a1 : Int32) (a2 : Int32) (M : ZMem) : Option (Int32) :=
  zb1 (zf_X10_isIn a1 (0 : Int32) ((M 77 16) - (1 : Int32))) (fun v25 => (if v25 = 0 then (zf_X10_line_j18) else (if 0 ≤ a2 then (if a2 = 0 then zrd M 82 140 a1 (fun v29 => some v29) else zrd M 83 140 a1 (fun v26 => (if v26 < a2 then (zf_X10_line_j59 (-2 : Int32)) else zrd M 84 1120 ((((8 : Int32) * a1) + a2) - (1 : Int32)) (fun v28 => (zf_X10_line_j59 v28))))) else (zf_X10_line_j18))))
set_option maxHeartbeats 4000000 in
set_option maxRecDepth 100000 in
theorem zc_X10_line {l : Launch} {D : va_G} {ad : Nat → Nat} {cA : Nat → ClassId} {a1 : Int32} {a2 : Int32} {M : ZMem} {r : Int32} (hf : zf_X10_line a1 a2 M = some r) : ZCt l D ad cA yX10_line cX10_line 3 (some .int) 2 [.ref (ad 77), .int a1, .int a2] M (some (.int r)) M := by
  refine zct (by decide +kernel) (Nat.le_of_ble_eq_true rfl) (lv := [(0, .ref (ad 77)), (1, .int a1), (2, .int a2)]) rfl (fun E hl hD had hcA hN hC hR => ?_)
  subst hl; subst hD; subst had; subst hcA
  unfold zf_X10_line at hf
  refine zw_iload_n hC dX10_line_0 rfl 1 rfl ?_
  refine zw_iconst hC (v := (0 : Int32)) dX10_line_1 (by decide) ?_
  refine zw_aload_n hC dX10_line_2 rfl 0 rfl ?_
  refine zw_geti hC zF_Model_lines zk_77 dX10_line_3 kw_6_2 ?_
  refine zw_iconst hC (v := (1 : Int32)) dX10_line_6 (by decide) ?_
  refine zw_isub hC dX10_line_7 ?_
  obtain ⟨v25, hc25, hf⟩ := zb1_some hf
  refine zw_cS hC [.int a1, .int (0 : Int32), .int ((M 77 16) - (1 : Int32))] [] (st1 := [.int v25]) zm_X10_isIn (zc_X10_isIn hc25) kw_6_106 dX10_line_8 rfl (by decide) (Nat.le_of_ble_eq_true rfl) rfl rfl ?_
  have hj18 : zf_X10_line_j18 = some r → ZW E 18 [] [] M := by
    intro  hf
    unfold zf_X10_line_j18 at hf
    refine zw_iconst hC (v := (-1 : Int32)) dX10_line_18 (by decide) ?_
    have h1 := Option.some.inj hf
    subst h1
    exact zw_iret hC hR dX10_line_19
  refine zw_if_eq hC 18 hf dX10_line_11 (by decide) (fun hf => ?_) (fun hf => ?_)
  · exact zw_sub [] rfl (hj18 hf)
  · refine zw_iload_n hC dX10_line_14 rfl 2 rfl ?_
    refine zw_if_ge hC 20 hf dX10_line_15 (by decide) (fun hf => ?_) (fun hf => ?_)
    · refine zw_iload_n hC dX10_line_20 rfl 2 rfl ?_
      refine zw_if_ne hC 31 hf dX10_line_21 (by decide) (fun hf => ?_) (fun hf => ?_)
      · refine zw_iload_n hC dX10_line_31 rfl 2 rfl ?_
        refine zw_aload_n hC dX10_line_32 rfl 0 rfl ?_
        refine zw_getr (k' := 83) hC zF_Model_lineMany zk_77 rfl dX10_line_33 kw_6_0 ?_
        refine zw_iload_n hC dX10_line_36 rfl 1 rfl ?_
        refine zw_iald hC hf zk_83 dX10_line_37 (fun v26 hf => ?_)
        have hj59 : ∀ (v27 : Int32), zf_X10_line_j59 v27 = some r → ZW E 59 [] [.int v27] M := by
          intro v27 hf
          unfold zf_X10_line_j59 at hf
          have h1 := Option.some.inj hf
          subst h1
          exact zw_iret hC hR dX10_line_59
        refine zw_icmp_gt hC 57 hf dX10_line_38 (by decide) (fun hf => ?_) (fun hf => ?_)
        · refine zw_bipush hC (v := (-2 : Int32)) dX10_line_57 (by decide) ?_
          exact zw_sub [] rfl (hj59 (-2 : Int32) hf)
        · refine zw_aload_n hC dX10_line_41 rfl 0 rfl ?_
          refine zw_getr (k' := 84) hC zF_Model_lineN zk_77 rfl dX10_line_42 kw_6_1 ?_
          refine zw_bipush hC (v := (8 : Int32)) dX10_line_45 (by decide) ?_
          refine zw_iload_n hC dX10_line_47 rfl 1 rfl ?_
          refine zw_imul hC dX10_line_48 ?_
          refine zw_iload_n hC dX10_line_49 rfl 2 rfl ?_
          refine zw_iadd hC dX10_line_50 ?_
          refine zw_iconst hC (v := (1 : Int32)) dX10_line_51 (by decide) ?_
          refine zw_isub hC dX10_line_52 ?_
          refine zw_iald hC hf zk_84 dX10_line_53 (fun v28 hf => ?_)
          refine zw_goto hC 59 dX10_line_54 (by decide) ?_
          exact zw_sub [] rfl (hj59 v28 hf)
      · refine zw_aload_n hC dX10_line_24 rfl 0 rfl ?_
        refine zw_getr (k' := 82) hC zF_Model_lineSort zk_77 rfl dX10_line_25 kw_5_239 ?_
        refine zw_iload_n hC dX10_line_28 rfl 1 rfl ?_
        refine zw_iald hC hf zk_82 dX10_line_29 (fun v29 hf => ?_)
        have h1 := Option.some.inj hf
        subst h1
        exact zw_iret hC hR dX10_line_30
    · exact zw_sub [] rfl (hj18 hf)
/-! ClassOfManyModel.ranked(I)I -/
theorem dX10_ranked_0 : decode cX10_ranked 0 = .ok (.iconst 0, 1) := by decide +kernel
theorem dX10_ranked_1 : decode cX10_ranked 1 = .ok (.istore_n 2, 1) := by decide +kernel
theorem dX10_ranked_2 : decode cX10_ranked 2 = .ok (.iload_n 2, 1) := by decide +kernel
theorem dX10_ranked_3 : decode cX10_ranked 3 = .ok (.aload_n 0, 1) := by decide +kernel
theorem dX10_ranked_4 : decode cX10_ranked 4 = .ok (.getfield 7, 3) := by decide +kernel
theorem dX10_ranked_7 : decode cX10_ranked 7 = .ok (.iconst 0, 1) := by decide +kernel
theorem dX10_ranked_8 : decode cX10_ranked 8 = .ok (.iaload, 1) := by decide +kernel
theorem dX10_ranked_9 : decode cX10_ranked 9 = .ok (.if_icmp .ge 80, 3) := by decide +kernel
theorem dX10_ranked_12 : decode cX10_ranked 12 = .ok (.iconst 0, 1) := by decide +kernel
theorem dX10_ranked_13 : decode cX10_ranked 13 = .ok (.istore_n 3, 1) := by decide +kernel
theorem dX10_ranked_14 : decode cX10_ranked 14 = .ok (.iconst 0, 1) := by decide +kernel
theorem dX10_ranked_15 : decode cX10_ranked 15 = .ok (.istore 4, 2) := by decide +kernel
theorem dX10_ranked_17 : decode cX10_ranked 17 = .ok (.iload 4, 2) := by decide +kernel
theorem dX10_ranked_19 : decode cX10_ranked 19 = .ok (.aload_n 0, 1) := by decide +kernel
theorem dX10_ranked_20 : decode cX10_ranked 20 = .ok (.getfield 7, 3) := by decide +kernel
theorem dX10_ranked_23 : decode cX10_ranked 23 = .ok (.iconst 0, 1) := by decide +kernel
theorem dX10_ranked_24 : decode cX10_ranked 24 = .ok (.iaload, 1) := by decide +kernel
theorem dX10_ranked_25 : decode cX10_ranked 25 = .ok (.if_icmp .ge 51, 3) := by decide +kernel
theorem dX10_ranked_28 : decode cX10_ranked 28 = .ok (.iload_n 3, 1) := by decide +kernel
theorem dX10_ranked_29 : decode cX10_ranked 29 = .ok (.aload_n 0, 1) := by decide +kernel
theorem dX10_ranked_30 : decode cX10_ranked 30 = .ok (.iload 4, 2) := by decide +kernel
theorem dX10_ranked_32 : decode cX10_ranked 32 = .ok (.invokevirtual 211, 3) := by decide +kernel
theorem dX10_ranked_35 : decode cX10_ranked 35 = .ok (.aload_n 0, 1) := by decide +kernel
theorem dX10_ranked_36 : decode cX10_ranked 36 = .ok (.iload_n 2, 1) := by decide +kernel
theorem dX10_ranked_37 : decode cX10_ranked 37 = .ok (.invokevirtual 211, 3) := by decide +kernel
theorem dX10_ranked_40 : decode cX10_ranked 40 = .ok (.if_icmp .gt 23, 3) := by decide +kernel
theorem dX10_ranked_43 : decode cX10_ranked 43 = .ok (.aload_n 0, 1) := by decide +kernel
theorem dX10_ranked_44 : decode cX10_ranked 44 = .ok (.iload 4, 2) := by decide +kernel
theorem dX10_ranked_46 : decode cX10_ranked 46 = .ok (.invokevirtual 211, 3) := by decide +kernel
theorem dX10_ranked_49 : decode cX10_ranked 49 = .ok (.aload_n 0, 1) := by decide +kernel
theorem dX10_ranked_50 : decode cX10_ranked 50 = .ok (.iload_n 2, 1) := by decide +kernel
theorem dX10_ranked_51 : decode cX10_ranked 51 = .ok (.invokevirtual 211, 3) := by decide +kernel
theorem dX10_ranked_54 : decode cX10_ranked 54 = .ok (.if_icmp .ne 13, 3) := by decide +kernel
theorem dX10_ranked_57 : decode cX10_ranked 57 = .ok (.iload 4, 2) := by decide +kernel
theorem dX10_ranked_59 : decode cX10_ranked 59 = .ok (.iload_n 2, 1) := by decide +kernel
theorem dX10_ranked_60 : decode cX10_ranked 60 = .ok (.if_icmp .ge 7, 3) := by decide +kernel
theorem dX10_ranked_63 : decode cX10_ranked 63 = .ok (.iconst 1, 1) := by decide +kernel
theorem dX10_ranked_64 : decode cX10_ranked 64 = .ok (.goto 4, 3) := by decide +kernel
theorem dX10_ranked_67 : decode cX10_ranked 67 = .ok (.iconst 0, 1) := by decide +kernel
theorem dX10_ranked_68 : decode cX10_ranked 68 = .ok (.iadd, 1) := by decide +kernel
theorem dX10_ranked_69 : decode cX10_ranked 69 = .ok (.istore_n 3, 1) := by decide +kernel
theorem dX10_ranked_70 : decode cX10_ranked 70 = .ok (.iinc 4 1, 3) := by decide +kernel
theorem dX10_ranked_73 : decode cX10_ranked 73 = .ok (.goto (-56), 3) := by decide +kernel
theorem dX10_ranked_76 : decode cX10_ranked 76 = .ok (.iload_n 3, 1) := by decide +kernel
theorem dX10_ranked_77 : decode cX10_ranked 77 = .ok (.iload_n 1, 1) := by decide +kernel
theorem dX10_ranked_78 : decode cX10_ranked 78 = .ok (.if_icmp .ne 5, 3) := by decide +kernel
theorem dX10_ranked_81 : decode cX10_ranked 81 = .ok (.iload_n 2, 1) := by decide +kernel
theorem dX10_ranked_82 : decode cX10_ranked 82 = .ok (.ireturn, 1) := by decide +kernel
theorem dX10_ranked_83 : decode cX10_ranked 83 = .ok (.iinc 2 1, 3) := by decide +kernel
theorem dX10_ranked_86 : decode cX10_ranked 86 = .ok (.goto (-84), 3) := by decide +kernel
theorem dX10_ranked_89 : decode cX10_ranked 89 = .ok (.iconst (-1), 1) := by decide +kernel
theorem dX10_ranked_90 : decode cX10_ranked 90 = .ok (.ireturn, 1) := by decide +kernel
theorem zm_X10_ranked : ZMv "ClassOfManyModel" yX10_ranked cX10_ranked 5 (some .int) 1 := ⟨kw_7_86, kw_7_84, kw_7_85, kw_1_10, by decide +kernel, by decide⟩
def zf_X10_ranked_j68 (R17 : Int32 → Int32 → Option (Int32)) (v29 : Int32) (v30 : Int32) (v35 : Int32) : Option (Int32) :=
  (R17 (v29 + v35) (v30 + (1 : Int32)))
def zf_X10_ranked_j63 (R17 : Int32 → Int32 → Option (Int32)) (v29 : Int32) (v30 : Int32) : Option (Int32) :=
  (zf_X10_ranked_j68 R17 v29 v30 (1 : Int32))
def zf_X10_ranked_j67 (R17 : Int32 → Int32 → Option (Int32)) (v29 : Int32) (v30 : Int32) : Option (Int32) :=
  (zf_X10_ranked_j68 R17 v29 v30 (0 : Int32))
def zf_X10_ranked_L17 (M : ZMem) (v27 : Int32) (K76 : Int32 → Option (Int32)) : Nat → Int32 → Int32 → Option (Int32)
  | 0, _, _ => none
  | n17 + 1, v29, v30 =>
  zrd M 78 73 (0 : Int32) (fun v32 => (if v32 ≤ v30 then (K76 v29) else zb1 (zf_X10_claim v30 M) (fun v33 => zb1 (zf_X10_claim v27 M) (fun v34 => (if v34 < v33 then (zf_X10_ranked_j63 (fun x0 x1 => zf_X10_ranked_L17 M v27 K76 n17 x0 x1) v29 v30) else zb1 (zf_X10_claim v30 M) (fun v36 => zb1 (zf_X10_claim v27 M) (fun v37 => (if v36 = v37 then (if v27 ≤ v30 then (zf_X10_ranked_j67 (fun x0 x1 => zf_X10_ranked_L17 M v27 K76 n17 x0 x1) v29 v30) else (zf_X10_ranked_j63 (fun x0 x1 => zf_X10_ranked_L17 M v27 K76 n17 x0 x1) v29 v30)) else (zf_X10_ranked_j67 (fun x0 x1 => zf_X10_ranked_L17 M v27 K76 n17 x0 x1) v29 v30)))))))))
def zf_X10_ranked_L2 (M : ZMem) (a1 : Int32) (n : Nat) (K89 : Option (Int32)) : Nat → Int32 → Option (Int32)
  | 0, _ => none
  | n2 + 1, v27 =>
  zrd M 78 73 (0 : Int32) (fun v28 => (if v28 ≤ v27 then K89 else (zf_X10_ranked_L17 M v27 (fun v38 => (if v38 = a1 then some v27 else (zf_X10_ranked_L2 M a1 n K89 n2 (v27 + (1 : Int32))))) n (0 : Int32) (0 : Int32))))
def zf_X10_ranked (n : Nat) (a1 : Int32) (M : ZMem) : Option (Int32) :=
  (zf_X10_ranked_L2 M a1 n (some (-1 : Int32)) n (0 : Int32))
set_option maxHeartbeats 4000000 in
set_option maxRecDepth 100000 in
theorem zc_X10_ranked {l : Launch} {D : va_G} {ad : Nat → Nat} {cA : Nat → ClassId} {n : Nat} {a1 : Int32} {M : ZMem} {r : Int32} (hf : zf_X10_ranked n a1 M = some r) : ZCt l D ad cA yX10_ranked cX10_ranked 5 (some .int) 3 [.ref (ad 77), .int a1] M (some (.int r)) M := by
  refine zct (by decide +kernel) (Nat.le_of_ble_eq_true rfl) (lv := [(0, .ref (ad 77)), (1, .int a1)]) rfl (fun E hl hD had hcA hN hC hR => ?_)
  subst hl; subst hD; subst had; subst hcA
  unfold zf_X10_ranked at hf
  refine zw_iconst hC (v := (0 : Int32)) dX10_ranked_0 (by decide) ?_
  refine zw_istore_n hC (lv' := [(2, .int (0 : Int32)), (0, .ref (zad E 77)), (1, .int a1)]) dX10_ranked_1 rfl hN (by decide) rfl ?_
  have hL2 : ∀ (K89 : Option (Int32)), (K89 = some r → ZW E 89 [] [] M) → ∀ (n2 : Nat), ∀ (v27 : Int32), zf_X10_ranked_L2 M a1 n K89 n2 v27 = some r → ZW E 2 [(0, .ref (zad E 77)), (1, .int a1), (2, .int v27)] [] M := by
    intro K89 hK89
    intro n2
    induction n2 with
    | zero => intro v27 hf; rw [zf_X10_ranked_L2] at hf; cases hf
    | succ n2 ih2 =>
      intro v27 hf
      rw [zf_X10_ranked_L2] at hf
      refine zw_iload_n hC dX10_ranked_2 rfl 2 rfl ?_
      refine zw_aload_n hC dX10_ranked_3 rfl 0 rfl ?_
      refine zw_getr (k' := 78) hC zF_Model_now zk_77 rfl dX10_ranked_4 kw_5_227 ?_
      refine zw_iconst hC (v := (0 : Int32)) dX10_ranked_7 (by decide) ?_
      refine zw_iald hC hf zk_78 dX10_ranked_8 (fun v28 hf => ?_)
      refine zw_icmp_ge hC 89 hf dX10_ranked_9 (by decide) (fun hf => ?_) (fun hf => ?_)
      · exact zw_sub [] rfl (hK89 hf)
      · refine zw_iconst hC (v := (0 : Int32)) dX10_ranked_12 (by decide) ?_
        refine zw_istore_n hC (lv' := [(3, .int (0 : Int32)), (0, .ref (zad E 77)), (1, .int a1), (2, .int v27)]) dX10_ranked_13 rfl hN (by decide) rfl ?_
        refine zw_iconst hC (v := (0 : Int32)) dX10_ranked_14 (by decide) ?_
        refine zw_istore hC (lv' := [(4, .int (0 : Int32)), (3, .int (0 : Int32)), (0, .ref (zad E 77)), (1, .int a1), (2, .int v27)]) dX10_ranked_15 hN (by decide) rfl ?_
        have hL17 : ∀ (K76 : Int32 → Option (Int32)), (∀ (v31 : Int32), K76 v31 = some r → ZW E 76 [(0, .ref (zad E 77)), (1, .int a1), (2, .int v27), (3, .int v31)] [] M) → ∀ (n17 : Nat), ∀ (v29 : Int32), ∀ (v30 : Int32), zf_X10_ranked_L17 M v27 K76 n17 v29 v30 = some r → ZW E 17 [(0, .ref (zad E 77)), (1, .int a1), (2, .int v27), (3, .int v29), (4, .int v30)] [] M := by
          intro K76 hK76
          intro n17
          induction n17 with
          | zero => intro v29 v30 hf; rw [zf_X10_ranked_L17] at hf; cases hf
          | succ n17 ih17 =>
            intro v29 v30 hf
            rw [zf_X10_ranked_L17] at hf
            refine zw_iload hC dX10_ranked_17 4 rfl ?_
            refine zw_aload_n hC dX10_ranked_19 rfl 0 rfl ?_
            refine zw_getr (k' := 78) hC zF_Model_now zk_77 rfl dX10_ranked_20 kw_5_227 ?_
            refine zw_iconst hC (v := (0 : Int32)) dX10_ranked_23 (by decide) ?_
            refine zw_iald hC hf zk_78 dX10_ranked_24 (fun v32 hf => ?_)
            refine zw_icmp_ge hC 76 hf dX10_ranked_25 (by decide) (fun hf => ?_) (fun hf => ?_)
            · exact zw_sub [0, 1, 2, 3] rfl (hK76 v29 hf)
            · refine zw_iload_n hC dX10_ranked_28 rfl 3 rfl ?_
              refine zw_aload_n hC dX10_ranked_29 rfl 0 rfl ?_
              refine zw_iload hC dX10_ranked_30 4 rfl ?_
              obtain ⟨v33, hc33, hf⟩ := zb1_some hf
              refine zw_cV hC [.int v30] [.int v29] (st1 := [.int v33, .int v29]) zm_X10_claim (zc_X10_claim hc33) zk_77 rfl kw_7_52 dX10_ranked_32 rfl (by decide) (Nat.le_of_ble_eq_true rfl) rfl rfl ?_
              refine zw_aload_n hC dX10_ranked_35 rfl 0 rfl ?_
              refine zw_iload_n hC dX10_ranked_36 rfl 2 rfl ?_
              obtain ⟨v34, hc34, hf⟩ := zb1_some hf
              refine zw_cV hC [.int v27] [.int v33, .int v29] (st1 := [.int v34, .int v33, .int v29]) zm_X10_claim (zc_X10_claim hc34) zk_77 rfl kw_7_52 dX10_ranked_37 rfl (by decide) (Nat.le_of_ble_eq_true rfl) rfl rfl ?_
              have hj68 : ∀ (v35 : Int32), zf_X10_ranked_j68 (fun x0 x1 => zf_X10_ranked_L17 M v27 K76 n17 x0 x1) v29 v30 v35 = some r → ZW E 68 [(0, .ref (zad E 77)), (1, .int a1), (2, .int v27), (4, .int v30)] [.int v35, .int v29] M := by
                intro v35 hf
                unfold zf_X10_ranked_j68 at hf
                refine zw_iadd hC dX10_ranked_68 ?_
                refine zw_istore_n hC (lv' := [(3, .int (v29 + v35)), (0, .ref (zad E 77)), (1, .int a1), (2, .int v27), (4, .int v30)]) dX10_ranked_69 rfl hN (by decide) rfl ?_
                refine zw_iinc hC (v := (1 : Int32)) (lv' := [(4, .int (v30 + (1 : Int32))), (3, .int (v29 + v35)), (0, .ref (zad E 77)), (1, .int a1), (2, .int v27)]) dX10_ranked_70 4 rfl (by decide) hN (by decide) rfl ?_
                refine zw_goto hC 17 dX10_ranked_73 (by decide) ?_
                exact zw_sub [2, 3, 4, 1, 0] rfl (ih17 (v29 + v35) (v30 + (1 : Int32)) hf)
              have hj63 : zf_X10_ranked_j63 (fun x0 x1 => zf_X10_ranked_L17 M v27 K76 n17 x0 x1) v29 v30 = some r → ZW E 63 [(0, .ref (zad E 77)), (1, .int a1), (2, .int v27), (4, .int v30)] [.int v29] M := by
                intro  hf
                unfold zf_X10_ranked_j63 at hf
                refine zw_iconst hC (v := (1 : Int32)) dX10_ranked_63 (by decide) ?_
                refine zw_goto hC 68 dX10_ranked_64 (by decide) ?_
                exact hj68 (1 : Int32) hf
              refine zw_icmp_gt hC 63 hf dX10_ranked_40 (by decide) (fun hf => ?_) (fun hf => ?_)
              · exact zw_sub [0, 1, 2, 4] rfl (hj63 hf)
              · refine zw_aload_n hC dX10_ranked_43 rfl 0 rfl ?_
                refine zw_iload hC dX10_ranked_44 4 rfl ?_
                obtain ⟨v36, hc36, hf⟩ := zb1_some hf
                refine zw_cV hC [.int v30] [.int v29] (st1 := [.int v36, .int v29]) zm_X10_claim (zc_X10_claim hc36) zk_77 rfl kw_7_52 dX10_ranked_46 rfl (by decide) (Nat.le_of_ble_eq_true rfl) rfl rfl ?_
                refine zw_aload_n hC dX10_ranked_49 rfl 0 rfl ?_
                refine zw_iload_n hC dX10_ranked_50 rfl 2 rfl ?_
                obtain ⟨v37, hc37, hf⟩ := zb1_some hf
                refine zw_cV hC [.int v27] [.int v36, .int v29] (st1 := [.int v37, .int v36, .int v29]) zm_X10_claim (zc_X10_claim hc37) zk_77 rfl kw_7_52 dX10_ranked_51 rfl (by decide) (Nat.le_of_ble_eq_true rfl) rfl rfl ?_
                have hj67 : zf_X10_ranked_j67 (fun x0 x1 => zf_X10_ranked_L17 M v27 K76 n17 x0 x1) v29 v30 = some r → ZW E 67 [(0, .ref (zad E 77)), (1, .int a1), (2, .int v27), (4, .int v30)] [.int v29] M := by
                  intro  hf
                  unfold zf_X10_ranked_j67 at hf
                  refine zw_iconst hC (v := (0 : Int32)) dX10_ranked_67 (by decide) ?_
                  exact hj68 (0 : Int32) hf
                refine zw_icmp_ne hC 67 hf dX10_ranked_54 (by decide) (fun hf => ?_) (fun hf => ?_)
                · exact zw_sub [0, 1, 2, 4] rfl (hj67 hf)
                · refine zw_iload hC dX10_ranked_57 4 rfl ?_
                  refine zw_iload_n hC dX10_ranked_59 rfl 2 rfl ?_
                  refine zw_icmp_ge hC 67 hf dX10_ranked_60 (by decide) (fun hf => ?_) (fun hf => ?_)
                  · exact zw_sub [0, 1, 2, 4] rfl (hj67 hf)
                  · exact zw_sub [0, 1, 2, 4] rfl (hj63 hf)
        refine zw_sub [2, 3, 4, 1, 0] rfl (hL17 _ ?_ n (0 : Int32) (0 : Int32) hf)
        · intro v38 hf
          refine zw_iload_n hC dX10_ranked_76 rfl 3 rfl ?_
          refine zw_iload_n hC dX10_ranked_77 rfl 1 rfl ?_
          refine zw_icmp_ne hC 83 hf dX10_ranked_78 (by decide) (fun hf => ?_) (fun hf => ?_)
          · refine zw_iinc hC (v := (1 : Int32)) (lv' := [(2, .int (v27 + (1 : Int32))), (0, .ref (zad E 77)), (1, .int a1), (3, .int v38)]) dX10_ranked_83 2 rfl (by decide) hN (by decide) rfl ?_
            refine zw_goto hC 2 dX10_ranked_86 (by decide) ?_
            exact zw_sub [1, 2, 0] rfl (ih2 (v27 + (1 : Int32)) hf)
          · refine zw_iload_n hC dX10_ranked_81 rfl 2 rfl ?_
            have h1 := Option.some.inj hf
            subst h1
            exact zw_iret hC hR dX10_ranked_82
  refine zw_sub [1, 2, 0] rfl (hL2 _ ?_ n (0 : Int32) hf)
  · intro  hf
    refine zw_iconst hC (v := (-1 : Int32)) dX10_ranked_89 (by decide) ?_
    have h1 := Option.some.inj hf
    subst h1
    exact zw_iret hC hR dX10_ranked_90
/-! ClassOfManyModel.isOn(II)Z -/
theorem dX10_isOn_0 : decode cX10_isOn 0 = .ok (.iload_n 2, 1) := by decide +kernel
theorem dX10_isOn_1 : decode cX10_isOn 1 = .ok (.aload_n 0, 1) := by decide +kernel
theorem dX10_isOn_2 : decode cX10_isOn 2 = .ok (.getfield 7, 3) := by decide +kernel
theorem dX10_isOn_5 : decode cX10_isOn 5 = .ok (.bipush 15, 2) := by decide +kernel
theorem dX10_isOn_7 : decode cX10_isOn 7 = .ok (.iload_n 1, 1) := by decide +kernel
theorem dX10_isOn_8 : decode cX10_isOn 8 = .ok (.iadd, 1) := by decide +kernel
theorem dX10_isOn_9 : decode cX10_isOn 9 = .ok (.iaload, 1) := by decide +kernel
theorem dX10_isOn_10 : decode cX10_isOn 10 = .ok (.aload_n 0, 1) := by decide +kernel
theorem dX10_isOn_11 : decode cX10_isOn 11 = .ok (.getfield 7, 3) := by decide +kernel
theorem dX10_isOn_14 : decode cX10_isOn 14 = .ok (.bipush 25, 2) := by decide +kernel
theorem dX10_isOn_16 : decode cX10_isOn 16 = .ok (.iload_n 1, 1) := by decide +kernel
theorem dX10_isOn_17 : decode cX10_isOn 17 = .ok (.iadd, 1) := by decide +kernel
theorem dX10_isOn_18 : decode cX10_isOn 18 = .ok (.iaload, 1) := by decide +kernel
theorem dX10_isOn_19 : decode cX10_isOn 19 = .ok (.invokestatic 65, 3) := by decide +kernel
theorem dX10_isOn_22 : decode cX10_isOn 22 = .ok (.ireturn, 1) := by decide +kernel
theorem zm_X10_isOn : ZMv "ClassOfManyModel" yX10_isOn cX10_isOn 3 (some .boolean) 2 := ⟨kw_7_94, kw_7_93, kp_91, kw_1_10, by decide +kernel, by decide⟩
def zf_X10_isOn (a1 : Int32) (a2 : Int32) (M : ZMem) : Option (Int32) :=
  zrd M 78 73 ((15 : Int32) + a1) (fun v24 => zrd M 78 73 ((25 : Int32) + a1) (fun v25 => zb1 (zf_X10_isIn a2 v24 v25) (fun v26 => zbz v26 (some v26))))
set_option maxHeartbeats 4000000 in
set_option maxRecDepth 100000 in
theorem zc_X10_isOn {l : Launch} {D : va_G} {ad : Nat → Nat} {cA : Nat → ClassId} {a1 : Int32} {a2 : Int32} {M : ZMem} {r : Int32} (hf : zf_X10_isOn a1 a2 M = some r) : ZCt l D ad cA yX10_isOn cX10_isOn 3 (some .boolean) 2 [.ref (ad 77), .int a1, .int a2] M (some (.int r)) M := by
  refine zct (by decide +kernel) (Nat.le_of_ble_eq_true rfl) (lv := [(0, .ref (ad 77)), (1, .int a1), (2, .int a2)]) rfl (fun E hl hD had hcA hN hC hR => ?_)
  subst hl; subst hD; subst had; subst hcA
  unfold zf_X10_isOn at hf
  refine zw_iload_n hC dX10_isOn_0 rfl 2 rfl ?_
  refine zw_aload_n hC dX10_isOn_1 rfl 0 rfl ?_
  refine zw_getr (k' := 78) hC zF_Model_now zk_77 rfl dX10_isOn_2 kw_5_227 ?_
  refine zw_bipush hC (v := (15 : Int32)) dX10_isOn_5 (by decide) ?_
  refine zw_iload_n hC dX10_isOn_7 rfl 1 rfl ?_
  refine zw_iadd hC dX10_isOn_8 ?_
  refine zw_iald hC hf zk_78 dX10_isOn_9 (fun v24 hf => ?_)
  refine zw_aload_n hC dX10_isOn_10 rfl 0 rfl ?_
  refine zw_getr (k' := 78) hC zF_Model_now zk_77 rfl dX10_isOn_11 kw_5_227 ?_
  refine zw_bipush hC (v := (25 : Int32)) dX10_isOn_14 (by decide) ?_
  refine zw_iload_n hC dX10_isOn_16 rfl 1 rfl ?_
  refine zw_iadd hC dX10_isOn_17 ?_
  refine zw_iald hC hf zk_78 dX10_isOn_18 (fun v25 hf => ?_)
  obtain ⟨v26, hc26, hf⟩ := zb1_some hf
  refine zw_cS hC [.int a2, .int v24, .int v25] [] (st1 := [.int v26]) zm_X10_isIn (zc_X10_isIn hc26) kw_6_106 dX10_isOn_19 rfl (by decide) (Nat.le_of_ble_eq_true rfl) rfl rfl ?_
  obtain ⟨hz, hf⟩ := zbz_some hf
  have h1 := Option.some.inj hf
  subst h1
  exact zw_zret hC hR hz dX10_isOn_22
/-! ClassOfManyModel.together(II)I -/
theorem dX10_together_0 : decode cX10_together 0 = .ok (.aload_n 0, 1) := by decide +kernel
theorem dX10_together_1 : decode cX10_together 1 = .ok (.iload_n 1, 1) := by decide +kernel
theorem dX10_together_2 : decode cX10_together 2 = .ok (.iload_n 2, 1) := by decide +kernel
theorem dX10_together_3 : decode cX10_together 3 = .ok (.invokevirtual 302, 3) := by decide +kernel
theorem dX10_together_6 : decode cX10_together 6 = .ok (.ifCond .ne 5, 3) := by decide +kernel
theorem dX10_together_9 : decode cX10_together 9 = .ok (.iconst (-1), 1) := by decide +kernel
theorem dX10_together_10 : decode cX10_together 10 = .ok (.ireturn, 1) := by decide +kernel
theorem dX10_together_11 : decode cX10_together 11 = .ok (.iconst 0, 1) := by decide +kernel
theorem dX10_together_12 : decode cX10_together 12 = .ok (.istore_n 3, 1) := by decide +kernel
theorem dX10_together_13 : decode cX10_together 13 = .ok (.aload_n 0, 1) := by decide +kernel
theorem dX10_together_14 : decode cX10_together 14 = .ok (.getfield 7, 3) := by decide +kernel
theorem dX10_together_17 : decode cX10_together 17 = .ok (.bipush 6, 2) := by decide +kernel
theorem dX10_together_19 : decode cX10_together 19 = .ok (.iaload, 1) := by decide +kernel
theorem dX10_together_20 : decode cX10_together 20 = .ok (.istore 4, 2) := by decide +kernel
theorem dX10_together_22 : decode cX10_together 22 = .ok (.iload 4, 2) := by decide +kernel
theorem dX10_together_24 : decode cX10_together 24 = .ok (.aload_n 0, 1) := by decide +kernel
theorem dX10_together_25 : decode cX10_together 25 = .ok (.getfield 7, 3) := by decide +kernel
theorem dX10_together_28 : decode cX10_together 28 = .ok (.bipush 7, 2) := by decide +kernel
theorem dX10_together_30 : decode cX10_together 30 = .ok (.iaload, 1) := by decide +kernel
theorem dX10_together_31 : decode cX10_together 31 = .ok (.if_icmp .gt 37, 3) := by decide +kernel
theorem dX10_together_34 : decode cX10_together 34 = .ok (.iload_n 3, 1) := by decide +kernel
theorem dX10_together_35 : decode cX10_together 35 = .ok (.aload_n 0, 1) := by decide +kernel
theorem dX10_together_36 : decode cX10_together 36 = .ok (.iload_n 1, 1) := by decide +kernel
theorem dX10_together_37 : decode cX10_together 37 = .ok (.iload 4, 2) := by decide +kernel
theorem dX10_together_39 : decode cX10_together 39 = .ok (.invokevirtual 305, 3) := by decide +kernel
theorem dX10_together_42 : decode cX10_together 42 = .ok (.ifCond .eq 17, 3) := by decide +kernel
theorem dX10_together_45 : decode cX10_together 45 = .ok (.aload_n 0, 1) := by decide +kernel
theorem dX10_together_46 : decode cX10_together 46 = .ok (.iload_n 2, 1) := by decide +kernel
theorem dX10_together_47 : decode cX10_together 47 = .ok (.iload 4, 2) := by decide +kernel
theorem dX10_together_49 : decode cX10_together 49 = .ok (.invokevirtual 305, 3) := by decide +kernel
theorem dX10_together_52 : decode cX10_together 52 = .ok (.ifCond .eq 7, 3) := by decide +kernel
theorem dX10_together_55 : decode cX10_together 55 = .ok (.iconst 1, 1) := by decide +kernel
theorem dX10_together_56 : decode cX10_together 56 = .ok (.goto 4, 3) := by decide +kernel
theorem dX10_together_59 : decode cX10_together 59 = .ok (.iconst 0, 1) := by decide +kernel
theorem dX10_together_60 : decode cX10_together 60 = .ok (.iadd, 1) := by decide +kernel
theorem dX10_together_61 : decode cX10_together 61 = .ok (.istore_n 3, 1) := by decide +kernel
theorem dX10_together_62 : decode cX10_together 62 = .ok (.iinc 4 1, 3) := by decide +kernel
theorem dX10_together_65 : decode cX10_together 65 = .ok (.goto (-43), 3) := by decide +kernel
theorem dX10_together_68 : decode cX10_together 68 = .ok (.iload_n 3, 1) := by decide +kernel
theorem dX10_together_69 : decode cX10_together 69 = .ok (.ireturn, 1) := by decide +kernel
theorem zm_X10_together : ZMv "ClassOfManyModel" yX10_together cX10_together 5 (some .int) 2 := ⟨kw_7_90, kw_7_88, kw_7_89, kw_1_10, by decide +kernel, by decide⟩
def zf_X10_together_j60 (R22 : Int32 → Int32 → Option (Int32)) (v28 : Int32) (v29 : Int32) (v33 : Int32) : Option (Int32) :=
  (R22 (v28 + v33) (v29 + (1 : Int32)))
def zf_X10_together_j59 (R22 : Int32 → Int32 → Option (Int32)) (v28 : Int32) (v29 : Int32) : Option (Int32) :=
  (zf_X10_together_j60 R22 v28 v29 (0 : Int32))
def zf_X10_together_L22 (M : ZMem) (a1 : Int32) (a2 : Int32) (K68 : Int32 → Option (Int32)) : Nat → Int32 → Int32 → Option (Int32)
  | 0, _, _ => none
  | n22 + 1, v28, v29 =>
  zrd M 78 73 (7 : Int32) (fun v31 => (if v31 < v29 then (K68 v28) else zb1 (zf_X10_isOn a1 v29 M) (fun v32 => (if v32 = 0 then (zf_X10_together_j59 (fun x0 x1 => zf_X10_together_L22 M a1 a2 K68 n22 x0 x1) v28 v29) else zb1 (zf_X10_isOn a2 v29 M) (fun v34 => (if v34 = 0 then (zf_X10_together_j59 (fun x0 x1 => zf_X10_together_L22 M a1 a2 K68 n22 x0 x1) v28 v29) else (zf_X10_together_j60 (fun x0 x1 => zf_X10_together_L22 M a1 a2 K68 n22 x0 x1) v28 v29 (1 : Int32))))))))
def zf_X10_together (n : Nat) (a1 : Int32) (a2 : Int32) (M : ZMem) : Option (Int32) :=
  zb1 (zf_X10_areTwo a1 a2 M) (fun v26 => (if v26 = 0 then some (-1 : Int32) else zrd M 78 73 (6 : Int32) (fun v27 => (zf_X10_together_L22 M a1 a2 (fun v35 => some v35) n (0 : Int32) v27))))
set_option maxHeartbeats 4000000 in
set_option maxRecDepth 100000 in
theorem zc_X10_together {l : Launch} {D : va_G} {ad : Nat → Nat} {cA : Nat → ClassId} {n : Nat} {a1 : Int32} {a2 : Int32} {M : ZMem} {r : Int32} (hf : zf_X10_together n a1 a2 M = some r) : ZCt l D ad cA yX10_together cX10_together 5 (some .int) 4 [.ref (ad 77), .int a1, .int a2] M (some (.int r)) M := by
  refine zct (by decide +kernel) (Nat.le_of_ble_eq_true rfl) (lv := [(0, .ref (ad 77)), (1, .int a1), (2, .int a2)]) rfl (fun E hl hD had hcA hN hC hR => ?_)
  subst hl; subst hD; subst had; subst hcA
  unfold zf_X10_together at hf
  refine zw_aload_n hC dX10_together_0 rfl 0 rfl ?_
  refine zw_iload_n hC dX10_together_1 rfl 1 rfl ?_
  refine zw_iload_n hC dX10_together_2 rfl 2 rfl ?_
  obtain ⟨v26, hc26, hf⟩ := zb1_some hf
  refine zw_cV hC [.int a1, .int a2] [] (st1 := [.int v26]) zm_X10_areTwo (zc_X10_areTwo hc26) zk_77 rfl kw_7_63 dX10_together_3 rfl (by decide) (Nat.le_of_ble_eq_true rfl) rfl rfl ?_
  refine zw_if_ne hC 11 hf dX10_together_6 (by decide) (fun hf => ?_) (fun hf => ?_)
  · refine zw_iconst hC (v := (0 : Int32)) dX10_together_11 (by decide) ?_
    refine zw_istore_n hC (lv' := [(3, .int (0 : Int32)), (0, .ref (zad E 77)), (1, .int a1), (2, .int a2)]) dX10_together_12 rfl hN (by decide) rfl ?_
    refine zw_aload_n hC dX10_together_13 rfl 1 rfl ?_
    refine zw_getr (k' := 78) hC zF_Model_now zk_77 rfl dX10_together_14 kw_5_227 ?_
    refine zw_bipush hC (v := (6 : Int32)) dX10_together_17 (by decide) ?_
    refine zw_iald hC hf zk_78 dX10_together_19 (fun v27 hf => ?_)
    refine zw_istore hC (lv' := [(4, .int v27), (3, .int (0 : Int32)), (0, .ref (zad E 77)), (1, .int a1), (2, .int a2)]) dX10_together_20 hN (by decide) rfl ?_
    have hL22 : ∀ (K68 : Int32 → Option (Int32)), (∀ (v30 : Int32), K68 v30 = some r → ZW E 68 [(3, .int v30)] [] M) → ∀ (n22 : Nat), ∀ (v28 : Int32), ∀ (v29 : Int32), zf_X10_together_L22 M a1 a2 K68 n22 v28 v29 = some r → ZW E 22 [(0, .ref (zad E 77)), (1, .int a1), (2, .int a2), (3, .int v28), (4, .int v29)] [] M := by
      intro K68 hK68
      intro n22
      induction n22 with
      | zero => intro v28 v29 hf; rw [zf_X10_together_L22] at hf; cases hf
      | succ n22 ih22 =>
        intro v28 v29 hf
        rw [zf_X10_together_L22] at hf
        refine zw_iload hC dX10_together_22 4 rfl ?_
        refine zw_aload_n hC dX10_together_24 rfl 0 rfl ?_
        refine zw_getr (k' := 78) hC zF_Model_now zk_77 rfl dX10_together_25 kw_5_227 ?_
        refine zw_bipush hC (v := (7 : Int32)) dX10_together_28 (by decide) ?_
        refine zw_iald hC hf zk_78 dX10_together_30 (fun v31 hf => ?_)
        refine zw_icmp_gt hC 68 hf dX10_together_31 (by decide) (fun hf => ?_) (fun hf => ?_)
        · exact zw_sub [3] rfl (hK68 v28 hf)
        · refine zw_iload_n hC dX10_together_34 rfl 3 rfl ?_
          refine zw_aload_n hC dX10_together_35 rfl 0 rfl ?_
          refine zw_iload_n hC dX10_together_36 rfl 1 rfl ?_
          refine zw_iload hC dX10_together_37 4 rfl ?_
          obtain ⟨v32, hc32, hf⟩ := zb1_some hf
          refine zw_cV hC [.int a1, .int v29] [.int v28] (st1 := [.int v32, .int v28]) zm_X10_isOn (zc_X10_isOn hc32) zk_77 rfl kw_7_91 dX10_together_39 rfl (by decide) (Nat.le_of_ble_eq_true rfl) rfl rfl ?_
          have hj60 : ∀ (v33 : Int32), zf_X10_together_j60 (fun x0 x1 => zf_X10_together_L22 M a1 a2 K68 n22 x0 x1) v28 v29 v33 = some r → ZW E 60 [(0, .ref (zad E 77)), (1, .int a1), (2, .int a2), (4, .int v29)] [.int v33, .int v28] M := by
            intro v33 hf
            unfold zf_X10_together_j60 at hf
            refine zw_iadd hC dX10_together_60 ?_
            refine zw_istore_n hC (lv' := [(3, .int (v28 + v33)), (0, .ref (zad E 77)), (1, .int a1), (2, .int a2), (4, .int v29)]) dX10_together_61 rfl hN (by decide) rfl ?_
            refine zw_iinc hC (v := (1 : Int32)) (lv' := [(4, .int (v29 + (1 : Int32))), (3, .int (v28 + v33)), (0, .ref (zad E 77)), (1, .int a1), (2, .int a2)]) dX10_together_62 4 rfl (by decide) hN (by decide) rfl ?_
            refine zw_goto hC 22 dX10_together_65 (by decide) ?_
            exact zw_sub [2, 3, 4, 1, 0] rfl (ih22 (v28 + v33) (v29 + (1 : Int32)) hf)
          have hj59 : zf_X10_together_j59 (fun x0 x1 => zf_X10_together_L22 M a1 a2 K68 n22 x0 x1) v28 v29 = some r → ZW E 59 [(0, .ref (zad E 77)), (1, .int a1), (2, .int a2), (4, .int v29)] [.int v28] M := by
            intro  hf
            unfold zf_X10_together_j59 at hf
            refine zw_iconst hC (v := (0 : Int32)) dX10_together_59 (by decide) ?_
            exact hj60 (0 : Int32) hf
          refine zw_if_eq hC 59 hf dX10_together_42 (by decide) (fun hf => ?_) (fun hf => ?_)
          · exact zw_sub [0, 1, 2, 4] rfl (hj59 hf)
          · refine zw_aload_n hC dX10_together_45 rfl 0 rfl ?_
            refine zw_iload_n hC dX10_together_46 rfl 2 rfl ?_
            refine zw_iload hC dX10_together_47 4 rfl ?_
            obtain ⟨v34, hc34, hf⟩ := zb1_some hf
            refine zw_cV hC [.int a2, .int v29] [.int v28] (st1 := [.int v34, .int v28]) zm_X10_isOn (zc_X10_isOn hc34) zk_77 rfl kw_7_91 dX10_together_49 rfl (by decide) (Nat.le_of_ble_eq_true rfl) rfl rfl ?_
            refine zw_if_eq hC 59 hf dX10_together_52 (by decide) (fun hf => ?_) (fun hf => ?_)
            · exact zw_sub [0, 1, 2, 4] rfl (hj59 hf)
            · refine zw_iconst hC (v := (1 : Int32)) dX10_together_55 (by decide) ?_
              refine zw_goto hC 60 dX10_together_56 (by decide) ?_
              exact zw_sub [0, 1, 2, 4] rfl (hj60 (1 : Int32) hf)
    refine zw_sub [2, 3, 4, 1, 0] rfl (hL22 _ ?_ n (0 : Int32) v27 hf)
    · intro v35 hf
      refine zw_iload_n hC dX10_together_68 rfl 0 rfl ?_
      have h1 := Option.some.inj hf
      subst h1
      exact zw_iret hC hR dX10_together_69
  · refine zw_iconst hC (v := (-1 : Int32)) dX10_together_9 (by decide) ?_
    have h1 := Option.some.inj hf
    subst h1
    exact zw_iret hC hR dX10_together_10
/-! ClassOfManyModel.busiest(I)I -/
theorem dX10_busiest_0 : decode cX10_busiest 0 = .ok (.iconst (-1), 1) := by decide +kernel
theorem dX10_busiest_1 : decode cX10_busiest 1 = .ok (.istore_n 2, 1) := by decide +kernel
theorem dX10_busiest_2 : decode cX10_busiest 2 = .ok (.iconst (-1), 1) := by decide +kernel
theorem dX10_busiest_3 : decode cX10_busiest 3 = .ok (.istore_n 3, 1) := by decide +kernel
theorem dX10_busiest_4 : decode cX10_busiest 4 = .ok (.aload_n 0, 1) := by decide +kernel
theorem dX10_busiest_5 : decode cX10_busiest 5 = .ok (.getfield 7, 3) := by decide +kernel
theorem dX10_busiest_8 : decode cX10_busiest 8 = .ok (.bipush 6, 2) := by decide +kernel
theorem dX10_busiest_10 : decode cX10_busiest 10 = .ok (.iaload, 1) := by decide +kernel
theorem dX10_busiest_11 : decode cX10_busiest 11 = .ok (.istore 4, 2) := by decide +kernel
theorem dX10_busiest_13 : decode cX10_busiest 13 = .ok (.iload 4, 2) := by decide +kernel
theorem dX10_busiest_15 : decode cX10_busiest 15 = .ok (.aload_n 0, 1) := by decide +kernel
theorem dX10_busiest_16 : decode cX10_busiest 16 = .ok (.getfield 7, 3) := by decide +kernel
theorem dX10_busiest_19 : decode cX10_busiest 19 = .ok (.bipush 7, 2) := by decide +kernel
theorem dX10_busiest_21 : decode cX10_busiest 21 = .ok (.iaload, 1) := by decide +kernel
theorem dX10_busiest_22 : decode cX10_busiest 22 = .ok (.if_icmp .gt 79, 3) := by decide +kernel
theorem dX10_busiest_25 : decode cX10_busiest 25 = .ok (.iconst 0, 1) := by decide +kernel
theorem dX10_busiest_26 : decode cX10_busiest 26 = .ok (.istore 5, 2) := by decide +kernel
theorem dX10_busiest_28 : decode cX10_busiest 28 = .ok (.iconst 0, 1) := by decide +kernel
theorem dX10_busiest_29 : decode cX10_busiest 29 = .ok (.istore 6, 2) := by decide +kernel
theorem dX10_busiest_31 : decode cX10_busiest 31 = .ok (.iload 6, 2) := by decide +kernel
theorem dX10_busiest_33 : decode cX10_busiest 33 = .ok (.aload_n 0, 1) := by decide +kernel
theorem dX10_busiest_34 : decode cX10_busiest 34 = .ok (.getfield 7, 3) := by decide +kernel
theorem dX10_busiest_37 : decode cX10_busiest 37 = .ok (.iconst 0, 1) := by decide +kernel
theorem dX10_busiest_38 : decode cX10_busiest 38 = .ok (.iaload, 1) := by decide +kernel
theorem dX10_busiest_39 : decode cX10_busiest 39 = .ok (.if_icmp .ge 30, 3) := by decide +kernel
theorem dX10_busiest_42 : decode cX10_busiest 42 = .ok (.iload 5, 2) := by decide +kernel
theorem dX10_busiest_44 : decode cX10_busiest 44 = .ok (.aload_n 0, 1) := by decide +kernel
theorem dX10_busiest_45 : decode cX10_busiest 45 = .ok (.iload 6, 2) := by decide +kernel
theorem dX10_busiest_47 : decode cX10_busiest 47 = .ok (.iload 4, 2) := by decide +kernel
theorem dX10_busiest_49 : decode cX10_busiest 49 = .ok (.invokevirtual 305, 3) := by decide +kernel
theorem dX10_busiest_52 : decode cX10_busiest 52 = .ok (.ifCond .eq 7, 3) := by decide +kernel
theorem dX10_busiest_55 : decode cX10_busiest 55 = .ok (.iconst 1, 1) := by decide +kernel
theorem dX10_busiest_56 : decode cX10_busiest 56 = .ok (.goto 4, 3) := by decide +kernel
theorem dX10_busiest_59 : decode cX10_busiest 59 = .ok (.iconst 0, 1) := by decide +kernel
theorem dX10_busiest_60 : decode cX10_busiest 60 = .ok (.iadd, 1) := by decide +kernel
theorem dX10_busiest_61 : decode cX10_busiest 61 = .ok (.istore 5, 2) := by decide +kernel
theorem dX10_busiest_63 : decode cX10_busiest 63 = .ok (.iinc 6 1, 3) := by decide +kernel
theorem dX10_busiest_66 : decode cX10_busiest 66 = .ok (.goto (-35), 3) := by decide +kernel
theorem dX10_busiest_69 : decode cX10_busiest 69 = .ok (.iload 5, 2) := by decide +kernel
theorem dX10_busiest_71 : decode cX10_busiest 71 = .ok (.iload_n 2, 1) := by decide +kernel
theorem dX10_busiest_72 : decode cX10_busiest 72 = .ok (.if_icmp .le 8, 3) := by decide +kernel
theorem dX10_busiest_75 : decode cX10_busiest 75 = .ok (.iload 4, 2) := by decide +kernel
theorem dX10_busiest_77 : decode cX10_busiest 77 = .ok (.goto 4, 3) := by decide +kernel
theorem dX10_busiest_80 : decode cX10_busiest 80 = .ok (.iload_n 3, 1) := by decide +kernel
theorem dX10_busiest_81 : decode cX10_busiest 81 = .ok (.istore_n 3, 1) := by decide +kernel
theorem dX10_busiest_82 : decode cX10_busiest 82 = .ok (.iload 5, 2) := by decide +kernel
theorem dX10_busiest_84 : decode cX10_busiest 84 = .ok (.iload_n 2, 1) := by decide +kernel
theorem dX10_busiest_85 : decode cX10_busiest 85 = .ok (.if_icmp .le 8, 3) := by decide +kernel
theorem dX10_busiest_88 : decode cX10_busiest 88 = .ok (.iload 5, 2) := by decide +kernel
theorem dX10_busiest_90 : decode cX10_busiest 90 = .ok (.goto 4, 3) := by decide +kernel
theorem dX10_busiest_93 : decode cX10_busiest 93 = .ok (.iload_n 2, 1) := by decide +kernel
theorem dX10_busiest_94 : decode cX10_busiest 94 = .ok (.istore_n 2, 1) := by decide +kernel
theorem dX10_busiest_95 : decode cX10_busiest 95 = .ok (.iinc 4 1, 3) := by decide +kernel
theorem dX10_busiest_98 : decode cX10_busiest 98 = .ok (.goto (-85), 3) := by decide +kernel
theorem dX10_busiest_101 : decode cX10_busiest 101 = .ok (.iload_n 1, 1) := by decide +kernel
theorem dX10_busiest_102 : decode cX10_busiest 102 = .ok (.ifCond .ne 7, 3) := by decide +kernel
theorem dX10_busiest_105 : decode cX10_busiest 105 = .ok (.iload_n 2, 1) := by decide +kernel
theorem dX10_busiest_106 : decode cX10_busiest 106 = .ok (.goto 13, 3) := by decide +kernel
theorem dX10_busiest_109 : decode cX10_busiest 109 = .ok (.iload_n 1, 1) := by decide +kernel
theorem dX10_busiest_110 : decode cX10_busiest 110 = .ok (.iconst 1, 1) := by decide +kernel
theorem dX10_busiest_111 : decode cX10_busiest 111 = .ok (.if_icmp .ne 7, 3) := by decide +kernel
theorem dX10_busiest_114 : decode cX10_busiest 114 = .ok (.iload_n 3, 1) := by decide +kernel
theorem dX10_busiest_115 : decode cX10_busiest 115 = .ok (.goto 4, 3) := by decide +kernel
theorem dX10_busiest_118 : decode cX10_busiest 118 = .ok (.iconst (-1), 1) := by decide +kernel
theorem dX10_busiest_119 : decode cX10_busiest 119 = .ok (.ireturn, 1) := by decide +kernel
theorem zm_X10_busiest : ZMv "ClassOfManyModel" yX10_busiest cX10_busiest 7 (some .int) 1 := ⟨kw_7_98, kw_7_96, kw_7_97, kw_1_10, by decide +kernel, by decide⟩
def zf_X10_busiest_j60 (R31 : Int32 → Int32 → Option (Int32)) (v32 : Int32) (v33 : Int32) (v37 : Int32) : Option (Int32) :=
  (R31 (v32 + v37) (v33 + (1 : Int32)))
def zf_X10_busiest_L31 (M : ZMem) (v28 : Int32) (K69 : Int32 → Option (Int32)) : Nat → Int32 → Int32 → Option (Int32)
  | 0, _, _ => none
  | n31 + 1, v32, v33 =>
  zrd M 78 73 (0 : Int32) (fun v35 => (if v35 ≤ v33 then (K69 v32) else zb1 (zf_X10_isOn v33 v28 M) (fun v36 => (if v36 = 0 then (zf_X10_busiest_j60 (fun x0 x1 => zf_X10_busiest_L31 M v28 K69 n31 x0 x1) v32 v33 (0 : Int32)) else (zf_X10_busiest_j60 (fun x0 x1 => zf_X10_busiest_L31 M v28 K69 n31 x0 x1) v32 v33 (1 : Int32))))))
def zf_X10_busiest_j94 (R13 : Int32 → Int32 → Int32 → Option (Int32)) (v39 : Int32) (v28 : Int32) (v40 : Int32) : Option (Int32) :=
  (R13 v40 v39 (v28 + (1 : Int32)))
def zf_X10_busiest_j81 (v38 : Int32) (v26 : Int32) (R13 : Int32 → Int32 → Int32 → Option (Int32)) (v28 : Int32) (v39 : Int32) : Option (Int32) :=
  (if v38 ≤ v26 then (zf_X10_busiest_j94 R13 v39 v28 v26) else (zf_X10_busiest_j94 R13 v39 v28 v38))
def zf_X10_busiest_L13 (M : ZMem) (n : Nat) (K101 : Int32 → Int32 → Option (Int32)) : Nat → Int32 → Int32 → Int32 → Option (Int32)
  | 0, _, _, _ => none
  | n13 + 1, v26, v27, v28 =>
  zrd M 78 73 (7 : Int32) (fun v31 => (if v31 < v28 then (K101 v26 v27) else (zf_X10_busiest_L31 M v28 (fun v38 => (if v38 ≤ v26 then (zf_X10_busiest_j81 v38 v26 (fun x0 x1 x2 => zf_X10_busiest_L13 M n K101 n13 x0 x1 x2) v28 v27) else (zf_X10_busiest_j81 v38 v26 (fun x0 x1 x2 => zf_X10_busiest_L13 M n K101 n13 x0 x1 x2) v28 v28))) n (0 : Int32) (0 : Int32))))
def zf_X10_busiest_j119 (v43 : Int32) : Option (Int32) :=
  some v43
def zf_X10_busiest (n : Nat) (a1 : Int32) (M : ZMem) : Option (Int32) :=
  zrd M 78 73 (6 : Int32) (fun v25 => (zf_X10_busiest_L13 M n (fun v41 v42 => (if a1 = 0 then (zf_X10_busiest_j119 v41) else (if a1 = (1 : Int32) then (zf_X10_busiest_j119 v42) else (zf_X10_busiest_j119 (-1 : Int32))))) n (-1 : Int32) (-1 : Int32) v25))
set_option maxHeartbeats 4000000 in
set_option maxRecDepth 100000 in
theorem zc_X10_busiest {l : Launch} {D : va_G} {ad : Nat → Nat} {cA : Nat → ClassId} {n : Nat} {a1 : Int32} {M : ZMem} {r : Int32} (hf : zf_X10_busiest n a1 M = some r) : ZCt l D ad cA yX10_busiest cX10_busiest 7 (some .int) 3 [.ref (ad 77), .int a1] M (some (.int r)) M := by
  refine zct (by decide +kernel) (Nat.le_of_ble_eq_true rfl) (lv := [(0, .ref (ad 77)), (1, .int a1)]) rfl (fun E hl hD had hcA hN hC hR => ?_)
  subst hl; subst hD; subst had; subst hcA
  unfold zf_X10_busiest at hf
  refine zw_iconst hC (v := (-1 : Int32)) dX10_busiest_0 (by decide) ?_
  refine zw_istore_n hC (lv' := [(2, .int (-1 : Int32)), (0, .ref (zad E 77)), (1, .int a1)]) dX10_busiest_1 rfl hN (by decide) rfl ?_
  refine zw_iconst hC (v := (-1 : Int32)) dX10_busiest_2 (by decide) ?_
  refine zw_istore_n hC (lv' := [(3, .int (-1 : Int32)), (2, .int (-1 : Int32)), (0, .ref (zad E 77)), (1, .int a1)]) dX10_busiest_3 rfl hN (by decide) rfl ?_
  refine zw_aload_n hC dX10_busiest_4 rfl 2 rfl ?_
  refine zw_getr (k' := 78) hC zF_Model_now zk_77 rfl dX10_busiest_5 kw_5_227 ?_
  refine zw_bipush hC (v := (6 : Int32)) dX10_busiest_8 (by decide) ?_
  refine zw_iald hC hf zk_78 dX10_busiest_10 (fun v25 hf => ?_)
  refine zw_istore hC (lv' := [(4, .int v25), (3, .int (-1 : Int32)), (2, .int (-1 : Int32)), (0, .ref (zad E 77)), (1, .int a1)]) dX10_busiest_11 hN (by decide) rfl ?_
  have hL13 : ∀ (K101 : Int32 → Int32 → Option (Int32)), (∀ (v29 : Int32), ∀ (v30 : Int32), K101 v29 v30 = some r → ZW E 101 [(1, .int a1), (2, .int v29), (3, .int v30)] [] M) → ∀ (n13 : Nat), ∀ (v26 : Int32), ∀ (v27 : Int32), ∀ (v28 : Int32), zf_X10_busiest_L13 M n K101 n13 v26 v27 v28 = some r → ZW E 13 [(0, .ref (zad E 77)), (1, .int a1), (2, .int v26), (3, .int v27), (4, .int v28)] [] M := by
    intro K101 hK101
    intro n13
    induction n13 with
    | zero => intro v26 v27 v28 hf; rw [zf_X10_busiest_L13] at hf; cases hf
    | succ n13 ih13 =>
      intro v26 v27 v28 hf
      rw [zf_X10_busiest_L13] at hf
      refine zw_iload hC dX10_busiest_13 4 rfl ?_
      refine zw_aload_n hC dX10_busiest_15 rfl 0 rfl ?_
      refine zw_getr (k' := 78) hC zF_Model_now zk_77 rfl dX10_busiest_16 kw_5_227 ?_
      refine zw_bipush hC (v := (7 : Int32)) dX10_busiest_19 (by decide) ?_
      refine zw_iald hC hf zk_78 dX10_busiest_21 (fun v31 hf => ?_)
      refine zw_icmp_gt hC 101 hf dX10_busiest_22 (by decide) (fun hf => ?_) (fun hf => ?_)
      · exact zw_sub [1, 2, 3] rfl (hK101 v26 v27 hf)
      · refine zw_iconst hC (v := (0 : Int32)) dX10_busiest_25 (by decide) ?_
        refine zw_istore hC (lv' := [(5, .int (0 : Int32)), (0, .ref (zad E 77)), (1, .int a1), (2, .int v26), (3, .int v27), (4, .int v28)]) dX10_busiest_26 hN (by decide) rfl ?_
        refine zw_iconst hC (v := (0 : Int32)) dX10_busiest_28 (by decide) ?_
        refine zw_istore hC (lv' := [(6, .int (0 : Int32)), (5, .int (0 : Int32)), (0, .ref (zad E 77)), (1, .int a1), (2, .int v26), (3, .int v27), (4, .int v28)]) dX10_busiest_29 hN (by decide) rfl ?_
        have hL31 : ∀ (K69 : Int32 → Option (Int32)), (∀ (v34 : Int32), K69 v34 = some r → ZW E 69 [(0, .ref (zad E 77)), (1, .int a1), (2, .int v26), (3, .int v27), (4, .int v28), (5, .int v34)] [] M) → ∀ (n31 : Nat), ∀ (v32 : Int32), ∀ (v33 : Int32), zf_X10_busiest_L31 M v28 K69 n31 v32 v33 = some r → ZW E 31 [(0, .ref (zad E 77)), (1, .int a1), (2, .int v26), (3, .int v27), (4, .int v28), (5, .int v32), (6, .int v33)] [] M := by
          intro K69 hK69
          intro n31
          induction n31 with
          | zero => intro v32 v33 hf; rw [zf_X10_busiest_L31] at hf; cases hf
          | succ n31 ih31 =>
            intro v32 v33 hf
            rw [zf_X10_busiest_L31] at hf
            refine zw_iload hC dX10_busiest_31 6 rfl ?_
            refine zw_aload_n hC dX10_busiest_33 rfl 0 rfl ?_
            refine zw_getr (k' := 78) hC zF_Model_now zk_77 rfl dX10_busiest_34 kw_5_227 ?_
            refine zw_iconst hC (v := (0 : Int32)) dX10_busiest_37 (by decide) ?_
            refine zw_iald hC hf zk_78 dX10_busiest_38 (fun v35 hf => ?_)
            refine zw_icmp_ge hC 69 hf dX10_busiest_39 (by decide) (fun hf => ?_) (fun hf => ?_)
            · exact zw_sub [0, 1, 2, 3, 4, 5] rfl (hK69 v32 hf)
            · refine zw_iload hC dX10_busiest_42 5 rfl ?_
              refine zw_aload_n hC dX10_busiest_44 rfl 0 rfl ?_
              refine zw_iload hC dX10_busiest_45 6 rfl ?_
              refine zw_iload hC dX10_busiest_47 4 rfl ?_
              obtain ⟨v36, hc36, hf⟩ := zb1_some hf
              refine zw_cV hC [.int v33, .int v28] [.int v32] (st1 := [.int v36, .int v32]) zm_X10_isOn (zc_X10_isOn hc36) zk_77 rfl kw_7_91 dX10_busiest_49 rfl (by decide) (Nat.le_of_ble_eq_true rfl) rfl rfl ?_
              have hj60 : ∀ (v37 : Int32), zf_X10_busiest_j60 (fun x0 x1 => zf_X10_busiest_L31 M v28 K69 n31 x0 x1) v32 v33 v37 = some r → ZW E 60 [(0, .ref (zad E 77)), (1, .int a1), (2, .int v26), (3, .int v27), (4, .int v28), (6, .int v33)] [.int v37, .int v32] M := by
                intro v37 hf
                unfold zf_X10_busiest_j60 at hf
                refine zw_iadd hC dX10_busiest_60 ?_
                refine zw_istore hC (lv' := [(5, .int (v32 + v37)), (0, .ref (zad E 77)), (1, .int a1), (2, .int v26), (3, .int v27), (4, .int v28), (6, .int v33)]) dX10_busiest_61 hN (by decide) rfl ?_
                refine zw_iinc hC (v := (1 : Int32)) (lv' := [(6, .int (v33 + (1 : Int32))), (5, .int (v32 + v37)), (0, .ref (zad E 77)), (1, .int a1), (2, .int v26), (3, .int v27), (4, .int v28)]) dX10_busiest_63 6 rfl (by decide) hN (by decide) rfl ?_
                refine zw_goto hC 31 dX10_busiest_66 (by decide) ?_
                exact zw_sub [2, 3, 4, 5, 6, 1, 0] rfl (ih31 (v32 + v37) (v33 + (1 : Int32)) hf)
              refine zw_if_eq hC 59 hf dX10_busiest_52 (by decide) (fun hf => ?_) (fun hf => ?_)
              · refine zw_iconst hC (v := (0 : Int32)) dX10_busiest_59 (by decide) ?_
                exact zw_sub [0, 1, 2, 3, 4, 6] rfl (hj60 (0 : Int32) hf)
              · refine zw_iconst hC (v := (1 : Int32)) dX10_busiest_55 (by decide) ?_
                refine zw_goto hC 60 dX10_busiest_56 (by decide) ?_
                exact zw_sub [0, 1, 2, 3, 4, 6] rfl (hj60 (1 : Int32) hf)
        refine zw_sub [2, 3, 4, 5, 6, 1, 0] rfl (hL31 _ ?_ n (0 : Int32) (0 : Int32) hf)
        · intro v38 hf
          refine zw_iload hC dX10_busiest_69 5 rfl ?_
          refine zw_iload_n hC dX10_busiest_71 rfl 2 rfl ?_
          have hj81 : ∀ (v39 : Int32), zf_X10_busiest_j81 v38 v26 (fun x0 x1 x2 => zf_X10_busiest_L13 M n K101 n13 x0 x1 x2) v28 v39 = some r → ZW E 81 [(0, .ref (zad E 77)), (1, .int a1), (2, .int v26), (4, .int v28), (5, .int v38)] [.int v39] M := by
            intro v39 hf
            unfold zf_X10_busiest_j81 at hf
            refine zw_istore_n hC (lv' := [(3, .int v39), (0, .ref (zad E 77)), (1, .int a1), (2, .int v26), (4, .int v28), (5, .int v38)]) dX10_busiest_81 rfl hN (by decide) rfl ?_
            refine zw_iload hC dX10_busiest_82 5 rfl ?_
            refine zw_iload_n hC dX10_busiest_84 rfl 3 rfl ?_
            have hj94 : ∀ (v40 : Int32), zf_X10_busiest_j94 (fun x0 x1 x2 => zf_X10_busiest_L13 M n K101 n13 x0 x1 x2) v39 v28 v40 = some r → ZW E 94 [(0, .ref (zad E 77)), (1, .int a1), (3, .int v39), (4, .int v28)] [.int v40] M := by
              intro v40 hf
              unfold zf_X10_busiest_j94 at hf
              refine zw_istore_n hC (lv' := [(2, .int v40), (0, .ref (zad E 77)), (1, .int a1), (3, .int v39), (4, .int v28)]) dX10_busiest_94 rfl hN (by decide) rfl ?_
              refine zw_iinc hC (v := (1 : Int32)) (lv' := [(4, .int (v28 + (1 : Int32))), (2, .int v40), (0, .ref (zad E 77)), (1, .int a1), (3, .int v39)]) dX10_busiest_95 4 rfl (by decide) hN (by decide) rfl ?_
              refine zw_goto hC 13 dX10_busiest_98 (by decide) ?_
              exact zw_sub [2, 3, 1, 4, 0] rfl (ih13 v40 v39 (v28 + (1 : Int32)) hf)
            refine zw_icmp_le hC 93 hf dX10_busiest_85 (by decide) (fun hf => ?_) (fun hf => ?_)
            · refine zw_iload_n hC dX10_busiest_93 rfl 3 rfl ?_
              exact zw_sub [1, 2, 0, 4] rfl (hj94 v26 hf)
            · refine zw_iload hC dX10_busiest_88 5 rfl ?_
              refine zw_goto hC 94 dX10_busiest_90 (by decide) ?_
              exact zw_sub [1, 2, 0, 4] rfl (hj94 v38 hf)
          refine zw_icmp_le hC 80 hf dX10_busiest_72 (by decide) (fun hf => ?_) (fun hf => ?_)
          · refine zw_iload_n hC dX10_busiest_80 rfl 3 rfl ?_
            exact zw_sub [0, 1, 2, 4, 5] rfl (hj81 v27 hf)
          · refine zw_iload hC dX10_busiest_75 4 rfl ?_
            refine zw_goto hC 81 dX10_busiest_77 (by decide) ?_
            exact zw_sub [0, 1, 2, 4, 5] rfl (hj81 v28 hf)
  refine zw_sub [3, 4, 2, 1, 0] rfl (hL13 _ ?_ n (-1 : Int32) (-1 : Int32) v25 hf)
  · intro v41 v42 hf
    refine zw_iload_n hC dX10_busiest_101 rfl 0 rfl ?_
    have hj119 : ∀ (v43 : Int32), zf_X10_busiest_j119 v43 = some r → ZW E 119 [] [.int v43] M := by
      intro v43 hf
      unfold zf_X10_busiest_j119 at hf
      have h1 := Option.some.inj hf
      subst h1
      exact zw_iret hC hR dX10_busiest_119
    refine zw_if_ne hC 109 hf dX10_busiest_102 (by decide) (fun hf => ?_) (fun hf => ?_)
    · refine zw_iload_n hC dX10_busiest_109 rfl 0 rfl ?_
      refine zw_iconst hC (v := (1 : Int32)) dX10_busiest_110 (by decide) ?_
      refine zw_icmp_ne hC 118 hf dX10_busiest_111 (by decide) (fun hf => ?_) (fun hf => ?_)
      · refine zw_iconst hC (v := (-1 : Int32)) dX10_busiest_118 (by decide) ?_
        exact zw_sub [] rfl (hj119 (-1 : Int32) hf)
      · refine zw_iload_n hC dX10_busiest_114 rfl 2 rfl ?_
        refine zw_goto hC 119 dX10_busiest_115 (by decide) ?_
        exact zw_sub [] rfl (hj119 v42 hf)
    · refine zw_iload_n hC dX10_busiest_105 rfl 1 rfl ?_
      refine zw_goto hC 119 dX10_busiest_106 (by decide) ?_
      exact zw_sub [] rfl (hj119 v41 hf)
/-! ClassOfManyModel.classes()I -/
theorem dX10_classes_0 : decode cX10_classes 0 = .ok (.aload_n 0, 1) := by decide +kernel
theorem dX10_classes_1 : decode cX10_classes 1 = .ok (.aload_n 0, 1) := by decide +kernel
theorem dX10_classes_2 : decode cX10_classes 2 = .ok (.invokevirtual 226, 3) := by decide +kernel
theorem dX10_classes_5 : decode cX10_classes 5 = .ok (.invokevirtual 247, 3) := by decide +kernel
theorem dX10_classes_8 : decode cX10_classes 8 = .ok (.aload_n 0, 1) := by decide +kernel
theorem dX10_classes_9 : decode cX10_classes 9 = .ok (.getfield 217, 3) := by decide +kernel
theorem dX10_classes_12 : decode cX10_classes 12 = .ok (.ireturn, 1) := by decide +kernel
theorem zm_X10_classes : ZMv "ClassOfManyModel" yX10_classes cX10_classes 1 (some .int) 0 := ⟨kw_7_102, kw_7_100, kw_7_101, kw_1_10, by decide +kernel, by decide⟩
def zf_X10_classes (n : Nat) (M : ZMem) : Option (Int32 × ZMem) :=
  zb1 (zf_X10_inNow M) (fun v23 => zb1 (zf_X10_divides n v23 M) (fun M24 => some ((M24 77 20), M24)))
set_option maxHeartbeats 4000000 in
set_option maxRecDepth 100000 in
theorem zc_X10_classes {l : Launch} {D : va_G} {ad : Nat → Nat} {cA : Nat → ClassId} {n : Nat} {M : ZMem} {r : Int32} {M' : ZMem} (hf : zf_X10_classes n M = some (r, M')) : ZCt l D ad cA yX10_classes cX10_classes 1 (some .int) 5 [.ref (ad 77)] M (some (.int r)) M' := by
  refine zct (by decide +kernel) (Nat.le_of_ble_eq_true rfl) (lv := [(0, .ref (ad 77))]) rfl (fun E hl hD had hcA hN hC hR => ?_)
  subst hl; subst hD; subst had; subst hcA
  unfold zf_X10_classes at hf
  refine zw_aload_n hC dX10_classes_0 rfl 0 rfl ?_
  refine zw_aload_n hC dX10_classes_1 rfl 0 rfl ?_
  obtain ⟨v23, hc23, hf⟩ := zb1_some hf
  refine zw_cV hC [] [.ref (zad E 77)] (st1 := [.int v23, .ref (zad E 77)]) zm_X10_inNow (zc_X10_inNow hc23) zk_77 rfl kw_7_103 dX10_classes_2 rfl (by decide) (Nat.le_of_ble_eq_true rfl) rfl rfl ?_
  obtain ⟨M24, hcM24, hf⟩ := zb1_some hf
  refine zw_cV hC [.int v23] [] (st1 := []) zm_X10_divides (zc_X10_divides hcM24) zk_77 rfl kw_7_107 dX10_classes_5 rfl (by decide) (Nat.le_of_ble_eq_true rfl) rfl rfl ?_
  refine zw_aload_n hC dX10_classes_8 rfl 0 rfl ?_
  refine zw_geti hC zF_Model_parts zk_77 dX10_classes_9 kw_6_6 ?_
  obtain ⟨h1, h2⟩ := Prod.mk.inj (Option.some.inj hf)
  subst h1; subst h2
  exact zw_iret hC hR dX10_classes_12
/-! ClassOfManyModel.classOf(I)I -/
theorem dX10_classOf_0 : decode cX10_classOf 0 = .ok (.aload_n 0, 1) := by decide +kernel
theorem dX10_classOf_1 : decode cX10_classOf 1 = .ok (.iload_n 1, 1) := by decide +kernel
theorem dX10_classOf_2 : decode cX10_classOf 2 = .ok (.invokevirtual 296, 3) := by decide +kernel
theorem dX10_classOf_5 : decode cX10_classOf 5 = .ok (.ifCond .ne 5, 3) := by decide +kernel
theorem dX10_classOf_8 : decode cX10_classOf 8 = .ok (.iconst (-1), 1) := by decide +kernel
theorem dX10_classOf_9 : decode cX10_classOf 9 = .ok (.ireturn, 1) := by decide +kernel
theorem dX10_classOf_10 : decode cX10_classOf 10 = .ok (.aload_n 0, 1) := by decide +kernel
theorem dX10_classOf_11 : decode cX10_classOf 11 = .ok (.aload_n 0, 1) := by decide +kernel
theorem dX10_classOf_12 : decode cX10_classOf 12 = .ok (.invokevirtual 226, 3) := by decide +kernel
theorem dX10_classOf_15 : decode cX10_classOf 15 = .ok (.invokevirtual 247, 3) := by decide +kernel
theorem dX10_classOf_18 : decode cX10_classOf 18 = .ok (.aload_n 0, 1) := by decide +kernel
theorem dX10_classOf_19 : decode cX10_classOf 19 = .ok (.getfield 7, 3) := by decide +kernel
theorem dX10_classOf_22 : decode cX10_classOf 22 = .ok (.bipush 12, 2) := by decide +kernel
theorem dX10_classOf_24 : decode cX10_classOf 24 = .ok (.iaload, 1) := by decide +kernel
theorem dX10_classOf_25 : decode cX10_classOf 25 = .ok (.iload_n 1, 1) := by decide +kernel
theorem dX10_classOf_26 : decode cX10_classOf 26 = .ok (.invokestatic 118, 3) := by decide +kernel
theorem dX10_classOf_29 : decode cX10_classOf 29 = .ok (.ifCond .eq 8, 3) := by decide +kernel
theorem dX10_classOf_32 : decode cX10_classOf 32 = .ok (.bipush (-2), 2) := by decide +kernel
theorem dX10_classOf_34 : decode cX10_classOf 34 = .ok (.goto 9, 3) := by decide +kernel
theorem dX10_classOf_37 : decode cX10_classOf 37 = .ok (.aload_n 0, 1) := by decide +kernel
theorem dX10_classOf_38 : decode cX10_classOf 38 = .ok (.getfield 31, 3) := by decide +kernel
theorem dX10_classOf_41 : decode cX10_classOf 41 = .ok (.iload_n 1, 1) := by decide +kernel
theorem dX10_classOf_42 : decode cX10_classOf 42 = .ok (.iaload, 1) := by decide +kernel
theorem dX10_classOf_43 : decode cX10_classOf 43 = .ok (.ireturn, 1) := by decide +kernel
theorem zm_X10_classOf : ZMv "ClassOfManyModel" yX10_classOf cX10_classOf 2 (some .int) 1 := ⟨kw_7_122, kw_7_120, kw_7_121, kw_1_10, by decide +kernel, by decide⟩
def zf_X10_classOf_j43 (M29 : ZMem) (v32 : Int32) : Option (Int32 × ZMem) :=
  some (v32, M29)
def zf_X10_classOf (n : Nat) (a1 : Int32) (M : ZMem) : Option (Int32 × ZMem) :=
  zb1 (zf_X10_isMember a1 M) (fun v27 => (if v27 = 0 then some ((-1 : Int32), M) else zb1 (zf_X10_inNow M) (fun v28 => zb1 (zf_X10_divides n v28 M) (fun M29 => zrd M29 78 73 (12 : Int32) (fun v30 => zb1 (zf_X10_has v30 a1) (fun v31 => (if v31 = 0 then zrd M29 85 10 a1 (fun v33 => (zf_X10_classOf_j43 M29 v33)) else (zf_X10_classOf_j43 M29 (-2 : Int32)))))))))
set_option maxHeartbeats 4000000 in
set_option maxRecDepth 100000 in
theorem zc_X10_classOf {l : Launch} {D : va_G} {ad : Nat → Nat} {cA : Nat → ClassId} {n : Nat} {a1 : Int32} {M : ZMem} {r : Int32} {M' : ZMem} (hf : zf_X10_classOf n a1 M = some (r, M')) : ZCt l D ad cA yX10_classOf cX10_classOf 2 (some .int) 5 [.ref (ad 77), .int a1] M (some (.int r)) M' := by
  refine zct (by decide +kernel) (Nat.le_of_ble_eq_true rfl) (lv := [(0, .ref (ad 77)), (1, .int a1)]) rfl (fun E hl hD had hcA hN hC hR => ?_)
  subst hl; subst hD; subst had; subst hcA
  unfold zf_X10_classOf at hf
  refine zw_aload_n hC dX10_classOf_0 rfl 0 rfl ?_
  refine zw_iload_n hC dX10_classOf_1 rfl 1 rfl ?_
  obtain ⟨v27, hc27, hf⟩ := zb1_some hf
  refine zw_cV hC [.int a1] [] (st1 := [.int v27]) zm_X10_isMember (zc_X10_isMember hc27) zk_77 rfl kw_7_5 dX10_classOf_2 rfl (by decide) (Nat.le_of_ble_eq_true rfl) rfl rfl ?_
  refine zw_if_ne hC 10 hf dX10_classOf_5 (by decide) (fun hf => ?_) (fun hf => ?_)
  · refine zw_aload_n hC dX10_classOf_10 rfl 0 rfl ?_
    refine zw_aload_n hC dX10_classOf_11 rfl 0 rfl ?_
    obtain ⟨v28, hc28, hf⟩ := zb1_some hf
    refine zw_cV hC [] [.ref (zad E 77)] (st1 := [.int v28, .ref (zad E 77)]) zm_X10_inNow (zc_X10_inNow hc28) zk_77 rfl kw_7_103 dX10_classOf_12 rfl (by decide) (Nat.le_of_ble_eq_true rfl) rfl rfl ?_
    obtain ⟨M29, hcM29, hf⟩ := zb1_some hf
    refine zw_cV hC [.int v28] [] (st1 := []) zm_X10_divides (zc_X10_divides hcM29) zk_77 rfl kw_7_107 dX10_classOf_15 rfl (by decide) (Nat.le_of_ble_eq_true rfl) rfl rfl ?_
    refine zw_aload_n hC dX10_classOf_18 rfl 0 rfl ?_
    refine zw_getr (k' := 78) hC zF_Model_now zk_77 rfl dX10_classOf_19 kw_5_227 ?_
    refine zw_bipush hC (v := (12 : Int32)) dX10_classOf_22 (by decide) ?_
    refine zw_iald hC hf zk_78 dX10_classOf_24 (fun v30 hf => ?_)
    refine zw_iload_n hC dX10_classOf_25 rfl 1 rfl ?_
    obtain ⟨v31, hc31, hf⟩ := zb1_some hf
    refine zw_cS hC [.int v30, .int a1] [] (st1 := [.int v31]) zm_X10_has (zc_X10_has hc31) kw_6_150 dX10_classOf_26 rfl (by decide) (Nat.le_of_ble_eq_true rfl) rfl rfl ?_
    have hj43 : ∀ (v32 : Int32), zf_X10_classOf_j43 M29 v32 = some (r, M') → ZW E 43 [] [.int v32] M29 := by
      intro v32 hf
      unfold zf_X10_classOf_j43 at hf
      obtain ⟨h1, h2⟩ := Prod.mk.inj (Option.some.inj hf)
      subst h1; subst h2
      exact zw_iret hC hR dX10_classOf_43
    refine zw_if_eq hC 37 hf dX10_classOf_29 (by decide) (fun hf => ?_) (fun hf => ?_)
    · refine zw_aload_n hC dX10_classOf_37 rfl 0 rfl ?_
      refine zw_getr (k' := 85) hC zF_Model_part zk_77 rfl dX10_classOf_38 kw_6_5 ?_
      refine zw_iload_n hC dX10_classOf_41 rfl 1 rfl ?_
      refine zw_iald hC hf zk_85 dX10_classOf_42 (fun v33 hf => ?_)
      exact zw_sub [] rfl (hj43 v33 hf)
    · refine zw_bipush hC (v := (-2 : Int32)) dX10_classOf_32 (by decide) ?_
      refine zw_goto hC 43 dX10_classOf_34 (by decide) ?_
      exact zw_sub [] rfl (hj43 (-2 : Int32) hf)
  · refine zw_iconst hC (v := (-1 : Int32)) dX10_classOf_8 (by decide) ?_
    obtain ⟨h1, h2⟩ := Prod.mk.inj (Option.some.inj hf)
    subst h1; subst h2
    exact zw_iret hC hR dX10_classOf_9
/-! ClassOfManyModel.partBits(I)I -/
theorem dX10_partBits_0 : decode cX10_partBits 0 = .ok (.iconst 0, 1) := by decide +kernel
theorem dX10_partBits_1 : decode cX10_partBits 1 = .ok (.istore_n 2, 1) := by decide +kernel
theorem dX10_partBits_2 : decode cX10_partBits 2 = .ok (.iconst 0, 1) := by decide +kernel
theorem dX10_partBits_3 : decode cX10_partBits 3 = .ok (.istore_n 3, 1) := by decide +kernel
theorem dX10_partBits_4 : decode cX10_partBits 4 = .ok (.iload_n 3, 1) := by decide +kernel
theorem dX10_partBits_5 : decode cX10_partBits 5 = .ok (.aload_n 0, 1) := by decide +kernel
theorem dX10_partBits_6 : decode cX10_partBits 6 = .ok (.getfield 7, 3) := by decide +kernel
theorem dX10_partBits_9 : decode cX10_partBits 9 = .ok (.iconst 0, 1) := by decide +kernel
theorem dX10_partBits_10 : decode cX10_partBits 10 = .ok (.iaload, 1) := by decide +kernel
theorem dX10_partBits_11 : decode cX10_partBits 11 = .ok (.if_icmp .ge 29, 3) := by decide +kernel
theorem dX10_partBits_14 : decode cX10_partBits 14 = .ok (.iload_n 2, 1) := by decide +kernel
theorem dX10_partBits_15 : decode cX10_partBits 15 = .ok (.aload_n 0, 1) := by decide +kernel
theorem dX10_partBits_16 : decode cX10_partBits 16 = .ok (.getfield 31, 3) := by decide +kernel
theorem dX10_partBits_19 : decode cX10_partBits 19 = .ok (.iload_n 3, 1) := by decide +kernel
theorem dX10_partBits_20 : decode cX10_partBits 20 = .ok (.iaload, 1) := by decide +kernel
theorem dX10_partBits_21 : decode cX10_partBits 21 = .ok (.iload_n 1, 1) := by decide +kernel
theorem dX10_partBits_22 : decode cX10_partBits 22 = .ok (.if_icmp .ne 9, 3) := by decide +kernel
theorem dX10_partBits_25 : decode cX10_partBits 25 = .ok (.iconst 1, 1) := by decide +kernel
theorem dX10_partBits_26 : decode cX10_partBits 26 = .ok (.iload_n 3, 1) := by decide +kernel
theorem dX10_partBits_27 : decode cX10_partBits 27 = .ok (.ishl, 1) := by decide +kernel
theorem dX10_partBits_28 : decode cX10_partBits 28 = .ok (.goto 4, 3) := by decide +kernel
theorem dX10_partBits_31 : decode cX10_partBits 31 = .ok (.iconst 0, 1) := by decide +kernel
theorem dX10_partBits_32 : decode cX10_partBits 32 = .ok (.ior, 1) := by decide +kernel
theorem dX10_partBits_33 : decode cX10_partBits 33 = .ok (.istore_n 2, 1) := by decide +kernel
theorem dX10_partBits_34 : decode cX10_partBits 34 = .ok (.iinc 3 1, 3) := by decide +kernel
theorem dX10_partBits_37 : decode cX10_partBits 37 = .ok (.goto (-33), 3) := by decide +kernel
theorem dX10_partBits_40 : decode cX10_partBits 40 = .ok (.iload_n 2, 1) := by decide +kernel
theorem dX10_partBits_41 : decode cX10_partBits 41 = .ok (.ireturn, 1) := by decide +kernel
theorem zm_X10_partBits : ZMv "ClassOfManyModel" yX10_partBits cX10_partBits 4 (some .int) 1 := ⟨kw_7_130, kw_7_129, kp_96, kw_1_10, by decide +kernel, by decide⟩
def zf_X10_partBits_j32 (R4 : Int32 → Int32 → Option (Int32)) (v23 : Int32) (v24 : Int32) (v28 : Int32) : Option (Int32) :=
  (R4 (v23 ||| v28) (v24 + (1 : Int32)))
def zf_X10_partBits_L4 (M : ZMem) (a1 : Int32) (K40 : Int32 → Option (Int32)) : Nat → Int32 → Int32 → Option (Int32)
  | 0, _, _ => none
  | n4 + 1, v23, v24 =>
  zrd M 78 73 (0 : Int32) (fun v26 => (if v26 ≤ v24 then (K40 v23) else zrd M 85 10 v24 (fun v27 => (if v27 = a1 then (zf_X10_partBits_j32 (fun x0 x1 => zf_X10_partBits_L4 M a1 K40 n4 x0 x1) v23 v24 ((1 : Int32) <<< (v24 &&& 31))) else (zf_X10_partBits_j32 (fun x0 x1 => zf_X10_partBits_L4 M a1 K40 n4 x0 x1) v23 v24 (0 : Int32))))))
def zf_X10_partBits (n : Nat) (a1 : Int32) (M : ZMem) : Option (Int32) :=
  (zf_X10_partBits_L4 M a1 (fun v29 => some v29) n (0 : Int32) (0 : Int32))
set_option maxHeartbeats 4000000 in
set_option maxRecDepth 100000 in
theorem zc_X10_partBits {l : Launch} {D : va_G} {ad : Nat → Nat} {cA : Nat → ClassId} {n : Nat} {a1 : Int32} {M : ZMem} {r : Int32} (hf : zf_X10_partBits n a1 M = some r) : ZCt l D ad cA yX10_partBits cX10_partBits 4 (some .int) 1 [.ref (ad 77), .int a1] M (some (.int r)) M := by
  refine zct (by decide +kernel) (Nat.le_of_ble_eq_true rfl) (lv := [(0, .ref (ad 77)), (1, .int a1)]) rfl (fun E hl hD had hcA hN hC hR => ?_)
  subst hl; subst hD; subst had; subst hcA
  unfold zf_X10_partBits at hf
  refine zw_iconst hC (v := (0 : Int32)) dX10_partBits_0 (by decide) ?_
  refine zw_istore_n hC (lv' := [(2, .int (0 : Int32)), (0, .ref (zad E 77)), (1, .int a1)]) dX10_partBits_1 rfl hN (by decide) rfl ?_
  refine zw_iconst hC (v := (0 : Int32)) dX10_partBits_2 (by decide) ?_
  refine zw_istore_n hC (lv' := [(3, .int (0 : Int32)), (2, .int (0 : Int32)), (0, .ref (zad E 77)), (1, .int a1)]) dX10_partBits_3 rfl hN (by decide) rfl ?_
  have hL4 : ∀ (K40 : Int32 → Option (Int32)), (∀ (v25 : Int32), K40 v25 = some r → ZW E 40 [(2, .int v25)] [] M) → ∀ (n4 : Nat), ∀ (v23 : Int32), ∀ (v24 : Int32), zf_X10_partBits_L4 M a1 K40 n4 v23 v24 = some r → ZW E 4 [(0, .ref (zad E 77)), (1, .int a1), (2, .int v23), (3, .int v24)] [] M := by
    intro K40 hK40
    intro n4
    induction n4 with
    | zero => intro v23 v24 hf; rw [zf_X10_partBits_L4] at hf; cases hf
    | succ n4 ih4 =>
      intro v23 v24 hf
      rw [zf_X10_partBits_L4] at hf
      refine zw_iload_n hC dX10_partBits_4 rfl 3 rfl ?_
      refine zw_aload_n hC dX10_partBits_5 rfl 0 rfl ?_
      refine zw_getr (k' := 78) hC zF_Model_now zk_77 rfl dX10_partBits_6 kw_5_227 ?_
      refine zw_iconst hC (v := (0 : Int32)) dX10_partBits_9 (by decide) ?_
      refine zw_iald hC hf zk_78 dX10_partBits_10 (fun v26 hf => ?_)
      refine zw_icmp_ge hC 40 hf dX10_partBits_11 (by decide) (fun hf => ?_) (fun hf => ?_)
      · exact zw_sub [2] rfl (hK40 v23 hf)
      · refine zw_iload_n hC dX10_partBits_14 rfl 2 rfl ?_
        refine zw_aload_n hC dX10_partBits_15 rfl 0 rfl ?_
        refine zw_getr (k' := 85) hC zF_Model_part zk_77 rfl dX10_partBits_16 kw_6_5 ?_
        refine zw_iload_n hC dX10_partBits_19 rfl 3 rfl ?_
        refine zw_iald hC hf zk_85 dX10_partBits_20 (fun v27 hf => ?_)
        refine zw_iload_n hC dX10_partBits_21 rfl 1 rfl ?_
        have hj32 : ∀ (v28 : Int32), zf_X10_partBits_j32 (fun x0 x1 => zf_X10_partBits_L4 M a1 K40 n4 x0 x1) v23 v24 v28 = some r → ZW E 32 [(0, .ref (zad E 77)), (1, .int a1), (3, .int v24)] [.int v28, .int v23] M := by
          intro v28 hf
          unfold zf_X10_partBits_j32 at hf
          refine zw_ior hC dX10_partBits_32 ?_
          refine zw_istore_n hC (lv' := [(2, .int (v23 ||| v28)), (0, .ref (zad E 77)), (1, .int a1), (3, .int v24)]) dX10_partBits_33 rfl hN (by decide) rfl ?_
          refine zw_iinc hC (v := (1 : Int32)) (lv' := [(3, .int (v24 + (1 : Int32))), (2, .int (v23 ||| v28)), (0, .ref (zad E 77)), (1, .int a1)]) dX10_partBits_34 3 rfl (by decide) hN (by decide) rfl ?_
          refine zw_goto hC 4 dX10_partBits_37 (by decide) ?_
          exact zw_sub [2, 3, 1, 0] rfl (ih4 (v23 ||| v28) (v24 + (1 : Int32)) hf)
        refine zw_icmp_ne hC 31 hf dX10_partBits_22 (by decide) (fun hf => ?_) (fun hf => ?_)
        · refine zw_iconst hC (v := (0 : Int32)) dX10_partBits_31 (by decide) ?_
          exact zw_sub [0, 1, 3] rfl (hj32 (0 : Int32) hf)
        · refine zw_iconst hC (v := (1 : Int32)) dX10_partBits_25 (by decide) ?_
          refine zw_iload_n hC dX10_partBits_26 rfl 3 rfl ?_
          refine zw_ishl hC dX10_partBits_27 ?_
          refine zw_goto hC 32 dX10_partBits_28 (by decide) ?_
          exact zw_sub [0, 1, 3] rfl (hj32 ((1 : Int32) <<< (v24 &&& 31)) hf)
  refine zw_sub [2, 3, 1, 0] rfl (hL4 _ ?_ n (0 : Int32) (0 : Int32) hf)
  · intro v29 hf
    refine zw_iload_n hC dX10_partBits_40 rfl 0 rfl ?_
    have h1 := Option.some.inj hf
    subst h1
    exact zw_iret hC hR dX10_partBits_41
/-! ClassOfManyModel.classBits(I)I -/
theorem dX10_classBits_0 : decode cX10_classBits 0 = .ok (.aload_n 0, 1) := by decide +kernel
theorem dX10_classBits_1 : decode cX10_classBits 1 = .ok (.aload_n 0, 1) := by decide +kernel
theorem dX10_classBits_2 : decode cX10_classBits 2 = .ok (.invokevirtual 226, 3) := by decide +kernel
theorem dX10_classBits_5 : decode cX10_classBits 5 = .ok (.invokevirtual 247, 3) := by decide +kernel
theorem dX10_classBits_8 : decode cX10_classBits 8 = .ok (.iload_n 1, 1) := by decide +kernel
theorem dX10_classBits_9 : decode cX10_classBits 9 = .ok (.iconst 0, 1) := by decide +kernel
theorem dX10_classBits_10 : decode cX10_classBits 10 = .ok (.aload_n 0, 1) := by decide +kernel
theorem dX10_classBits_11 : decode cX10_classBits 11 = .ok (.getfield 217, 3) := by decide +kernel
theorem dX10_classBits_14 : decode cX10_classBits 14 = .ok (.iconst 1, 1) := by decide +kernel
theorem dX10_classBits_15 : decode cX10_classBits 15 = .ok (.isub, 1) := by decide +kernel
theorem dX10_classBits_16 : decode cX10_classBits 16 = .ok (.invokestatic 65, 3) := by decide +kernel
theorem dX10_classBits_19 : decode cX10_classBits 19 = .ok (.ifCond .eq 11, 3) := by decide +kernel
theorem dX10_classBits_22 : decode cX10_classBits 22 = .ok (.aload_n 0, 1) := by decide +kernel
theorem dX10_classBits_23 : decode cX10_classBits 23 = .ok (.iload_n 1, 1) := by decide +kernel
theorem dX10_classBits_24 : decode cX10_classBits 24 = .ok (.invokevirtual 308, 3) := by decide +kernel
theorem dX10_classBits_27 : decode cX10_classBits 27 = .ok (.goto 4, 3) := by decide +kernel
theorem dX10_classBits_30 : decode cX10_classBits 30 = .ok (.iconst (-1), 1) := by decide +kernel
theorem dX10_classBits_31 : decode cX10_classBits 31 = .ok (.ireturn, 1) := by decide +kernel
theorem zm_X10_classBits : ZMv "ClassOfManyModel" yX10_classBits cX10_classBits 2 (some .int) 1 := ⟨kw_7_126, kw_7_124, kw_7_125, kw_1_10, by decide +kernel, by decide⟩
def zf_X10_classBits_j31 (M26 : ZMem) (v28 : Int32) : Option (Int32 × ZMem) :=
  some (v28, M26)
def zf_X10_classBits (n : Nat) (a1 : Int32) (M : ZMem) : Option (Int32 × ZMem) :=
  zb1 (zf_X10_inNow M) (fun v25 => zb1 (zf_X10_divides n v25 M) (fun M26 => zb1 (zf_X10_isIn a1 (0 : Int32) ((M26 77 20) - (1 : Int32))) (fun v27 => (if v27 = 0 then (zf_X10_classBits_j31 M26 (-1 : Int32)) else zb1 (zf_X10_partBits n a1 M26) (fun v29 => (zf_X10_classBits_j31 M26 v29))))))
set_option maxHeartbeats 4000000 in
set_option maxRecDepth 100000 in
theorem zc_X10_classBits {l : Launch} {D : va_G} {ad : Nat → Nat} {cA : Nat → ClassId} {n : Nat} {a1 : Int32} {M : ZMem} {r : Int32} {M' : ZMem} (hf : zf_X10_classBits n a1 M = some (r, M')) : ZCt l D ad cA yX10_classBits cX10_classBits 2 (some .int) 5 [.ref (ad 77), .int a1] M (some (.int r)) M' := by
  refine zct (by decide +kernel) (Nat.le_of_ble_eq_true rfl) (lv := [(0, .ref (ad 77)), (1, .int a1)]) rfl (fun E hl hD had hcA hN hC hR => ?_)
  subst hl; subst hD; subst had; subst hcA
  unfold zf_X10_classBits at hf
  refine zw_aload_n hC dX10_classBits_0 rfl 0 rfl ?_
  refine zw_aload_n hC dX10_classBits_1 rfl 0 rfl ?_
  obtain ⟨v25, hc25, hf⟩ := zb1_some hf
  refine zw_cV hC [] [.ref (zad E 77)] (st1 := [.int v25, .ref (zad E 77)]) zm_X10_inNow (zc_X10_inNow hc25) zk_77 rfl kw_7_103 dX10_classBits_2 rfl (by decide) (Nat.le_of_ble_eq_true rfl) rfl rfl ?_
  obtain ⟨M26, hcM26, hf⟩ := zb1_some hf
  refine zw_cV hC [.int v25] [] (st1 := []) zm_X10_divides (zc_X10_divides hcM26) zk_77 rfl kw_7_107 dX10_classBits_5 rfl (by decide) (Nat.le_of_ble_eq_true rfl) rfl rfl ?_
  refine zw_iload_n hC dX10_classBits_8 rfl 1 rfl ?_
  refine zw_iconst hC (v := (0 : Int32)) dX10_classBits_9 (by decide) ?_
  refine zw_aload_n hC dX10_classBits_10 rfl 0 rfl ?_
  refine zw_geti hC zF_Model_parts zk_77 dX10_classBits_11 kw_6_6 ?_
  refine zw_iconst hC (v := (1 : Int32)) dX10_classBits_14 (by decide) ?_
  refine zw_isub hC dX10_classBits_15 ?_
  obtain ⟨v27, hc27, hf⟩ := zb1_some hf
  refine zw_cS hC [.int a1, .int (0 : Int32), .int ((M26 77 20) - (1 : Int32))] [] (st1 := [.int v27]) zm_X10_isIn (zc_X10_isIn hc27) kw_6_106 dX10_classBits_16 rfl (by decide) (Nat.le_of_ble_eq_true rfl) rfl rfl ?_
  have hj31 : ∀ (v28 : Int32), zf_X10_classBits_j31 M26 v28 = some (r, M') → ZW E 31 [] [.int v28] M26 := by
    intro v28 hf
    unfold zf_X10_classBits_j31 at hf
    obtain ⟨h1, h2⟩ := Prod.mk.inj (Option.some.inj hf)
    subst h1; subst h2
    exact zw_iret hC hR dX10_classBits_31
  refine zw_if_eq hC 30 hf dX10_classBits_19 (by decide) (fun hf => ?_) (fun hf => ?_)
  · refine zw_iconst hC (v := (-1 : Int32)) dX10_classBits_30 (by decide) ?_
    exact zw_sub [] rfl (hj31 (-1 : Int32) hf)
  · refine zw_aload_n hC dX10_classBits_22 rfl 0 rfl ?_
    refine zw_iload_n hC dX10_classBits_23 rfl 1 rfl ?_
    obtain ⟨v29, hc29, hf⟩ := zb1_some hf
    refine zw_cV hC [.int a1] [] (st1 := [.int v29]) zm_X10_partBits (zc_X10_partBits hc29) zk_77 rfl kw_7_127 dX10_classBits_24 rfl (by decide) (Nat.le_of_ble_eq_true rfl) rfl rfl ?_
    refine zw_goto hC 31 dX10_classBits_27 (by decide) ?_
    exact zw_sub [] rfl (hj31 v29 hf)
/-! ClassOfManyModel.highest([II)I -/
theorem dX10_highest_0 : decode cX10_highest 0 = .ok (.iconst (-1), 1) := by decide +kernel
theorem dX10_highest_1 : decode cX10_highest 1 = .ok (.istore_n 2, 1) := by decide +kernel
theorem dX10_highest_2 : decode cX10_highest 2 = .ok (.iconst 0, 1) := by decide +kernel
theorem dX10_highest_3 : decode cX10_highest 3 = .ok (.istore_n 3, 1) := by decide +kernel
theorem dX10_highest_4 : decode cX10_highest 4 = .ok (.iload_n 3, 1) := by decide +kernel
theorem dX10_highest_5 : decode cX10_highest 5 = .ok (.iload_n 1, 1) := by decide +kernel
theorem dX10_highest_6 : decode cX10_highest 6 = .ok (.if_icmp .ge 24, 3) := by decide +kernel
theorem dX10_highest_9 : decode cX10_highest 9 = .ok (.aload_n 0, 1) := by decide +kernel
theorem dX10_highest_10 : decode cX10_highest 10 = .ok (.iload_n 3, 1) := by decide +kernel
theorem dX10_highest_11 : decode cX10_highest 11 = .ok (.iaload, 1) := by decide +kernel
theorem dX10_highest_12 : decode cX10_highest 12 = .ok (.iload_n 2, 1) := by decide +kernel
theorem dX10_highest_13 : decode cX10_highest 13 = .ok (.if_icmp .le 9, 3) := by decide +kernel
theorem dX10_highest_16 : decode cX10_highest 16 = .ok (.aload_n 0, 1) := by decide +kernel
theorem dX10_highest_17 : decode cX10_highest 17 = .ok (.iload_n 3, 1) := by decide +kernel
theorem dX10_highest_18 : decode cX10_highest 18 = .ok (.iaload, 1) := by decide +kernel
theorem dX10_highest_19 : decode cX10_highest 19 = .ok (.goto 4, 3) := by decide +kernel
theorem dX10_highest_22 : decode cX10_highest 22 = .ok (.iload_n 2, 1) := by decide +kernel
theorem dX10_highest_23 : decode cX10_highest 23 = .ok (.istore_n 2, 1) := by decide +kernel
theorem dX10_highest_24 : decode cX10_highest 24 = .ok (.iinc 3 1, 3) := by decide +kernel
theorem dX10_highest_27 : decode cX10_highest 27 = .ok (.goto (-23), 3) := by decide +kernel
theorem dX10_highest_30 : decode cX10_highest 30 = .ok (.iload_n 2, 1) := by decide +kernel
theorem dX10_highest_31 : decode cX10_highest 31 = .ok (.ireturn, 1) := by decide +kernel
theorem zm_X10_highest : ZMs yX10_highest cX10_highest 4 (some .int) 2 := ⟨kw_7_137, kw_7_136, kw_1_10, by decide +kernel, by decide⟩
def zf_X10_highest_j23 (R4 : Int32 → Int32 → Option (Int32)) (v24 : Int32) (v27 : Int32) : Option (Int32) :=
  (R4 v27 (v24 + (1 : Int32)))
def zf_X10_highest_L4 (a1 : Int32) (M : ZMem) (o0 : Nat) (l0 : Nat) (K30 : Int32 → Option (Int32)) : Nat → Int32 → Int32 → Option (Int32)
  | 0, _, _ => none
  | n4 + 1, v23, v24 =>
  (if a1 ≤ v24 then (K30 v23) else zrd M o0 l0 v24 (fun v26 => (if v26 ≤ v23 then (zf_X10_highest_j23 (fun x0 x1 => zf_X10_highest_L4 a1 M o0 l0 K30 n4 x0 x1) v24 v23) else zrd M o0 l0 v24 (fun v28 => (zf_X10_highest_j23 (fun x0 x1 => zf_X10_highest_L4 a1 M o0 l0 K30 n4 x0 x1) v24 v28)))))
def zf_X10_highest (n : Nat) (o0 : Nat) (l0 : Nat) (a1 : Int32) (M : ZMem) : Option (Int32) :=
  (zf_X10_highest_L4 a1 M o0 l0 (fun v29 => some v29) n (-1 : Int32) (0 : Int32))
set_option maxHeartbeats 4000000 in
set_option maxRecDepth 100000 in
theorem zc_X10_highest {l : Launch} {D : va_G} {ad : Nat → Nat} {cA : Nat → ClassId} {n : Nat} {o0 : Nat} {l0 : Nat} {a1 : Int32} {M : ZMem} {r : Int32} (ho0 : zk o0 = (10, l0)) (hf : zf_X10_highest n o0 l0 a1 M = some r) : ZCt l D ad cA yX10_highest cX10_highest 4 (some .int) 1 [.ref (ad o0), .int a1] M (some (.int r)) M := by
  refine zct (by decide +kernel) (Nat.le_of_ble_eq_true rfl) (lv := [(0, .ref (ad o0)), (1, .int a1)]) rfl (fun E hl hD had hcA hN hC hR => ?_)
  subst hl; subst hD; subst had; subst hcA
  unfold zf_X10_highest at hf
  refine zw_iconst hC (v := (-1 : Int32)) dX10_highest_0 (by decide) ?_
  refine zw_istore_n hC (lv' := [(2, .int (-1 : Int32)), (0, .ref (zad E o0)), (1, .int a1)]) dX10_highest_1 rfl hN (by decide) rfl ?_
  refine zw_iconst hC (v := (0 : Int32)) dX10_highest_2 (by decide) ?_
  refine zw_istore_n hC (lv' := [(3, .int (0 : Int32)), (2, .int (-1 : Int32)), (0, .ref (zad E o0)), (1, .int a1)]) dX10_highest_3 rfl hN (by decide) rfl ?_
  have hL4 : ∀ (K30 : Int32 → Option (Int32)), (∀ (v25 : Int32), K30 v25 = some r → ZW E 30 [(2, .int v25)] [] M) → ∀ (n4 : Nat), ∀ (v23 : Int32), ∀ (v24 : Int32), zf_X10_highest_L4 a1 M o0 l0 K30 n4 v23 v24 = some r → ZW E 4 [(0, .ref (zad E o0)), (1, .int a1), (2, .int v23), (3, .int v24)] [] M := by
    intro K30 hK30
    intro n4
    induction n4 with
    | zero => intro v23 v24 hf; rw [zf_X10_highest_L4] at hf; cases hf
    | succ n4 ih4 =>
      intro v23 v24 hf
      rw [zf_X10_highest_L4] at hf
      refine zw_iload_n hC dX10_highest_4 rfl 3 rfl ?_
      refine zw_iload_n hC dX10_highest_5 rfl 1 rfl ?_
      refine zw_icmp_ge hC 30 hf dX10_highest_6 (by decide) (fun hf => ?_) (fun hf => ?_)
      · exact zw_sub [2] rfl (hK30 v23 hf)
      · refine zw_aload_n hC dX10_highest_9 rfl 0 rfl ?_
        refine zw_iload_n hC dX10_highest_10 rfl 3 rfl ?_
        refine zw_iald hC hf ho0 dX10_highest_11 (fun v26 hf => ?_)
        refine zw_iload_n hC dX10_highest_12 rfl 2 rfl ?_
        have hj23 : ∀ (v27 : Int32), zf_X10_highest_j23 (fun x0 x1 => zf_X10_highest_L4 a1 M o0 l0 K30 n4 x0 x1) v24 v27 = some r → ZW E 23 [(0, .ref (zad E o0)), (1, .int a1), (3, .int v24)] [.int v27] M := by
          intro v27 hf
          unfold zf_X10_highest_j23 at hf
          refine zw_istore_n hC (lv' := [(2, .int v27), (0, .ref (zad E o0)), (1, .int a1), (3, .int v24)]) dX10_highest_23 rfl hN (by decide) rfl ?_
          refine zw_iinc hC (v := (1 : Int32)) (lv' := [(3, .int (v24 + (1 : Int32))), (2, .int v27), (0, .ref (zad E o0)), (1, .int a1)]) dX10_highest_24 3 rfl (by decide) hN (by decide) rfl ?_
          refine zw_goto hC 4 dX10_highest_27 (by decide) ?_
          exact zw_sub [2, 3, 1, 0] rfl (ih4 v27 (v24 + (1 : Int32)) hf)
        refine zw_icmp_le hC 22 hf dX10_highest_13 (by decide) (fun hf => ?_) (fun hf => ?_)
        · refine zw_iload_n hC dX10_highest_22 rfl 2 rfl ?_
          exact zw_sub [0, 1, 3] rfl (hj23 v23 hf)
        · refine zw_aload_n hC dX10_highest_16 rfl 0 rfl ?_
          refine zw_iload_n hC dX10_highest_17 rfl 3 rfl ?_
          refine zw_iald hC hf ho0 dX10_highest_18 (fun v28 hf => ?_)
          refine zw_goto hC 23 dX10_highest_19 (by decide) ?_
          exact zw_sub [0, 1, 3] rfl (hj23 v28 hf)
  refine zw_sub [2, 3, 1, 0] rfl (hL4 _ ?_ n (-1 : Int32) (0 : Int32) hf)
  · intro v29 hf
    refine zw_iload_n hC dX10_highest_30 rfl 0 rfl ?_
    have h1 := Option.some.inj hf
    subst h1
    exact zw_iret hC hR dX10_highest_31
/-! ClassOfManyModel.stands(I)Z -/
theorem dX10_stands_0 : decode cX10_stands 0 = .ok (.iconst 0, 1) := by decide +kernel
theorem dX10_stands_1 : decode cX10_stands 1 = .ok (.istore_n 2, 1) := by decide +kernel
theorem dX10_stands_2 : decode cX10_stands 2 = .ok (.iload_n 2, 1) := by decide +kernel
theorem dX10_stands_3 : decode cX10_stands 3 = .ok (.iload_n 1, 1) := by decide +kernel
theorem dX10_stands_4 : decode cX10_stands 4 = .ok (.if_icmp .ge 52, 3) := by decide +kernel
theorem dX10_stands_7 : decode cX10_stands 7 = .ok (.aload_n 0, 1) := by decide +kernel
theorem dX10_stands_8 : decode cX10_stands 8 = .ok (.getfield 49, 3) := by decide +kernel
theorem dX10_stands_11 : decode cX10_stands 11 = .ok (.iload_n 2, 1) := by decide +kernel
theorem dX10_stands_12 : decode cX10_stands 12 = .ok (.iaload, 1) := by decide +kernel
theorem dX10_stands_13 : decode cX10_stands 13 = .ok (.aload_n 0, 1) := by decide +kernel
theorem dX10_stands_14 : decode cX10_stands 14 = .ok (.getfield 49, 3) := by decide +kernel
theorem dX10_stands_17 : decode cX10_stands 17 = .ok (.iload_n 1, 1) := by decide +kernel
theorem dX10_stands_18 : decode cX10_stands 18 = .ok (.iaload, 1) := by decide +kernel
theorem dX10_stands_19 : decode cX10_stands 19 = .ok (.if_icmp .ne 31, 3) := by decide +kernel
theorem dX10_stands_22 : decode cX10_stands 22 = .ok (.aload_n 0, 1) := by decide +kernel
theorem dX10_stands_23 : decode cX10_stands 23 = .ok (.getfield 7, 3) := by decide +kernel
theorem dX10_stands_26 : decode cX10_stands 26 = .ok (.bipush 63, 2) := by decide +kernel
theorem dX10_stands_28 : decode cX10_stands 28 = .ok (.aload_n 0, 1) := by decide +kernel
theorem dX10_stands_29 : decode cX10_stands 29 = .ok (.getfield 46, 3) := by decide +kernel
theorem dX10_stands_32 : decode cX10_stands 32 = .ok (.iload_n 1, 1) := by decide +kernel
theorem dX10_stands_33 : decode cX10_stands 33 = .ok (.iaload, 1) := by decide +kernel
theorem dX10_stands_34 : decode cX10_stands 34 = .ok (.iadd, 1) := by decide +kernel
theorem dX10_stands_35 : decode cX10_stands 35 = .ok (.iaload, 1) := by decide +kernel
theorem dX10_stands_36 : decode cX10_stands 36 = .ok (.aload_n 0, 1) := by decide +kernel
theorem dX10_stands_37 : decode cX10_stands 37 = .ok (.getfield 46, 3) := by decide +kernel
theorem dX10_stands_40 : decode cX10_stands 40 = .ok (.iload_n 2, 1) := by decide +kernel
theorem dX10_stands_41 : decode cX10_stands 41 = .ok (.iaload, 1) := by decide +kernel
theorem dX10_stands_42 : decode cX10_stands 42 = .ok (.invokestatic 118, 3) := by decide +kernel
theorem dX10_stands_45 : decode cX10_stands 45 = .ok (.ifCond .eq 5, 3) := by decide +kernel
theorem dX10_stands_48 : decode cX10_stands 48 = .ok (.iconst 0, 1) := by decide +kernel
theorem dX10_stands_49 : decode cX10_stands 49 = .ok (.ireturn, 1) := by decide +kernel
theorem dX10_stands_50 : decode cX10_stands 50 = .ok (.iinc 2 1, 3) := by decide +kernel
theorem dX10_stands_53 : decode cX10_stands 53 = .ok (.goto (-51), 3) := by decide +kernel
theorem dX10_stands_56 : decode cX10_stands 56 = .ok (.iconst 1, 1) := by decide +kernel
theorem dX10_stands_57 : decode cX10_stands 57 = .ok (.ireturn, 1) := by decide +kernel
theorem zm_X10_stands : ZMv "ClassOfManyModel" yX10_stands cX10_stands 3 (some .boolean) 1 := ⟨kw_7_141, kw_7_140, kp_97, kw_1_10, by decide +kernel, by decide⟩
def zf_X10_stands_j50 (R2 : Int32 → Option (Int32)) (v27 : Int32) : Option (Int32) :=
  (R2 (v27 + (1 : Int32)))
def zf_X10_stands_L2 (a1 : Int32) (M : ZMem) (K56 : Option (Int32)) : Nat → Int32 → Option (Int32)
  | 0, _ => none
  | n2 + 1, v27 =>
  (if a1 ≤ v27 then K56 else zrd M 91 10 v27 (fun v28 => zrd M 91 10 a1 (fun v29 => (if v28 = v29 then zrd M 90 10 a1 (fun v30 => zrd M 78 73 ((63 : Int32) + v30) (fun v31 => zrd M 90 10 v27 (fun v32 => zb1 (zf_X10_has v31 v32) (fun v33 => (if v33 = 0 then (zf_X10_stands_j50 (fun x0 => zf_X10_stands_L2 a1 M K56 n2 x0) v27) else some (0 : Int32)))))) else (zf_X10_stands_j50 (fun x0 => zf_X10_stands_L2 a1 M K56 n2 x0) v27)))))
def zf_X10_stands (n : Nat) (a1 : Int32) (M : ZMem) : Option (Int32) :=
  (zf_X10_stands_L2 a1 M (some (1 : Int32)) n (0 : Int32))
set_option maxHeartbeats 4000000 in
set_option maxRecDepth 100000 in
theorem zc_X10_stands {l : Launch} {D : va_G} {ad : Nat → Nat} {cA : Nat → ClassId} {n : Nat} {a1 : Int32} {M : ZMem} {r : Int32} (hf : zf_X10_stands n a1 M = some r) : ZCt l D ad cA yX10_stands cX10_stands 3 (some .boolean) 2 [.ref (ad 77), .int a1] M (some (.int r)) M := by
  refine zct (by decide +kernel) (Nat.le_of_ble_eq_true rfl) (lv := [(0, .ref (ad 77)), (1, .int a1)]) rfl (fun E hl hD had hcA hN hC hR => ?_)
  subst hl; subst hD; subst had; subst hcA
  unfold zf_X10_stands at hf
  refine zw_iconst hC (v := (0 : Int32)) dX10_stands_0 (by decide) ?_
  refine zw_istore_n hC (lv' := [(2, .int (0 : Int32)), (0, .ref (zad E 77)), (1, .int a1)]) dX10_stands_1 rfl hN (by decide) rfl ?_
  have hL2 : ∀ (K56 : Option (Int32)), (K56 = some r → ZW E 56 [] [] M) → ∀ (n2 : Nat), ∀ (v27 : Int32), zf_X10_stands_L2 a1 M K56 n2 v27 = some r → ZW E 2 [(0, .ref (zad E 77)), (1, .int a1), (2, .int v27)] [] M := by
    intro K56 hK56
    intro n2
    induction n2 with
    | zero => intro v27 hf; rw [zf_X10_stands_L2] at hf; cases hf
    | succ n2 ih2 =>
      intro v27 hf
      rw [zf_X10_stands_L2] at hf
      refine zw_iload_n hC dX10_stands_2 rfl 2 rfl ?_
      refine zw_iload_n hC dX10_stands_3 rfl 1 rfl ?_
      refine zw_icmp_ge hC 56 hf dX10_stands_4 (by decide) (fun hf => ?_) (fun hf => ?_)
      · exact zw_sub [] rfl (hK56 hf)
      · refine zw_aload_n hC dX10_stands_7 rfl 0 rfl ?_
        refine zw_getr (k' := 91) hC zF_Model_its zk_77 rfl dX10_stands_8 kw_6_19 ?_
        refine zw_iload_n hC dX10_stands_11 rfl 2 rfl ?_
        refine zw_iald hC hf zk_91 dX10_stands_12 (fun v28 hf => ?_)
        refine zw_aload_n hC dX10_stands_13 rfl 0 rfl ?_
        refine zw_getr (k' := 91) hC zF_Model_its zk_77 rfl dX10_stands_14 kw_6_19 ?_
        refine zw_iload_n hC dX10_stands_17 rfl 1 rfl ?_
        refine zw_iald hC hf zk_91 dX10_stands_18 (fun v29 hf => ?_)
        have hj50 : zf_X10_stands_j50 (fun x0 => zf_X10_stands_L2 a1 M K56 n2 x0) v27 = some r → ZW E 50 [(0, .ref (zad E 77)), (1, .int a1), (2, .int v27)] [] M := by
          intro  hf
          unfold zf_X10_stands_j50 at hf
          refine zw_iinc hC (v := (1 : Int32)) (lv' := [(2, .int (v27 + (1 : Int32))), (0, .ref (zad E 77)), (1, .int a1)]) dX10_stands_50 2 rfl (by decide) hN (by decide) rfl ?_
          refine zw_goto hC 2 dX10_stands_53 (by decide) ?_
          exact zw_sub [1, 2, 0] rfl (ih2 (v27 + (1 : Int32)) hf)
        refine zw_icmp_ne hC 50 hf dX10_stands_19 (by decide) (fun hf => ?_) (fun hf => ?_)
        · exact hj50 hf
        · refine zw_aload_n hC dX10_stands_22 rfl 0 rfl ?_
          refine zw_getr (k' := 78) hC zF_Model_now zk_77 rfl dX10_stands_23 kw_5_227 ?_
          refine zw_bipush hC (v := (63 : Int32)) dX10_stands_26 (by decide) ?_
          refine zw_aload_n hC dX10_stands_28 rfl 0 rfl ?_
          refine zw_getr (k' := 90) hC zF_Model_who zk_77 rfl dX10_stands_29 kw_6_18 ?_
          refine zw_iload_n hC dX10_stands_32 rfl 1 rfl ?_
          refine zw_iald hC hf zk_90 dX10_stands_33 (fun v30 hf => ?_)
          refine zw_iadd hC dX10_stands_34 ?_
          refine zw_iald hC hf zk_78 dX10_stands_35 (fun v31 hf => ?_)
          refine zw_aload_n hC dX10_stands_36 rfl 0 rfl ?_
          refine zw_getr (k' := 90) hC zF_Model_who zk_77 rfl dX10_stands_37 kw_6_18 ?_
          refine zw_iload_n hC dX10_stands_40 rfl 2 rfl ?_
          refine zw_iald hC hf zk_90 dX10_stands_41 (fun v32 hf => ?_)
          obtain ⟨v33, hc33, hf⟩ := zb1_some hf
          refine zw_cS hC [.int v31, .int v32] [] (st1 := [.int v33]) zm_X10_has (zc_X10_has hc33) kw_6_150 dX10_stands_42 rfl (by decide) (Nat.le_of_ble_eq_true rfl) rfl rfl ?_
          refine zw_if_eq hC 50 hf dX10_stands_45 (by decide) (fun hf => ?_) (fun hf => ?_)
          · exact hj50 hf
          · refine zw_iconst hC (v := (0 : Int32)) dX10_stands_48 (by decide) ?_
            have h1 := Option.some.inj hf
            subst h1
            exact zw_zret hC hR rfl dX10_stands_49
  refine zw_sub [1, 2, 0] rfl (hL2 _ ?_ n (0 : Int32) hf)
  · intro  hf
    refine zw_iconst hC (v := (1 : Int32)) dX10_stands_56 (by decide) ?_
    have h1 := Option.some.inj hf
    subst h1
    exact zw_zret hC hR rfl dX10_stands_57
/-! ClassOfManyModel.splits(I)I -/
theorem dX10_splits_0 : decode cX10_splits 0 = .ok (.iload_n 1, 1) := by decide +kernel
theorem dX10_splits_1 : decode cX10_splits 1 = .ok (.ifCond .ge 5, 3) := by decide +kernel
theorem dX10_splits_4 : decode cX10_splits 4 = .ok (.iconst (-1), 1) := by decide +kernel
theorem dX10_splits_5 : decode cX10_splits 5 = .ok (.ireturn, 1) := by decide +kernel
theorem dX10_splits_6 : decode cX10_splits 6 = .ok (.aload_n 0, 1) := by decide +kernel
theorem dX10_splits_7 : decode cX10_splits 7 = .ok (.invokevirtual 226, 3) := by decide +kernel
theorem dX10_splits_10 : decode cX10_splits 10 = .ok (.istore_n 2, 1) := by decide +kernel
theorem dX10_splits_11 : decode cX10_splits 11 = .ok (.iconst 0, 1) := by decide +kernel
theorem dX10_splits_12 : decode cX10_splits 12 = .ok (.istore_n 3, 1) := by decide +kernel
theorem dX10_splits_13 : decode cX10_splits 13 = .ok (.iconst 0, 1) := by decide +kernel
theorem dX10_splits_14 : decode cX10_splits 14 = .ok (.istore 4, 2) := by decide +kernel
theorem dX10_splits_16 : decode cX10_splits 16 = .ok (.iload 4, 2) := by decide +kernel
theorem dX10_splits_18 : decode cX10_splits 18 = .ok (.aload_n 0, 1) := by decide +kernel
theorem dX10_splits_19 : decode cX10_splits 19 = .ok (.getfield 7, 3) := by decide +kernel
theorem dX10_splits_22 : decode cX10_splits 22 = .ok (.iconst 0, 1) := by decide +kernel
theorem dX10_splits_23 : decode cX10_splits 23 = .ok (.iaload, 1) := by decide +kernel
theorem dX10_splits_24 : decode cX10_splits 24 = .ok (.if_icmp .ge 29, 3) := by decide +kernel
theorem dX10_splits_27 : decode cX10_splits 27 = .ok (.iload_n 2, 1) := by decide +kernel
theorem dX10_splits_28 : decode cX10_splits 28 = .ok (.iload 4, 2) := by decide +kernel
theorem dX10_splits_30 : decode cX10_splits 30 = .ok (.invokestatic 118, 3) := by decide +kernel
theorem dX10_splits_33 : decode cX10_splits 33 = .ok (.ifCond .eq 14, 3) := by decide +kernel
theorem dX10_splits_36 : decode cX10_splits 36 = .ok (.aload_n 0, 1) := by decide +kernel
theorem dX10_splits_37 : decode cX10_splits 37 = .ok (.getfield 46, 3) := by decide +kernel
theorem dX10_splits_40 : decode cX10_splits 40 = .ok (.iload_n 3, 1) := by decide +kernel
theorem dX10_splits_41 : decode cX10_splits 41 = .ok (.iload 4, 2) := by decide +kernel
theorem dX10_splits_43 : decode cX10_splits 43 = .ok (.iastore, 1) := by decide +kernel
theorem dX10_splits_44 : decode cX10_splits 44 = .ok (.iinc 3 1, 3) := by decide +kernel
theorem dX10_splits_47 : decode cX10_splits 47 = .ok (.iinc 4 1, 3) := by decide +kernel
theorem dX10_splits_50 : decode cX10_splits 50 = .ok (.goto (-34), 3) := by decide +kernel
theorem dX10_splits_53 : decode cX10_splits 53 = .ok (.iload_n 3, 1) := by decide +kernel
theorem dX10_splits_54 : decode cX10_splits 54 = .ok (.ifCond .ne 13, 3) := by decide +kernel
theorem dX10_splits_57 : decode cX10_splits 57 = .ok (.iload_n 1, 1) := by decide +kernel
theorem dX10_splits_58 : decode cX10_splits 58 = .ok (.ifCond .ne 7, 3) := by decide +kernel
theorem dX10_splits_61 : decode cX10_splits 61 = .ok (.iconst 1, 1) := by decide +kernel
theorem dX10_splits_62 : decode cX10_splits 62 = .ok (.goto 4, 3) := by decide +kernel
theorem dX10_splits_65 : decode cX10_splits 65 = .ok (.iconst 0, 1) := by decide +kernel
theorem dX10_splits_66 : decode cX10_splits 66 = .ok (.ireturn, 1) := by decide +kernel
theorem dX10_splits_67 : decode cX10_splits 67 = .ok (.iconst 0, 1) := by decide +kernel
theorem dX10_splits_68 : decode cX10_splits 68 = .ok (.istore 4, 2) := by decide +kernel
theorem dX10_splits_70 : decode cX10_splits 70 = .ok (.iconst 0, 1) := by decide +kernel
theorem dX10_splits_71 : decode cX10_splits 71 = .ok (.istore 5, 2) := by decide +kernel
theorem dX10_splits_73 : decode cX10_splits 73 = .ok (.iload 5, 2) := by decide +kernel
theorem dX10_splits_75 : decode cX10_splits 75 = .ok (.bipush 10, 2) := by decide +kernel
theorem dX10_splits_77 : decode cX10_splits 77 = .ok (.if_icmp .ge 17, 3) := by decide +kernel
theorem dX10_splits_80 : decode cX10_splits 80 = .ok (.aload_n 0, 1) := by decide +kernel
theorem dX10_splits_81 : decode cX10_splits 81 = .ok (.getfield 49, 3) := by decide +kernel
theorem dX10_splits_84 : decode cX10_splits 84 = .ok (.iload 5, 2) := by decide +kernel
theorem dX10_splits_86 : decode cX10_splits 86 = .ok (.iconst (-1), 1) := by decide +kernel
theorem dX10_splits_87 : decode cX10_splits 87 = .ok (.iastore, 1) := by decide +kernel
theorem dX10_splits_88 : decode cX10_splits 88 = .ok (.iinc 5 1, 3) := by decide +kernel
theorem dX10_splits_91 : decode cX10_splits 91 = .ok (.goto (-18), 3) := by decide +kernel
theorem dX10_splits_94 : decode cX10_splits 94 = .ok (.iconst 0, 1) := by decide +kernel
theorem dX10_splits_95 : decode cX10_splits 95 = .ok (.istore 5, 2) := by decide +kernel
theorem dX10_splits_97 : decode cX10_splits 97 = .ok (.iload 5, 2) := by decide +kernel
theorem dX10_splits_99 : decode cX10_splits 99 = .ok (.ifCond .lt 108, 3) := by decide +kernel
theorem dX10_splits_102 : decode cX10_splits 102 = .ok (.iload 5, 2) := by decide +kernel
theorem dX10_splits_104 : decode cX10_splits 104 = .ok (.iload_n 3, 1) := by decide +kernel
theorem dX10_splits_105 : decode cX10_splits 105 = .ok (.if_icmp .ne 30, 3) := by decide +kernel
theorem dX10_splits_108 : decode cX10_splits 108 = .ok (.iload 4, 2) := by decide +kernel
theorem dX10_splits_110 : decode cX10_splits 110 = .ok (.aload_n 0, 1) := by decide +kernel
theorem dX10_splits_111 : decode cX10_splits 111 = .ok (.getfield 49, 3) := by decide +kernel
theorem dX10_splits_114 : decode cX10_splits 114 = .ok (.iload_n 3, 1) := by decide +kernel
theorem dX10_splits_115 : decode cX10_splits 115 = .ok (.invokestatic 311, 3) := by decide +kernel
theorem dX10_splits_118 : decode cX10_splits 118 = .ok (.iconst 1, 1) := by decide +kernel
theorem dX10_splits_119 : decode cX10_splits 119 = .ok (.iadd, 1) := by decide +kernel
theorem dX10_splits_120 : decode cX10_splits 120 = .ok (.iload_n 1, 1) := by decide +kernel
theorem dX10_splits_121 : decode cX10_splits 121 = .ok (.if_icmp .ne 7, 3) := by decide +kernel
theorem dX10_splits_124 : decode cX10_splits 124 = .ok (.iconst 1, 1) := by decide +kernel
theorem dX10_splits_125 : decode cX10_splits 125 = .ok (.goto 4, 3) := by decide +kernel
theorem dX10_splits_128 : decode cX10_splits 128 = .ok (.iconst 0, 1) := by decide +kernel
theorem dX10_splits_129 : decode cX10_splits 129 = .ok (.iadd, 1) := by decide +kernel
theorem dX10_splits_130 : decode cX10_splits 130 = .ok (.istore 4, 2) := by decide +kernel
theorem dX10_splits_132 : decode cX10_splits 132 = .ok (.iinc 5 (-1), 3) := by decide +kernel
theorem dX10_splits_135 : decode cX10_splits 135 = .ok (.aload_n 0, 1) := by decide +kernel
theorem dX10_splits_136 : decode cX10_splits 136 = .ok (.getfield 49, 3) := by decide +kernel
theorem dX10_splits_139 : decode cX10_splits 139 = .ok (.iload 5, 2) := by decide +kernel
theorem dX10_splits_141 : decode cX10_splits 141 = .ok (.dup2, 1) := by decide +kernel
theorem dX10_splits_142 : decode cX10_splits 142 = .ok (.iaload, 1) := by decide +kernel
theorem dX10_splits_143 : decode cX10_splits 143 = .ok (.iconst 1, 1) := by decide +kernel
theorem dX10_splits_144 : decode cX10_splits 144 = .ok (.iadd, 1) := by decide +kernel
theorem dX10_splits_145 : decode cX10_splits 145 = .ok (.iastore, 1) := by decide +kernel
theorem dX10_splits_146 : decode cX10_splits 146 = .ok (.aload_n 0, 1) := by decide +kernel
theorem dX10_splits_147 : decode cX10_splits 147 = .ok (.getfield 49, 3) := by decide +kernel
theorem dX10_splits_150 : decode cX10_splits 150 = .ok (.iload 5, 2) := by decide +kernel
theorem dX10_splits_152 : decode cX10_splits 152 = .ok (.iaload, 1) := by decide +kernel
theorem dX10_splits_153 : decode cX10_splits 153 = .ok (.aload_n 0, 1) := by decide +kernel
theorem dX10_splits_154 : decode cX10_splits 154 = .ok (.getfield 49, 3) := by decide +kernel
theorem dX10_splits_157 : decode cX10_splits 157 = .ok (.iload 5, 2) := by decide +kernel
theorem dX10_splits_159 : decode cX10_splits 159 = .ok (.invokestatic 311, 3) := by decide +kernel
theorem dX10_splits_162 : decode cX10_splits 162 = .ok (.iconst 1, 1) := by decide +kernel
theorem dX10_splits_163 : decode cX10_splits 163 = .ok (.iadd, 1) := by decide +kernel
theorem dX10_splits_164 : decode cX10_splits 164 = .ok (.if_icmp .gt 14, 3) := by decide +kernel
theorem dX10_splits_167 : decode cX10_splits 167 = .ok (.aload_n 0, 1) := by decide +kernel
theorem dX10_splits_168 : decode cX10_splits 168 = .ok (.getfield 49, 3) := by decide +kernel
theorem dX10_splits_171 : decode cX10_splits 171 = .ok (.iload 5, 2) := by decide +kernel
theorem dX10_splits_173 : decode cX10_splits 173 = .ok (.iaload, 1) := by decide +kernel
theorem dX10_splits_174 : decode cX10_splits 174 = .ok (.iload_n 1, 1) := by decide +kernel
theorem dX10_splits_175 : decode cX10_splits 175 = .ok (.if_icmp .lt 17, 3) := by decide +kernel
theorem dX10_splits_178 : decode cX10_splits 178 = .ok (.aload_n 0, 1) := by decide +kernel
theorem dX10_splits_179 : decode cX10_splits 179 = .ok (.getfield 49, 3) := by decide +kernel
theorem dX10_splits_182 : decode cX10_splits 182 = .ok (.iload 5, 2) := by decide +kernel
theorem dX10_splits_184 : decode cX10_splits 184 = .ok (.iconst (-1), 1) := by decide +kernel
theorem dX10_splits_185 : decode cX10_splits 185 = .ok (.iastore, 1) := by decide +kernel
theorem dX10_splits_186 : decode cX10_splits 186 = .ok (.iinc 5 (-1), 3) := by decide +kernel
theorem dX10_splits_189 : decode cX10_splits 189 = .ok (.goto (-92), 3) := by decide +kernel
theorem dX10_splits_192 : decode cX10_splits 192 = .ok (.aload_n 0, 1) := by decide +kernel
theorem dX10_splits_193 : decode cX10_splits 193 = .ok (.iload 5, 2) := by decide +kernel
theorem dX10_splits_195 : decode cX10_splits 195 = .ok (.invokevirtual 315, 3) := by decide +kernel
theorem dX10_splits_198 : decode cX10_splits 198 = .ok (.ifCond .eq (-101), 3) := by decide +kernel
theorem dX10_splits_201 : decode cX10_splits 201 = .ok (.iinc 5 1, 3) := by decide +kernel
theorem dX10_splits_204 : decode cX10_splits 204 = .ok (.goto (-107), 3) := by decide +kernel
theorem dX10_splits_207 : decode cX10_splits 207 = .ok (.iload 4, 2) := by decide +kernel
theorem dX10_splits_209 : decode cX10_splits 209 = .ok (.ireturn, 1) := by decide +kernel
theorem zm_X10_splits : ZMv "ClassOfManyModel" yX10_splits cX10_splits 6 (some .int) 1 := ⟨kw_7_134, kw_7_132, kw_7_133, kw_1_10, by decide +kernel, by decide⟩
def zf_X10_splits_j47 (R16 : Int32 → Int32 → ZMem → Option (Int32 × ZMem)) (v36 : Int32) (v42 : Int32) (M43 : ZMem) : Option (Int32 × ZMem) :=
  (R16 v42 (v36 + (1 : Int32)) M43)
def zf_X10_splits_L16 (v34 : Int32) (K53 : Int32 → ZMem → Option (Int32 × ZMem)) : Nat → Int32 → Int32 → ZMem → Option (Int32 × ZMem)
  | 0, _, _, _ => none
  | n16 + 1, v35, v36, M37 =>
  zrd M37 78 73 (0 : Int32) (fun v40 => (if v40 ≤ v36 then (K53 v35 M37) else zb1 (zf_X10_has v34 v36) (fun v41 => (if v41 = 0 then (zf_X10_splits_j47 (fun x0 x1 x2 => zf_X10_splits_L16 v34 K53 n16 x0 x1 x2) v36 v35 M37) else zst M37 90 10 v35 v36 (fun M44 => (zf_X10_splits_j47 (fun x0 x1 x2 => zf_X10_splits_L16 v34 K53 n16 x0 x1 x2) v36 (v35 + (1 : Int32)) M44))))))
def zf_X10_splits_L73 (K94 : ZMem → Option (Int32 × ZMem)) : Nat → Int32 → ZMem → Option (Int32 × ZMem)
  | 0, _, _ => none
  | n73 + 1, v47, M48 =>
  (if (10 : Int32) ≤ v47 then (K94 M48) else zst M48 91 10 v47 (-1 : Int32) (fun M50 => (zf_X10_splits_L73 K94 n73 (v47 + (1 : Int32)) M50)))
def zf_X10_splits_j178 (M60 : ZMem) (v58 : Int32) (R97 : Int32 → Int32 → ZMem → Option (Int32 × ZMem)) (v57 : Int32) : Option (Int32 × ZMem) :=
  zst M60 91 10 v58 (-1 : Int32) (fun M63 => (R97 v57 (v58 + (-1 : Int32)) M63))
def zf_X10_splits_j135 (M54 : ZMem) (n : Nat) (R97 : Int32 → Int32 → ZMem → Option (Int32 × ZMem)) (a1 : Int32) (v57 : Int32) (v58 : Int32) : Option (Int32 × ZMem) :=
  zrd M54 91 10 v58 (fun v59 => zst M54 91 10 v58 (v59 + (1 : Int32)) (fun M60 => zrd M60 91 10 v58 (fun v61 => zb1 (zf_X10_highest n 91 10 v58 M60) (fun v62 => (if (v62 + (1 : Int32)) < v61 then (zf_X10_splits_j178 M60 v58 R97 v57) else zrd M60 91 10 v58 (fun v64 => (if v64 < a1 then zb1 (zf_X10_stands n v58 M60) (fun v65 => (if v65 = 0 then (R97 v57 v58 M60) else (R97 v57 (v58 + (1 : Int32)) M60))) else (zf_X10_splits_j178 M60 v58 R97 v57))))))))
def zf_X10_splits_j129 (M54 : ZMem) (n : Nat) (R97 : Int32 → Int32 → ZMem → Option (Int32 × ZMem)) (a1 : Int32) (v52 : Int32) (v53 : Int32) (v67 : Int32) : Option (Int32 × ZMem) :=
  (zf_X10_splits_j135 M54 n R97 a1 (v52 + v67) (v53 + (-1 : Int32)))
def zf_X10_splits_L97 (v45 : Int32) (n : Nat) (a1 : Int32) (K207 : Int32 → ZMem → Option (Int32 × ZMem)) : Nat → Int32 → Int32 → ZMem → Option (Int32 × ZMem)
  | 0, _, _, _ => none
  | n97 + 1, v52, v53, M54 =>
  (if v53 < 0 then (K207 v52 M54) else (if v53 = v45 then zb1 (zf_X10_highest n 91 10 v45 M54) (fun v66 => (if (v66 + (1 : Int32)) = a1 then (zf_X10_splits_j129 M54 n (fun x0 x1 x2 => zf_X10_splits_L97 v45 n a1 K207 n97 x0 x1 x2) a1 v52 v53 (1 : Int32)) else (zf_X10_splits_j129 M54 n (fun x0 x1 x2 => zf_X10_splits_L97 v45 n a1 K207 n97 x0 x1 x2) a1 v52 v53 (0 : Int32)))) else (zf_X10_splits_j135 M54 n (fun x0 x1 x2 => zf_X10_splits_L97 v45 n a1 K207 n97 x0 x1 x2) a1 v52 v53)))
def zf_X10_splits_j66 (M46 : ZMem) (v70 : Int32) : Option (Int32 × ZMem) :=
  some (v70, M46)
def zf_X10_splits (n : Nat) (a1 : Int32) (M : ZMem) : Option (Int32 × ZMem) :=
  (if 0 ≤ a1 then zb1 (zf_X10_inNow M) (fun v34 => (zf_X10_splits_L16 v34 (fun v45 M46 => (if v45 = 0 then (if a1 = 0 then (zf_X10_splits_j66 M46 (1 : Int32)) else (zf_X10_splits_j66 M46 (0 : Int32))) else (zf_X10_splits_L73 (fun M51 => (zf_X10_splits_L97 v45 n a1 (fun v68 M69 => some (v68, M69)) n (0 : Int32) (0 : Int32) M51)) n (0 : Int32) M46))) n (0 : Int32) (0 : Int32) M)) else some ((-1 : Int32), M))
set_option maxHeartbeats 4000000 in
set_option maxRecDepth 100000 in
theorem zc_X10_splits {l : Launch} {D : va_G} {ad : Nat → Nat} {cA : Nat → ClassId} {n : Nat} {a1 : Int32} {M : ZMem} {r : Int32} {M' : ZMem} (hf : zf_X10_splits n a1 M = some (r, M')) : ZCt l D ad cA yX10_splits cX10_splits 6 (some .int) 3 [.ref (ad 77), .int a1] M (some (.int r)) M' := by
  refine zct (by decide +kernel) (Nat.le_of_ble_eq_true rfl) (lv := [(0, .ref (ad 77)), (1, .int a1)]) rfl (fun E hl hD had hcA hN hC hR => ?_)
  subst hl; subst hD; subst had; subst hcA
  unfold zf_X10_splits at hf
  refine zw_iload_n hC dX10_splits_0 rfl 1 rfl ?_
  refine zw_if_ge hC 6 hf dX10_splits_1 (by decide) (fun hf => ?_) (fun hf => ?_)
  · refine zw_aload_n hC dX10_splits_6 rfl 0 rfl ?_
    obtain ⟨v34, hc34, hf⟩ := zb1_some hf
    refine zw_cV hC [] [] (st1 := [.int v34]) zm_X10_inNow (zc_X10_inNow hc34) zk_77 rfl kw_7_103 dX10_splits_7 rfl (by decide) (Nat.le_of_ble_eq_true rfl) rfl rfl ?_
    refine zw_istore_n hC (lv' := [(2, .int v34), (0, .ref (zad E 77)), (1, .int a1)]) dX10_splits_10 rfl hN (by decide) rfl ?_
    refine zw_iconst hC (v := (0 : Int32)) dX10_splits_11 (by decide) ?_
    refine zw_istore_n hC (lv' := [(3, .int (0 : Int32)), (2, .int v34), (0, .ref (zad E 77)), (1, .int a1)]) dX10_splits_12 rfl hN (by decide) rfl ?_
    refine zw_iconst hC (v := (0 : Int32)) dX10_splits_13 (by decide) ?_
    refine zw_istore hC (lv' := [(4, .int (0 : Int32)), (3, .int (0 : Int32)), (2, .int v34), (0, .ref (zad E 77)), (1, .int a1)]) dX10_splits_14 hN (by decide) rfl ?_
    have hL16 : ∀ (K53 : Int32 → ZMem → Option (Int32 × ZMem)), (∀ (v38 : Int32), ∀ (M39 : ZMem), K53 v38 M39 = some (r, M') → ZW E 53 [(0, .ref (zad E 77)), (1, .int a1), (3, .int v38)] [] M39) → ∀ (n16 : Nat), ∀ (v35 : Int32), ∀ (v36 : Int32), ∀ (M37 : ZMem), zf_X10_splits_L16 v34 K53 n16 v35 v36 M37 = some (r, M') → ZW E 16 [(0, .ref (zad E 77)), (1, .int a1), (2, .int v34), (3, .int v35), (4, .int v36)] [] M37 := by
      intro K53 hK53
      intro n16
      induction n16 with
      | zero => intro v35 v36 M37 hf; rw [zf_X10_splits_L16] at hf; cases hf
      | succ n16 ih16 =>
        intro v35 v36 M37 hf
        rw [zf_X10_splits_L16] at hf
        refine zw_iload hC dX10_splits_16 4 rfl ?_
        refine zw_aload_n hC dX10_splits_18 rfl 0 rfl ?_
        refine zw_getr (k' := 78) hC zF_Model_now zk_77 rfl dX10_splits_19 kw_5_227 ?_
        refine zw_iconst hC (v := (0 : Int32)) dX10_splits_22 (by decide) ?_
        refine zw_iald hC hf zk_78 dX10_splits_23 (fun v40 hf => ?_)
        refine zw_icmp_ge hC 53 hf dX10_splits_24 (by decide) (fun hf => ?_) (fun hf => ?_)
        · exact zw_sub [0, 1, 3] rfl (hK53 v35 M37 hf)
        · refine zw_iload_n hC dX10_splits_27 rfl 2 rfl ?_
          refine zw_iload hC dX10_splits_28 4 rfl ?_
          obtain ⟨v41, hc41, hf⟩ := zb1_some hf
          refine zw_cS hC [.int v34, .int v36] [] (st1 := [.int v41]) zm_X10_has (zc_X10_has hc41) kw_6_150 dX10_splits_30 rfl (by decide) (Nat.le_of_ble_eq_true rfl) rfl rfl ?_
          have hj47 : ∀ (v42 : Int32), ∀ (M43 : ZMem), zf_X10_splits_j47 (fun x0 x1 x2 => zf_X10_splits_L16 v34 K53 n16 x0 x1 x2) v36 v42 M43 = some (r, M') → ZW E 47 [(0, .ref (zad E 77)), (1, .int a1), (2, .int v34), (3, .int v42), (4, .int v36)] [] M43 := by
            intro v42 M43 hf
            unfold zf_X10_splits_j47 at hf
            refine zw_iinc hC (v := (1 : Int32)) (lv' := [(4, .int (v36 + (1 : Int32))), (0, .ref (zad E 77)), (1, .int a1), (2, .int v34), (3, .int v42)]) dX10_splits_47 4 rfl (by decide) hN (by decide) rfl ?_
            refine zw_goto hC 16 dX10_splits_50 (by decide) ?_
            exact zw_sub [1, 2, 3, 4, 0] rfl (ih16 v42 (v36 + (1 : Int32)) M43 hf)
          refine zw_if_eq hC 47 hf dX10_splits_33 (by decide) (fun hf => ?_) (fun hf => ?_)
          · exact hj47 v35 M37 hf
          · refine zw_aload_n hC dX10_splits_36 rfl 0 rfl ?_
            refine zw_getr (k' := 90) hC zF_Model_who zk_77 rfl dX10_splits_37 kw_6_18 ?_
            refine zw_iload_n hC dX10_splits_40 rfl 3 rfl ?_
            refine zw_iload hC dX10_splits_41 4 rfl ?_
            refine zw_iast hC hf zk_90 dX10_splits_43 (fun M44 hf => ?_)
            refine zw_iinc hC (v := (1 : Int32)) (lv' := [(3, .int (v35 + (1 : Int32))), (0, .ref (zad E 77)), (1, .int a1), (2, .int v34), (4, .int v36)]) dX10_splits_44 3 rfl (by decide) hN (by decide) rfl ?_
            exact zw_sub [1, 2, 3, 0, 4] rfl (hj47 (v35 + (1 : Int32)) M44 hf)
    refine zw_sub [3, 4, 2, 1, 0] rfl (hL16 _ ?_ n (0 : Int32) (0 : Int32) M hf)
    · intro v45 M46 hf
      refine zw_iload_n hC dX10_splits_53 rfl 2 rfl ?_
      refine zw_if_ne hC 67 hf dX10_splits_54 (by decide) (fun hf => ?_) (fun hf => ?_)
      · refine zw_iconst hC (v := (0 : Int32)) dX10_splits_67 (by decide) ?_
        refine zw_istore hC (lv' := [(4, .int (0 : Int32)), (0, .ref (zad E 77)), (1, .int a1), (3, .int v45)]) dX10_splits_68 hN (by decide) rfl ?_
        refine zw_iconst hC (v := (0 : Int32)) dX10_splits_70 (by decide) ?_
        refine zw_istore hC (lv' := [(5, .int (0 : Int32)), (4, .int (0 : Int32)), (0, .ref (zad E 77)), (1, .int a1), (3, .int v45)]) dX10_splits_71 hN (by decide) rfl ?_
        have hL73 : ∀ (K94 : ZMem → Option (Int32 × ZMem)), (∀ (M49 : ZMem), K94 M49 = some (r, M') → ZW E 94 [(0, .ref (zad E 77)), (1, .int a1), (3, .int v45), (4, .int (0 : Int32))] [] M49) → ∀ (n73 : Nat), ∀ (v47 : Int32), ∀ (M48 : ZMem), zf_X10_splits_L73 K94 n73 v47 M48 = some (r, M') → ZW E 73 [(0, .ref (zad E 77)), (1, .int a1), (3, .int v45), (4, .int (0 : Int32)), (5, .int v47)] [] M48 := by
          intro K94 hK94
          intro n73
          induction n73 with
          | zero => intro v47 M48 hf; rw [zf_X10_splits_L73] at hf; cases hf
          | succ n73 ih73 =>
            intro v47 M48 hf
            rw [zf_X10_splits_L73] at hf
            refine zw_iload hC dX10_splits_73 4 rfl ?_
            refine zw_bipush hC (v := (10 : Int32)) dX10_splits_75 (by decide) ?_
            refine zw_icmp_ge hC 94 hf dX10_splits_77 (by decide) (fun hf => ?_) (fun hf => ?_)
            · exact zw_sub [0, 1, 2, 3] rfl (hK94 M48 hf)
            · refine zw_aload_n hC dX10_splits_80 rfl 0 rfl ?_
              refine zw_getr (k' := 91) hC zF_Model_its zk_77 rfl dX10_splits_81 kw_6_19 ?_
              refine zw_iload hC dX10_splits_84 4 rfl ?_
              refine zw_iconst hC (v := (-1 : Int32)) dX10_splits_86 (by decide) ?_
              refine zw_iast hC hf zk_91 dX10_splits_87 (fun M50 hf => ?_)
              refine zw_iinc hC (v := (1 : Int32)) (lv' := [(5, .int (v47 + (1 : Int32))), (0, .ref (zad E 77)), (1, .int a1), (3, .int v45), (4, .int (0 : Int32))]) dX10_splits_88 4 rfl (by decide) hN (by decide) rfl ?_
              refine zw_goto hC 73 dX10_splits_91 (by decide) ?_
              exact zw_sub [1, 2, 3, 4, 0] rfl (ih73 (v47 + (1 : Int32)) M50 hf)
        refine zw_sub [2, 3, 4, 1, 0] rfl (hL73 _ ?_ n (0 : Int32) M46 hf)
        · intro M51 hf
          refine zw_iconst hC (v := (0 : Int32)) dX10_splits_94 (by decide) ?_
          refine zw_istore hC (lv' := [(5, .int (0 : Int32)), (0, .ref (zad E 77)), (1, .int a1), (3, .int v45), (4, .int (0 : Int32))]) dX10_splits_95 hN (by decide) rfl ?_
          have hL97 : ∀ (K207 : Int32 → ZMem → Option (Int32 × ZMem)), (∀ (v55 : Int32), ∀ (M56 : ZMem), K207 v55 M56 = some (r, M') → ZW E 207 [(4, .int v55)] [] M56) → ∀ (n97 : Nat), ∀ (v52 : Int32), ∀ (v53 : Int32), ∀ (M54 : ZMem), zf_X10_splits_L97 v45 n a1 K207 n97 v52 v53 M54 = some (r, M') → ZW E 97 [(0, .ref (zad E 77)), (1, .int a1), (3, .int v45), (4, .int v52), (5, .int v53)] [] M54 := by
            intro K207 hK207
            intro n97
            induction n97 with
            | zero => intro v52 v53 M54 hf; rw [zf_X10_splits_L97] at hf; cases hf
            | succ n97 ih97 =>
              intro v52 v53 M54 hf
              rw [zf_X10_splits_L97] at hf
              refine zw_iload hC dX10_splits_97 4 rfl ?_
              refine zw_if_lt hC 207 hf dX10_splits_99 (by decide) (fun hf => ?_) (fun hf => ?_)
              · exact zw_sub [3] rfl (hK207 v52 M54 hf)
              · refine zw_iload hC dX10_splits_102 4 rfl ?_
                refine zw_iload_n hC dX10_splits_104 rfl 2 rfl ?_
                have hj135 : ∀ (v57 : Int32), ∀ (v58 : Int32), zf_X10_splits_j135 M54 n (fun x0 x1 x2 => zf_X10_splits_L97 v45 n a1 K207 n97 x0 x1 x2) a1 v57 v58 = some (r, M') → ZW E 135 [(0, .ref (zad E 77)), (1, .int a1), (3, .int v45), (4, .int v57), (5, .int v58)] [] M54 := by
                  intro v57 v58 hf
                  unfold zf_X10_splits_j135 at hf
                  refine zw_aload_n hC dX10_splits_135 rfl 0 rfl ?_
                  refine zw_getr (k' := 91) hC zF_Model_its zk_77 rfl dX10_splits_136 kw_6_19 ?_
                  refine zw_iload hC dX10_splits_139 4 rfl ?_
                  refine zw_dup2 hC dX10_splits_141 rfl rfl ?_
                  refine zw_iald hC hf zk_91 dX10_splits_142 (fun v59 hf => ?_)
                  refine zw_iconst hC (v := (1 : Int32)) dX10_splits_143 (by decide) ?_
                  refine zw_iadd hC dX10_splits_144 ?_
                  refine zw_iast hC hf zk_91 dX10_splits_145 (fun M60 hf => ?_)
                  refine zw_aload_n hC dX10_splits_146 rfl 0 rfl ?_
                  refine zw_getr (k' := 91) hC zF_Model_its zk_77 rfl dX10_splits_147 kw_6_19 ?_
                  refine zw_iload hC dX10_splits_150 4 rfl ?_
                  refine zw_iald hC hf zk_91 dX10_splits_152 (fun v61 hf => ?_)
                  refine zw_aload_n hC dX10_splits_153 rfl 0 rfl ?_
                  refine zw_getr (k' := 91) hC zF_Model_its zk_77 rfl dX10_splits_154 kw_6_19 ?_
                  refine zw_iload hC dX10_splits_157 4 rfl ?_
                  obtain ⟨v62, hc62, hf⟩ := zb1_some hf
                  refine zw_cS hC [.ref (zad E 91), .int v58] [.int v61] (st1 := [.int v62, .int v61]) zm_X10_highest (zc_X10_highest zk_91 hc62) kw_7_135 dX10_splits_159 rfl (by decide) (Nat.le_of_ble_eq_true rfl) rfl rfl ?_
                  refine zw_iconst hC (v := (1 : Int32)) dX10_splits_162 (by decide) ?_
                  refine zw_iadd hC dX10_splits_163 ?_
                  have hj178 : zf_X10_splits_j178 M60 v58 (fun x0 x1 x2 => zf_X10_splits_L97 v45 n a1 K207 n97 x0 x1 x2) v57 = some (r, M') → ZW E 178 [(0, .ref (zad E 77)), (1, .int a1), (3, .int v45), (4, .int v57), (5, .int v58)] [] M60 := by
                    intro  hf
                    unfold zf_X10_splits_j178 at hf
                    refine zw_aload_n hC dX10_splits_178 rfl 0 rfl ?_
                    refine zw_getr (k' := 91) hC zF_Model_its zk_77 rfl dX10_splits_179 kw_6_19 ?_
                    refine zw_iload hC dX10_splits_182 4 rfl ?_
                    refine zw_iconst hC (v := (-1 : Int32)) dX10_splits_184 (by decide) ?_
                    refine zw_iast hC hf zk_91 dX10_splits_185 (fun M63 hf => ?_)
                    refine zw_iinc hC (v := (-1 : Int32)) (lv' := [(5, .int (v58 + (-1 : Int32))), (0, .ref (zad E 77)), (1, .int a1), (3, .int v45), (4, .int v57)]) dX10_splits_186 4 rfl (by decide) hN (by decide) rfl ?_
                    refine zw_goto hC 97 dX10_splits_189 (by decide) ?_
                    exact zw_sub [1, 2, 3, 4, 0] rfl (ih97 v57 (v58 + (-1 : Int32)) M63 hf)
                  refine zw_icmp_gt hC 178 hf dX10_splits_164 (by decide) (fun hf => ?_) (fun hf => ?_)
                  · exact hj178 hf
                  · refine zw_aload_n hC dX10_splits_167 rfl 0 rfl ?_
                    refine zw_getr (k' := 91) hC zF_Model_its zk_77 rfl dX10_splits_168 kw_6_19 ?_
                    refine zw_iload hC dX10_splits_171 4 rfl ?_
                    refine zw_iald hC hf zk_91 dX10_splits_173 (fun v64 hf => ?_)
                    refine zw_iload_n hC dX10_splits_174 rfl 1 rfl ?_
                    refine zw_icmp_lt hC 192 hf dX10_splits_175 (by decide) (fun hf => ?_) (fun hf => ?_)
                    · refine zw_aload_n hC dX10_splits_192 rfl 0 rfl ?_
                      refine zw_iload hC dX10_splits_193 4 rfl ?_
                      obtain ⟨v65, hc65, hf⟩ := zb1_some hf
                      refine zw_cV hC [.int v58] [] (st1 := [.int v65]) zm_X10_stands (zc_X10_stands hc65) zk_77 rfl kw_7_138 dX10_splits_195 rfl (by decide) (Nat.le_of_ble_eq_true rfl) rfl rfl ?_
                      refine zw_if_eq hC 97 hf dX10_splits_198 (by decide) (fun hf => ?_) (fun hf => ?_)
                      · exact ih97 v57 v58 M60 hf
                      · refine zw_iinc hC (v := (1 : Int32)) (lv' := [(5, .int (v58 + (1 : Int32))), (0, .ref (zad E 77)), (1, .int a1), (3, .int v45), (4, .int v57)]) dX10_splits_201 4 rfl (by decide) hN (by decide) rfl ?_
                        refine zw_goto hC 97 dX10_splits_204 (by decide) ?_
                        exact zw_sub [1, 2, 3, 4, 0] rfl (ih97 v57 (v58 + (1 : Int32)) M60 hf)
                    · exact hj178 hf
                refine zw_icmp_ne hC 135 hf dX10_splits_105 (by decide) (fun hf => ?_) (fun hf => ?_)
                · exact hj135 v52 v53 hf
                · refine zw_iload hC dX10_splits_108 3 rfl ?_
                  refine zw_aload_n hC dX10_splits_110 rfl 0 rfl ?_
                  refine zw_getr (k' := 91) hC zF_Model_its zk_77 rfl dX10_splits_111 kw_6_19 ?_
                  refine zw_iload_n hC dX10_splits_114 rfl 2 rfl ?_
                  obtain ⟨v66, hc66, hf⟩ := zb1_some hf
                  refine zw_cS hC [.ref (zad E 91), .int v45] [.int v52] (st1 := [.int v66, .int v52]) zm_X10_highest (zc_X10_highest zk_91 hc66) kw_7_135 dX10_splits_115 rfl (by decide) (Nat.le_of_ble_eq_true rfl) rfl rfl ?_
                  refine zw_iconst hC (v := (1 : Int32)) dX10_splits_118 (by decide) ?_
                  refine zw_iadd hC dX10_splits_119 ?_
                  refine zw_iload_n hC dX10_splits_120 rfl 1 rfl ?_
                  have hj129 : ∀ (v67 : Int32), zf_X10_splits_j129 M54 n (fun x0 x1 x2 => zf_X10_splits_L97 v45 n a1 K207 n97 x0 x1 x2) a1 v52 v53 v67 = some (r, M') → ZW E 129 [(0, .ref (zad E 77)), (1, .int a1), (3, .int v45), (5, .int v53)] [.int v67, .int v52] M54 := by
                    intro v67 hf
                    unfold zf_X10_splits_j129 at hf
                    refine zw_iadd hC dX10_splits_129 ?_
                    refine zw_istore hC (lv' := [(4, .int (v52 + v67)), (0, .ref (zad E 77)), (1, .int a1), (3, .int v45), (5, .int v53)]) dX10_splits_130 hN (by decide) rfl ?_
                    refine zw_iinc hC (v := (-1 : Int32)) (lv' := [(5, .int (v53 + (-1 : Int32))), (4, .int (v52 + v67)), (0, .ref (zad E 77)), (1, .int a1), (3, .int v45)]) dX10_splits_132 4 rfl (by decide) hN (by decide) rfl ?_
                    exact zw_sub [2, 3, 4, 1, 0] rfl (hj135 (v52 + v67) (v53 + (-1 : Int32)) hf)
                  refine zw_icmp_ne hC 128 hf dX10_splits_121 (by decide) (fun hf => ?_) (fun hf => ?_)
                  · refine zw_iconst hC (v := (0 : Int32)) dX10_splits_128 (by decide) ?_
                    exact zw_sub [0, 1, 2, 4] rfl (hj129 (0 : Int32) hf)
                  · refine zw_iconst hC (v := (1 : Int32)) dX10_splits_124 (by decide) ?_
                    refine zw_goto hC 129 dX10_splits_125 (by decide) ?_
                    exact zw_sub [0, 1, 2, 4] rfl (hj129 (1 : Int32) hf)
          refine zw_sub [1, 2, 3, 4, 0] rfl (hL97 _ ?_ n (0 : Int32) (0 : Int32) M51 hf)
          · intro v68 M69 hf
            refine zw_iload hC dX10_splits_207 0 rfl ?_
            obtain ⟨h1, h2⟩ := Prod.mk.inj (Option.some.inj hf)
            subst h1; subst h2
            exact zw_iret hC hR dX10_splits_209
      · refine zw_iload_n hC dX10_splits_57 rfl 1 rfl ?_
        have hj66 : ∀ (v70 : Int32), zf_X10_splits_j66 M46 v70 = some (r, M') → ZW E 66 [] [.int v70] M46 := by
          intro v70 hf
          unfold zf_X10_splits_j66 at hf
          obtain ⟨h1, h2⟩ := Prod.mk.inj (Option.some.inj hf)
          subst h1; subst h2
          exact zw_iret hC hR dX10_splits_66
        refine zw_if_ne hC 65 hf dX10_splits_58 (by decide) (fun hf => ?_) (fun hf => ?_)
        · refine zw_iconst hC (v := (0 : Int32)) dX10_splits_65 (by decide) ?_
          exact zw_sub [] rfl (hj66 (0 : Int32) hf)
        · refine zw_iconst hC (v := (1 : Int32)) dX10_splits_61 (by decide) ?_
          refine zw_goto hC 66 dX10_splits_62 (by decide) ?_
          exact zw_sub [] rfl (hj66 (1 : Int32) hf)
  · refine zw_iconst hC (v := (-1 : Int32)) dX10_splits_4 (by decide) ?_
    obtain ⟨h1, h2⟩ := Prod.mk.inj (Option.some.inj hf)
    subst h1; subst h2
    exact zw_iret hC hR dX10_splits_5
/-! ClassOfManyModel.feud()I -/
theorem dX10_feud_0 : decode cX10_feud 0 = .ok (.aload_n 0, 1) := by decide +kernel
theorem dX10_feud_1 : decode cX10_feud 1 = .ok (.invokevirtual 226, 3) := by decide +kernel
theorem dX10_feud_4 : decode cX10_feud 4 = .ok (.istore_n 1, 1) := by decide +kernel
theorem dX10_feud_5 : decode cX10_feud 5 = .ok (.iconst 0, 1) := by decide +kernel
theorem dX10_feud_6 : decode cX10_feud 6 = .ok (.istore_n 2, 1) := by decide +kernel
theorem dX10_feud_7 : decode cX10_feud 7 = .ok (.iconst 0, 1) := by decide +kernel
theorem dX10_feud_8 : decode cX10_feud 8 = .ok (.istore_n 3, 1) := by decide +kernel
theorem dX10_feud_9 : decode cX10_feud 9 = .ok (.iload_n 3, 1) := by decide +kernel
theorem dX10_feud_10 : decode cX10_feud 10 = .ok (.iload_n 1, 1) := by decide +kernel
theorem dX10_feud_11 : decode cX10_feud 11 = .ok (.if_icmp .gt 107, 3) := by decide +kernel
theorem dX10_feud_14 : decode cX10_feud 14 = .ok (.iload_n 3, 1) := by decide +kernel
theorem dX10_feud_15 : decode cX10_feud 15 = .ok (.iload_n 1, 1) := by decide +kernel
theorem dX10_feud_16 : decode cX10_feud 16 = .ok (.iconst (-1), 1) := by decide +kernel
theorem dX10_feud_17 : decode cX10_feud 17 = .ok (.ixor, 1) := by decide +kernel
theorem dX10_feud_18 : decode cX10_feud 18 = .ok (.iand, 1) := by decide +kernel
theorem dX10_feud_19 : decode cX10_feud 19 = .ok (.ifCond .ne 93, 3) := by decide +kernel
theorem dX10_feud_22 : decode cX10_feud 22 = .ok (.iload_n 3, 1) := by decide +kernel
theorem dX10_feud_23 : decode cX10_feud 23 = .ok (.invokestatic 262, 3) := by decide +kernel
theorem dX10_feud_26 : decode cX10_feud 26 = .ok (.iload_n 2, 1) := by decide +kernel
theorem dX10_feud_27 : decode cX10_feud 27 = .ok (.invokestatic 262, 3) := by decide +kernel
theorem dX10_feud_30 : decode cX10_feud 30 = .ok (.if_icmp .gt 6, 3) := by decide +kernel
theorem dX10_feud_33 : decode cX10_feud 33 = .ok (.goto 79, 3) := by decide +kernel
theorem dX10_feud_36 : decode cX10_feud 36 = .ok (.iconst 1, 1) := by decide +kernel
theorem dX10_feud_37 : decode cX10_feud 37 = .ok (.istore 4, 2) := by decide +kernel
theorem dX10_feud_39 : decode cX10_feud 39 = .ok (.iconst 0, 1) := by decide +kernel
theorem dX10_feud_40 : decode cX10_feud 40 = .ok (.istore 5, 2) := by decide +kernel
theorem dX10_feud_42 : decode cX10_feud 42 = .ok (.iload 5, 2) := by decide +kernel
theorem dX10_feud_44 : decode cX10_feud 44 = .ok (.aload_n 0, 1) := by decide +kernel
theorem dX10_feud_45 : decode cX10_feud 45 = .ok (.getfield 7, 3) := by decide +kernel
theorem dX10_feud_48 : decode cX10_feud 48 = .ok (.iconst 0, 1) := by decide +kernel
theorem dX10_feud_49 : decode cX10_feud 49 = .ok (.iaload, 1) := by decide +kernel
theorem dX10_feud_50 : decode cX10_feud 50 = .ok (.if_icmp .ge 51, 3) := by decide +kernel
theorem dX10_feud_53 : decode cX10_feud 53 = .ok (.iload 4, 2) := by decide +kernel
theorem dX10_feud_55 : decode cX10_feud 55 = .ok (.ifCond .eq 37, 3) := by decide +kernel
theorem dX10_feud_58 : decode cX10_feud 58 = .ok (.iload_n 3, 1) := by decide +kernel
theorem dX10_feud_59 : decode cX10_feud 59 = .ok (.iload 5, 2) := by decide +kernel
theorem dX10_feud_61 : decode cX10_feud 61 = .ok (.invokestatic 118, 3) := by decide +kernel
theorem dX10_feud_64 : decode cX10_feud 64 = .ok (.ifCond .eq 24, 3) := by decide +kernel
theorem dX10_feud_67 : decode cX10_feud 67 = .ok (.iload_n 3, 1) := by decide +kernel
theorem dX10_feud_68 : decode cX10_feud 68 = .ok (.aload_n 0, 1) := by decide +kernel
theorem dX10_feud_69 : decode cX10_feud 69 = .ok (.getfield 7, 3) := by decide +kernel
theorem dX10_feud_72 : decode cX10_feud 72 = .ok (.bipush 63, 2) := by decide +kernel
theorem dX10_feud_74 : decode cX10_feud 74 = .ok (.iload 5, 2) := by decide +kernel
theorem dX10_feud_76 : decode cX10_feud 76 = .ok (.iadd, 1) := by decide +kernel
theorem dX10_feud_77 : decode cX10_feud 77 = .ok (.iaload, 1) := by decide +kernel
theorem dX10_feud_78 : decode cX10_feud 78 = .ok (.iconst (-1), 1) := by decide +kernel
theorem dX10_feud_79 : decode cX10_feud 79 = .ok (.ixor, 1) := by decide +kernel
theorem dX10_feud_80 : decode cX10_feud 80 = .ok (.iand, 1) := by decide +kernel
theorem dX10_feud_81 : decode cX10_feud 81 = .ok (.iconst 1, 1) := by decide +kernel
theorem dX10_feud_82 : decode cX10_feud 82 = .ok (.iload 5, 2) := by decide +kernel
theorem dX10_feud_84 : decode cX10_feud 84 = .ok (.ishl, 1) := by decide +kernel
theorem dX10_feud_85 : decode cX10_feud 85 = .ok (.if_icmp .ne 7, 3) := by decide +kernel
theorem dX10_feud_88 : decode cX10_feud 88 = .ok (.iconst 1, 1) := by decide +kernel
theorem dX10_feud_89 : decode cX10_feud 89 = .ok (.goto 4, 3) := by decide +kernel
theorem dX10_feud_92 : decode cX10_feud 92 = .ok (.iconst 0, 1) := by decide +kernel
theorem dX10_feud_93 : decode cX10_feud 93 = .ok (.istore 4, 2) := by decide +kernel
theorem dX10_feud_95 : decode cX10_feud 95 = .ok (.iinc 5 1, 3) := by decide +kernel
theorem dX10_feud_98 : decode cX10_feud 98 = .ok (.goto (-56), 3) := by decide +kernel
theorem dX10_feud_101 : decode cX10_feud 101 = .ok (.iload 4, 2) := by decide +kernel
theorem dX10_feud_103 : decode cX10_feud 103 = .ok (.ifCond .eq 7, 3) := by decide +kernel
theorem dX10_feud_106 : decode cX10_feud 106 = .ok (.iload_n 3, 1) := by decide +kernel
theorem dX10_feud_107 : decode cX10_feud 107 = .ok (.goto 4, 3) := by decide +kernel
theorem dX10_feud_110 : decode cX10_feud 110 = .ok (.iload_n 2, 1) := by decide +kernel
theorem dX10_feud_111 : decode cX10_feud 111 = .ok (.istore_n 2, 1) := by decide +kernel
theorem dX10_feud_112 : decode cX10_feud 112 = .ok (.iinc 3 1, 3) := by decide +kernel
theorem dX10_feud_115 : decode cX10_feud 115 = .ok (.goto (-106), 3) := by decide +kernel
theorem dX10_feud_118 : decode cX10_feud 118 = .ok (.iload_n 2, 1) := by decide +kernel
theorem dX10_feud_119 : decode cX10_feud 119 = .ok (.ireturn, 1) := by decide +kernel
theorem zm_X10_feud : ZMv "ClassOfManyModel" yX10_feud cX10_feud 6 (some .int) 0 := ⟨kw_7_145, kw_7_143, kw_7_144, kw_1_10, by decide +kernel, by decide⟩
def zf_X10_feud_j112 (R9 : Int32 → Int32 → Option (Int32)) (v29 : Int32) (v31 : Int32) : Option (Int32) :=
  (R9 v31 (v29 + (1 : Int32)))
def zf_X10_feud_j93 (R42 : Int32 → Int32 → Option (Int32)) (v35 : Int32) (v38 : Int32) : Option (Int32) :=
  (R42 v38 (v35 + (1 : Int32)))
def zf_X10_feud_j92 (R42 : Int32 → Int32 → Option (Int32)) (v35 : Int32) : Option (Int32) :=
  (zf_X10_feud_j93 R42 v35 (0 : Int32))
def zf_X10_feud_j88 (R42 : Int32 → Int32 → Option (Int32)) (v35 : Int32) : Option (Int32) :=
  (zf_X10_feud_j93 R42 v35 (1 : Int32))
def zf_X10_feud_L42 (M : ZMem) (v29 : Int32) (K101 : Int32 → Option (Int32)) : Nat → Int32 → Int32 → Option (Int32)
  | 0, _, _ => none
  | n42 + 1, v34, v35 =>
  zrd M 78 73 (0 : Int32) (fun v37 => (if v37 ≤ v35 then (K101 v34) else (if v34 = 0 then (zf_X10_feud_j92 (fun x0 x1 => zf_X10_feud_L42 M v29 K101 n42 x0 x1) v35) else zb1 (zf_X10_has v29 v35) (fun v39 => (if v39 = 0 then (zf_X10_feud_j88 (fun x0 x1 => zf_X10_feud_L42 M v29 K101 n42 x0 x1) v35) else zrd M 78 73 ((63 : Int32) + v35) (fun v40 => (if (v29 &&& (v40 ^^^ (-1 : Int32))) = ((1 : Int32) <<< (v35 &&& 31)) then (zf_X10_feud_j88 (fun x0 x1 => zf_X10_feud_L42 M v29 K101 n42 x0 x1) v35) else (zf_X10_feud_j92 (fun x0 x1 => zf_X10_feud_L42 M v29 K101 n42 x0 x1) v35))))))))
def zf_X10_feud_j111 (R9 : Int32 → Int32 → Option (Int32)) (v29 : Int32) (v42 : Int32) : Option (Int32) :=
  (zf_X10_feud_j112 R9 v29 v42)
def zf_X10_feud_L9 (v27 : Int32) (n : Nat) (M : ZMem) (K118 : Int32 → Option (Int32)) : Nat → Int32 → Int32 → Option (Int32)
  | 0, _, _ => none
  | n9 + 1, v28, v29 =>
  (if v27 < v29 then (K118 v28) else (if (v29 &&& (v27 ^^^ (-1 : Int32))) = 0 then zb1 (zf_X10_bits n v29) (fun v32 => zb1 (zf_X10_bits n v28) (fun v33 => (if v33 < v32 then (zf_X10_feud_L42 M v29 (fun v41 => (if v41 = 0 then (zf_X10_feud_j111 (fun x0 x1 => zf_X10_feud_L9 v27 n M K118 n9 x0 x1) v29 v28) else (zf_X10_feud_j111 (fun x0 x1 => zf_X10_feud_L9 v27 n M K118 n9 x0 x1) v29 v29))) n (1 : Int32) (0 : Int32)) else (zf_X10_feud_j112 (fun x0 x1 => zf_X10_feud_L9 v27 n M K118 n9 x0 x1) v29 v28)))) else (zf_X10_feud_j112 (fun x0 x1 => zf_X10_feud_L9 v27 n M K118 n9 x0 x1) v29 v28)))
def zf_X10_feud (n : Nat) (M : ZMem) : Option (Int32) :=
  zb1 (zf_X10_inNow M) (fun v27 => (zf_X10_feud_L9 v27 n M (fun v43 => some v43) n (0 : Int32) (0 : Int32)))
set_option maxHeartbeats 4000000 in
set_option maxRecDepth 100000 in
theorem zc_X10_feud {l : Launch} {D : va_G} {ad : Nat → Nat} {cA : Nat → ClassId} {n : Nat} {M : ZMem} {r : Int32} (hf : zf_X10_feud n M = some r) : ZCt l D ad cA yX10_feud cX10_feud 6 (some .int) 3 [.ref (ad 77)] M (some (.int r)) M := by
  refine zct (by decide +kernel) (Nat.le_of_ble_eq_true rfl) (lv := [(0, .ref (ad 77))]) rfl (fun E hl hD had hcA hN hC hR => ?_)
  subst hl; subst hD; subst had; subst hcA
  unfold zf_X10_feud at hf
  refine zw_aload_n hC dX10_feud_0 rfl 0 rfl ?_
  obtain ⟨v27, hc27, hf⟩ := zb1_some hf
  refine zw_cV hC [] [] (st1 := [.int v27]) zm_X10_inNow (zc_X10_inNow hc27) zk_77 rfl kw_7_103 dX10_feud_1 rfl (by decide) (Nat.le_of_ble_eq_true rfl) rfl rfl ?_
  refine zw_istore_n hC (lv' := [(1, .int v27), (0, .ref (zad E 77))]) dX10_feud_4 rfl hN (by decide) rfl ?_
  refine zw_iconst hC (v := (0 : Int32)) dX10_feud_5 (by decide) ?_
  refine zw_istore_n hC (lv' := [(2, .int (0 : Int32)), (1, .int v27), (0, .ref (zad E 77))]) dX10_feud_6 rfl hN (by decide) rfl ?_
  refine zw_iconst hC (v := (0 : Int32)) dX10_feud_7 (by decide) ?_
  refine zw_istore_n hC (lv' := [(3, .int (0 : Int32)), (2, .int (0 : Int32)), (1, .int v27), (0, .ref (zad E 77))]) dX10_feud_8 rfl hN (by decide) rfl ?_
  have hL9 : ∀ (K118 : Int32 → Option (Int32)), (∀ (v30 : Int32), K118 v30 = some r → ZW E 118 [(2, .int v30)] [] M) → ∀ (n9 : Nat), ∀ (v28 : Int32), ∀ (v29 : Int32), zf_X10_feud_L9 v27 n M K118 n9 v28 v29 = some r → ZW E 9 [(0, .ref (zad E 77)), (1, .int v27), (2, .int v28), (3, .int v29)] [] M := by
    intro K118 hK118
    intro n9
    induction n9 with
    | zero => intro v28 v29 hf; rw [zf_X10_feud_L9] at hf; cases hf
    | succ n9 ih9 =>
      intro v28 v29 hf
      rw [zf_X10_feud_L9] at hf
      refine zw_iload_n hC dX10_feud_9 rfl 3 rfl ?_
      refine zw_iload_n hC dX10_feud_10 rfl 1 rfl ?_
      refine zw_icmp_gt hC 118 hf dX10_feud_11 (by decide) (fun hf => ?_) (fun hf => ?_)
      · exact zw_sub [2] rfl (hK118 v28 hf)
      · refine zw_iload_n hC dX10_feud_14 rfl 3 rfl ?_
        refine zw_iload_n hC dX10_feud_15 rfl 1 rfl ?_
        refine zw_iconst hC (v := (-1 : Int32)) dX10_feud_16 (by decide) ?_
        refine zw_ixor hC dX10_feud_17 ?_
        refine zw_iand hC dX10_feud_18 ?_
        have hj112 : ∀ (v31 : Int32), zf_X10_feud_j112 (fun x0 x1 => zf_X10_feud_L9 v27 n M K118 n9 x0 x1) v29 v31 = some r → ZW E 112 [(0, .ref (zad E 77)), (1, .int v27), (2, .int v31), (3, .int v29)] [] M := by
          intro v31 hf
          unfold zf_X10_feud_j112 at hf
          refine zw_iinc hC (v := (1 : Int32)) (lv' := [(3, .int (v29 + (1 : Int32))), (0, .ref (zad E 77)), (1, .int v27), (2, .int v31)]) dX10_feud_112 3 rfl (by decide) hN (by decide) rfl ?_
          refine zw_goto hC 9 dX10_feud_115 (by decide) ?_
          exact zw_sub [1, 2, 3, 0] rfl (ih9 v31 (v29 + (1 : Int32)) hf)
        refine zw_if_ne hC 112 hf dX10_feud_19 (by decide) (fun hf => ?_) (fun hf => ?_)
        · exact hj112 v28 hf
        · refine zw_iload_n hC dX10_feud_22 rfl 3 rfl ?_
          obtain ⟨v32, hc32, hf⟩ := zb1_some hf
          refine zw_cS hC [.int v29] [] (st1 := [.int v32]) zm_X10_bits (zc_X10_bits hc32) kw_7_21 dX10_feud_23 rfl (by decide) (Nat.le_of_ble_eq_true rfl) rfl rfl ?_
          refine zw_iload_n hC dX10_feud_26 rfl 2 rfl ?_
          obtain ⟨v33, hc33, hf⟩ := zb1_some hf
          refine zw_cS hC [.int v28] [.int v32] (st1 := [.int v33, .int v32]) zm_X10_bits (zc_X10_bits hc33) kw_7_21 dX10_feud_27 rfl (by decide) (Nat.le_of_ble_eq_true rfl) rfl rfl ?_
          refine zw_icmp_gt hC 36 hf dX10_feud_30 (by decide) (fun hf => ?_) (fun hf => ?_)
          · refine zw_iconst hC (v := (1 : Int32)) dX10_feud_36 (by decide) ?_
            refine zw_istore hC (lv' := [(4, .int (1 : Int32)), (0, .ref (zad E 77)), (1, .int v27), (2, .int v28), (3, .int v29)]) dX10_feud_37 hN (by decide) rfl ?_
            refine zw_iconst hC (v := (0 : Int32)) dX10_feud_39 (by decide) ?_
            refine zw_istore hC (lv' := [(5, .int (0 : Int32)), (4, .int (1 : Int32)), (0, .ref (zad E 77)), (1, .int v27), (2, .int v28), (3, .int v29)]) dX10_feud_40 hN (by decide) rfl ?_
            have hL42 : ∀ (K101 : Int32 → Option (Int32)), (∀ (v36 : Int32), K101 v36 = some r → ZW E 101 [(0, .ref (zad E 77)), (1, .int v27), (2, .int v28), (3, .int v29), (4, .int v36)] [] M) → ∀ (n42 : Nat), ∀ (v34 : Int32), ∀ (v35 : Int32), zf_X10_feud_L42 M v29 K101 n42 v34 v35 = some r → ZW E 42 [(0, .ref (zad E 77)), (1, .int v27), (2, .int v28), (3, .int v29), (4, .int v34), (5, .int v35)] [] M := by
              intro K101 hK101
              intro n42
              induction n42 with
              | zero => intro v34 v35 hf; rw [zf_X10_feud_L42] at hf; cases hf
              | succ n42 ih42 =>
                intro v34 v35 hf
                rw [zf_X10_feud_L42] at hf
                refine zw_iload hC dX10_feud_42 5 rfl ?_
                refine zw_aload_n hC dX10_feud_44 rfl 0 rfl ?_
                refine zw_getr (k' := 78) hC zF_Model_now zk_77 rfl dX10_feud_45 kw_5_227 ?_
                refine zw_iconst hC (v := (0 : Int32)) dX10_feud_48 (by decide) ?_
                refine zw_iald hC hf zk_78 dX10_feud_49 (fun v37 hf => ?_)
                refine zw_icmp_ge hC 101 hf dX10_feud_50 (by decide) (fun hf => ?_) (fun hf => ?_)
                · exact zw_sub [0, 1, 2, 3, 4] rfl (hK101 v34 hf)
                · refine zw_iload hC dX10_feud_53 4 rfl ?_
                  have hj93 : ∀ (v38 : Int32), zf_X10_feud_j93 (fun x0 x1 => zf_X10_feud_L42 M v29 K101 n42 x0 x1) v35 v38 = some r → ZW E 93 [(0, .ref (zad E 77)), (1, .int v27), (2, .int v28), (3, .int v29), (5, .int v35)] [.int v38] M := by
                    intro v38 hf
                    unfold zf_X10_feud_j93 at hf
                    refine zw_istore hC (lv' := [(4, .int v38), (0, .ref (zad E 77)), (1, .int v27), (2, .int v28), (3, .int v29), (5, .int v35)]) dX10_feud_93 hN (by decide) rfl ?_
                    refine zw_iinc hC (v := (1 : Int32)) (lv' := [(5, .int (v35 + (1 : Int32))), (4, .int v38), (0, .ref (zad E 77)), (1, .int v27), (2, .int v28), (3, .int v29)]) dX10_feud_95 5 rfl (by decide) hN (by decide) rfl ?_
                    refine zw_goto hC 42 dX10_feud_98 (by decide) ?_
                    exact zw_sub [2, 3, 4, 5, 1, 0] rfl (ih42 v38 (v35 + (1 : Int32)) hf)
                  have hj92 : zf_X10_feud_j92 (fun x0 x1 => zf_X10_feud_L42 M v29 K101 n42 x0 x1) v35 = some r → ZW E 92 [(0, .ref (zad E 77)), (1, .int v27), (2, .int v28), (3, .int v29), (5, .int v35)] [] M := by
                    intro  hf
                    unfold zf_X10_feud_j92 at hf
                    refine zw_iconst hC (v := (0 : Int32)) dX10_feud_92 (by decide) ?_
                    exact hj93 (0 : Int32) hf
                  refine zw_if_eq hC 92 hf dX10_feud_55 (by decide) (fun hf => ?_) (fun hf => ?_)
                  · exact zw_sub [0, 1, 2, 3, 5] rfl (hj92 hf)
                  · refine zw_iload_n hC dX10_feud_58 rfl 3 rfl ?_
                    refine zw_iload hC dX10_feud_59 5 rfl ?_
                    obtain ⟨v39, hc39, hf⟩ := zb1_some hf
                    refine zw_cS hC [.int v29, .int v35] [] (st1 := [.int v39]) zm_X10_has (zc_X10_has hc39) kw_6_150 dX10_feud_61 rfl (by decide) (Nat.le_of_ble_eq_true rfl) rfl rfl ?_
                    have hj88 : zf_X10_feud_j88 (fun x0 x1 => zf_X10_feud_L42 M v29 K101 n42 x0 x1) v35 = some r → ZW E 88 [(0, .ref (zad E 77)), (1, .int v27), (2, .int v28), (3, .int v29), (5, .int v35)] [] M := by
                      intro  hf
                      unfold zf_X10_feud_j88 at hf
                      refine zw_iconst hC (v := (1 : Int32)) dX10_feud_88 (by decide) ?_
                      refine zw_goto hC 93 dX10_feud_89 (by decide) ?_
                      exact hj93 (1 : Int32) hf
                    refine zw_if_eq hC 88 hf dX10_feud_64 (by decide) (fun hf => ?_) (fun hf => ?_)
                    · exact zw_sub [0, 1, 2, 3, 5] rfl (hj88 hf)
                    · refine zw_iload_n hC dX10_feud_67 rfl 3 rfl ?_
                      refine zw_aload_n hC dX10_feud_68 rfl 0 rfl ?_
                      refine zw_getr (k' := 78) hC zF_Model_now zk_77 rfl dX10_feud_69 kw_5_227 ?_
                      refine zw_bipush hC (v := (63 : Int32)) dX10_feud_72 (by decide) ?_
                      refine zw_iload hC dX10_feud_74 5 rfl ?_
                      refine zw_iadd hC dX10_feud_76 ?_
                      refine zw_iald hC hf zk_78 dX10_feud_77 (fun v40 hf => ?_)
                      refine zw_iconst hC (v := (-1 : Int32)) dX10_feud_78 (by decide) ?_
                      refine zw_ixor hC dX10_feud_79 ?_
                      refine zw_iand hC dX10_feud_80 ?_
                      refine zw_iconst hC (v := (1 : Int32)) dX10_feud_81 (by decide) ?_
                      refine zw_iload hC dX10_feud_82 5 rfl ?_
                      refine zw_ishl hC dX10_feud_84 ?_
                      refine zw_icmp_ne hC 92 hf dX10_feud_85 (by decide) (fun hf => ?_) (fun hf => ?_)
                      · exact zw_sub [0, 1, 2, 3, 5] rfl (hj92 hf)
                      · exact zw_sub [0, 1, 2, 3, 5] rfl (hj88 hf)
            refine zw_sub [2, 3, 4, 5, 1, 0] rfl (hL42 _ ?_ n (1 : Int32) (0 : Int32) hf)
            · intro v41 hf
              refine zw_iload hC dX10_feud_101 4 rfl ?_
              have hj111 : ∀ (v42 : Int32), zf_X10_feud_j111 (fun x0 x1 => zf_X10_feud_L9 v27 n M K118 n9 x0 x1) v29 v42 = some r → ZW E 111 [(0, .ref (zad E 77)), (1, .int v27), (3, .int v29)] [.int v42] M := by
                intro v42 hf
                unfold zf_X10_feud_j111 at hf
                refine zw_istore_n hC (lv' := [(2, .int v42), (0, .ref (zad E 77)), (1, .int v27), (3, .int v29)]) dX10_feud_111 rfl hN (by decide) rfl ?_
                exact zw_sub [1, 2, 0, 3] rfl (hj112 v42 hf)
              refine zw_if_eq hC 110 hf dX10_feud_103 (by decide) (fun hf => ?_) (fun hf => ?_)
              · refine zw_iload_n hC dX10_feud_110 rfl 2 rfl ?_
                exact zw_sub [0, 1, 3] rfl (hj111 v28 hf)
              · refine zw_iload_n hC dX10_feud_106 rfl 3 rfl ?_
                refine zw_goto hC 111 dX10_feud_107 (by decide) ?_
                exact zw_sub [0, 1, 3] rfl (hj111 v29 hf)
          · refine zw_goto hC 112 dX10_feud_33 (by decide) ?_
            exact hj112 v28 hf
  refine zw_sub [3, 2, 1, 0] rfl (hL9 _ ?_ n (0 : Int32) (0 : Int32) hf)
  · intro v43 hf
    refine zw_iload_n hC dX10_feud_118 rfl 0 rfl ?_
    have h1 := Option.some.inj hf
    subst h1
    exact zw_iret hC hR dX10_feud_119
