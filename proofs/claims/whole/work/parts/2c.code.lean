/-! Payer.weightOf(I)I -/
theorem dX3_weightOf_0 : decode cX3_weightOf 0 = .ok (.aload_n 0, 1) := by decide +kernel
theorem dX3_weightOf_1 : decode cX3_weightOf 1 = .ok (.getfield 96, 3) := by decide +kernel
theorem dX3_weightOf_4 : decode cX3_weightOf 4 = .ok (.lookupswitch 42 #[(0, 28), (1, 35)], 28) := by decide +kernel
theorem dX3_weightOf_32 : decode cX3_weightOf 32 = .ok (.aload_n 0, 1) := by decide +kernel
theorem dX3_weightOf_33 : decode cX3_weightOf 33 = .ok (.getfield 18, 3) := by decide +kernel
theorem dX3_weightOf_36 : decode cX3_weightOf 36 = .ok (.iload_n 1, 1) := by decide +kernel
theorem dX3_weightOf_37 : decode cX3_weightOf 37 = .ok (.iaload, 1) := by decide +kernel
theorem dX3_weightOf_38 : decode cX3_weightOf 38 = .ok (.ireturn, 1) := by decide +kernel
theorem dX3_weightOf_39 : decode cX3_weightOf 39 = .ok (.aload_n 0, 1) := by decide +kernel
theorem dX3_weightOf_40 : decode cX3_weightOf 40 = .ok (.getfield 21, 3) := by decide +kernel
theorem dX3_weightOf_43 : decode cX3_weightOf 43 = .ok (.iload_n 1, 1) := by decide +kernel
theorem dX3_weightOf_44 : decode cX3_weightOf 44 = .ok (.iaload, 1) := by decide +kernel
theorem dX3_weightOf_45 : decode cX3_weightOf 45 = .ok (.ireturn, 1) := by decide +kernel
theorem dX3_weightOf_46 : decode cX3_weightOf 46 = .ok (.iconst 1, 1) := by decide +kernel
theorem dX3_weightOf_47 : decode cX3_weightOf 47 = .ok (.ireturn, 1) := by decide +kernel
theorem zm_X3_weightOf : ZMv "ClassOfMany$Payer" yX3_weightOf cX3_weightOf 2 (some .int) 1 := ⟨kw_4_222, kw_4_221, kp_36, kw_1_7, by decide +kernel, by decide⟩
def zf_X3_weightOf (a1 : Int32) (M : ZMem) : Option (Int32) :=
  (if (M 63 9) = (0 : Int32) then zrd M 66 10 a1 (fun v23 => some v23) else (if (M 63 9) = (1 : Int32) then zrd M 67 10 a1 (fun v24 => some v24) else some (1 : Int32)))
set_option maxHeartbeats 4000000 in
set_option maxRecDepth 100000 in
theorem zc_X3_weightOf {l : Launch} {D : va_G} {ad : Nat → Nat} {cA : Nat → ClassId} {a1 : Int32} {M : ZMem} {r : Int32} (hf : zf_X3_weightOf a1 M = some r) : ZCt l D ad cA yX3_weightOf cX3_weightOf 2 (some .int) 1 [.ref (ad 63), .int a1] M (some (.int r)) M := by
  refine zct (by decide +kernel) (Nat.le_of_ble_eq_true rfl) (lv := [(0, .ref (ad 63)), (1, .int a1)]) rfl (fun E hl hD had hcA hN hC hR => ?_)
  subst hl; subst hD; subst had; subst hcA
  unfold zf_X3_weightOf at hf
  refine zw_aload_n hC dX3_weightOf_0 rfl 0 rfl ?_
  refine zw_geti hC zF_Payer_rule zk_63 dX3_weightOf_1 kw_2_72 ?_
  by_cases hx4_0 : (M 63 9) = (0 : Int32)
  · rw [if_pos hx4_0] at hf
    refine zw_kin hC hx4_0 (tgt := 32) dX3_weightOf_4 (by decide) rfl (by decide) ?_
    refine zw_aload_n hC dX3_weightOf_32 rfl 0 rfl ?_
    refine zw_getr (k' := 66) hC zF_Payer_groupClaims zk_63 rfl dX3_weightOf_33 kw_2_61 ?_
    refine zw_iload_n hC dX3_weightOf_36 rfl 1 rfl ?_
    refine zw_iald hC hf zk_66 dX3_weightOf_37 (fun v23 hf => ?_)
    have h1 := Option.some.inj hf
    subst h1
    exact zw_iret hC hR dX3_weightOf_38
  rw [if_neg hx4_0] at hf
  by_cases hx4_1 : (M 63 9) = (1 : Int32)
  · rw [if_pos hx4_1] at hf
    refine zw_kin hC hx4_1 (tgt := 39) dX3_weightOf_4 (by decide) rfl (by decide) ?_
    refine zw_aload_n hC dX3_weightOf_39 rfl 0 rfl ?_
    refine zw_getr (k' := 67) hC zF_Payer_groupHeads zk_63 rfl dX3_weightOf_40 kw_2_62 ?_
    refine zw_iload_n hC dX3_weightOf_43 rfl 1 rfl ?_
    refine zw_iald hC hf zk_67 dX3_weightOf_44 (fun v24 hf => ?_)
    have h1 := Option.some.inj hf
    subst h1
    exact zw_iret hC hR dX3_weightOf_45
  rw [if_neg hx4_1] at hf
  refine zw_kout2 hC (tgt := 46) hx4_0 hx4_1 dX3_weightOf_4 (by decide) ?_
  refine zw_iconst hC (v := (1 : Int32)) dX3_weightOf_46 (by decide) ?_
  have h1 := Option.some.inj hf
  subst h1
  exact zw_iret hC hR dX3_weightOf_47
/-! Payer.weightInAll()I -/
theorem dX3_weightInAll_0 : decode cX3_weightInAll 0 = .ok (.aload_n 0, 1) := by decide +kernel
theorem dX3_weightInAll_1 : decode cX3_weightInAll 1 = .ok (.getfield 96, 3) := by decide +kernel
theorem dX3_weightInAll_4 : decode cX3_weightInAll 4 = .ok (.lookupswitch 46 #[(0, 28), (1, 37)], 28) := by decide +kernel
theorem dX3_weightInAll_32 : decode cX3_weightInAll 32 = .ok (.iconst 1, 1) := by decide +kernel
theorem dX3_weightInAll_33 : decode cX3_weightInAll 33 = .ok (.aload_n 0, 1) := by decide +kernel
theorem dX3_weightInAll_34 : decode cX3_weightInAll 34 = .ok (.getfield 103, 3) := by decide +kernel
theorem dX3_weightInAll_37 : decode cX3_weightInAll 37 = .ok (.invokestatic 143, 3) := by decide +kernel
theorem dX3_weightInAll_40 : decode cX3_weightInAll 40 = .ok (.ireturn, 1) := by decide +kernel
theorem dX3_weightInAll_41 : decode cX3_weightInAll 41 = .ok (.iconst 1, 1) := by decide +kernel
theorem dX3_weightInAll_42 : decode cX3_weightInAll 42 = .ok (.aload_n 0, 1) := by decide +kernel
theorem dX3_weightInAll_43 : decode cX3_weightInAll 43 = .ok (.getfield 100, 3) := by decide +kernel
theorem dX3_weightInAll_46 : decode cX3_weightInAll 46 = .ok (.invokestatic 143, 3) := by decide +kernel
theorem dX3_weightInAll_49 : decode cX3_weightInAll 49 = .ok (.ireturn, 1) := by decide +kernel
theorem dX3_weightInAll_50 : decode cX3_weightInAll 50 = .ok (.iconst 1, 1) := by decide +kernel
theorem dX3_weightInAll_51 : decode cX3_weightInAll 51 = .ok (.aload_n 0, 1) := by decide +kernel
theorem dX3_weightInAll_52 : decode cX3_weightInAll 52 = .ok (.getfield 106, 3) := by decide +kernel
theorem dX3_weightInAll_55 : decode cX3_weightInAll 55 = .ok (.invokestatic 143, 3) := by decide +kernel
theorem dX3_weightInAll_58 : decode cX3_weightInAll 58 = .ok (.ireturn, 1) := by decide +kernel
theorem zm_X3_weightInAll : ZMv "ClassOfMany$Payer" yX3_weightInAll cX3_weightInAll 1 (some .int) 0 := ⟨kw_4_226, kw_4_225, kp_37, kw_1_7, by decide +kernel, by decide⟩
def zf_X3_weightInAll (M : ZMem) : Option (Int32) :=
  (if (M 63 9) = (0 : Int32) then some (zmax (1 : Int32) (M 63 12)) else (if (M 63 9) = (1 : Int32) then some (zmax (1 : Int32) (M 63 13)) else some (zmax (1 : Int32) (M 63 14))))
set_option maxHeartbeats 4000000 in
set_option maxRecDepth 100000 in
theorem zc_X3_weightInAll {l : Launch} {D : va_G} {ad : Nat → Nat} {cA : Nat → ClassId} {M : ZMem} {r : Int32} (hf : zf_X3_weightInAll M = some r) : ZCt l D ad cA yX3_weightInAll cX3_weightInAll 1 (some .int) 1 [.ref (ad 63)] M (some (.int r)) M := by
  refine zct (by decide +kernel) (Nat.le_of_ble_eq_true rfl) (lv := [(0, .ref (ad 63))]) rfl (fun E hl hD had hcA hN hC hR => ?_)
  subst hl; subst hD; subst had; subst hcA
  unfold zf_X3_weightInAll at hf
  refine zw_aload_n hC dX3_weightInAll_0 rfl 0 rfl ?_
  refine zw_geti hC zF_Payer_rule zk_63 dX3_weightInAll_1 kw_2_72 ?_
  by_cases hx4_0 : (M 63 9) = (0 : Int32)
  · rw [if_pos hx4_0] at hf
    refine zw_kin hC hx4_0 (tgt := 32) dX3_weightInAll_4 (by decide) rfl (by decide) ?_
    refine zw_iconst hC (v := (1 : Int32)) dX3_weightInAll_32 (by decide) ?_
    refine zw_aload_n hC dX3_weightInAll_33 rfl 0 rfl ?_
    refine zw_geti hC zF_Payer_claimsInAll zk_63 dX3_weightInAll_34 kw_2_76 ?_
    refine zw_mmax hC (by decide) (Nat.le_of_ble_eq_true rfl) dX3_weightInAll_37 kw_4_227 kw_4_19 kw_1_18 kw_4_20 ?_
    have h1 := Option.some.inj hf
    subst h1
    exact zw_iret hC hR dX3_weightInAll_40
  rw [if_neg hx4_0] at hf
  by_cases hx4_1 : (M 63 9) = (1 : Int32)
  · rw [if_pos hx4_1] at hf
    refine zw_kin hC hx4_1 (tgt := 41) dX3_weightInAll_4 (by decide) rfl (by decide) ?_
    refine zw_iconst hC (v := (1 : Int32)) dX3_weightInAll_41 (by decide) ?_
    refine zw_aload_n hC dX3_weightInAll_42 rfl 0 rfl ?_
    refine zw_geti hC zF_Payer_heads zk_63 dX3_weightInAll_43 kw_2_78 ?_
    refine zw_mmax hC (by decide) (Nat.le_of_ble_eq_true rfl) dX3_weightInAll_46 kw_4_227 kw_4_19 kw_1_18 kw_4_20 ?_
    have h1 := Option.some.inj hf
    subst h1
    exact zw_iret hC hR dX3_weightInAll_49
  rw [if_neg hx4_1] at hf
  refine zw_kout2 hC (tgt := 50) hx4_0 hx4_1 dX3_weightInAll_4 (by decide) ?_
  refine zw_iconst hC (v := (1 : Int32)) dX3_weightInAll_50 (by decide) ?_
  refine zw_aload_n hC dX3_weightInAll_51 rfl 0 rfl ?_
  refine zw_geti hC zF_Payer_groupsPaid zk_63 dX3_weightInAll_52 kw_2_80 ?_
  refine zw_mmax hC (by decide) (Nat.le_of_ble_eq_true rfl) dX3_weightInAll_55 kw_4_227 kw_4_19 kw_1_18 kw_4_20 ?_
  have h1 := Option.some.inj hf
  subst h1
  exact zw_iret hC hR dX3_weightInAll_58
/-! Payer.fillPots(I)V -/
theorem dX3_fillPots_0 : decode cX3_fillPots 0 = .ok (.iconst 0, 1) := by decide +kernel
theorem dX3_fillPots_1 : decode cX3_fillPots 1 = .ok (.istore_n 2, 1) := by decide +kernel
theorem dX3_fillPots_2 : decode cX3_fillPots 2 = .ok (.iload_n 2, 1) := by decide +kernel
theorem dX3_fillPots_3 : decode cX3_fillPots 3 = .ok (.bipush 10, 2) := by decide +kernel
theorem dX3_fillPots_5 : decode cX3_fillPots 5 = .ok (.if_icmp .ge 44, 3) := by decide +kernel
theorem dX3_fillPots_8 : decode cX3_fillPots 8 = .ok (.aload_n 0, 1) := by decide +kernel
theorem dX3_fillPots_9 : decode cX3_fillPots 9 = .ok (.getfield 24, 3) := by decide +kernel
theorem dX3_fillPots_12 : decode cX3_fillPots 12 = .ok (.iload_n 2, 1) := by decide +kernel
theorem dX3_fillPots_13 : decode cX3_fillPots 13 = .ok (.aload_n 0, 1) := by decide +kernel
theorem dX3_fillPots_14 : decode cX3_fillPots 14 = .ok (.getfield 21, 3) := by decide +kernel
theorem dX3_fillPots_17 : decode cX3_fillPots 17 = .ok (.iload_n 2, 1) := by decide +kernel
theorem dX3_fillPots_18 : decode cX3_fillPots 18 = .ok (.iaload, 1) := by decide +kernel
theorem dX3_fillPots_19 : decode cX3_fillPots 19 = .ok (.ifCond .ne 7, 3) := by decide +kernel
theorem dX3_fillPots_22 : decode cX3_fillPots 22 = .ok (.iconst 0, 1) := by decide +kernel
theorem dX3_fillPots_23 : decode cX3_fillPots 23 = .ok (.goto 19, 3) := by decide +kernel
theorem dX3_fillPots_26 : decode cX3_fillPots 26 = .ok (.iload_n 1, 1) := by decide +kernel
theorem dX3_fillPots_27 : decode cX3_fillPots 27 = .ok (.i2l, 1) := by decide +kernel
theorem dX3_fillPots_28 : decode cX3_fillPots 28 = .ok (.aload_n 0, 1) := by decide +kernel
theorem dX3_fillPots_29 : decode cX3_fillPots 29 = .ok (.iload_n 2, 1) := by decide +kernel
theorem dX3_fillPots_30 : decode cX3_fillPots 30 = .ok (.invokevirtual 136, 3) := by decide +kernel
theorem dX3_fillPots_33 : decode cX3_fillPots 33 = .ok (.i2l, 1) := by decide +kernel
theorem dX3_fillPots_34 : decode cX3_fillPots 34 = .ok (.lmul, 1) := by decide +kernel
theorem dX3_fillPots_35 : decode cX3_fillPots 35 = .ok (.aload_n 0, 1) := by decide +kernel
theorem dX3_fillPots_36 : decode cX3_fillPots 36 = .ok (.invokevirtual 139, 3) := by decide +kernel
theorem dX3_fillPots_39 : decode cX3_fillPots 39 = .ok (.i2l, 1) := by decide +kernel
theorem dX3_fillPots_40 : decode cX3_fillPots 40 = .ok (.ldiv, 1) := by decide +kernel
theorem dX3_fillPots_41 : decode cX3_fillPots 41 = .ok (.l2i, 1) := by decide +kernel
theorem dX3_fillPots_42 : decode cX3_fillPots 42 = .ok (.iastore, 1) := by decide +kernel
theorem dX3_fillPots_43 : decode cX3_fillPots 43 = .ok (.iinc 2 1, 3) := by decide +kernel
theorem dX3_fillPots_46 : decode cX3_fillPots 46 = .ok (.goto (-44), 3) := by decide +kernel
theorem dX3_fillPots_49 : decode cX3_fillPots 49 = .ok (.return_, 1) := by decide +kernel
theorem zm_X3_fillPots : ZMv "ClassOfMany$Payer" yX3_fillPots cX3_fillPots 3 (none) 1 := ⟨kw_4_218, kw_4_217, kp_35, kw_1_7, by decide +kernel, by decide⟩
def zf_X3_fillPots_j42 (M27 : ZMem) (v26 : Int32) (R2 : Int32 → ZMem → Option (ZMem)) (v30 : Int32) : Option (ZMem) :=
  zst M27 68 10 v26 v30 (fun M31 => (R2 (v26 + (1 : Int32)) M31))
def zf_X3_fillPots_L2 (a1 : Int32) (K49 : ZMem → Option (ZMem)) : Nat → Int32 → ZMem → Option (ZMem)
  | 0, _, _ => none
  | n2 + 1, v26, M27 =>
  (if (10 : Int32) ≤ v26 then (K49 M27) else zrd M27 67 10 v26 (fun v29 => (if v29 = 0 then (zf_X3_fillPots_j42 M27 v26 (fun x0 x1 => zf_X3_fillPots_L2 a1 K49 n2 x0 x1) (0 : Int32)) else zb1 (zf_X3_weightOf v26 M27) (fun v32 => zb1 (zf_X3_weightInAll M27) (fun v33 => zldiv ((a1.toInt64) * (v32.toInt64)) (v33.toInt64) (fun w34 => (zf_X3_fillPots_j42 M27 v26 (fun x0 x1 => zf_X3_fillPots_L2 a1 K49 n2 x0 x1) (w34.toInt32))))))))
def zf_X3_fillPots (n : Nat) (a1 : Int32) (M : ZMem) : Option (ZMem) :=
  (zf_X3_fillPots_L2 a1 (fun M35 => some M35) n (0 : Int32) M)
set_option maxHeartbeats 4000000 in
set_option maxRecDepth 100000 in
theorem zc_X3_fillPots {l : Launch} {D : va_G} {ad : Nat → Nat} {cA : Nat → ClassId} {n : Nat} {a1 : Int32} {M : ZMem} {M' : ZMem} (hf : zf_X3_fillPots n a1 M = some M') : ZCt l D ad cA yX3_fillPots cX3_fillPots 3 (none) 2 [.ref (ad 63), .int a1] M none M' := by
  refine zct (by decide +kernel) (Nat.le_of_ble_eq_true rfl) (lv := [(0, .ref (ad 63)), (1, .int a1)]) rfl (fun E hl hD had hcA hN hC hR => ?_)
  subst hl; subst hD; subst had; subst hcA
  unfold zf_X3_fillPots at hf
  refine zw_iconst hC (v := (0 : Int32)) dX3_fillPots_0 (by decide) ?_
  refine zw_istore_n hC (lv' := [(2, .int (0 : Int32)), (0, .ref (zad E 63)), (1, .int a1)]) dX3_fillPots_1 rfl hN (by decide) rfl ?_
  have hL2 : ∀ (K49 : ZMem → Option (ZMem)), (∀ (M28 : ZMem), K49 M28 = some M' → ZW E 49 [] [] M28) → ∀ (n2 : Nat), ∀ (v26 : Int32), ∀ (M27 : ZMem), zf_X3_fillPots_L2 a1 K49 n2 v26 M27 = some M' → ZW E 2 [(0, .ref (zad E 63)), (1, .int a1), (2, .int v26)] [] M27 := by
    intro K49 hK49
    intro n2
    induction n2 with
    | zero => intro v26 M27 hf; rw [zf_X3_fillPots_L2] at hf; cases hf
    | succ n2 ih2 =>
      intro v26 M27 hf
      rw [zf_X3_fillPots_L2] at hf
      refine zw_iload_n hC dX3_fillPots_2 rfl 2 rfl ?_
      refine zw_bipush hC (v := (10 : Int32)) dX3_fillPots_3 (by decide) ?_
      refine zw_icmp_ge hC 49 hf dX3_fillPots_5 (by decide) (fun hf => ?_) (fun hf => ?_)
      · exact zw_sub [] rfl (hK49 M27 hf)
      · refine zw_aload_n hC dX3_fillPots_8 rfl 0 rfl ?_
        refine zw_getr (k' := 68) hC zF_Payer_pots zk_63 rfl dX3_fillPots_9 kw_2_63 ?_
        refine zw_iload_n hC dX3_fillPots_12 rfl 2 rfl ?_
        refine zw_aload_n hC dX3_fillPots_13 rfl 0 rfl ?_
        refine zw_getr (k' := 67) hC zF_Payer_groupHeads zk_63 rfl dX3_fillPots_14 kw_2_62 ?_
        refine zw_iload_n hC dX3_fillPots_17 rfl 2 rfl ?_
        refine zw_iald hC hf zk_67 dX3_fillPots_18 (fun v29 hf => ?_)
        have hj42 : ∀ (v30 : Int32), zf_X3_fillPots_j42 M27 v26 (fun x0 x1 => zf_X3_fillPots_L2 a1 K49 n2 x0 x1) v30 = some M' → ZW E 42 [(0, .ref (zad E 63)), (1, .int a1), (2, .int v26)] [.int v30, .int v26, .ref (zad E 68)] M27 := by
          intro v30 hf
          unfold zf_X3_fillPots_j42 at hf
          refine zw_iast hC hf zk_68 dX3_fillPots_42 (fun M31 hf => ?_)
          refine zw_iinc hC (v := (1 : Int32)) (lv' := [(2, .int (v26 + (1 : Int32))), (0, .ref (zad E 63)), (1, .int a1)]) dX3_fillPots_43 2 rfl (by decide) hN (by decide) rfl ?_
          refine zw_goto hC 2 dX3_fillPots_46 (by decide) ?_
          exact zw_sub [1, 2, 0] rfl (ih2 (v26 + (1 : Int32)) M31 hf)
        refine zw_if_ne hC 26 hf dX3_fillPots_19 (by decide) (fun hf => ?_) (fun hf => ?_)
        · refine zw_iload_n hC dX3_fillPots_26 rfl 1 rfl ?_
          refine zw_i2l hC dX3_fillPots_27 ?_
          refine zw_aload_n hC dX3_fillPots_28 rfl 0 rfl ?_
          refine zw_iload_n hC dX3_fillPots_29 rfl 2 rfl ?_
          obtain ⟨v32, hc32, hf⟩ := zb1_some hf
          refine zw_cV hC [.int v26] [.long (a1.toInt64), .int v26, .ref (zad E 68)] (st1 := [.int v32, .long (a1.toInt64), .int v26, .ref (zad E 68)]) zm_X3_weightOf (zc_X3_weightOf hc32) zk_63 rfl kw_4_219 dX3_fillPots_30 rfl (by decide) (Nat.le_of_ble_eq_true rfl) rfl rfl ?_
          refine zw_i2l hC dX3_fillPots_33 ?_
          refine zw_lmul hC dX3_fillPots_34 ?_
          refine zw_aload_n hC dX3_fillPots_35 rfl 0 rfl ?_
          obtain ⟨v33, hc33, hf⟩ := zb1_some hf
          refine zw_cV hC [] [.long ((a1.toInt64) * (v32.toInt64)), .int v26, .ref (zad E 68)] (st1 := [.int v33, .long ((a1.toInt64) * (v32.toInt64)), .int v26, .ref (zad E 68)]) zm_X3_weightInAll (zc_X3_weightInAll hc33) zk_63 rfl kw_4_223 dX3_fillPots_36 rfl (by decide) (Nat.le_of_ble_eq_true rfl) rfl rfl ?_
          refine zw_i2l hC dX3_fillPots_39 ?_
          refine zw_ldiv hC hf dX3_fillPots_40 (fun w34 hf => ?_)
          refine zw_l2i hC dX3_fillPots_41 ?_
          exact hj42 (w34.toInt32) hf
        · refine zw_iconst hC (v := (0 : Int32)) dX3_fillPots_22 (by decide) ?_
          refine zw_goto hC 42 dX3_fillPots_23 (by decide) ?_
          exact hj42 (0 : Int32) hf
  refine zw_sub [1, 2, 0] rfl (hL2 _ ?_ n (0 : Int32) M hf)
  · intro M35 hf
    have h1 := Option.some.inj hf
    subst h1
    exact zw_vret hC hR dX3_fillPots_49
/-! Payer.pay(LClassOfMany$Splitter;LClassOfMany$Told;LClassOfMany$Standing;)V -/
theorem dX3_pay_0 : decode cX3_pay 0 = .ok (.aload_n 1, 1) := by decide +kernel
theorem dX3_pay_1 : decode cX3_pay 1 = .ok (.aload_n 2, 1) := by decide +kernel
theorem dX3_pay_2 : decode cX3_pay 2 = .ok (.aload_n 3, 1) := by decide +kernel
theorem dX3_pay_3 : decode cX3_pay 3 = .ok (.invokevirtual 33, 3) := by decide +kernel
theorem dX3_pay_6 : decode cX3_pay 6 = .ok (.aload_n 0, 1) := by decide +kernel
theorem dX3_pay_7 : decode cX3_pay 7 = .ok (.aload_n 1, 1) := by decide +kernel
theorem dX3_pay_8 : decode cX3_pay 8 = .ok (.aload_n 2, 1) := by decide +kernel
theorem dX3_pay_9 : decode cX3_pay 9 = .ok (.aload_n 3, 1) := by decide +kernel
theorem dX3_pay_10 : decode cX3_pay 10 = .ok (.invokevirtual 39, 3) := by decide +kernel
theorem dX3_pay_13 : decode cX3_pay 13 = .ok (.aload_n 0, 1) := by decide +kernel
theorem dX3_pay_14 : decode cX3_pay 14 = .ok (.aload_n 2, 1) := by decide +kernel
theorem dX3_pay_15 : decode cX3_pay 15 = .ok (.aload_n 3, 1) := by decide +kernel
theorem dX3_pay_16 : decode cX3_pay 16 = .ok (.getfield 43, 3) := by decide +kernel
theorem dX3_pay_19 : decode cX3_pay 19 = .ok (.aload_n 3, 1) := by decide +kernel
theorem dX3_pay_20 : decode cX3_pay 20 = .ok (.getfield 49, 3) := by decide +kernel
theorem dX3_pay_23 : decode cX3_pay 23 = .ok (.invokestatic 52, 3) := by decide +kernel
theorem dX3_pay_26 : decode cX3_pay 26 = .ok (.putfield 56, 3) := by decide +kernel
theorem dX3_pay_29 : decode cX3_pay 29 = .ok (.aload_n 0, 1) := by decide +kernel
theorem dX3_pay_30 : decode cX3_pay 30 = .ok (.aload_n 0, 1) := by decide +kernel
theorem dX3_pay_31 : decode cX3_pay 31 = .ok (.getfield 56, 3) := by decide +kernel
theorem dX3_pay_34 : decode cX3_pay 34 = .ok (.invokevirtual 59, 3) := by decide +kernel
theorem dX3_pay_37 : decode cX3_pay 37 = .ok (.aload_n 0, 1) := by decide +kernel
theorem dX3_pay_38 : decode cX3_pay 38 = .ok (.getfield 27, 3) := by decide +kernel
theorem dX3_pay_41 : decode cX3_pay 41 = .ok (.iconst 0, 1) := by decide +kernel
theorem dX3_pay_42 : decode cX3_pay 42 = .ok (.invokestatic 63, 3) := by decide +kernel
theorem dX3_pay_45 : decode cX3_pay 45 = .ok (.aload_n 0, 1) := by decide +kernel
theorem dX3_pay_46 : decode cX3_pay 46 = .ok (.getfield 30, 3) := by decide +kernel
theorem dX3_pay_49 : decode cX3_pay 49 = .ok (.iconst 0, 1) := by decide +kernel
theorem dX3_pay_50 : decode cX3_pay 50 = .ok (.invokestatic 63, 3) := by decide +kernel
theorem dX3_pay_53 : decode cX3_pay 53 = .ok (.aload_n 0, 1) := by decide +kernel
theorem dX3_pay_54 : decode cX3_pay 54 = .ok (.iconst 0, 1) := by decide +kernel
theorem dX3_pay_55 : decode cX3_pay 55 = .ok (.putfield 69, 3) := by decide +kernel
theorem dX3_pay_58 : decode cX3_pay 58 = .ok (.aload_n 0, 1) := by decide +kernel
theorem dX3_pay_59 : decode cX3_pay 59 = .ok (.aload_n 0, 1) := by decide +kernel
theorem dX3_pay_60 : decode cX3_pay 60 = .ok (.getfield 56, 3) := by decide +kernel
theorem dX3_pay_63 : decode cX3_pay 63 = .ok (.putfield 72, 3) := by decide +kernel
theorem dX3_pay_66 : decode cX3_pay 66 = .ok (.aload_n 0, 1) := by decide +kernel
theorem dX3_pay_67 : decode cX3_pay 67 = .ok (.invokevirtual 75, 3) := by decide +kernel
theorem dX3_pay_70 : decode cX3_pay 70 = .ok (.istore 4, 2) := by decide +kernel
theorem dX3_pay_72 : decode cX3_pay 72 = .ok (.iconst 2, 1) := by decide +kernel
theorem dX3_pay_73 : decode cX3_pay 73 = .ok (.istore 5, 2) := by decide +kernel
theorem dX3_pay_75 : decode cX3_pay 75 = .ok (.iload 5, 2) := by decide +kernel
theorem dX3_pay_77 : decode cX3_pay 77 = .ok (.bipush 9, 2) := by decide +kernel
theorem dX3_pay_79 : decode cX3_pay 79 = .ok (.if_icmp .gt 22, 3) := by decide +kernel
theorem dX3_pay_82 : decode cX3_pay 82 = .ok (.iload 4, 2) := by decide +kernel
theorem dX3_pay_84 : decode cX3_pay 84 = .ok (.ifCond .eq 17, 3) := by decide +kernel
theorem dX3_pay_87 : decode cX3_pay 87 = .ok (.aload_n 0, 1) := by decide +kernel
theorem dX3_pay_88 : decode cX3_pay 88 = .ok (.iload 5, 2) := by decide +kernel
theorem dX3_pay_90 : decode cX3_pay 90 = .ok (.invokevirtual 79, 3) := by decide +kernel
theorem dX3_pay_93 : decode cX3_pay 93 = .ok (.istore 4, 2) := by decide +kernel
theorem dX3_pay_95 : decode cX3_pay 95 = .ok (.iinc 5 1, 3) := by decide +kernel
theorem dX3_pay_98 : decode cX3_pay 98 = .ok (.goto (-23), 3) := by decide +kernel
theorem dX3_pay_101 : decode cX3_pay 101 = .ok (.return_, 1) := by decide +kernel
theorem zm_X3_pay : ZMv "ClassOfMany$Payer" yX3_pay cX3_pay 6 (none) 3 := ⟨kw_4_198, kw_4_196, kw_4_197, kw_1_7, by decide +kernel, by decide⟩
def zf_X3_pay_L75 (n : Nat) (K101 : ZMem → Option (ZMem)) : Nat → Int32 → Int32 → ZMem → Option (ZMem)
  | 0, _, _, _ => none
  | n75 + 1, v45, v46, M47 =>
  (if (9 : Int32) < v46 then (K101 M47) else (if v45 = 0 then (K101 M47) else zb2 (zf_X3_payFurther n v46 M47) (fun v49 M50 => (zf_X3_pay_L75 n K101 n75 v49 (v46 + (1 : Int32)) M50))))
def zf_X3_pay (n : Nat) (o2 : Nat) (o3 : Nat) (M : ZMem) : Option (ZMem) :=
  zb1 (zf_X6_split n o2 o3 M) (fun M34 => zb1 (zf_X3_gather n o2 o3 M34) (fun M35 => zb1 (zf_X9_netOf o2 (M35 o3 3) (M35 o3 7) M35) (fun v36 => zput M35 63 15 v36 (fun M37 => zb1 (zf_X3_fillPots n (M37 63 15) M37) (fun M38 => zb1 (zf_J7_fill_53178 n 69 10 (0 : Int32) M38) (fun M39 => zb1 (zf_J7_fill_53178 n 70 90 (0 : Int32) M39) (fun M40 => zput M40 63 16 (0 : Int32) (fun M41 => zput M41 63 17 (M41 63 15) (fun M42 => zb2 (zf_X3_payFirst n M42) (fun v43 M44 => (zf_X3_pay_L75 n (fun M51 => some M51) n v43 (2 : Int32) M44)))))))))))
set_option maxHeartbeats 4000000 in
set_option maxRecDepth 100000 in
theorem zc_X3_pay {l : Launch} {D : va_G} {ad : Nat → Nat} {cA : Nat → ClassId} {n : Nat} {o2 : Nat} {o3 : Nat} {M : ZMem} {M' : ZMem} (ho2 : zk o2 = (7, 17)) (ho3 : zk o3 = (6, 12)) (hf : zf_X3_pay n o2 o3 M = some M') : ZCt l D ad cA yX3_pay cX3_pay 6 (none) 17 [.ref (ad 63), .ref (ad 57), .ref (ad o2), .ref (ad o3)] M none M' := by
  refine zct (by decide +kernel) (Nat.le_of_ble_eq_true rfl) (lv := [(0, .ref (ad 63)), (1, .ref (ad 57)), (2, .ref (ad o2)), (3, .ref (ad o3))]) rfl (fun E hl hD had hcA hN hC hR => ?_)
  subst hl; subst hD; subst had; subst hcA
  unfold zf_X3_pay at hf
  refine zw_aload_n hC dX3_pay_0 rfl 1 rfl ?_
  refine zw_aload_n hC dX3_pay_1 rfl 2 rfl ?_
  refine zw_aload_n hC dX3_pay_2 rfl 3 rfl ?_
  obtain ⟨M34, hcM34, hf⟩ := zb1_some hf
  refine zw_cV hC [.ref (zad E o2), .ref (zad E o3)] [] (st1 := []) zm_X6_split (zc_X6_split ho2 ho3 hcM34) zk_57 rfl kw_4_199 dX3_pay_3 rfl (by decide) (Nat.le_of_ble_eq_true rfl) rfl rfl ?_
  refine zw_aload_n hC dX3_pay_6 rfl 0 rfl ?_
  refine zw_aload_n hC dX3_pay_7 rfl 1 rfl ?_
  refine zw_aload_n hC dX3_pay_8 rfl 2 rfl ?_
  refine zw_aload_n hC dX3_pay_9 rfl 3 rfl ?_
  obtain ⟨M35, hcM35, hf⟩ := zb1_some hf
  refine zw_cV hC [.ref (zad E 57), .ref (zad E o2), .ref (zad E o3)] [] (st1 := []) zm_X3_gather (zc_X3_gather ho2 ho3 hcM35) zk_63 rfl kw_4_200 dX3_pay_10 rfl (by decide) (Nat.le_of_ble_eq_true rfl) rfl rfl ?_
  refine zw_aload_n hC dX3_pay_13 rfl 0 rfl ?_
  refine zw_aload_n hC dX3_pay_14 rfl 2 rfl ?_
  refine zw_aload_n hC dX3_pay_15 rfl 3 rfl ?_
  refine zw_geti hC zF_Standing_costs ho3 dX3_pay_16 kw_1_139 ?_
  refine zw_aload_n hC dX3_pay_19 rfl 3 rfl ?_
  refine zw_geti hC zF_Standing_fund ho3 dX3_pay_20 kw_1_155 ?_
  obtain ⟨v36, hc36, hf⟩ := zb1_some hf
  refine zw_cN hC [.ref (zad E o2), .int (M35 o3 3), .int (M35 o3 7)] [.ref (zad E 63)] (st1 := [.int v36, .ref (zad E 63)]) zm_X9_netOf (zc_X9_netOf ho2 hc36) (by decide +kernel) dX3_pay_23 rfl (by decide) (Nat.le_of_ble_eq_true rfl) rfl rfl ?_
  refine zw_puti hC hf zF_Payer_net zk_63 dX3_pay_26 kw_2_81 (fun M37 hf => ?_)
  refine zw_aload_n hC dX3_pay_29 rfl 0 rfl ?_
  refine zw_aload_n hC dX3_pay_30 rfl 0 rfl ?_
  refine zw_geti hC zF_Payer_net zk_63 dX3_pay_31 kw_2_81 ?_
  obtain ⟨M38, hcM38, hf⟩ := zb1_some hf
  refine zw_cV hC [.int (M37 63 15)] [] (st1 := []) zm_X3_fillPots (zc_X3_fillPots hcM38) zk_63 rfl kw_4_215 dX3_pay_34 rfl (by decide) (Nat.le_of_ble_eq_true rfl) rfl rfl ?_
  refine zw_aload_n hC dX3_pay_37 rfl 0 rfl ?_
  refine zw_getr (k' := 69) hC zF_Payer_paidTo zk_63 rfl dX3_pay_38 kw_2_65 ?_
  refine zw_iconst hC (v := (0 : Int32)) dX3_pay_41 (by decide) ?_
  obtain ⟨M39, hcM39, hf⟩ := zb1_some hf
  refine zw_cS hC [.ref (zad E 69), .int (0 : Int32)] [] (st1 := []) zm_J7_fill_53178 (zc_J7_fill_53178 zk_69 hcM39) kw_4_204 dX3_pay_42 rfl (by decide) (Nat.le_of_ble_eq_true rfl) rfl rfl ?_
  refine zw_aload_n hC dX3_pay_45 rfl 0 rfl ?_
  refine zw_getr (k' := 70) hC zF_Payer_hadIn zk_63 rfl dX3_pay_46 kw_2_68 ?_
  refine zw_iconst hC (v := (0 : Int32)) dX3_pay_49 (by decide) ?_
  obtain ⟨M40, hcM40, hf⟩ := zb1_some hf
  refine zw_cS hC [.ref (zad E 70), .int (0 : Int32)] [] (st1 := []) zm_J7_fill_53178 (zc_J7_fill_53178 zk_70 hcM40) kw_4_204 dX3_pay_50 rfl (by decide) (Nat.le_of_ble_eq_true rfl) rfl rfl ?_
  refine zw_aload_n hC dX3_pay_53 rfl 0 rfl ?_
  refine zw_iconst hC (v := (0 : Int32)) dX3_pay_54 (by decide) ?_
  refine zw_puti hC hf zF_Payer_rounds zk_63 dX3_pay_55 kw_2_83 (fun M41 hf => ?_)
  refine zw_aload_n hC dX3_pay_58 rfl 0 rfl ?_
  refine zw_aload_n hC dX3_pay_59 rfl 0 rfl ?_
  refine zw_geti hC zF_Payer_net zk_63 dX3_pay_60 kw_2_81 ?_
  refine zw_puti hC hf zF_Payer_left zk_63 dX3_pay_63 kw_2_85 (fun M42 hf => ?_)
  refine zw_aload_n hC dX3_pay_66 rfl 0 rfl ?_
  obtain ⟨v43, M44, hcM44, hf⟩ := zb2_some hf
  refine zw_cV hC [] [] (st1 := [.int v43]) zm_X3_payFirst (zc_X3_payFirst hcM44) zk_63 rfl kw_4_228 dX3_pay_67 rfl (by decide) (Nat.le_of_ble_eq_true rfl) rfl rfl ?_
  refine zw_istore hC (lv' := [(4, .int v43), (0, .ref (zad E 63)), (1, .ref (zad E 57)), (2, .ref (zad E o2)), (3, .ref (zad E o3))]) dX3_pay_70 hN (by decide) rfl ?_
  refine zw_iconst hC (v := (2 : Int32)) dX3_pay_72 (by decide) ?_
  refine zw_istore hC (lv' := [(5, .int (2 : Int32)), (4, .int v43), (0, .ref (zad E 63)), (1, .ref (zad E 57)), (2, .ref (zad E o2)), (3, .ref (zad E o3))]) dX3_pay_73 hN (by decide) rfl ?_
  have hL75 : ∀ (K101 : ZMem → Option (ZMem)), (∀ (M48 : ZMem), K101 M48 = some M' → ZW E 101 [] [] M48) → ∀ (n75 : Nat), ∀ (v45 : Int32), ∀ (v46 : Int32), ∀ (M47 : ZMem), zf_X3_pay_L75 n K101 n75 v45 v46 M47 = some M' → ZW E 75 [(0, .ref (zad E 63)), (4, .int v45), (5, .int v46)] [] M47 := by
    intro K101 hK101
    intro n75
    induction n75 with
    | zero => intro v45 v46 M47 hf; rw [zf_X3_pay_L75] at hf; cases hf
    | succ n75 ih75 =>
      intro v45 v46 M47 hf
      rw [zf_X3_pay_L75] at hf
      refine zw_iload hC dX3_pay_75 2 rfl ?_
      refine zw_bipush hC (v := (9 : Int32)) dX3_pay_77 (by decide) ?_
      refine zw_icmp_gt hC 101 hf dX3_pay_79 (by decide) (fun hf => ?_) (fun hf => ?_)
      · exact zw_sub [] rfl (hK101 M47 hf)
      · refine zw_iload hC dX3_pay_82 1 rfl ?_
        refine zw_if_eq hC 101 hf dX3_pay_84 (by decide) (fun hf => ?_) (fun hf => ?_)
        · exact zw_sub [] rfl (hK101 M47 hf)
        · refine zw_aload_n hC dX3_pay_87 rfl 0 rfl ?_
          refine zw_iload hC dX3_pay_88 2 rfl ?_
          obtain ⟨v49, M50, hcM50, hf⟩ := zb2_some hf
          refine zw_cV hC [.int v46] [] (st1 := [.int v49]) zm_X3_payFurther (zc_X3_payFurther hcM50) zk_63 rfl kw_5_3 dX3_pay_90 rfl (by decide) (Nat.le_of_ble_eq_true rfl) rfl rfl ?_
          refine zw_istore hC (lv' := [(4, .int v49), (0, .ref (zad E 63)), (5, .int v46)]) dX3_pay_93 hN (by decide) rfl ?_
          refine zw_iinc hC (v := (1 : Int32)) (lv' := [(5, .int (v46 + (1 : Int32))), (4, .int v49), (0, .ref (zad E 63))]) dX3_pay_95 2 rfl (by decide) hN (by decide) rfl ?_
          refine zw_goto hC 75 dX3_pay_98 (by decide) ?_
          exact zw_sub [2, 1, 0] rfl (ih75 v49 (v46 + (1 : Int32)) M50 hf)
  refine zw_sub [2, 1, 0] rfl (hL75 _ ?_ n v43 (2 : Int32) M44 hf)
  · intro M51 hf
    have h1 := Option.some.inj hf
    subst h1
    exact zw_vret hC hR dX3_pay_101
/-! Payer.netForPot(IJ)J -/
theorem dX3_netForPot_0 : decode cX3_netForPot 0 = .ok (.lload_n 2, 1) := by decide +kernel
theorem dX3_netForPot_1 : decode cX3_netForPot 1 = .ok (.aload_n 0, 1) := by decide +kernel
theorem dX3_netForPot_2 : decode cX3_netForPot 2 = .ok (.invokevirtual 139, 3) := by decide +kernel
theorem dX3_netForPot_5 : decode cX3_netForPot 5 = .ok (.i2l, 1) := by decide +kernel
theorem dX3_netForPot_6 : decode cX3_netForPot 6 = .ok (.lmul, 1) := by decide +kernel
theorem dX3_netForPot_7 : decode cX3_netForPot 7 = .ok (.aload_n 0, 1) := by decide +kernel
theorem dX3_netForPot_8 : decode cX3_netForPot 8 = .ok (.iload_n 1, 1) := by decide +kernel
theorem dX3_netForPot_9 : decode cX3_netForPot 9 = .ok (.invokevirtual 136, 3) := by decide +kernel
theorem dX3_netForPot_12 : decode cX3_netForPot 12 = .ok (.i2l, 1) := by decide +kernel
theorem dX3_netForPot_13 : decode cX3_netForPot 13 = .ok (.invokestatic 176, 3) := by decide +kernel
theorem dX3_netForPot_16 : decode cX3_netForPot 16 = .ok (.lreturn, 1) := by decide +kernel
theorem zm_X3_netForPot : ZMv "ClassOfMany$Payer" yX3_netForPot cX3_netForPot 4 (some .long) 2 := ⟨kw_5_87, kw_5_86, kp_46, kw_1_7, by decide +kernel, by decide⟩
def zf_X3_netForPot (a1 : Int32) (w902 : Int64) (M : ZMem) : Option (Int64) :=
  zb1 (zf_X3_weightInAll M) (fun v24 => zb1 (zf_X3_weightOf a1 M) (fun v25 => zb1 (zf_X3_cutUp (w902 * (v24.toInt64)) (v25.toInt64)) (fun w26 => some w26)))
set_option maxHeartbeats 4000000 in
set_option maxRecDepth 100000 in
theorem zc_X3_netForPot {l : Launch} {D : va_G} {ad : Nat → Nat} {cA : Nat → ClassId} {a1 : Int32} {w902 : Int64} {M : ZMem} {r : Int64} (hf : zf_X3_netForPot a1 w902 M = some r) : ZCt l D ad cA yX3_netForPot cX3_netForPot 4 (some .long) 2 [.ref (ad 63), .int a1, .long w902] M (some (.long r)) M := by
  refine zct (by decide +kernel) (Nat.le_of_ble_eq_true rfl) (lv := [(0, .ref (ad 63)), (1, .int a1), (2, .long w902)]) rfl (fun E hl hD had hcA hN hC hR => ?_)
  subst hl; subst hD; subst had; subst hcA
  unfold zf_X3_netForPot at hf
  refine zw_lload_n hC dX3_netForPot_0 rfl 2 rfl ?_
  refine zw_aload_n hC dX3_netForPot_1 rfl 0 rfl ?_
  obtain ⟨v24, hc24, hf⟩ := zb1_some hf
  refine zw_cV hC [] [.long w902] (st1 := [.int v24, .long w902]) zm_X3_weightInAll (zc_X3_weightInAll hc24) zk_63 rfl kw_4_223 dX3_netForPot_2 rfl (by decide) (Nat.le_of_ble_eq_true rfl) rfl rfl ?_
  refine zw_i2l hC dX3_netForPot_5 ?_
  refine zw_lmul hC dX3_netForPot_6 ?_
  refine zw_aload_n hC dX3_netForPot_7 rfl 0 rfl ?_
  refine zw_iload_n hC dX3_netForPot_8 rfl 1 rfl ?_
  obtain ⟨v25, hc25, hf⟩ := zb1_some hf
  refine zw_cV hC [.int a1] [.long (w902 * (v24.toInt64))] (st1 := [.int v25, .long (w902 * (v24.toInt64))]) zm_X3_weightOf (zc_X3_weightOf hc25) zk_63 rfl kw_4_219 dX3_netForPot_9 rfl (by decide) (Nat.le_of_ble_eq_true rfl) rfl rfl ?_
  refine zw_i2l hC dX3_netForPot_12 ?_
  obtain ⟨w26, hc26, hf⟩ := zb1_some hf
  refine zw_cS hC [.long (w902 * (v24.toInt64)), .long (v25.toInt64)] [] (st1 := [.long w26]) zm_X3_cutUp (zc_X3_cutUp hc26) kw_5_88 dX3_netForPot_13 rfl (by decide) (Nat.le_of_ble_eq_true rfl) rfl rfl ?_
  have h1 := Option.some.inj hf
  subst h1
  exact zw_lret hC hR dX3_netForPot_16
/-! Payer.netForSent(IJ)J -/
theorem dX3_netForSent_0 : decode cX3_netForSent 0 = .ok (.aload_n 0, 1) := by decide +kernel
theorem dX3_netForSent_1 : decode cX3_netForSent 1 = .ok (.getfield 15, 3) := by decide +kernel
theorem dX3_netForSent_4 : decode cX3_netForSent 4 = .ok (.iload_n 1, 1) := by decide +kernel
theorem dX3_netForSent_5 : decode cX3_netForSent 5 = .ok (.iaload, 1) := by decide +kernel
theorem dX3_netForSent_6 : decode cX3_netForSent 6 = .ok (.istore 4, 2) := by decide +kernel
theorem dX3_netForSent_8 : decode cX3_netForSent 8 = .ok (.aload_n 0, 1) := by decide +kernel
theorem dX3_netForSent_9 : decode cX3_netForSent 9 = .ok (.iload 4, 2) := by decide +kernel
theorem dX3_netForSent_11 : decode cX3_netForSent 11 = .ok (.lload_n 2, 1) := by decide +kernel
theorem dX3_netForSent_12 : decode cX3_netForSent 12 = .ok (.aload_n 0, 1) := by decide +kernel
theorem dX3_netForSent_13 : decode cX3_netForSent 13 = .ok (.getfield 18, 3) := by decide +kernel
theorem dX3_netForSent_16 : decode cX3_netForSent 16 = .ok (.iload 4, 2) := by decide +kernel
theorem dX3_netForSent_18 : decode cX3_netForSent 18 = .ok (.iaload, 1) := by decide +kernel
theorem dX3_netForSent_19 : decode cX3_netForSent 19 = .ok (.i2l, 1) := by decide +kernel
theorem dX3_netForSent_20 : decode cX3_netForSent 20 = .ok (.lmul, 1) := by decide +kernel
theorem dX3_netForSent_21 : decode cX3_netForSent 21 = .ok (.aload_n 0, 1) := by decide +kernel
theorem dX3_netForSent_22 : decode cX3_netForSent 22 = .ok (.getfield 9, 3) := by decide +kernel
theorem dX3_netForSent_25 : decode cX3_netForSent 25 = .ok (.iload_n 1, 1) := by decide +kernel
theorem dX3_netForSent_26 : decode cX3_netForSent 26 = .ok (.iaload, 1) := by decide +kernel
theorem dX3_netForSent_27 : decode cX3_netForSent 27 = .ok (.i2l, 1) := by decide +kernel
theorem dX3_netForSent_28 : decode cX3_netForSent 28 = .ok (.invokestatic 176, 3) := by decide +kernel
theorem dX3_netForSent_31 : decode cX3_netForSent 31 = .ok (.invokevirtual 167, 3) := by decide +kernel
theorem dX3_netForSent_34 : decode cX3_netForSent 34 = .ok (.lreturn, 1) := by decide +kernel
theorem zm_X3_netForSent : ZMv "ClassOfMany$Payer" yX3_netForSent cX3_netForSent 5 (some .long) 2 := ⟨kw_5_94, kw_5_93, kp_47, kw_1_7, by decide +kernel, by decide⟩
def zf_X3_netForSent (a1 : Int32) (w902 : Int64) (M : ZMem) : Option (Int64) :=
  zrd M 65 10 a1 (fun v26 => zrd M 66 10 v26 (fun v27 => zrd M 64 10 a1 (fun v28 => zb1 (zf_X3_cutUp (w902 * (v27.toInt64)) (v28.toInt64)) (fun w29 => zb1 (zf_X3_netForPot v26 w29 M) (fun w30 => some w30)))))
set_option maxHeartbeats 4000000 in
set_option maxRecDepth 100000 in
theorem zc_X3_netForSent {l : Launch} {D : va_G} {ad : Nat → Nat} {cA : Nat → ClassId} {a1 : Int32} {w902 : Int64} {M : ZMem} {r : Int64} (hf : zf_X3_netForSent a1 w902 M = some r) : ZCt l D ad cA yX3_netForSent cX3_netForSent 5 (some .long) 3 [.ref (ad 63), .int a1, .long w902] M (some (.long r)) M := by
  refine zct (by decide +kernel) (Nat.le_of_ble_eq_true rfl) (lv := [(0, .ref (ad 63)), (1, .int a1), (2, .long w902)]) rfl (fun E hl hD had hcA hN hC hR => ?_)
  subst hl; subst hD; subst had; subst hcA
  unfold zf_X3_netForSent at hf
  refine zw_aload_n hC dX3_netForSent_0 rfl 0 rfl ?_
  refine zw_getr (k' := 65) hC zF_Payer_groupOf zk_63 rfl dX3_netForSent_1 kw_2_60 ?_
  refine zw_iload_n hC dX3_netForSent_4 rfl 1 rfl ?_
  refine zw_iald hC hf zk_65 dX3_netForSent_5 (fun v26 hf => ?_)
  refine zw_istore hC (lv' := [(4, .int v26), (0, .ref (zad E 63)), (1, .int a1), (2, .long w902)]) dX3_netForSent_6 hN (by decide) rfl ?_
  refine zw_aload_n hC dX3_netForSent_8 rfl 1 rfl ?_
  refine zw_iload hC dX3_netForSent_9 0 rfl ?_
  refine zw_lload_n hC dX3_netForSent_11 rfl 3 rfl ?_
  refine zw_aload_n hC dX3_netForSent_12 rfl 1 rfl ?_
  refine zw_getr (k' := 66) hC zF_Payer_groupClaims zk_63 rfl dX3_netForSent_13 kw_2_61 ?_
  refine zw_iload hC dX3_netForSent_16 0 rfl ?_
  refine zw_iald hC hf zk_66 dX3_netForSent_18 (fun v27 hf => ?_)
  refine zw_i2l hC dX3_netForSent_19 ?_
  refine zw_lmul hC dX3_netForSent_20 ?_
  refine zw_aload_n hC dX3_netForSent_21 rfl 1 rfl ?_
  refine zw_getr (k' := 64) hC zF_Payer_claims zk_63 rfl dX3_netForSent_22 kw_2_58 ?_
  refine zw_iload_n hC dX3_netForSent_25 rfl 2 rfl ?_
  refine zw_iald hC hf zk_64 dX3_netForSent_26 (fun v28 hf => ?_)
  refine zw_i2l hC dX3_netForSent_27 ?_
  obtain ⟨w29, hc29, hf⟩ := zb1_some hf
  refine zw_cS hC [.long (w902 * (v27.toInt64)), .long (v28.toInt64)] [.int v26, .ref (zad E 63)] (st1 := [.long w29, .int v26, .ref (zad E 63)]) zm_X3_cutUp (zc_X3_cutUp hc29) kw_5_88 dX3_netForSent_28 rfl (by decide) (Nat.le_of_ble_eq_true rfl) rfl rfl ?_
  obtain ⟨w30, hc30, hf⟩ := zb1_some hf
  refine zw_cV hC [.int v26, .long w29] [] (st1 := [.long w30]) zm_X3_netForPot (zc_X3_netForPot hc30) zk_63 rfl kw_5_84 dX3_netForSent_31 rfl (by decide) (Nat.le_of_ble_eq_true rfl) rfl rfl ?_
  have h1 := Option.some.inj hf
  subst h1
  exact zw_lret hC hR dX3_netForSent_34
/-! Payer.nextNet(I)J -/
theorem dX3_nextNet_0 : decode cX3_nextNet 0 = .ok (.aload_n 0, 1) := by decide +kernel
theorem dX3_nextNet_1 : decode cX3_nextNet 1 = .ok (.getfield 133, 3) := by decide +kernel
theorem dX3_nextNet_4 : decode cX3_nextNet 4 = .ok (.ifCond .ne 6, 3) := by decide +kernel
theorem dX3_nextNet_7 : decode cX3_nextNet 7 = .ok (.iload_n 1, 1) := by decide +kernel
theorem dX3_nextNet_8 : decode cX3_nextNet 8 = .ok (.i2l, 1) := by decide +kernel
theorem dX3_nextNet_9 : decode cX3_nextNet 9 = .ok (.lreturn, 1) := by decide +kernel
theorem dX3_nextNet_10 : decode cX3_nextNet 10 = .ok (.aload_n 0, 1) := by decide +kernel
theorem dX3_nextNet_11 : decode cX3_nextNet 11 = .ok (.iload_n 1, 1) := by decide +kernel
theorem dX3_nextNet_12 : decode cX3_nextNet 12 = .ok (.invokevirtual 59, 3) := by decide +kernel
theorem dX3_nextNet_15 : decode cX3_nextNet 15 = .ok (.ldc2_w 165, 3) := by decide +kernel
theorem dX3_nextNet_18 : decode cX3_nextNet 18 = .ok (.lstore_n 2, 1) := by decide +kernel
theorem dX3_nextNet_19 : decode cX3_nextNet 19 = .ok (.iconst 0, 1) := by decide +kernel
theorem dX3_nextNet_20 : decode cX3_nextNet 20 = .ok (.istore 4, 2) := by decide +kernel
theorem dX3_nextNet_22 : decode cX3_nextNet 22 = .ok (.iload 4, 2) := by decide +kernel
theorem dX3_nextNet_24 : decode cX3_nextNet 24 = .ok (.aload_n 0, 1) := by decide +kernel
theorem dX3_nextNet_25 : decode cX3_nextNet 25 = .ok (.getfield 88, 3) := by decide +kernel
theorem dX3_nextNet_28 : decode cX3_nextNet 28 = .ok (.if_icmp .ge 96, 3) := by decide +kernel
theorem dX3_nextNet_31 : decode cX3_nextNet 31 = .ok (.aload_n 0, 1) := by decide +kernel
theorem dX3_nextNet_32 : decode cX3_nextNet 32 = .ok (.getfield 133, 3) := by decide +kernel
theorem dX3_nextNet_35 : decode cX3_nextNet 35 = .ok (.iload 4, 2) := by decide +kernel
theorem dX3_nextNet_37 : decode cX3_nextNet 37 = .ok (.invokestatic 119, 3) := by decide +kernel
theorem dX3_nextNet_40 : decode cX3_nextNet 40 = .ok (.ifCond .eq 78, 3) := by decide +kernel
theorem dX3_nextNet_43 : decode cX3_nextNet 43 = .ok (.aload_n 0, 1) := by decide +kernel
theorem dX3_nextNet_44 : decode cX3_nextNet 44 = .ok (.getfield 9, 3) := by decide +kernel
theorem dX3_nextNet_47 : decode cX3_nextNet 47 = .ok (.iload 4, 2) := by decide +kernel
theorem dX3_nextNet_49 : decode cX3_nextNet 49 = .ok (.iaload, 1) := by decide +kernel
theorem dX3_nextNet_50 : decode cX3_nextNet 50 = .ok (.aload_n 0, 1) := by decide +kernel
theorem dX3_nextNet_51 : decode cX3_nextNet 51 = .ok (.iload 4, 2) := by decide +kernel
theorem dX3_nextNet_53 : decode cX3_nextNet 53 = .ok (.invokevirtual 153, 3) := by decide +kernel
theorem dX3_nextNet_56 : decode cX3_nextNet 56 = .ok (.isub, 1) := by decide +kernel
theorem dX3_nextNet_57 : decode cX3_nextNet 57 = .ok (.istore 5, 2) := by decide +kernel
theorem dX3_nextNet_59 : decode cX3_nextNet 59 = .ok (.iload 5, 2) := by decide +kernel
theorem dX3_nextNet_61 : decode cX3_nextNet 61 = .ok (.ifCond .le 37, 3) := by decide +kernel
theorem dX3_nextNet_64 : decode cX3_nextNet 64 = .ok (.iload 5, 2) := by decide +kernel
theorem dX3_nextNet_66 : decode cX3_nextNet 66 = .ok (.aload_n 0, 1) := by decide +kernel
theorem dX3_nextNet_67 : decode cX3_nextNet 67 = .ok (.getfield 92, 3) := by decide +kernel
theorem dX3_nextNet_70 : decode cX3_nextNet 70 = .ok (.if_icmp .ge 28, 3) := by decide +kernel
theorem dX3_nextNet_73 : decode cX3_nextNet 73 = .ok (.aload_n 0, 1) := by decide +kernel
theorem dX3_nextNet_74 : decode cX3_nextNet 74 = .ok (.aload_n 0, 1) := by decide +kernel
theorem dX3_nextNet_75 : decode cX3_nextNet 75 = .ok (.getfield 15, 3) := by decide +kernel
theorem dX3_nextNet_78 : decode cX3_nextNet 78 = .ok (.iload 4, 2) := by decide +kernel
theorem dX3_nextNet_80 : decode cX3_nextNet 80 = .ok (.iaload, 1) := by decide +kernel
theorem dX3_nextNet_81 : decode cX3_nextNet 81 = .ok (.aload_n 0, 1) := by decide +kernel
theorem dX3_nextNet_82 : decode cX3_nextNet 82 = .ok (.getfield 18, 3) := by decide +kernel
theorem dX3_nextNet_85 : decode cX3_nextNet 85 = .ok (.aload_n 0, 1) := by decide +kernel
theorem dX3_nextNet_86 : decode cX3_nextNet 86 = .ok (.getfield 15, 3) := by decide +kernel
theorem dX3_nextNet_89 : decode cX3_nextNet 89 = .ok (.iload 4, 2) := by decide +kernel
theorem dX3_nextNet_91 : decode cX3_nextNet 91 = .ok (.iaload, 1) := by decide +kernel
theorem dX3_nextNet_92 : decode cX3_nextNet 92 = .ok (.iaload, 1) := by decide +kernel
theorem dX3_nextNet_93 : decode cX3_nextNet 93 = .ok (.i2l, 1) := by decide +kernel
theorem dX3_nextNet_94 : decode cX3_nextNet 94 = .ok (.invokevirtual 167, 3) := by decide +kernel
theorem dX3_nextNet_97 : decode cX3_nextNet 97 = .ok (.lreturn, 1) := by decide +kernel
theorem dX3_nextNet_98 : decode cX3_nextNet 98 = .ok (.lload_n 2, 1) := by decide +kernel
theorem dX3_nextNet_99 : decode cX3_nextNet 99 = .ok (.aload_n 0, 1) := by decide +kernel
theorem dX3_nextNet_100 : decode cX3_nextNet 100 = .ok (.iload 4, 2) := by decide +kernel
theorem dX3_nextNet_102 : decode cX3_nextNet 102 = .ok (.iconst 1, 1) := by decide +kernel
theorem dX3_nextNet_103 : decode cX3_nextNet 103 = .ok (.aload_n 0, 1) := by decide +kernel
theorem dX3_nextNet_104 : decode cX3_nextNet 104 = .ok (.getfield 92, 3) := by decide +kernel
theorem dX3_nextNet_107 : decode cX3_nextNet 107 = .ok (.invokestatic 143, 3) := by decide +kernel
theorem dX3_nextNet_110 : decode cX3_nextNet 110 = .ok (.i2l, 1) := by decide +kernel
theorem dX3_nextNet_111 : decode cX3_nextNet 111 = .ok (.invokevirtual 171, 3) := by decide +kernel
theorem dX3_nextNet_114 : decode cX3_nextNet 114 = .ok (.invokestatic 149, 3) := by decide +kernel
theorem dX3_nextNet_117 : decode cX3_nextNet 117 = .ok (.lstore_n 2, 1) := by decide +kernel
theorem dX3_nextNet_118 : decode cX3_nextNet 118 = .ok (.iinc 4 1, 3) := by decide +kernel
theorem dX3_nextNet_121 : decode cX3_nextNet 121 = .ok (.goto (-99), 3) := by decide +kernel
theorem dX3_nextNet_124 : decode cX3_nextNet 124 = .ok (.iload_n 1, 1) := by decide +kernel
theorem dX3_nextNet_125 : decode cX3_nextNet 125 = .ok (.i2l, 1) := by decide +kernel
theorem dX3_nextNet_126 : decode cX3_nextNet 126 = .ok (.lload_n 2, 1) := by decide +kernel
theorem dX3_nextNet_127 : decode cX3_nextNet 127 = .ok (.invokestatic 174, 3) := by decide +kernel
theorem dX3_nextNet_130 : decode cX3_nextNet 130 = .ok (.lreturn, 1) := by decide +kernel
theorem zm_X3_nextNet : ZMv "ClassOfMany$Payer" yX3_nextNet cX3_nextNet 6 (some .long) 1 := ⟨kw_5_82, kw_5_81, kp_45, kw_1_7, by decide +kernel, by decide⟩
def zf_X3_nextNet_j118 (R22 : Int64 → Int32 → Option (Int64 × ZMem)) (v32 : Int32) (w35 : Int64) : Option (Int64 × ZMem) :=
  (R22 w35 (v32 + (1 : Int32)))
def zf_X3_nextNet_j98 (v32 : Int32) (M30 : ZMem) (R22 : Int64 → Int32 → Option (Int64 × ZMem)) (w31 : Int64) : Option (Int64 × ZMem) :=
  zb1 (zf_X3_netForSent v32 ((zmax (1 : Int32) (M30 63 8)).toInt64) M30) (fun w38 => (zf_X3_nextNet_j118 R22 v32 (zlmin w31 w38)))
def zf_X3_nextNet_L22 (M30 : ZMem) (K124 : Int64 → Option (Int64 × ZMem)) : Nat → Int64 → Int32 → Option (Int64 × ZMem)
  | 0, _, _ => none
  | n22 + 1, w31, v32 =>
  (if (M30 63 7) ≤ v32 then (K124 w31) else zb1 (zf_X9_has (M30 63 11) v32) (fun v34 => (if v34 = 0 then (zf_X3_nextNet_j118 (fun x0 x1 => zf_X3_nextNet_L22 M30 K124 n22 x0 x1) v32 w31) else zrd M30 64 10 v32 (fun v36 => zb1 (zf_X3_firstSent v32 M30) (fun v37 => (if (v36 - v37) ≤ 0 then (zf_X3_nextNet_j98 v32 M30 (fun x0 x1 => zf_X3_nextNet_L22 M30 K124 n22 x0 x1) w31) else (if (M30 63 8) ≤ (v36 - v37) then (zf_X3_nextNet_j98 v32 M30 (fun x0 x1 => zf_X3_nextNet_L22 M30 K124 n22 x0 x1) w31) else zrd M30 65 10 v32 (fun v39 => zrd M30 65 10 v32 (fun v40 => zrd M30 66 10 v40 (fun v41 => zb1 (zf_X3_netForPot v39 (v41.toInt64) M30) (fun w42 => some (w42, M30))))))))))))
def zf_X3_nextNet (n : Nat) (a1 : Int32) (M : ZMem) : Option (Int64 × ZMem) :=
  (if (M 63 11) = 0 then some ((a1.toInt64), M) else zb1 (zf_X3_fillPots n a1 M) (fun M30 => (zf_X3_nextNet_L22 M30 (fun w43 => some ((zlmax (a1.toInt64) w43), M30)) n (1152921504606846976 : Int64) (0 : Int32))))
set_option maxHeartbeats 4000000 in
set_option maxRecDepth 100000 in
theorem zc_X3_nextNet {l : Launch} {D : va_G} {ad : Nat → Nat} {cA : Nat → ClassId} {n : Nat} {a1 : Int32} {M : ZMem} {r : Int64} {M' : ZMem} (hf : zf_X3_nextNet n a1 M = some (r, M')) : ZCt l D ad cA yX3_nextNet cX3_nextNet 6 (some .long) 4 [.ref (ad 63), .int a1] M (some (.long r)) M' := by
  refine zct (by decide +kernel) (Nat.le_of_ble_eq_true rfl) (lv := [(0, .ref (ad 63)), (1, .int a1)]) rfl (fun E hl hD had hcA hN hC hR => ?_)
  subst hl; subst hD; subst had; subst hcA
  unfold zf_X3_nextNet at hf
  refine zw_aload_n hC dX3_nextNet_0 rfl 0 rfl ?_
  refine zw_geti hC zF_Payer_hungry zk_63 dX3_nextNet_1 kw_2_75 ?_
  refine zw_if_ne hC 10 hf dX3_nextNet_4 (by decide) (fun hf => ?_) (fun hf => ?_)
  · refine zw_aload_n hC dX3_nextNet_10 rfl 0 rfl ?_
    refine zw_iload_n hC dX3_nextNet_11 rfl 1 rfl ?_
    obtain ⟨M30, hcM30, hf⟩ := zb1_some hf
    refine zw_cV hC [.int a1] [] (st1 := []) zm_X3_fillPots (zc_X3_fillPots hcM30) zk_63 rfl kw_4_215 dX3_nextNet_12 rfl (by decide) (Nat.le_of_ble_eq_true rfl) rfl rfl ?_
    refine zw_ldc2 hC dX3_nextNet_15 kw_5_83 ?_
    refine zw_lstore_n hC (lv' := [(2, .long (1152921504606846976 : Int64)), (0, .ref (zad E 63)), (1, .int a1)]) dX3_nextNet_18 rfl hN (by decide) rfl ?_
    refine zw_iconst hC (v := (0 : Int32)) dX3_nextNet_19 (by decide) ?_
    refine zw_istore hC (lv' := [(4, .int (0 : Int32)), (2, .long (1152921504606846976 : Int64)), (0, .ref (zad E 63)), (1, .int a1)]) dX3_nextNet_20 hN (by decide) rfl ?_
    have hL22 : ∀ (K124 : Int64 → Option (Int64 × ZMem)), (∀ (w33 : Int64), K124 w33 = some (r, M') → ZW E 124 [(1, .int a1), (2, .long w33)] [] M30) → ∀ (n22 : Nat), ∀ (w31 : Int64), ∀ (v32 : Int32), zf_X3_nextNet_L22 M30 K124 n22 w31 v32 = some (r, M') → ZW E 22 [(0, .ref (zad E 63)), (1, .int a1), (2, .long w31), (4, .int v32)] [] M30 := by
      intro K124 hK124
      intro n22
      induction n22 with
      | zero => intro w31 v32 hf; rw [zf_X3_nextNet_L22] at hf; cases hf
      | succ n22 ih22 =>
        intro w31 v32 hf
        rw [zf_X3_nextNet_L22] at hf
        refine zw_iload hC dX3_nextNet_22 3 rfl ?_
        refine zw_aload_n hC dX3_nextNet_24 rfl 0 rfl ?_
        refine zw_geti hC zF_Payer_members zk_63 dX3_nextNet_25 kw_2_70 ?_
        refine zw_icmp_ge hC 124 hf dX3_nextNet_28 (by decide) (fun hf => ?_) (fun hf => ?_)
        · exact zw_sub [1, 2] rfl (hK124 w31 hf)
        · refine zw_aload_n hC dX3_nextNet_31 rfl 0 rfl ?_
          refine zw_geti hC zF_Payer_hungry zk_63 dX3_nextNet_32 kw_2_75 ?_
          refine zw_iload hC dX3_nextNet_35 3 rfl ?_
          obtain ⟨v34, hc34, hf⟩ := zb1_some hf
          refine zw_cN hC [.int (M30 63 11), .int v32] [] (st1 := [.int v34]) zm_X9_has (zc_X9_has hc34) (by decide +kernel) dX3_nextNet_37 rfl (by decide) (Nat.le_of_ble_eq_true rfl) rfl rfl ?_
          have hj118 : ∀ (w35 : Int64), zf_X3_nextNet_j118 (fun x0 x1 => zf_X3_nextNet_L22 M30 K124 n22 x0 x1) v32 w35 = some (r, M') → ZW E 118 [(0, .ref (zad E 63)), (1, .int a1), (2, .long w35), (4, .int v32)] [] M30 := by
            intro w35 hf
            unfold zf_X3_nextNet_j118 at hf
            refine zw_iinc hC (v := (1 : Int32)) (lv' := [(4, .int (v32 + (1 : Int32))), (0, .ref (zad E 63)), (1, .int a1), (2, .long w35)]) dX3_nextNet_118 3 rfl (by decide) hN (by decide) rfl ?_
            refine zw_goto hC 22 dX3_nextNet_121 (by decide) ?_
            exact zw_sub [1, 2, 3, 0] rfl (ih22 w35 (v32 + (1 : Int32)) hf)
          refine zw_if_eq hC 118 hf dX3_nextNet_40 (by decide) (fun hf => ?_) (fun hf => ?_)
          · exact hj118 w31 hf
          · refine zw_aload_n hC dX3_nextNet_43 rfl 0 rfl ?_
            refine zw_getr (k' := 64) hC zF_Payer_claims zk_63 rfl dX3_nextNet_44 kw_2_58 ?_
            refine zw_iload hC dX3_nextNet_47 3 rfl ?_
            refine zw_iald hC hf zk_64 dX3_nextNet_49 (fun v36 hf => ?_)
            refine zw_aload_n hC dX3_nextNet_50 rfl 0 rfl ?_
            refine zw_iload hC dX3_nextNet_51 3 rfl ?_
            obtain ⟨v37, hc37, hf⟩ := zb1_some hf
            refine zw_cV hC [.int v32] [.int v36] (st1 := [.int v37, .int v36]) zm_X3_firstSent (zc_X3_firstSent hc37) zk_63 rfl kw_4_232 dX3_nextNet_53 rfl (by decide) (Nat.le_of_ble_eq_true rfl) rfl rfl ?_
            refine zw_isub hC dX3_nextNet_56 ?_
            refine zw_istore hC (lv' := [(5, .int (v36 - v37)), (0, .ref (zad E 63)), (1, .int a1), (2, .long w31), (4, .int v32)]) dX3_nextNet_57 hN (by decide) rfl ?_
            refine zw_iload hC dX3_nextNet_59 0 rfl ?_
            have hj98 : zf_X3_nextNet_j98 v32 M30 (fun x0 x1 => zf_X3_nextNet_L22 M30 K124 n22 x0 x1) w31 = some (r, M') → ZW E 98 [(0, .ref (zad E 63)), (1, .int a1), (2, .long w31), (4, .int v32)] [] M30 := by
              intro  hf
              unfold zf_X3_nextNet_j98 at hf
              refine zw_lload_n hC dX3_nextNet_98 rfl 2 rfl ?_
              refine zw_aload_n hC dX3_nextNet_99 rfl 0 rfl ?_
              refine zw_iload hC dX3_nextNet_100 3 rfl ?_
              refine zw_iconst hC (v := (1 : Int32)) dX3_nextNet_102 (by decide) ?_
              refine zw_aload_n hC dX3_nextNet_103 rfl 0 rfl ?_
              refine zw_geti hC zF_Payer_least zk_63 dX3_nextNet_104 kw_2_71 ?_
              refine zw_mmax hC (by decide) (Nat.le_of_ble_eq_true rfl) dX3_nextNet_107 kw_4_227 kw_4_19 kw_1_18 kw_4_20 ?_
              refine zw_i2l hC dX3_nextNet_110 ?_
              obtain ⟨w38, hc38, hf⟩ := zb1_some hf
              refine zw_cV hC [.int v32, .long ((zmax (1 : Int32) (M30 63 8)).toInt64)] [.long w31] (st1 := [.long w38, .long w31]) zm_X3_netForSent (zc_X3_netForSent hc38) zk_63 rfl kw_5_91 dX3_nextNet_111 rfl (by decide) (Nat.le_of_ble_eq_true rfl) rfl rfl ?_
              refine zw_lmin hC (by decide) (Nat.le_of_ble_eq_true rfl) dX3_nextNet_114 kw_4_236 kw_4_237 kw_1_18 kw_4_238 ?_
              refine zw_lstore_n hC (lv' := [(2, .long (zlmin w31 w38)), (0, .ref (zad E 63)), (1, .int a1), (4, .int v32)]) dX3_nextNet_117 rfl hN (by decide) rfl ?_
              exact zw_sub [1, 2, 0, 3] rfl (hj118 (zlmin w31 w38) hf)
            refine zw_if_le hC 98 hf dX3_nextNet_61 (by decide) (fun hf => ?_) (fun hf => ?_)
            · exact zw_sub [1, 2, 3, 4] rfl (hj98 hf)
            · refine zw_iload hC dX3_nextNet_64 0 rfl ?_
              refine zw_aload_n hC dX3_nextNet_66 rfl 1 rfl ?_
              refine zw_geti hC zF_Payer_least zk_63 dX3_nextNet_67 kw_2_71 ?_
              refine zw_icmp_ge hC 98 hf dX3_nextNet_70 (by decide) (fun hf => ?_) (fun hf => ?_)
              · exact zw_sub [1, 2, 3, 4] rfl (hj98 hf)
              · refine zw_aload_n hC dX3_nextNet_73 rfl 1 rfl ?_
                refine zw_aload_n hC dX3_nextNet_74 rfl 1 rfl ?_
                refine zw_getr (k' := 65) hC zF_Payer_groupOf zk_63 rfl dX3_nextNet_75 kw_2_60 ?_
                refine zw_iload hC dX3_nextNet_78 4 rfl ?_
                refine zw_iald hC hf zk_65 dX3_nextNet_80 (fun v39 hf => ?_)
                refine zw_aload_n hC dX3_nextNet_81 rfl 1 rfl ?_
                refine zw_getr (k' := 66) hC zF_Payer_groupClaims zk_63 rfl dX3_nextNet_82 kw_2_61 ?_
                refine zw_aload_n hC dX3_nextNet_85 rfl 1 rfl ?_
                refine zw_getr (k' := 65) hC zF_Payer_groupOf zk_63 rfl dX3_nextNet_86 kw_2_60 ?_
                refine zw_iload hC dX3_nextNet_89 4 rfl ?_
                refine zw_iald hC hf zk_65 dX3_nextNet_91 (fun v40 hf => ?_)
                refine zw_iald hC hf zk_66 dX3_nextNet_92 (fun v41 hf => ?_)
                refine zw_i2l hC dX3_nextNet_93 ?_
                obtain ⟨w42, hc42, hf⟩ := zb1_some hf
                refine zw_cV hC [.int v39, .long (v41.toInt64)] [] (st1 := [.long w42]) zm_X3_netForPot (zc_X3_netForPot hc42) zk_63 rfl kw_5_84 dX3_nextNet_94 rfl (by decide) (Nat.le_of_ble_eq_true rfl) rfl rfl ?_
                obtain ⟨h1, h2⟩ := Prod.mk.inj (Option.some.inj hf)
                subst h1; subst h2
                exact zw_lret hC hR dX3_nextNet_97
    refine zw_sub [2, 3, 1, 0] rfl (hL22 _ ?_ n (1152921504606846976 : Int64) (0 : Int32) hf)
    · intro w43 hf
      refine zw_iload_n hC dX3_nextNet_124 rfl 0 rfl ?_
      refine zw_i2l hC dX3_nextNet_125 ?_
      refine zw_lload_n hC dX3_nextNet_126 rfl 1 rfl ?_
      refine zw_lmax hC (by decide) (Nat.le_of_ble_eq_true rfl) dX3_nextNet_127 kw_5_95 kw_5_96 kw_1_18 kw_5_97 ?_
      obtain ⟨h1, h2⟩ := Prod.mk.inj (Option.some.inj hf)
      subst h1; subst h2
      exact zw_lret hC hR dX3_nextNet_130
  · refine zw_iload_n hC dX3_nextNet_7 rfl 1 rfl ?_
    refine zw_i2l hC dX3_nextNet_8 ?_
    obtain ⟨h1, h2⟩ := Prod.mk.inj (Option.some.inj hf)
    subst h1; subst h2
    exact zw_lret hC hR dX3_nextNet_9
/-! Payer.leastNet(LClassOfMany$Splitter;LClassOfMany$Told;LClassOfMany$Standing;)I -/
theorem dX3_leastNet_0 : decode cX3_leastNet 0 = .ok (.aload_n 1, 1) := by decide +kernel
theorem dX3_leastNet_1 : decode cX3_leastNet 1 = .ok (.aload_n 2, 1) := by decide +kernel
theorem dX3_leastNet_2 : decode cX3_leastNet 2 = .ok (.aload_n 3, 1) := by decide +kernel
theorem dX3_leastNet_3 : decode cX3_leastNet 3 = .ok (.invokevirtual 33, 3) := by decide +kernel
theorem dX3_leastNet_6 : decode cX3_leastNet 6 = .ok (.aload_n 0, 1) := by decide +kernel
theorem dX3_leastNet_7 : decode cX3_leastNet 7 = .ok (.aload_n 1, 1) := by decide +kernel
theorem dX3_leastNet_8 : decode cX3_leastNet 8 = .ok (.aload_n 2, 1) := by decide +kernel
theorem dX3_leastNet_9 : decode cX3_leastNet 9 = .ok (.aload_n 3, 1) := by decide +kernel
theorem dX3_leastNet_10 : decode cX3_leastNet 10 = .ok (.invokevirtual 39, 3) := by decide +kernel
theorem dX3_leastNet_13 : decode cX3_leastNet 13 = .ok (.aload_n 2, 1) := by decide +kernel
theorem dX3_leastNet_14 : decode cX3_leastNet 14 = .ok (.aload_n 3, 1) := by decide +kernel
theorem dX3_leastNet_15 : decode cX3_leastNet 15 = .ok (.getfield 43, 3) := by decide +kernel
theorem dX3_leastNet_18 : decode cX3_leastNet 18 = .ok (.ldc 160, 2) := by decide +kernel
theorem dX3_leastNet_20 : decode cX3_leastNet 20 = .ok (.invokestatic 52, 3) := by decide +kernel
theorem dX3_leastNet_23 : decode cX3_leastNet 23 = .ok (.i2l, 1) := by decide +kernel
theorem dX3_leastNet_24 : decode cX3_leastNet 24 = .ok (.lstore 4, 2) := by decide +kernel
theorem dX3_leastNet_26 : decode cX3_leastNet 26 = .ok (.lconst 0, 1) := by decide +kernel
theorem dX3_leastNet_27 : decode cX3_leastNet 27 = .ok (.lstore 6, 2) := by decide +kernel
theorem dX3_leastNet_29 : decode cX3_leastNet 29 = .ok (.iconst 0, 1) := by decide +kernel
theorem dX3_leastNet_30 : decode cX3_leastNet 30 = .ok (.istore 8, 2) := by decide +kernel
theorem dX3_leastNet_32 : decode cX3_leastNet 32 = .ok (.iload 8, 2) := by decide +kernel
theorem dX3_leastNet_34 : decode cX3_leastNet 34 = .ok (.aload_n 0, 1) := by decide +kernel
theorem dX3_leastNet_35 : decode cX3_leastNet 35 = .ok (.getfield 88, 3) := by decide +kernel
theorem dX3_leastNet_38 : decode cX3_leastNet 38 = .ok (.if_icmp .ge 51, 3) := by decide +kernel
theorem dX3_leastNet_41 : decode cX3_leastNet 41 = .ok (.aload_n 0, 1) := by decide +kernel
theorem dX3_leastNet_42 : decode cX3_leastNet 42 = .ok (.getfield 133, 3) := by decide +kernel
theorem dX3_leastNet_45 : decode cX3_leastNet 45 = .ok (.iload 8, 2) := by decide +kernel
theorem dX3_leastNet_47 : decode cX3_leastNet 47 = .ok (.invokestatic 119, 3) := by decide +kernel
theorem dX3_leastNet_50 : decode cX3_leastNet 50 = .ok (.ifCond .eq 33, 3) := by decide +kernel
theorem dX3_leastNet_53 : decode cX3_leastNet 53 = .ok (.lload 6, 2) := by decide +kernel
theorem dX3_leastNet_55 : decode cX3_leastNet 55 = .ok (.aload_n 0, 1) := by decide +kernel
theorem dX3_leastNet_56 : decode cX3_leastNet 56 = .ok (.getfield 9, 3) := by decide +kernel
theorem dX3_leastNet_59 : decode cX3_leastNet 59 = .ok (.iload 8, 2) := by decide +kernel
theorem dX3_leastNet_61 : decode cX3_leastNet 61 = .ok (.iaload, 1) := by decide +kernel
theorem dX3_leastNet_62 : decode cX3_leastNet 62 = .ok (.i2l, 1) := by decide +kernel
theorem dX3_leastNet_63 : decode cX3_leastNet 63 = .ok (.ladd, 1) := by decide +kernel
theorem dX3_leastNet_64 : decode cX3_leastNet 64 = .ok (.lstore 6, 2) := by decide +kernel
theorem dX3_leastNet_66 : decode cX3_leastNet 66 = .ok (.aload_n 0, 1) := by decide +kernel
theorem dX3_leastNet_67 : decode cX3_leastNet 67 = .ok (.getfield 9, 3) := by decide +kernel
theorem dX3_leastNet_70 : decode cX3_leastNet 70 = .ok (.iload 8, 2) := by decide +kernel
theorem dX3_leastNet_72 : decode cX3_leastNet 72 = .ok (.iaload, 1) := by decide +kernel
theorem dX3_leastNet_73 : decode cX3_leastNet 73 = .ok (.aload_n 0, 1) := by decide +kernel
theorem dX3_leastNet_74 : decode cX3_leastNet 74 = .ok (.getfield 92, 3) := by decide +kernel
theorem dX3_leastNet_77 : decode cX3_leastNet 77 = .ok (.if_icmp .ge 6, 3) := by decide +kernel
theorem dX3_leastNet_80 : decode cX3_leastNet 80 = .ok (.bipush (-2), 2) := by decide +kernel
theorem dX3_leastNet_82 : decode cX3_leastNet 82 = .ok (.ireturn, 1) := by decide +kernel
theorem dX3_leastNet_83 : decode cX3_leastNet 83 = .ok (.iinc 8 1, 3) := by decide +kernel
theorem dX3_leastNet_86 : decode cX3_leastNet 86 = .ok (.goto (-54), 3) := by decide +kernel
theorem dX3_leastNet_89 : decode cX3_leastNet 89 = .ok (.iconst 0, 1) := by decide +kernel
theorem dX3_leastNet_90 : decode cX3_leastNet 90 = .ok (.istore 8, 2) := by decide +kernel
theorem dX3_leastNet_92 : decode cX3_leastNet 92 = .ok (.iload 8, 2) := by decide +kernel
theorem dX3_leastNet_94 : decode cX3_leastNet 94 = .ok (.bipush 100, 2) := by decide +kernel
theorem dX3_leastNet_96 : decode cX3_leastNet 96 = .ok (.if_icmp .ge 42, 3) := by decide +kernel
theorem dX3_leastNet_99 : decode cX3_leastNet 99 = .ok (.lload 6, 2) := by decide +kernel
theorem dX3_leastNet_101 : decode cX3_leastNet 101 = .ok (.lload 4, 2) := by decide +kernel
theorem dX3_leastNet_103 : decode cX3_leastNet 103 = .ok (.lcmp, 1) := by decide +kernel
theorem dX3_leastNet_104 : decode cX3_leastNet 104 = .ok (.ifCond .gt 34, 3) := by decide +kernel
theorem dX3_leastNet_107 : decode cX3_leastNet 107 = .ok (.aload_n 0, 1) := by decide +kernel
theorem dX3_leastNet_108 : decode cX3_leastNet 108 = .ok (.lload 6, 2) := by decide +kernel
theorem dX3_leastNet_110 : decode cX3_leastNet 110 = .ok (.l2i, 1) := by decide +kernel
theorem dX3_leastNet_111 : decode cX3_leastNet 111 = .ok (.invokevirtual 161, 3) := by decide +kernel
theorem dX3_leastNet_114 : decode cX3_leastNet 114 = .ok (.lstore 9, 2) := by decide +kernel
theorem dX3_leastNet_116 : decode cX3_leastNet 116 = .ok (.lload 9, 2) := by decide +kernel
theorem dX3_leastNet_118 : decode cX3_leastNet 118 = .ok (.lload 6, 2) := by decide +kernel
theorem dX3_leastNet_120 : decode cX3_leastNet 120 = .ok (.lcmp, 1) := by decide +kernel
theorem dX3_leastNet_121 : decode cX3_leastNet 121 = .ok (.ifCond .gt 7, 3) := by decide +kernel
theorem dX3_leastNet_124 : decode cX3_leastNet 124 = .ok (.lload 6, 2) := by decide +kernel
theorem dX3_leastNet_126 : decode cX3_leastNet 126 = .ok (.l2i, 1) := by decide +kernel
theorem dX3_leastNet_127 : decode cX3_leastNet 127 = .ok (.ireturn, 1) := by decide +kernel
theorem dX3_leastNet_128 : decode cX3_leastNet 128 = .ok (.lload 9, 2) := by decide +kernel
theorem dX3_leastNet_130 : decode cX3_leastNet 130 = .ok (.lstore 6, 2) := by decide +kernel
theorem dX3_leastNet_132 : decode cX3_leastNet 132 = .ok (.iinc 8 1, 3) := by decide +kernel
theorem dX3_leastNet_135 : decode cX3_leastNet 135 = .ok (.goto (-43), 3) := by decide +kernel
theorem dX3_leastNet_138 : decode cX3_leastNet 138 = .ok (.bipush (-2), 2) := by decide +kernel
theorem dX3_leastNet_140 : decode cX3_leastNet 140 = .ok (.ireturn, 1) := by decide +kernel
theorem zm_X3_leastNet : ZMv "ClassOfMany$Payer" yX3_leastNet cX3_leastNet 11 (some .int) 3 := ⟨kw_5_77, kw_5_75, kw_5_76, kw_1_7, by decide +kernel, by decide⟩
def zf_X3_leastNet_j83 (R32 : Int64 → Int32 → Option (Int32 × ZMem)) (v33 : Int32) (w36 : Int64) : Option (Int32 × ZMem) :=
  (R32 w36 (v33 + (1 : Int32)))
def zf_X3_leastNet_L32 (M30 : ZMem) (K89 : Int64 → Option (Int32 × ZMem)) : Nat → Int64 → Int32 → Option (Int32 × ZMem)
  | 0, _, _ => none
  | n32 + 1, w32, v33 =>
  (if (M30 63 7) ≤ v33 then (K89 w32) else zb1 (zf_X9_has (M30 63 11) v33) (fun v35 => (if v35 = 0 then (zf_X3_leastNet_j83 (fun x0 x1 => zf_X3_leastNet_L32 M30 K89 n32 x0 x1) v33 w32) else zrd M30 64 10 v33 (fun v37 => zrd M30 64 10 v33 (fun v38 => (if (M30 63 8) ≤ v38 then (zf_X3_leastNet_j83 (fun x0 x1 => zf_X3_leastNet_L32 M30 K89 n32 x0 x1) v33 (w32 + (v37.toInt64))) else some ((-2 : Int32), M30)))))))
def zf_X3_leastNet_L92 (v31 : Int32) (n : Nat) (K138 : ZMem → Option (Int32 × ZMem)) : Nat → Int64 → Int32 → ZMem → Option (Int32 × ZMem)
  | 0, _, _, _ => none
  | n92 + 1, w40, v41, M42 =>
  (if (100 : Int32) ≤ v41 then (K138 M42) else (if 0 < (lg_cmp w40 (v31.toInt64)) then (K138 M42) else zb2 (zf_X3_nextNet n (w40.toInt32) M42) (fun w44 M45 => (if 0 < (lg_cmp w44 w40) then (zf_X3_leastNet_L92 v31 n K138 n92 w44 (v41 + (1 : Int32)) M45) else some ((w40.toInt32), M45)))))
def zf_X3_leastNet (n : Nat) (o2 : Nat) (o3 : Nat) (M : ZMem) : Option (Int32 × ZMem) :=
  zb1 (zf_X6_split n o2 o3 M) (fun M29 => zb1 (zf_X3_gather n o2 o3 M29) (fun M30 => zb1 (zf_X9_netOf o2 (M30 o3 3) (99999 : Int32) M30) (fun v31 => (zf_X3_leastNet_L32 M30 (fun w39 => (zf_X3_leastNet_L92 v31 n (fun M46 => some ((-2 : Int32), M46)) n w39 (0 : Int32) M30)) n (0 : Int64) (0 : Int32)))))
set_option maxHeartbeats 4000000 in
set_option maxRecDepth 100000 in
theorem zc_X3_leastNet {l : Launch} {D : va_G} {ad : Nat → Nat} {cA : Nat → ClassId} {n : Nat} {o2 : Nat} {o3 : Nat} {M : ZMem} {r : Int32} {M' : ZMem} (ho2 : zk o2 = (7, 17)) (ho3 : zk o3 = (6, 12)) (hf : zf_X3_leastNet n o2 o3 M = some (r, M')) : ZCt l D ad cA yX3_leastNet cX3_leastNet 11 (some .int) 17 [.ref (ad 63), .ref (ad 57), .ref (ad o2), .ref (ad o3)] M (some (.int r)) M' := by
  refine zct (by decide +kernel) (Nat.le_of_ble_eq_true rfl) (lv := [(0, .ref (ad 63)), (1, .ref (ad 57)), (2, .ref (ad o2)), (3, .ref (ad o3))]) rfl (fun E hl hD had hcA hN hC hR => ?_)
  subst hl; subst hD; subst had; subst hcA
  unfold zf_X3_leastNet at hf
  refine zw_aload_n hC dX3_leastNet_0 rfl 1 rfl ?_
  refine zw_aload_n hC dX3_leastNet_1 rfl 2 rfl ?_
  refine zw_aload_n hC dX3_leastNet_2 rfl 3 rfl ?_
  obtain ⟨M29, hcM29, hf⟩ := zb1_some hf
  refine zw_cV hC [.ref (zad E o2), .ref (zad E o3)] [] (st1 := []) zm_X6_split (zc_X6_split ho2 ho3 hcM29) zk_57 rfl kw_4_199 dX3_leastNet_3 rfl (by decide) (Nat.le_of_ble_eq_true rfl) rfl rfl ?_
  refine zw_aload_n hC dX3_leastNet_6 rfl 0 rfl ?_
  refine zw_aload_n hC dX3_leastNet_7 rfl 1 rfl ?_
  refine zw_aload_n hC dX3_leastNet_8 rfl 2 rfl ?_
  refine zw_aload_n hC dX3_leastNet_9 rfl 3 rfl ?_
  obtain ⟨M30, hcM30, hf⟩ := zb1_some hf
  refine zw_cV hC [.ref (zad E 57), .ref (zad E o2), .ref (zad E o3)] [] (st1 := []) zm_X3_gather (zc_X3_gather ho2 ho3 hcM30) zk_63 rfl kw_4_200 dX3_leastNet_10 rfl (by decide) (Nat.le_of_ble_eq_true rfl) rfl rfl ?_
  refine zw_aload_n hC dX3_leastNet_13 rfl 2 rfl ?_
  refine zw_aload_n hC dX3_leastNet_14 rfl 3 rfl ?_
  refine zw_geti hC zF_Standing_costs ho3 dX3_leastNet_15 kw_1_139 ?_
  refine zw_ldc hC dX3_leastNet_18 kw_5_78 ?_
  obtain ⟨v31, hc31, hf⟩ := zb1_some hf
  refine zw_cN hC [.ref (zad E o2), .int (M30 o3 3), .int (99999 : Int32)] [] (st1 := [.int v31]) zm_X9_netOf (zc_X9_netOf ho2 hc31) (by decide +kernel) dX3_leastNet_20 rfl (by decide) (Nat.le_of_ble_eq_true rfl) rfl rfl ?_
  refine zw_i2l hC dX3_leastNet_23 ?_
  refine zw_lstore hC (lv' := [(4, .long (v31.toInt64)), (0, .ref (zad E 63)), (1, .ref (zad E 57)), (2, .ref (zad E o2)), (3, .ref (zad E o3))]) dX3_leastNet_24 hN (by decide) rfl ?_
  refine zw_lconst hC (v := (0 : Int64)) dX3_leastNet_26 (by decide) ?_
  refine zw_lstore hC (lv' := [(6, .long (0 : Int64)), (4, .long (v31.toInt64)), (0, .ref (zad E 63)), (1, .ref (zad E 57)), (2, .ref (zad E o2)), (3, .ref (zad E o3))]) dX3_leastNet_27 hN (by decide) rfl ?_
  refine zw_iconst hC (v := (0 : Int32)) dX3_leastNet_29 (by decide) ?_
  refine zw_istore hC (lv' := [(8, .int (0 : Int32)), (6, .long (0 : Int64)), (4, .long (v31.toInt64)), (0, .ref (zad E 63)), (1, .ref (zad E 57)), (2, .ref (zad E o2)), (3, .ref (zad E o3))]) dX3_leastNet_30 hN (by decide) rfl ?_
  have hL32 : ∀ (K89 : Int64 → Option (Int32 × ZMem)), (∀ (w34 : Int64), K89 w34 = some (r, M') → ZW E 89 [(0, .ref (zad E 63)), (4, .long (v31.toInt64)), (6, .long w34)] [] M30) → ∀ (n32 : Nat), ∀ (w32 : Int64), ∀ (v33 : Int32), zf_X3_leastNet_L32 M30 K89 n32 w32 v33 = some (r, M') → ZW E 32 [(0, .ref (zad E 63)), (4, .long (v31.toInt64)), (6, .long w32), (8, .int v33)] [] M30 := by
    intro K89 hK89
    intro n32
    induction n32 with
    | zero => intro w32 v33 hf; rw [zf_X3_leastNet_L32] at hf; cases hf
    | succ n32 ih32 =>
      intro w32 v33 hf
      rw [zf_X3_leastNet_L32] at hf
      refine zw_iload hC dX3_leastNet_32 3 rfl ?_
      refine zw_aload_n hC dX3_leastNet_34 rfl 0 rfl ?_
      refine zw_geti hC zF_Payer_members zk_63 dX3_leastNet_35 kw_2_70 ?_
      refine zw_icmp_ge hC 89 hf dX3_leastNet_38 (by decide) (fun hf => ?_) (fun hf => ?_)
      · exact zw_sub [0, 1, 2] rfl (hK89 w32 hf)
      · refine zw_aload_n hC dX3_leastNet_41 rfl 0 rfl ?_
        refine zw_geti hC zF_Payer_hungry zk_63 dX3_leastNet_42 kw_2_75 ?_
        refine zw_iload hC dX3_leastNet_45 3 rfl ?_
        obtain ⟨v35, hc35, hf⟩ := zb1_some hf
        refine zw_cN hC [.int (M30 63 11), .int v33] [] (st1 := [.int v35]) zm_X9_has (zc_X9_has hc35) (by decide +kernel) dX3_leastNet_47 rfl (by decide) (Nat.le_of_ble_eq_true rfl) rfl rfl ?_
        have hj83 : ∀ (w36 : Int64), zf_X3_leastNet_j83 (fun x0 x1 => zf_X3_leastNet_L32 M30 K89 n32 x0 x1) v33 w36 = some (r, M') → ZW E 83 [(0, .ref (zad E 63)), (4, .long (v31.toInt64)), (6, .long w36), (8, .int v33)] [] M30 := by
          intro w36 hf
          unfold zf_X3_leastNet_j83 at hf
          refine zw_iinc hC (v := (1 : Int32)) (lv' := [(8, .int (v33 + (1 : Int32))), (0, .ref (zad E 63)), (4, .long (v31.toInt64)), (6, .long w36)]) dX3_leastNet_83 3 rfl (by decide) hN (by decide) rfl ?_
          refine zw_goto hC 32 dX3_leastNet_86 (by decide) ?_
          exact zw_sub [1, 2, 3, 0] rfl (ih32 w36 (v33 + (1 : Int32)) hf)
        refine zw_if_eq hC 83 hf dX3_leastNet_50 (by decide) (fun hf => ?_) (fun hf => ?_)
        · exact hj83 w32 hf
        · refine zw_lload hC dX3_leastNet_53 2 rfl ?_
          refine zw_aload_n hC dX3_leastNet_55 rfl 0 rfl ?_
          refine zw_getr (k' := 64) hC zF_Payer_claims zk_63 rfl dX3_leastNet_56 kw_2_58 ?_
          refine zw_iload hC dX3_leastNet_59 3 rfl ?_
          refine zw_iald hC hf zk_64 dX3_leastNet_61 (fun v37 hf => ?_)
          refine zw_i2l hC dX3_leastNet_62 ?_
          refine zw_ladd hC dX3_leastNet_63 ?_
          refine zw_lstore hC (lv' := [(6, .long (w32 + (v37.toInt64))), (0, .ref (zad E 63)), (4, .long (v31.toInt64)), (8, .int v33)]) dX3_leastNet_64 hN (by decide) rfl ?_
          refine zw_aload_n hC dX3_leastNet_66 rfl 1 rfl ?_
          refine zw_getr (k' := 64) hC zF_Payer_claims zk_63 rfl dX3_leastNet_67 kw_2_58 ?_
          refine zw_iload hC dX3_leastNet_70 3 rfl ?_
          refine zw_iald hC hf zk_64 dX3_leastNet_72 (fun v38 hf => ?_)
          refine zw_aload_n hC dX3_leastNet_73 rfl 1 rfl ?_
          refine zw_geti hC zF_Payer_least zk_63 dX3_leastNet_74 kw_2_71 ?_
          refine zw_icmp_ge hC 83 hf dX3_leastNet_77 (by decide) (fun hf => ?_) (fun hf => ?_)
          · exact zw_sub [1, 2, 0, 3] rfl (hj83 (w32 + (v37.toInt64)) hf)
          · refine zw_bipush hC (v := (-2 : Int32)) dX3_leastNet_80 (by decide) ?_
            obtain ⟨h1, h2⟩ := Prod.mk.inj (Option.some.inj hf)
            subst h1; subst h2
            exact zw_iret hC hR dX3_leastNet_82
  refine zw_sub [3, 2, 1, 0] rfl (hL32 _ ?_ n (0 : Int64) (0 : Int32) hf)
  · intro w39 hf
    refine zw_iconst hC (v := (0 : Int32)) dX3_leastNet_89 (by decide) ?_
    refine zw_istore hC (lv' := [(8, .int (0 : Int32)), (0, .ref (zad E 63)), (4, .long (v31.toInt64)), (6, .long w39)]) dX3_leastNet_90 hN (by decide) rfl ?_
    have hL92 : ∀ (K138 : ZMem → Option (Int32 × ZMem)), (∀ (M43 : ZMem), K138 M43 = some (r, M') → ZW E 138 [] [] M43) → ∀ (n92 : Nat), ∀ (w40 : Int64), ∀ (v41 : Int32), ∀ (M42 : ZMem), zf_X3_leastNet_L92 v31 n K138 n92 w40 v41 M42 = some (r, M') → ZW E 92 [(0, .ref (zad E 63)), (4, .long (v31.toInt64)), (6, .long w40), (8, .int v41)] [] M42 := by
      intro K138 hK138
      intro n92
      induction n92 with
      | zero => intro w40 v41 M42 hf; rw [zf_X3_leastNet_L92] at hf; cases hf
      | succ n92 ih92 =>
        intro w40 v41 M42 hf
        rw [zf_X3_leastNet_L92] at hf
        refine zw_iload hC dX3_leastNet_92 3 rfl ?_
        refine zw_bipush hC (v := (100 : Int32)) dX3_leastNet_94 (by decide) ?_
        refine zw_icmp_ge hC 138 hf dX3_leastNet_96 (by decide) (fun hf => ?_) (fun hf => ?_)
        · exact zw_sub [] rfl (hK138 M42 hf)
        · refine zw_lload hC dX3_leastNet_99 2 rfl ?_
          refine zw_lload hC dX3_leastNet_101 1 rfl ?_
          refine zw_lcmp hC dX3_leastNet_103 ?_
          refine zw_if_gt hC 138 hf dX3_leastNet_104 (by decide) (fun hf => ?_) (fun hf => ?_)
          · exact zw_sub [] rfl (hK138 M42 hf)
          · refine zw_aload_n hC dX3_leastNet_107 rfl 0 rfl ?_
            refine zw_lload hC dX3_leastNet_108 2 rfl ?_
            refine zw_l2i hC dX3_leastNet_110 ?_
            obtain ⟨w44, M45, hcM45, hf⟩ := zb2_some hf
            refine zw_cV hC [.int (w40.toInt32)] [] (st1 := [.long w44]) zm_X3_nextNet (zc_X3_nextNet hcM45) zk_63 rfl kw_5_79 dX3_leastNet_111 rfl (by decide) (Nat.le_of_ble_eq_true rfl) rfl rfl ?_
            refine zw_lstore hC (lv' := [(9, .long w44), (0, .ref (zad E 63)), (4, .long (v31.toInt64)), (6, .long w40), (8, .int v41)]) dX3_leastNet_114 hN (by decide) rfl ?_
            refine zw_lload hC dX3_leastNet_116 0 rfl ?_
            refine zw_lload hC dX3_leastNet_118 3 rfl ?_
            refine zw_lcmp hC dX3_leastNet_120 ?_
            refine zw_if_gt hC 128 hf dX3_leastNet_121 (by decide) (fun hf => ?_) (fun hf => ?_)
            · refine zw_lload hC dX3_leastNet_128 0 rfl ?_
              refine zw_lstore hC (lv' := [(6, .long w44), (9, .long w44), (0, .ref (zad E 63)), (4, .long (v31.toInt64)), (8, .int v41)]) dX3_leastNet_130 hN (by decide) rfl ?_
              refine zw_iinc hC (v := (1 : Int32)) (lv' := [(8, .int (v41 + (1 : Int32))), (6, .long w44), (9, .long w44), (0, .ref (zad E 63)), (4, .long (v31.toInt64))]) dX3_leastNet_132 4 rfl (by decide) hN (by decide) rfl ?_
              refine zw_goto hC 92 dX3_leastNet_135 (by decide) ?_
              exact zw_sub [3, 4, 1, 0] rfl (ih92 w44 (v41 + (1 : Int32)) M45 hf)
            · refine zw_lload hC dX3_leastNet_124 3 rfl ?_
              refine zw_l2i hC dX3_leastNet_126 ?_
              obtain ⟨h1, h2⟩ := Prod.mk.inj (Option.some.inj hf)
              subst h1; subst h2
              exact zw_iret hC hR dX3_leastNet_127
    refine zw_sub [1, 2, 3, 0] rfl (hL92 _ ?_ n w39 (0 : Int32) M30 hf)
    · intro M46 hf
      refine zw_bipush hC (v := (-2 : Int32)) dX3_leastNet_138 (by decide) ?_
      obtain ⟨h1, h2⟩ := Prod.mk.inj (Option.some.inj hf)
      subst h1; subst h2
      exact zw_iret hC hR dX3_leastNet_140
/-! Resting.find(LClassOfMany$Splitter;LClassOfMany$Payer;LClassOfMany$Told;LClassOfMany$Standing;II)V -/
theorem dX5_find_0 : decode cX5_find 0 = .ok (.aload_n 0, 1) := by decide +kernel
theorem dX5_find_1 : decode cX5_find 1 = .ok (.iconst 1, 1) := by decide +kernel
theorem dX5_find_2 : decode cX5_find 2 = .ok (.putfield 21, 3) := by decide +kernel
theorem dX5_find_5 : decode cX5_find 5 = .ok (.aload_n 0, 1) := by decide +kernel
theorem dX5_find_6 : decode cX5_find 6 = .ok (.iload 5, 2) := by decide +kernel
theorem dX5_find_8 : decode cX5_find 8 = .ok (.putfield 25, 3) := by decide +kernel
theorem dX5_find_11 : decode cX5_find 11 = .ok (.aload_n 0, 1) := by decide +kernel
theorem dX5_find_12 : decode cX5_find 12 = .ok (.iload 6, 2) := by decide +kernel
theorem dX5_find_14 : decode cX5_find 14 = .ok (.putfield 29, 3) := by decide +kernel
theorem dX5_find_17 : decode cX5_find 17 = .ok (.aload_n 0, 1) := by decide +kernel
theorem dX5_find_18 : decode cX5_find 18 = .ok (.iconst 0, 1) := by decide +kernel
theorem dX5_find_19 : decode cX5_find 19 = .ok (.putfield 32, 3) := by decide +kernel
theorem dX5_find_22 : decode cX5_find 22 = .ok (.iconst 0, 1) := by decide +kernel
theorem dX5_find_23 : decode cX5_find 23 = .ok (.istore 7, 2) := by decide +kernel
theorem dX5_find_25 : decode cX5_find 25 = .ok (.iload 7, 2) := by decide +kernel
theorem dX5_find_27 : decode cX5_find 27 = .ok (.aload_n 3, 1) := by decide +kernel
theorem dX5_find_28 : decode cX5_find 28 = .ok (.getfield 35, 3) := by decide +kernel
theorem dX5_find_31 : decode cX5_find 31 = .ok (.if_icmp .ge 41, 3) := by decide +kernel
theorem dX5_find_34 : decode cX5_find 34 = .ok (.aload_n 0, 1) := by decide +kernel
theorem dX5_find_35 : decode cX5_find 35 = .ok (.getfield 18, 3) := by decide +kernel
theorem dX5_find_38 : decode cX5_find 38 = .ok (.iload 7, 2) := by decide +kernel
theorem dX5_find_40 : decode cX5_find 40 = .ok (.iconst 0, 1) := by decide +kernel
theorem dX5_find_41 : decode cX5_find 41 = .ok (.aload 4, 2) := by decide +kernel
theorem dX5_find_43 : decode cX5_find 43 = .ok (.aload_n 3, 1) := by decide +kernel
theorem dX5_find_44 : decode cX5_find 44 = .ok (.iload 7, 2) := by decide +kernel
theorem dX5_find_46 : decode cX5_find 46 = .ok (.invokevirtual 40, 3) := by decide +kernel
theorem dX5_find_49 : decode cX5_find 49 = .ok (.aload_n 0, 1) := by decide +kernel
theorem dX5_find_50 : decode cX5_find 50 = .ok (.getfield 25, 3) := by decide +kernel
theorem dX5_find_53 : decode cX5_find 53 = .ok (.imul, 1) := by decide +kernel
theorem dX5_find_54 : decode cX5_find 54 = .ok (.bipush 100, 2) := by decide +kernel
theorem dX5_find_56 : decode cX5_find 56 = .ok (.idiv, 1) := by decide +kernel
theorem dX5_find_57 : decode cX5_find 57 = .ok (.aload_n 0, 1) := by decide +kernel
theorem dX5_find_58 : decode cX5_find 58 = .ok (.getfield 29, 3) := by decide +kernel
theorem dX5_find_61 : decode cX5_find 61 = .ok (.isub, 1) := by decide +kernel
theorem dX5_find_62 : decode cX5_find 62 = .ok (.invokestatic 46, 3) := by decide +kernel
theorem dX5_find_65 : decode cX5_find 65 = .ok (.iastore, 1) := by decide +kernel
theorem dX5_find_66 : decode cX5_find 66 = .ok (.iinc 7 1, 3) := by decide +kernel
theorem dX5_find_69 : decode cX5_find 69 = .ok (.goto (-44), 3) := by decide +kernel
theorem dX5_find_72 : decode cX5_find 72 = .ok (.iconst 1, 1) := by decide +kernel
theorem dX5_find_73 : decode cX5_find 73 = .ok (.aload_n 3, 1) := by decide +kernel
theorem dX5_find_74 : decode cX5_find 74 = .ok (.getfield 35, 3) := by decide +kernel
theorem dX5_find_77 : decode cX5_find 77 = .ok (.ishl, 1) := by decide +kernel
theorem dX5_find_78 : decode cX5_find 78 = .ok (.istore 7, 2) := by decide +kernel
theorem dX5_find_80 : decode cX5_find 80 = .ok (.aload 4, 2) := by decide +kernel
theorem dX5_find_82 : decode cX5_find 82 = .ok (.iload 7, 2) := by decide +kernel
theorem dX5_find_84 : decode cX5_find 84 = .ok (.iconst 1, 1) := by decide +kernel
theorem dX5_find_85 : decode cX5_find 85 = .ok (.isub, 1) := by decide +kernel
theorem dX5_find_86 : decode cX5_find 86 = .ok (.putfield 52, 3) := by decide +kernel
theorem dX5_find_89 : decode cX5_find 89 = .ok (.aload 4, 2) := by decide +kernel
theorem dX5_find_91 : decode cX5_find 91 = .ok (.iconst 0, 1) := by decide +kernel
theorem dX5_find_92 : decode cX5_find 92 = .ok (.putfield 55, 3) := by decide +kernel
theorem dX5_find_95 : decode cX5_find 95 = .ok (.iconst 0, 1) := by decide +kernel
theorem dX5_find_96 : decode cX5_find 96 = .ok (.istore 8, 2) := by decide +kernel
theorem dX5_find_98 : decode cX5_find 98 = .ok (.iload 8, 2) := by decide +kernel
theorem dX5_find_100 : decode cX5_find 100 = .ok (.iload 7, 2) := by decide +kernel
theorem dX5_find_102 : decode cX5_find 102 = .ok (.if_icmp .ge 72, 3) := by decide +kernel
theorem dX5_find_105 : decode cX5_find 105 = .ok (.aload 4, 2) := by decide +kernel
theorem dX5_find_107 : decode cX5_find 107 = .ok (.iload 8, 2) := by decide +kernel
theorem dX5_find_109 : decode cX5_find 109 = .ok (.putfield 58, 3) := by decide +kernel
theorem dX5_find_112 : decode cX5_find 112 = .ok (.aload_n 2, 1) := by decide +kernel
theorem dX5_find_113 : decode cX5_find 113 = .ok (.aload_n 1, 1) := by decide +kernel
theorem dX5_find_114 : decode cX5_find 114 = .ok (.aload_n 3, 1) := by decide +kernel
theorem dX5_find_115 : decode cX5_find 115 = .ok (.aload 4, 2) := by decide +kernel
theorem dX5_find_117 : decode cX5_find 117 = .ok (.invokevirtual 61, 3) := by decide +kernel
theorem dX5_find_120 : decode cX5_find 120 = .ok (.aload_n 0, 1) := by decide +kernel
theorem dX5_find_121 : decode cX5_find 121 = .ok (.aload_n 3, 1) := by decide +kernel
theorem dX5_find_122 : decode cX5_find 122 = .ok (.getfield 35, 3) := by decide +kernel
theorem dX5_find_125 : decode cX5_find 125 = .ok (.iload 8, 2) := by decide +kernel
theorem dX5_find_127 : decode cX5_find 127 = .ok (.aload_n 2, 1) := by decide +kernel
theorem dX5_find_128 : decode cX5_find 128 = .ok (.invokevirtual 67, 3) := by decide +kernel
theorem dX5_find_131 : decode cX5_find 131 = .ok (.ifCond .eq 37, 3) := by decide +kernel
theorem dX5_find_134 : decode cX5_find 134 = .ok (.aload_n 0, 1) := by decide +kernel
theorem dX5_find_135 : decode cX5_find 135 = .ok (.aload_n 3, 1) := by decide +kernel
theorem dX5_find_136 : decode cX5_find 136 = .ok (.getfield 35, 3) := by decide +kernel
theorem dX5_find_139 : decode cX5_find 139 = .ok (.iload 8, 2) := by decide +kernel
theorem dX5_find_141 : decode cX5_find 141 = .ok (.invokevirtual 71, 3) := by decide +kernel
theorem dX5_find_144 : decode cX5_find 144 = .ok (.ifCond .eq 24, 3) := by decide +kernel
theorem dX5_find_147 : decode cX5_find 147 = .ok (.aload_n 0, 1) := by decide +kernel
theorem dX5_find_148 : decode cX5_find 148 = .ok (.getfield 9, 3) := by decide +kernel
theorem dX5_find_151 : decode cX5_find 151 = .ok (.aload_n 0, 1) := by decide +kernel
theorem dX5_find_152 : decode cX5_find 152 = .ok (.getfield 32, 3) := by decide +kernel
theorem dX5_find_155 : decode cX5_find 155 = .ok (.iload 8, 2) := by decide +kernel
theorem dX5_find_157 : decode cX5_find 157 = .ok (.iastore, 1) := by decide +kernel
theorem dX5_find_158 : decode cX5_find 158 = .ok (.aload_n 0, 1) := by decide +kernel
theorem dX5_find_159 : decode cX5_find 159 = .ok (.dup, 1) := by decide +kernel
theorem dX5_find_160 : decode cX5_find 160 = .ok (.getfield 32, 3) := by decide +kernel
theorem dX5_find_163 : decode cX5_find 163 = .ok (.iconst 1, 1) := by decide +kernel
theorem dX5_find_164 : decode cX5_find 164 = .ok (.iadd, 1) := by decide +kernel
theorem dX5_find_165 : decode cX5_find 165 = .ok (.putfield 32, 3) := by decide +kernel
theorem dX5_find_168 : decode cX5_find 168 = .ok (.iinc 8 1, 3) := by decide +kernel
theorem dX5_find_171 : decode cX5_find 171 = .ok (.goto (-73), 3) := by decide +kernel
theorem dX5_find_174 : decode cX5_find 174 = .ok (.return_, 1) := by decide +kernel
theorem zm_X5_find : ZMv "ClassOfMany$Resting" yX5_find cX5_find 9 (none) 6 := ⟨kw_5_114, kw_5_112, kw_5_113, kw_1_8, by decide +kernel, by decide⟩
def zf_X5_find_L25 (o3 : Nat) (o4 : Nat) (K72 : ZMem → Option (ZMem)) : Nat → Int32 → ZMem → Option (ZMem)
  | 0, _, _ => none
  | n25 + 1, v40, M41 =>
  (if (M41 o3 0) ≤ v40 then (K72 M41) else zb1 (zf_X7_claimOf o4 o3 v40 M41) (fun v43 => zst M41 74 10 v40 (zmax (0 : Int32) (((v43 * (M41 71 1)) / (100 : Int32)) - (M41 71 2))) (fun M44 => (zf_X5_find_L25 o3 o4 K72 n25 (v40 + (1 : Int32)) M44))))
def zf_X5_find_j168 (R98 : Int32 → ZMem → Option (ZMem)) (v48 : Int32) (M55 : ZMem) : Option (ZMem) :=
  (R98 (v48 + (1 : Int32)) M55)
def zf_X5_find_L98 (M45 : ZMem) (o3 : Nat) (o4 : Nat) (n : Nat) (K174 : ZMem → Option (ZMem)) : Nat → Int32 → ZMem → Option (ZMem)
  | 0, _, _ => none
  | n98 + 1, v48, M49 =>
  (if ((1 : Int32) <<< ((M45 o3 0) &&& 31)) ≤ v48 then (K174 M49) else zput M49 o4 4 v48 (fun M51 => zb1 (zf_X3_pay n o3 o4 M51) (fun M52 => zb2 (zf_X5_weigh n (M52 o3 0) v48 M52) (fun v53 M54 => (if v53 = 0 then (zf_X5_find_j168 (fun x0 x1 => zf_X5_find_L98 M45 o3 o4 n K174 n98 x0 x1) v48 M54) else zb1 (zf_X5_noneComesIn n (M54 o3 0) v48 M54) (fun v56 => (if v56 = 0 then (zf_X5_find_j168 (fun x0 x1 => zf_X5_find_L98 M45 o3 o4 n K174 n98 x0 x1) v48 M54) else zst M54 72 1024 (M54 71 3) v48 (fun M57 => zput M57 71 3 ((M57 71 3) + (1 : Int32)) (fun M58 => (zf_X5_find_j168 (fun x0 x1 => zf_X5_find_L98 M45 o3 o4 n K174 n98 x0 x1) v48 M58))))))))))
def zf_X5_find (n : Nat) (o3 : Nat) (o4 : Nat) (a5 : Int32) (a6 : Int32) (M : ZMem) : Option (ZMem) :=
  zput M 71 0 (1 : Int32) (fun M36 => zput M36 71 1 a5 (fun M37 => zput M37 71 2 a6 (fun M38 => zput M38 71 3 (0 : Int32) (fun M39 => (zf_X5_find_L25 o3 o4 (fun M45 => zput M45 o4 5 (((1 : Int32) <<< ((M45 o3 0) &&& 31)) - (1 : Int32)) (fun M46 => zput M46 o4 6 (0 : Int32) (fun M47 => (zf_X5_find_L98 M45 o3 o4 n (fun M59 => some M59) n (0 : Int32) M47)))) n (0 : Int32) M39)))))
set_option maxHeartbeats 4000000 in
set_option maxRecDepth 100000 in
theorem zc_X5_find {l : Launch} {D : va_G} {ad : Nat → Nat} {cA : Nat → ClassId} {n : Nat} {o3 : Nat} {o4 : Nat} {a5 : Int32} {a6 : Int32} {M : ZMem} {M' : ZMem} (ho3 : zk o3 = (7, 17)) (ho4 : zk o4 = (6, 12)) (hf : zf_X5_find n o3 o4 a5 a6 M = some M') : ZCt l D ad cA yX5_find cX5_find 9 (none) 18 [.ref (ad 71), .ref (ad 57), .ref (ad 63), .ref (ad o3), .ref (ad o4), .int a5, .int a6] M none M' := by
  refine zct (by decide +kernel) (Nat.le_of_ble_eq_true rfl) (lv := [(0, .ref (ad 71)), (1, .ref (ad 57)), (2, .ref (ad 63)), (3, .ref (ad o3)), (4, .ref (ad o4)), (5, .int a5), (6, .int a6)]) rfl (fun E hl hD had hcA hN hC hR => ?_)
  subst hl; subst hD; subst had; subst hcA
  unfold zf_X5_find at hf
  refine zw_aload_n hC dX5_find_0 rfl 0 rfl ?_
  refine zw_iconst hC (v := (1 : Int32)) dX5_find_1 (by decide) ?_
  refine zw_putz hC hf zF_Resting_known ⟨rfl, rfl⟩ zk_71 dX5_find_2 kw_2_130 (fun M36 hf => ?_)
  refine zw_aload_n hC dX5_find_5 rfl 0 rfl ?_
  refine zw_iload hC dX5_find_6 5 rfl ?_
  refine zw_puti hC hf zF_Resting_odds zk_71 dX5_find_8 kw_2_131 (fun M37 hf => ?_)
  refine zw_aload_n hC dX5_find_11 rfl 0 rfl ?_
  refine zw_iload hC dX5_find_12 6 rfl ?_
  refine zw_puti hC hf zF_Resting_suit zk_71 dX5_find_14 kw_2_132 (fun M38 hf => ?_)
  refine zw_aload_n hC dX5_find_17 rfl 0 rfl ?_
  refine zw_iconst hC (v := (0 : Int32)) dX5_find_18 (by decide) ?_
  refine zw_puti hC hf zF_Resting_size zk_71 dX5_find_19 kw_2_133 (fun M39 hf => ?_)
  refine zw_iconst hC (v := (0 : Int32)) dX5_find_22 (by decide) ?_
  refine zw_istore hC (lv' := [(7, .int (0 : Int32)), (0, .ref (zad E 71)), (1, .ref (zad E 57)), (2, .ref (zad E 63)), (3, .ref (zad E o3)), (4, .ref (zad E o4)), (5, .int a5), (6, .int a6)]) dX5_find_23 hN (by decide) rfl ?_
  have hL25 : ∀ (K72 : ZMem → Option (ZMem)), (∀ (M42 : ZMem), K72 M42 = some M' → ZW E 72 [(0, .ref (zad E 71)), (1, .ref (zad E 57)), (2, .ref (zad E 63)), (3, .ref (zad E o3)), (4, .ref (zad E o4))] [] M42) → ∀ (n25 : Nat), ∀ (v40 : Int32), ∀ (M41 : ZMem), zf_X5_find_L25 o3 o4 K72 n25 v40 M41 = some M' → ZW E 25 [(0, .ref (zad E 71)), (1, .ref (zad E 57)), (2, .ref (zad E 63)), (3, .ref (zad E o3)), (4, .ref (zad E o4)), (7, .int v40)] [] M41 := by
    intro K72 hK72
    intro n25
    induction n25 with
    | zero => intro v40 M41 hf; rw [zf_X5_find_L25] at hf; cases hf
    | succ n25 ih25 =>
      intro v40 M41 hf
      rw [zf_X5_find_L25] at hf
      refine zw_iload hC dX5_find_25 5 rfl ?_
      refine zw_aload_n hC dX5_find_27 rfl 3 rfl ?_
      refine zw_geti hC zF_Told_members ho3 dX5_find_28 kw_1_37 ?_
      refine zw_icmp_ge hC 72 hf dX5_find_31 (by decide) (fun hf => ?_) (fun hf => ?_)
      · exact zw_sub [0, 1, 2, 3, 4] rfl (hK72 M41 hf)
      · refine zw_aload_n hC dX5_find_34 rfl 0 rfl ?_
        refine zw_getr (k' := 74) hC zF_Resting_outside zk_71 rfl dX5_find_35 kw_2_138 ?_
        refine zw_iload hC dX5_find_38 5 rfl ?_
        refine zw_iconst hC (v := (0 : Int32)) dX5_find_40 (by decide) ?_
        refine zw_aload hC dX5_find_41 4 rfl ?_
        refine zw_aload_n hC dX5_find_43 rfl 3 rfl ?_
        refine zw_iload hC dX5_find_44 5 rfl ?_
        obtain ⟨v43, hc43, hf⟩ := zb1_some hf
        refine zw_cV hC [.ref (zad E o3), .int v40] [.int (0 : Int32), .int v40, .ref (zad E 74)] (st1 := [.int v43, .int (0 : Int32), .int v40, .ref (zad E 74)]) zm_X7_claimOf (zc_X7_claimOf ho4 ho3 hc43) ho4 rfl kw_5_115 dX5_find_46 rfl (by decide) (Nat.le_of_ble_eq_true rfl) rfl rfl ?_
        refine zw_aload_n hC dX5_find_49 rfl 0 rfl ?_
        refine zw_geti hC zF_Resting_odds zk_71 dX5_find_50 kw_2_131 ?_
        refine zw_imul hC dX5_find_53 ?_
        refine zw_bipush hC (v := (100 : Int32)) dX5_find_54 (by decide) ?_
        refine zw_idivc hC dX5_find_56 (by decide) ?_
        refine zw_aload_n hC dX5_find_57 rfl 0 rfl ?_
        refine zw_geti hC zF_Resting_suit zk_71 dX5_find_58 kw_2_132 ?_
        refine zw_isub hC dX5_find_61 ?_
        refine zw_mmax hC (by decide) (Nat.le_of_ble_eq_true rfl) dX5_find_62 kw_5_116 kw_4_19 kw_1_18 kw_4_20 ?_
        refine zw_iast hC hf zk_74 dX5_find_65 (fun M44 hf => ?_)
        refine zw_iinc hC (v := (1 : Int32)) (lv' := [(7, .int (v40 + (1 : Int32))), (0, .ref (zad E 71)), (1, .ref (zad E 57)), (2, .ref (zad E 63)), (3, .ref (zad E o3)), (4, .ref (zad E o4))]) dX5_find_66 5 rfl (by decide) hN (by decide) rfl ?_
        refine zw_goto hC 25 dX5_find_69 (by decide) ?_
        exact zw_sub [1, 2, 3, 4, 5, 0] rfl (ih25 (v40 + (1 : Int32)) M44 hf)
  refine zw_sub [1, 2, 3, 4, 5, 0] rfl (hL25 _ ?_ n (0 : Int32) M39 hf)
  · intro M45 hf
    refine zw_iconst hC (v := (1 : Int32)) dX5_find_72 (by decide) ?_
    refine zw_aload_n hC dX5_find_73 rfl 3 rfl ?_
    refine zw_geti hC zF_Told_members ho3 dX5_find_74 kw_1_37 ?_
    refine zw_ishl hC dX5_find_77 ?_
    refine zw_istore hC (lv' := [(7, .int ((1 : Int32) <<< ((M45 o3 0) &&& 31))), (0, .ref (zad E 71)), (1, .ref (zad E 57)), (2, .ref (zad E 63)), (3, .ref (zad E o3)), (4, .ref (zad E o4))]) dX5_find_78 hN (by decide) rfl ?_
    refine zw_aload hC dX5_find_80 5 rfl ?_
    refine zw_iload hC dX5_find_82 0 rfl ?_
    refine zw_iconst hC (v := (1 : Int32)) dX5_find_84 (by decide) ?_
    refine zw_isub hC dX5_find_85 ?_
    refine zw_puti hC hf zF_Standing_filed ho4 dX5_find_86 kw_1_149 (fun M46 hf => ?_)
    refine zw_aload hC dX5_find_89 5 rfl ?_
    refine zw_iconst hC (v := (0 : Int32)) dX5_find_91 (by decide) ?_
    refine zw_puti hC hf zF_Standing_lazy ho4 dX5_find_92 kw_1_153 (fun M47 hf => ?_)
    refine zw_iconst hC (v := (0 : Int32)) dX5_find_95 (by decide) ?_
    refine zw_istore hC (lv' := [(8, .int (0 : Int32)), (7, .int ((1 : Int32) <<< ((M45 o3 0) &&& 31))), (0, .ref (zad E 71)), (1, .ref (zad E 57)), (2, .ref (zad E 63)), (3, .ref (zad E o3)), (4, .ref (zad E o4))]) dX5_find_96 hN (by decide) rfl ?_
    have hL98 : ∀ (K174 : ZMem → Option (ZMem)), (∀ (M50 : ZMem), K174 M50 = some M' → ZW E 174 [] [] M50) → ∀ (n98 : Nat), ∀ (v48 : Int32), ∀ (M49 : ZMem), zf_X5_find_L98 M45 o3 o4 n K174 n98 v48 M49 = some M' → ZW E 98 [(0, .ref (zad E 71)), (1, .ref (zad E 57)), (2, .ref (zad E 63)), (3, .ref (zad E o3)), (4, .ref (zad E o4)), (7, .int ((1 : Int32) <<< ((M45 o3 0) &&& 31))), (8, .int v48)] [] M49 := by
      intro K174 hK174
      intro n98
      induction n98 with
      | zero => intro v48 M49 hf; rw [zf_X5_find_L98] at hf; cases hf
      | succ n98 ih98 =>
        intro v48 M49 hf
        rw [zf_X5_find_L98] at hf
        refine zw_iload hC dX5_find_98 6 rfl ?_
        refine zw_iload hC dX5_find_100 5 rfl ?_
        refine zw_icmp_ge hC 174 hf dX5_find_102 (by decide) (fun hf => ?_) (fun hf => ?_)
        · exact zw_sub [] rfl (hK174 M49 hf)
        · refine zw_aload hC dX5_find_105 4 rfl ?_
          refine zw_iload hC dX5_find_107 6 rfl ?_
          refine zw_puti hC hf zF_Standing_out ho4 dX5_find_109 kw_1_145 (fun M51 hf => ?_)
          refine zw_aload_n hC dX5_find_112 rfl 2 rfl ?_
          refine zw_aload_n hC dX5_find_113 rfl 1 rfl ?_
          refine zw_aload_n hC dX5_find_114 rfl 3 rfl ?_
          refine zw_aload hC dX5_find_115 4 rfl ?_
          obtain ⟨M52, hcM52, hf⟩ := zb1_some hf
          refine zw_cV hC [.ref (zad E 57), .ref (zad E o3), .ref (zad E o4)] [] (st1 := []) zm_X3_pay (zc_X3_pay ho3 ho4 hcM52) zk_63 rfl kw_5_117 dX5_find_117 rfl (by decide) (Nat.le_of_ble_eq_true rfl) rfl rfl ?_
          refine zw_aload_n hC dX5_find_120 rfl 0 rfl ?_
          refine zw_aload_n hC dX5_find_121 rfl 3 rfl ?_
          refine zw_geti hC zF_Told_members ho3 dX5_find_122 kw_1_37 ?_
          refine zw_iload hC dX5_find_125 6 rfl ?_
          refine zw_aload_n hC dX5_find_127 rfl 2 rfl ?_
          obtain ⟨v53, M54, hcM54, hf⟩ := zb2_some hf
          refine zw_cV hC [.int (M52 o3 0), .int v48, .ref (zad E 63)] [] (st1 := [.int v53]) zm_X5_weigh (zc_X5_weigh hcM54) zk_71 rfl kw_5_118 dX5_find_128 rfl (by decide) (Nat.le_of_ble_eq_true rfl) rfl rfl ?_
          have hj168 : ∀ (M55 : ZMem), zf_X5_find_j168 (fun x0 x1 => zf_X5_find_L98 M45 o3 o4 n K174 n98 x0 x1) v48 M55 = some M' → ZW E 168 [(0, .ref (zad E 71)), (1, .ref (zad E 57)), (2, .ref (zad E 63)), (3, .ref (zad E o3)), (4, .ref (zad E o4)), (7, .int ((1 : Int32) <<< ((M45 o3 0) &&& 31))), (8, .int v48)] [] M55 := by
            intro M55 hf
            unfold zf_X5_find_j168 at hf
            refine zw_iinc hC (v := (1 : Int32)) (lv' := [(8, .int (v48 + (1 : Int32))), (0, .ref (zad E 71)), (1, .ref (zad E 57)), (2, .ref (zad E 63)), (3, .ref (zad E o3)), (4, .ref (zad E o4)), (7, .int ((1 : Int32) <<< ((M45 o3 0) &&& 31)))]) dX5_find_168 6 rfl (by decide) hN (by decide) rfl ?_
            refine zw_goto hC 98 dX5_find_171 (by decide) ?_
            exact zw_sub [1, 2, 3, 4, 5, 6, 0] rfl (ih98 (v48 + (1 : Int32)) M55 hf)
          refine zw_if_eq hC 168 hf dX5_find_131 (by decide) (fun hf => ?_) (fun hf => ?_)
          · exact hj168 M54 hf
          · refine zw_aload_n hC dX5_find_134 rfl 0 rfl ?_
            refine zw_aload_n hC dX5_find_135 rfl 3 rfl ?_
            refine zw_geti hC zF_Told_members ho3 dX5_find_136 kw_1_37 ?_
            refine zw_iload hC dX5_find_139 6 rfl ?_
            obtain ⟨v56, hc56, hf⟩ := zb1_some hf
            refine zw_cV hC [.int (M54 o3 0), .int v48] [] (st1 := [.int v56]) zm_X5_noneComesIn (zc_X5_noneComesIn hc56) zk_71 rfl kw_5_123 dX5_find_141 rfl (by decide) (Nat.le_of_ble_eq_true rfl) rfl rfl ?_
            refine zw_if_eq hC 168 hf dX5_find_144 (by decide) (fun hf => ?_) (fun hf => ?_)
            · exact hj168 M54 hf
            · refine zw_aload_n hC dX5_find_147 rfl 0 rfl ?_
              refine zw_getr (k' := 72) hC zF_Resting_sets zk_71 rfl dX5_find_148 kw_2_135 ?_
              refine zw_aload_n hC dX5_find_151 rfl 0 rfl ?_
              refine zw_geti hC zF_Resting_size zk_71 dX5_find_152 kw_2_133 ?_
              refine zw_iload hC dX5_find_155 6 rfl ?_
              refine zw_iast hC hf zk_72 dX5_find_157 (fun M57 hf => ?_)
              refine zw_aload_n hC dX5_find_158 rfl 0 rfl ?_
              refine zw_dup hC dX5_find_159 rfl ?_
              refine zw_geti hC zF_Resting_size zk_71 dX5_find_160 kw_2_133 ?_
              refine zw_iconst hC (v := (1 : Int32)) dX5_find_163 (by decide) ?_
              refine zw_iadd hC dX5_find_164 ?_
              refine zw_puti hC hf zF_Resting_size zk_71 dX5_find_165 kw_2_133 (fun M58 hf => ?_)
              exact hj168 M58 hf
    refine zw_sub [2, 3, 4, 5, 6, 1, 0] rfl (hL98 _ ?_ n (0 : Int32) M47 hf)
    · intro M59 hf
      have h1 := Option.some.inj hf
      subst h1
      exact zw_vret hC hR dX5_find_174
/-! Page.putText(Ljava/lang/String;)V -/
theorem dX2_putText_0 : decode cX2_putText 0 = .ok (.iconst 0, 1) := by decide +kernel
theorem dX2_putText_1 : decode cX2_putText 1 = .ok (.istore_n 2, 1) := by decide +kernel
theorem dX2_putText_2 : decode cX2_putText 2 = .ok (.iload_n 2, 1) := by decide +kernel
theorem dX2_putText_3 : decode cX2_putText 3 = .ok (.aload_n 1, 1) := by decide +kernel
theorem dX2_putText_4 : decode cX2_putText 4 = .ok (.invokevirtual 29, 3) := by decide +kernel
theorem dX2_putText_7 : decode cX2_putText 7 = .ok (.if_icmp .ge 18, 3) := by decide +kernel
theorem dX2_putText_10 : decode cX2_putText 10 = .ok (.aload_n 0, 1) := by decide +kernel
theorem dX2_putText_11 : decode cX2_putText 11 = .ok (.aload_n 1, 1) := by decide +kernel
theorem dX2_putText_12 : decode cX2_putText 12 = .ok (.iload_n 2, 1) := by decide +kernel
theorem dX2_putText_13 : decode cX2_putText 13 = .ok (.invokevirtual 35, 3) := by decide +kernel
theorem dX2_putText_16 : decode cX2_putText 16 = .ok (.invokevirtual 39, 3) := by decide +kernel
theorem dX2_putText_19 : decode cX2_putText 19 = .ok (.iinc 2 1, 3) := by decide +kernel
theorem dX2_putText_22 : decode cX2_putText 22 = .ok (.goto (-20), 3) := by decide +kernel
theorem dX2_putText_25 : decode cX2_putText 25 = .ok (.return_, 1) := by decide +kernel
theorem zm_X2_putText : ZMv "ClassOfMany$Page" yX2_putText cX2_putText 3 (none) 1 := ⟨kw_5_171, kw_5_169, kw_5_170, kw_1_9, by decide +kernel, by decide⟩
def zf_X2_putText_L2 (s1 : Nat) (K25 : ZMem → Option (ZMem)) : Nat → Int32 → ZMem → Option (ZMem)
  | 0, _, _ => none
  | n2 + 1, v24, M25 =>
  zslen s1 (fun v27 => (if v27 ≤ v24 then (K25 M25) else zschr s1 v24 (fun v28 => zb1 (zf_X2_putByte v28 M25) (fun M29 => (zf_X2_putText_L2 s1 K25 n2 (v24 + (1 : Int32)) M29)))))
def zf_X2_putText (n : Nat) (s1 : Nat) (M : ZMem) : Option (ZMem) :=
  (zf_X2_putText_L2 s1 (fun M30 => some M30) n (0 : Int32) M)
set_option maxHeartbeats 4000000 in
set_option maxRecDepth 100000 in
theorem zc_X2_putText {l : Launch} {D : va_G} {ad : Nat → Nat} {cA : Nat → ClassId} {n : Nat} {s1 : Nat} {M : ZMem} {M' : ZMem} (hs1 : s1 < zNs) (hf : zf_X2_putText n s1 M = some M') : ZCt l D ad cA yX2_putText cX2_putText 3 (none) 9 [.ref (ad 75), .ref (ad (1000 + s1))] M none M' := by
  refine zct (by decide +kernel) (Nat.le_of_ble_eq_true rfl) (lv := [(0, .ref (ad 75)), (1, .ref (ad (1000 + s1)))]) rfl (fun E hl hD had hcA hN hC hR => ?_)
  subst hl; subst hD; subst had; subst hcA
  unfold zf_X2_putText at hf
  refine zw_iconst hC (v := (0 : Int32)) dX2_putText_0 (by decide) ?_
  refine zw_istore_n hC (lv' := [(2, .int (0 : Int32)), (0, .ref (zad E 75)), (1, .ref (zad E (1000 + s1)))]) dX2_putText_1 rfl hN (by decide) rfl ?_
  have hL2 : ∀ (K25 : ZMem → Option (ZMem)), (∀ (M26 : ZMem), K25 M26 = some M' → ZW E 25 [] [] M26) → ∀ (n2 : Nat), ∀ (v24 : Int32), ∀ (M25 : ZMem), zf_X2_putText_L2 s1 K25 n2 v24 M25 = some M' → ZW E 2 [(0, .ref (zad E 75)), (1, .ref (zad E (1000 + s1))), (2, .int v24)] [] M25 := by
    intro K25 hK25
    intro n2
    induction n2 with
    | zero => intro v24 M25 hf; rw [zf_X2_putText_L2] at hf; cases hf
    | succ n2 ih2 =>
      intro v24 M25 hf
      rw [zf_X2_putText_L2] at hf
      refine zw_iload_n hC dX2_putText_2 rfl 2 rfl ?_
      refine zw_aload_n hC dX2_putText_3 rfl 1 rfl ?_
      refine zw_slen hC (by decide) (Nat.le_of_ble_eq_true rfl) hf dX2_putText_4 kw_5_172 (fun v27 hf => ?_)
      refine zw_icmp_ge hC 25 hf dX2_putText_7 (by decide) (fun hf => ?_) (fun hf => ?_)
      · exact zw_sub [] rfl (hK25 M25 hf)
      · refine zw_aload_n hC dX2_putText_10 rfl 0 rfl ?_
        refine zw_aload_n hC dX2_putText_11 rfl 1 rfl ?_
        refine zw_iload_n hC dX2_putText_12 rfl 2 rfl ?_
        refine zw_schr hC (by decide) (Nat.le_of_ble_eq_true rfl) hf dX2_putText_13 kw_5_173 (fun v28 hf => ?_)
        obtain ⟨M29, hcM29, hf⟩ := zb1_some hf
        refine zw_cV hC [.int v28] [] (st1 := []) zm_X2_putByte (zc_X2_putByte hcM29) zk_75 rfl kw_5_174 dX2_putText_16 rfl (by decide) (Nat.le_of_ble_eq_true rfl) rfl rfl ?_
        refine zw_iinc hC (v := (1 : Int32)) (lv' := [(2, .int (v24 + (1 : Int32))), (0, .ref (zad E 75)), (1, .ref (zad E (1000 + s1)))]) dX2_putText_19 2 rfl (by decide) hN (by decide) rfl ?_
        refine zw_goto hC 2 dX2_putText_22 (by decide) ?_
        exact zw_sub [1, 2, 0] rfl (ih2 (v24 + (1 : Int32)) M29 hf)
  refine zw_sub [1, 2, 0] rfl (hL2 _ ?_ n (0 : Int32) M hf)
  · intro M30 hf
    have h1 := Option.some.inj hf
    subst h1
    exact zw_vret hC hR dX2_putText_25
/-! Page.putOne(Ljava/lang/String;I)V -/
theorem dX2_putOne_0 : decode cX2_putOne 0 = .ok (.aload_n 0, 1) := by decide +kernel
theorem dX2_putOne_1 : decode cX2_putOne 1 = .ok (.aload_n 1, 1) := by decide +kernel
theorem dX2_putOne_2 : decode cX2_putOne 2 = .ok (.invokevirtual 19, 3) := by decide +kernel
theorem dX2_putOne_5 : decode cX2_putOne 5 = .ok (.aload_n 0, 1) := by decide +kernel
theorem dX2_putOne_6 : decode cX2_putOne 6 = .ok (.iload_n 2, 1) := by decide +kernel
theorem dX2_putOne_7 : decode cX2_putOne 7 = .ok (.invokevirtual 23, 3) := by decide +kernel
theorem dX2_putOne_10 : decode cX2_putOne 10 = .ok (.aload_n 0, 1) := by decide +kernel
theorem dX2_putOne_11 : decode cX2_putOne 11 = .ok (.ldc 27, 2) := by decide +kernel
theorem dX2_putOne_13 : decode cX2_putOne 13 = .ok (.invokevirtual 19, 3) := by decide +kernel
theorem dX2_putOne_16 : decode cX2_putOne 16 = .ok (.return_, 1) := by decide +kernel
theorem zm_X2_putOne : ZMv "ClassOfMany$Page" yX2_putOne cX2_putOne 3 (none) 2 := ⟨kw_5_167, kw_5_165, kw_5_166, kw_1_9, by decide +kernel, by decide⟩
def zf_X2_putOne (n : Nat) (s1 : Nat) (a2 : Int32) (M : ZMem) : Option (ZMem) :=
  zb1 (zf_X2_putText n s1 M) (fun M24 => zb1 (zf_X2_putNumber n a2 M24) (fun M25 => zb1 (zf_X2_putText n 9 M25) (fun M26 => some M26)))
set_option maxHeartbeats 4000000 in
set_option maxRecDepth 100000 in
theorem zc_X2_putOne {l : Launch} {D : va_G} {ad : Nat → Nat} {cA : Nat → ClassId} {n : Nat} {s1 : Nat} {a2 : Int32} {M : ZMem} {M' : ZMem} (hs1 : s1 < zNs) (hf : zf_X2_putOne n s1 a2 M = some M') : ZCt l D ad cA yX2_putOne cX2_putOne 3 (none) 10 [.ref (ad 75), .ref (ad (1000 + s1)), .int a2] M none M' := by
  refine zct (by decide +kernel) (Nat.le_of_ble_eq_true rfl) (lv := [(0, .ref (ad 75)), (1, .ref (ad (1000 + s1))), (2, .int a2)]) rfl (fun E hl hD had hcA hN hC hR => ?_)
  subst hl; subst hD; subst had; subst hcA
  unfold zf_X2_putOne at hf
  refine zw_aload_n hC dX2_putOne_0 rfl 0 rfl ?_
  refine zw_aload_n hC dX2_putOne_1 rfl 1 rfl ?_
  obtain ⟨M24, hcM24, hf⟩ := zb1_some hf
  refine zw_cV hC [.ref (zad E (1000 + s1))] [] (st1 := []) zm_X2_putText (zc_X2_putText hs1 hcM24) zk_75 rfl kw_5_168 dX2_putOne_2 rfl (by decide) (Nat.le_of_ble_eq_true rfl) rfl rfl ?_
  refine zw_aload_n hC dX2_putOne_5 rfl 0 rfl ?_
  refine zw_iload_n hC dX2_putOne_6 rfl 2 rfl ?_
  obtain ⟨M25, hcM25, hf⟩ := zb1_some hf
  refine zw_cV hC [.int a2] [] (st1 := []) zm_X2_putNumber (zc_X2_putNumber hcM25) zk_75 rfl kw_5_178 dX2_putOne_7 rfl (by decide) (Nat.le_of_ble_eq_true rfl) rfl rfl ?_
  refine zw_aload_n hC dX2_putOne_10 rfl 0 rfl ?_
  refine zw_lds hC (i := 9) dX2_putOne_11 zl_X2_27 ?_
  obtain ⟨M26, hcM26, hf⟩ := zb1_some hf
  refine zw_cV hC [.ref (zad E (1000 + 9))] [] (st1 := []) zm_X2_putText (zc_X2_putText (by decide) hcM26) zk_75 rfl kw_5_168 dX2_putOne_13 rfl (by decide) (Nat.le_of_ble_eq_true rfl) rfl rfl ?_
  have h1 := Option.some.inj hf
  subst h1
  exact zw_vret hC hR dX2_putOne_16
/-! Page.putTwo(Ljava/lang/String;II)V -/
theorem dX2_putTwo_0 : decode cX2_putTwo 0 = .ok (.aload_n 0, 1) := by decide +kernel
theorem dX2_putTwo_1 : decode cX2_putTwo 1 = .ok (.aload_n 1, 1) := by decide +kernel
theorem dX2_putTwo_2 : decode cX2_putTwo 2 = .ok (.invokevirtual 19, 3) := by decide +kernel
theorem dX2_putTwo_5 : decode cX2_putTwo 5 = .ok (.aload_n 0, 1) := by decide +kernel
theorem dX2_putTwo_6 : decode cX2_putTwo 6 = .ok (.iload_n 2, 1) := by decide +kernel
theorem dX2_putTwo_7 : decode cX2_putTwo 7 = .ok (.invokevirtual 23, 3) := by decide +kernel
theorem dX2_putTwo_10 : decode cX2_putTwo 10 = .ok (.aload_n 0, 1) := by decide +kernel
theorem dX2_putTwo_11 : decode cX2_putTwo 11 = .ok (.iload_n 3, 1) := by decide +kernel
theorem dX2_putTwo_12 : decode cX2_putTwo 12 = .ok (.invokevirtual 23, 3) := by decide +kernel
theorem dX2_putTwo_15 : decode cX2_putTwo 15 = .ok (.aload_n 0, 1) := by decide +kernel
theorem dX2_putTwo_16 : decode cX2_putTwo 16 = .ok (.ldc 27, 2) := by decide +kernel
theorem dX2_putTwo_18 : decode cX2_putTwo 18 = .ok (.invokevirtual 19, 3) := by decide +kernel
theorem dX2_putTwo_21 : decode cX2_putTwo 21 = .ok (.return_, 1) := by decide +kernel
theorem zm_X2_putTwo : ZMv "ClassOfMany$Page" yX2_putTwo cX2_putTwo 4 (none) 3 := ⟨kw_5_186, kw_5_184, kw_5_185, kw_1_9, by decide +kernel, by decide⟩
def zf_X2_putTwo (n : Nat) (s1 : Nat) (a2 : Int32) (a3 : Int32) (M : ZMem) : Option (ZMem) :=
  zb1 (zf_X2_putText n s1 M) (fun M25 => zb1 (zf_X2_putNumber n a2 M25) (fun M26 => zb1 (zf_X2_putNumber n a3 M26) (fun M27 => zb1 (zf_X2_putText n 9 M27) (fun M28 => some M28))))
set_option maxHeartbeats 4000000 in
set_option maxRecDepth 100000 in
theorem zc_X2_putTwo {l : Launch} {D : va_G} {ad : Nat → Nat} {cA : Nat → ClassId} {n : Nat} {s1 : Nat} {a2 : Int32} {a3 : Int32} {M : ZMem} {M' : ZMem} (hs1 : s1 < zNs) (hf : zf_X2_putTwo n s1 a2 a3 M = some M') : ZCt l D ad cA yX2_putTwo cX2_putTwo 4 (none) 10 [.ref (ad 75), .ref (ad (1000 + s1)), .int a2, .int a3] M none M' := by
  refine zct (by decide +kernel) (Nat.le_of_ble_eq_true rfl) (lv := [(0, .ref (ad 75)), (1, .ref (ad (1000 + s1))), (2, .int a2), (3, .int a3)]) rfl (fun E hl hD had hcA hN hC hR => ?_)
  subst hl; subst hD; subst had; subst hcA
  unfold zf_X2_putTwo at hf
  refine zw_aload_n hC dX2_putTwo_0 rfl 0 rfl ?_
  refine zw_aload_n hC dX2_putTwo_1 rfl 1 rfl ?_
  obtain ⟨M25, hcM25, hf⟩ := zb1_some hf
  refine zw_cV hC [.ref (zad E (1000 + s1))] [] (st1 := []) zm_X2_putText (zc_X2_putText hs1 hcM25) zk_75 rfl kw_5_168 dX2_putTwo_2 rfl (by decide) (Nat.le_of_ble_eq_true rfl) rfl rfl ?_
  refine zw_aload_n hC dX2_putTwo_5 rfl 0 rfl ?_
  refine zw_iload_n hC dX2_putTwo_6 rfl 2 rfl ?_
  obtain ⟨M26, hcM26, hf⟩ := zb1_some hf
  refine zw_cV hC [.int a2] [] (st1 := []) zm_X2_putNumber (zc_X2_putNumber hcM26) zk_75 rfl kw_5_178 dX2_putTwo_7 rfl (by decide) (Nat.le_of_ble_eq_true rfl) rfl rfl ?_
  refine zw_aload_n hC dX2_putTwo_10 rfl 0 rfl ?_
  refine zw_iload_n hC dX2_putTwo_11 rfl 3 rfl ?_
  obtain ⟨M27, hcM27, hf⟩ := zb1_some hf
  refine zw_cV hC [.int a3] [] (st1 := []) zm_X2_putNumber (zc_X2_putNumber hcM27) zk_75 rfl kw_5_178 dX2_putTwo_12 rfl (by decide) (Nat.le_of_ble_eq_true rfl) rfl rfl ?_
  refine zw_aload_n hC dX2_putTwo_15 rfl 0 rfl ?_
  refine zw_lds hC (i := 9) dX2_putTwo_16 zl_X2_27 ?_
  obtain ⟨M28, hcM28, hf⟩ := zb1_some hf
  refine zw_cV hC [.ref (zad E (1000 + 9))] [] (st1 := []) zm_X2_putText (zc_X2_putText (by decide) hcM28) zk_75 rfl kw_5_168 dX2_putTwo_18 rfl (by decide) (Nat.le_of_ble_eq_true rfl) rfl rfl ?_
  have h1 := Option.some.inj hf
  subst h1
  exact zw_vret hC hR dX2_putTwo_21
/-! ClassOfMany.wordOf(I)Ljava/lang/String; -/
theorem dX9_wordOf_0 : decode cX9_wordOf 0 = .ok (.iload_n 0, 1) := by decide +kernel
theorem dX9_wordOf_1 : decode cX9_wordOf 1 = .ok (.tableswitch 71 0 6 #[43, 47, 51, 55, 59, 63, 67], 43) := by decide +kernel
theorem dX9_wordOf_44 : decode cX9_wordOf 44 = .ok (.ldc_w 433, 3) := by decide +kernel
theorem dX9_wordOf_47 : decode cX9_wordOf 47 = .ok (.areturn, 1) := by decide +kernel
theorem dX9_wordOf_48 : decode cX9_wordOf 48 = .ok (.ldc_w 434, 3) := by decide +kernel
theorem dX9_wordOf_51 : decode cX9_wordOf 51 = .ok (.areturn, 1) := by decide +kernel
theorem dX9_wordOf_52 : decode cX9_wordOf 52 = .ok (.ldc_w 435, 3) := by decide +kernel
theorem dX9_wordOf_55 : decode cX9_wordOf 55 = .ok (.areturn, 1) := by decide +kernel
theorem dX9_wordOf_56 : decode cX9_wordOf 56 = .ok (.ldc_w 436, 3) := by decide +kernel
theorem dX9_wordOf_59 : decode cX9_wordOf 59 = .ok (.areturn, 1) := by decide +kernel
theorem dX9_wordOf_60 : decode cX9_wordOf 60 = .ok (.ldc_w 437, 3) := by decide +kernel
theorem dX9_wordOf_63 : decode cX9_wordOf 63 = .ok (.areturn, 1) := by decide +kernel
theorem dX9_wordOf_64 : decode cX9_wordOf 64 = .ok (.ldc_w 439, 3) := by decide +kernel
theorem dX9_wordOf_67 : decode cX9_wordOf 67 = .ok (.areturn, 1) := by decide +kernel
theorem dX9_wordOf_68 : decode cX9_wordOf 68 = .ok (.ldc_w 441, 3) := by decide +kernel
theorem dX9_wordOf_71 : decode cX9_wordOf 71 = .ok (.areturn, 1) := by decide +kernel
theorem dX9_wordOf_72 : decode cX9_wordOf 72 = .ok (.ldc_w 443, 3) := by decide +kernel
theorem dX9_wordOf_75 : decode cX9_wordOf 75 = .ok (.areturn, 1) := by decide +kernel
theorem zm_X9_wordOf : ZMs yX9_wordOf cX9_wordOf 1 (some (.object "java/lang/String")) 1 := ⟨kw_3_13, kw_3_12, kw_1_1, by decide +kernel, by decide⟩
def zf_X9_wordOf (a0 : Int32) : Option (Nat) :=
  (if a0 = (0 : Int32) then some 0 else (if a0 = (1 : Int32) then some 1 else (if a0 = (2 : Int32) then some 2 else (if a0 = (3 : Int32) then some 3 else (if a0 = (4 : Int32) then some 4 else (if a0 = (5 : Int32) then some 5 else (if a0 = (6 : Int32) then some 6 else some 7)))))))
set_option maxHeartbeats 4000000 in
set_option maxRecDepth 100000 in
theorem zc_X9_wordOf {l : Launch} {D : va_G} {ad : Nat → Nat} {cA : Nat → ClassId} {a0 : Int32} {M : ZMem} {r : Nat} (hf : zf_X9_wordOf a0 = some r) : ZCt l D ad cA yX9_wordOf cX9_wordOf 1 (some (.object "java/lang/String")) 1 [.int a0] M (some (.ref (ad (1000 + r)))) M := by
  refine zct (by decide +kernel) (Nat.le_of_ble_eq_true rfl) (lv := [(0, .int a0)]) rfl (fun E hl hD had hcA hN hC hR => ?_)
  subst hl; subst hD; subst had; subst hcA
  unfold zf_X9_wordOf at hf
  refine zw_iload_n hC dX9_wordOf_0 rfl 0 rfl ?_
  by_cases hx1_0 : a0 = (0 : Int32)
  · rw [if_pos hx1_0] at hf
    refine zw_tin hC hx1_0 (tgt := 44) dX9_wordOf_1 (by decide) (by decide) rfl (by decide) ?_
    refine zw_ldsw hC (i := 0) dX9_wordOf_44 zl_X9_433 ?_
    have h1 := Option.some.inj hf
    subst h1
    exact zw_aret hC hR dX9_wordOf_47
  rw [if_neg hx1_0] at hf
  by_cases hx1_1 : a0 = (1 : Int32)
  · rw [if_pos hx1_1] at hf
    refine zw_tin hC hx1_1 (tgt := 48) dX9_wordOf_1 (by decide) (by decide) rfl (by decide) ?_
    refine zw_ldsw hC (i := 1) dX9_wordOf_48 zl_X9_434 ?_
    have h1 := Option.some.inj hf
    subst h1
    exact zw_aret hC hR dX9_wordOf_51
  rw [if_neg hx1_1] at hf
  by_cases hx1_2 : a0 = (2 : Int32)
  · rw [if_pos hx1_2] at hf
    refine zw_tin hC hx1_2 (tgt := 52) dX9_wordOf_1 (by decide) (by decide) rfl (by decide) ?_
    refine zw_ldsw hC (i := 2) dX9_wordOf_52 zl_X9_435 ?_
    have h1 := Option.some.inj hf
    subst h1
    exact zw_aret hC hR dX9_wordOf_55
  rw [if_neg hx1_2] at hf
  by_cases hx1_3 : a0 = (3 : Int32)
  · rw [if_pos hx1_3] at hf
    refine zw_tin hC hx1_3 (tgt := 56) dX9_wordOf_1 (by decide) (by decide) rfl (by decide) ?_
    refine zw_ldsw hC (i := 3) dX9_wordOf_56 zl_X9_436 ?_
    have h1 := Option.some.inj hf
    subst h1
    exact zw_aret hC hR dX9_wordOf_59
  rw [if_neg hx1_3] at hf
  by_cases hx1_4 : a0 = (4 : Int32)
  · rw [if_pos hx1_4] at hf
    refine zw_tin hC hx1_4 (tgt := 60) dX9_wordOf_1 (by decide) (by decide) rfl (by decide) ?_
    refine zw_ldsw hC (i := 4) dX9_wordOf_60 zl_X9_437 ?_
    have h1 := Option.some.inj hf
    subst h1
    exact zw_aret hC hR dX9_wordOf_63
  rw [if_neg hx1_4] at hf
  by_cases hx1_5 : a0 = (5 : Int32)
  · rw [if_pos hx1_5] at hf
    refine zw_tin hC hx1_5 (tgt := 64) dX9_wordOf_1 (by decide) (by decide) rfl (by decide) ?_
    refine zw_ldsw hC (i := 5) dX9_wordOf_64 zl_X9_439 ?_
    have h1 := Option.some.inj hf
    subst h1
    exact zw_aret hC hR dX9_wordOf_67
  rw [if_neg hx1_5] at hf
  by_cases hx1_6 : a0 = (6 : Int32)
  · rw [if_pos hx1_6] at hf
    refine zw_tin hC hx1_6 (tgt := 68) dX9_wordOf_1 (by decide) (by decide) rfl (by decide) ?_
    refine zw_ldsw hC (i := 6) dX9_wordOf_68 zl_X9_441 ?_
    have h1 := Option.some.inj hf
    subst h1
    exact zw_aret hC hR dX9_wordOf_71
  rw [if_neg hx1_6] at hf
  refine zw_tout hC (tgt := 72) dX9_wordOf_1 (ztout (n := 6) (fun k hk => by match k, hk with | 0, _ => exact hx1_0 | 1, _ => exact hx1_1 | 2, _ => exact hx1_2 | 3, _ => exact hx1_3 | 4, _ => exact hx1_4 | 5, _ => exact hx1_5 | 6, _ => exact hx1_6 | k + 7, hk => exact absurd hk (by omega))) (by decide) ?_
  refine zw_ldsw hC (i := 7) dX9_wordOf_72 zl_X9_443 ?_
  have h1 := Option.some.inj hf
  subst h1
  exact zw_aret hC hR dX9_wordOf_75
theorem zs_X9_wordOf {a0 : Int32} {r : Nat} (h : zf_X9_wordOf a0 = some r) : r < zNs := by
  unfold zf_X9_wordOf at h
  repeat' split at h
  all_goals (cases h; decide)
/-! Reader.isWord(Ljava/lang/String;II)Z -/
theorem dX4_isWord_0 : decode cX4_isWord 0 = .ok (.iload_n 3, 1) := by decide +kernel
theorem dX4_isWord_1 : decode cX4_isWord 1 = .ok (.iload_n 2, 1) := by decide +kernel
theorem dX4_isWord_2 : decode cX4_isWord 2 = .ok (.isub, 1) := by decide +kernel
theorem dX4_isWord_3 : decode cX4_isWord 3 = .ok (.aload_n 1, 1) := by decide +kernel
theorem dX4_isWord_4 : decode cX4_isWord 4 = .ok (.invokevirtual 181, 3) := by decide +kernel
theorem dX4_isWord_7 : decode cX4_isWord 7 = .ok (.if_icmp .eq 5, 3) := by decide +kernel
theorem dX4_isWord_10 : decode cX4_isWord 10 = .ok (.iconst 0, 1) := by decide +kernel
theorem dX4_isWord_11 : decode cX4_isWord 11 = .ok (.ireturn, 1) := by decide +kernel
theorem dX4_isWord_12 : decode cX4_isWord 12 = .ok (.iconst 0, 1) := by decide +kernel
theorem dX4_isWord_13 : decode cX4_isWord 13 = .ok (.istore 4, 2) := by decide +kernel
theorem dX4_isWord_15 : decode cX4_isWord 15 = .ok (.iload 4, 2) := by decide +kernel
theorem dX4_isWord_17 : decode cX4_isWord 17 = .ok (.aload_n 1, 1) := by decide +kernel
theorem dX4_isWord_18 : decode cX4_isWord 18 = .ok (.invokevirtual 181, 3) := by decide +kernel
theorem dX4_isWord_21 : decode cX4_isWord 21 = .ok (.if_icmp .ge 29, 3) := by decide +kernel
theorem dX4_isWord_24 : decode cX4_isWord 24 = .ok (.aload_n 0, 1) := by decide +kernel
theorem dX4_isWord_25 : decode cX4_isWord 25 = .ok (.getfield 9, 3) := by decide +kernel
theorem dX4_isWord_28 : decode cX4_isWord 28 = .ok (.iload_n 2, 1) := by decide +kernel
theorem dX4_isWord_29 : decode cX4_isWord 29 = .ok (.iload 4, 2) := by decide +kernel
theorem dX4_isWord_31 : decode cX4_isWord 31 = .ok (.iadd, 1) := by decide +kernel
theorem dX4_isWord_32 : decode cX4_isWord 32 = .ok (.iaload, 1) := by decide +kernel
theorem dX4_isWord_33 : decode cX4_isWord 33 = .ok (.aload_n 1, 1) := by decide +kernel
theorem dX4_isWord_34 : decode cX4_isWord 34 = .ok (.iload 4, 2) := by decide +kernel
theorem dX4_isWord_36 : decode cX4_isWord 36 = .ok (.invokevirtual 185, 3) := by decide +kernel
theorem dX4_isWord_39 : decode cX4_isWord 39 = .ok (.if_icmp .eq 5, 3) := by decide +kernel
theorem dX4_isWord_42 : decode cX4_isWord 42 = .ok (.iconst 0, 1) := by decide +kernel
theorem dX4_isWord_43 : decode cX4_isWord 43 = .ok (.ireturn, 1) := by decide +kernel
theorem dX4_isWord_44 : decode cX4_isWord 44 = .ok (.iinc 4 1, 3) := by decide +kernel
theorem dX4_isWord_47 : decode cX4_isWord 47 = .ok (.goto (-32), 3) := by decide +kernel
theorem dX4_isWord_50 : decode cX4_isWord 50 = .ok (.iconst 1, 1) := by decide +kernel
theorem dX4_isWord_51 : decode cX4_isWord 51 = .ok (.ireturn, 1) := by decide +kernel
theorem zm_X4_isWord : ZMv "ClassOfMany$Reader" yX4_isWord cX4_isWord 5 (some .boolean) 3 := ⟨kw_3_25, kw_3_24, kp_6, kw_1_5, by decide +kernel, by decide⟩
def zf_X4_isWord_L15 (s1 : Nat) (M : ZMem) (a2 : Int32) (K50 : Option (Int32)) : Nat → Int32 → Option (Int32)
  | 0, _ => none
  | n15 + 1, v26 =>
  zslen s1 (fun v27 => (if v27 ≤ v26 then K50 else zrd M 43 400 (a2 + v26) (fun v28 => zschr s1 v26 (fun v29 => (if v28 = v29 then (zf_X4_isWord_L15 s1 M a2 K50 n15 (v26 + (1 : Int32))) else some (0 : Int32))))))
def zf_X4_isWord (n : Nat) (s1 : Nat) (a2 : Int32) (a3 : Int32) (M : ZMem) : Option (Int32) :=
  zslen s1 (fun v25 => (if (a3 - a2) = v25 then (zf_X4_isWord_L15 s1 M a2 (some (1 : Int32)) n (0 : Int32)) else some (0 : Int32)))
set_option maxHeartbeats 4000000 in
set_option maxRecDepth 100000 in
theorem zc_X4_isWord {l : Launch} {D : va_G} {ad : Nat → Nat} {cA : Nat → ClassId} {n : Nat} {s1 : Nat} {a2 : Int32} {a3 : Int32} {M : ZMem} {r : Int32} (hs1 : s1 < zNs) (hf : zf_X4_isWord n s1 a2 a3 M = some r) : ZCt l D ad cA yX4_isWord cX4_isWord 5 (some .boolean) 9 [.ref (ad 42), .ref (ad (1000 + s1)), .int a2, .int a3] M (some (.int r)) M := by
  refine zct (by decide +kernel) (Nat.le_of_ble_eq_true rfl) (lv := [(0, .ref (ad 42)), (1, .ref (ad (1000 + s1))), (2, .int a2), (3, .int a3)]) rfl (fun E hl hD had hcA hN hC hR => ?_)
  subst hl; subst hD; subst had; subst hcA
  unfold zf_X4_isWord at hf
  refine zw_iload_n hC dX4_isWord_0 rfl 3 rfl ?_
  refine zw_iload_n hC dX4_isWord_1 rfl 2 rfl ?_
  refine zw_isub hC dX4_isWord_2 ?_
  refine zw_aload_n hC dX4_isWord_3 rfl 1 rfl ?_
  refine zw_slen hC (by decide) (Nat.le_of_ble_eq_true rfl) hf dX4_isWord_4 kw_3_26 (fun v25 hf => ?_)
  refine zw_icmp_eq hC 12 hf dX4_isWord_7 (by decide) (fun hf => ?_) (fun hf => ?_)
  · refine zw_iconst hC (v := (0 : Int32)) dX4_isWord_12 (by decide) ?_
    refine zw_istore hC (lv' := [(4, .int (0 : Int32)), (0, .ref (zad E 42)), (1, .ref (zad E (1000 + s1))), (2, .int a2), (3, .int a3)]) dX4_isWord_13 hN (by decide) rfl ?_
    have hL15 : ∀ (K50 : Option (Int32)), (K50 = some r → ZW E 50 [] [] M) → ∀ (n15 : Nat), ∀ (v26 : Int32), zf_X4_isWord_L15 s1 M a2 K50 n15 v26 = some r → ZW E 15 [(0, .ref (zad E 42)), (1, .ref (zad E (1000 + s1))), (2, .int a2), (4, .int v26)] [] M := by
      intro K50 hK50
      intro n15
      induction n15 with
      | zero => intro v26 hf; rw [zf_X4_isWord_L15] at hf; cases hf
      | succ n15 ih15 =>
        intro v26 hf
        rw [zf_X4_isWord_L15] at hf
        refine zw_iload hC dX4_isWord_15 3 rfl ?_
        refine zw_aload_n hC dX4_isWord_17 rfl 1 rfl ?_
        refine zw_slen hC (by decide) (Nat.le_of_ble_eq_true rfl) hf dX4_isWord_18 kw_3_26 (fun v27 hf => ?_)
        refine zw_icmp_ge hC 50 hf dX4_isWord_21 (by decide) (fun hf => ?_) (fun hf => ?_)
        · exact zw_sub [] rfl (hK50 hf)
        · refine zw_aload_n hC dX4_isWord_24 rfl 0 rfl ?_
          refine zw_getr (k' := 43) hC zF_Reader_tape zk_42 rfl dX4_isWord_25 kw_1_227 ?_
          refine zw_iload_n hC dX4_isWord_28 rfl 2 rfl ?_
          refine zw_iload hC dX4_isWord_29 3 rfl ?_
          refine zw_iadd hC dX4_isWord_31 ?_
          refine zw_iald hC hf zk_43 dX4_isWord_32 (fun v28 hf => ?_)
          refine zw_aload_n hC dX4_isWord_33 rfl 1 rfl ?_
          refine zw_iload hC dX4_isWord_34 3 rfl ?_
          refine zw_schr hC (by decide) (Nat.le_of_ble_eq_true rfl) hf dX4_isWord_36 kw_3_36 (fun v29 hf => ?_)
          refine zw_icmp_eq hC 44 hf dX4_isWord_39 (by decide) (fun hf => ?_) (fun hf => ?_)
          · refine zw_iinc hC (v := (1 : Int32)) (lv' := [(4, .int (v26 + (1 : Int32))), (0, .ref (zad E 42)), (1, .ref (zad E (1000 + s1))), (2, .int a2)]) dX4_isWord_44 3 rfl (by decide) hN (by decide) rfl ?_
            refine zw_goto hC 15 dX4_isWord_47 (by decide) ?_
            exact zw_sub [1, 2, 3, 0] rfl (ih15 (v26 + (1 : Int32)) hf)
          · refine zw_iconst hC (v := (0 : Int32)) dX4_isWord_42 (by decide) ?_
            have h1 := Option.some.inj hf
            subst h1
            exact zw_zret hC hR rfl dX4_isWord_43
    refine zw_sub [1, 2, 3, 0] rfl (hL15 _ ?_ n (0 : Int32) hf)
    · intro  hf
      refine zw_iconst hC (v := (1 : Int32)) dX4_isWord_50 (by decide) ?_
      have h1 := Option.some.inj hf
      subst h1
      exact zw_zret hC hR rfl dX4_isWord_51
  · refine zw_iconst hC (v := (0 : Int32)) dX4_isWord_10 (by decide) ?_
    have h1 := Option.some.inj hf
    subst h1
    exact zw_zret hC hR rfl dX4_isWord_11
/-! Reader.readSort()I -/
theorem dX4_readSort_0 : decode cX4_readSort 0 = .ok (.aload_n 0, 1) := by decide +kernel
theorem dX4_readSort_1 : decode cX4_readSort 1 = .ok (.getfield 37, 3) := by decide +kernel
theorem dX4_readSort_4 : decode cX4_readSort 4 = .ok (.istore_n 1, 1) := by decide +kernel
theorem dX4_readSort_5 : decode cX4_readSort 5 = .ok (.aload_n 0, 1) := by decide +kernel
theorem dX4_readSort_6 : decode cX4_readSort 6 = .ok (.iload_n 1, 1) := by decide +kernel
theorem dX4_readSort_7 : decode cX4_readSort 7 = .ok (.invokevirtual 111, 3) := by decide +kernel
theorem dX4_readSort_10 : decode cX4_readSort 10 = .ok (.istore_n 2, 1) := by decide +kernel
theorem dX4_readSort_11 : decode cX4_readSort 11 = .ok (.iconst 0, 1) := by decide +kernel
theorem dX4_readSort_12 : decode cX4_readSort 12 = .ok (.istore_n 3, 1) := by decide +kernel
theorem dX4_readSort_13 : decode cX4_readSort 13 = .ok (.iload_n 3, 1) := by decide +kernel
theorem dX4_readSort_14 : decode cX4_readSort 14 = .ok (.bipush 8, 2) := by decide +kernel
theorem dX4_readSort_16 : decode cX4_readSort 16 = .ok (.if_icmp .ge 37, 3) := by decide +kernel
theorem dX4_readSort_19 : decode cX4_readSort 19 = .ok (.aload_n 0, 1) := by decide +kernel
theorem dX4_readSort_20 : decode cX4_readSort 20 = .ok (.iload_n 3, 1) := by decide +kernel
theorem dX4_readSort_21 : decode cX4_readSort 21 = .ok (.invokestatic 114, 3) := by decide +kernel
theorem dX4_readSort_24 : decode cX4_readSort 24 = .ok (.iload_n 1, 1) := by decide +kernel
theorem dX4_readSort_25 : decode cX4_readSort 25 = .ok (.iload_n 2, 1) := by decide +kernel
theorem dX4_readSort_26 : decode cX4_readSort 26 = .ok (.invokevirtual 118, 3) := by decide +kernel
theorem dX4_readSort_29 : decode cX4_readSort 29 = .ok (.ifCond .eq 18, 3) := by decide +kernel
theorem dX4_readSort_32 : decode cX4_readSort 32 = .ok (.aload_n 0, 1) := by decide +kernel
theorem dX4_readSort_33 : decode cX4_readSort 33 = .ok (.iload_n 3, 1) := by decide +kernel
theorem dX4_readSort_34 : decode cX4_readSort 34 = .ok (.invokevirtual 122, 3) := by decide +kernel
theorem dX4_readSort_37 : decode cX4_readSort 37 = .ok (.ifCond .eq 10, 3) := by decide +kernel
theorem dX4_readSort_40 : decode cX4_readSort 40 = .ok (.aload_n 0, 1) := by decide +kernel
theorem dX4_readSort_41 : decode cX4_readSort 41 = .ok (.iload_n 2, 1) := by decide +kernel
theorem dX4_readSort_42 : decode cX4_readSort 42 = .ok (.putfield 37, 3) := by decide +kernel
theorem dX4_readSort_45 : decode cX4_readSort 45 = .ok (.iload_n 3, 1) := by decide +kernel
theorem dX4_readSort_46 : decode cX4_readSort 46 = .ok (.ireturn, 1) := by decide +kernel
theorem dX4_readSort_47 : decode cX4_readSort 47 = .ok (.iinc 3 1, 3) := by decide +kernel
theorem dX4_readSort_50 : decode cX4_readSort 50 = .ok (.goto (-37), 3) := by decide +kernel
theorem dX4_readSort_53 : decode cX4_readSort 53 = .ok (.aload_n 0, 1) := by decide +kernel
theorem dX4_readSort_54 : decode cX4_readSort 54 = .ok (.iload_n 1, 1) := by decide +kernel
theorem dX4_readSort_55 : decode cX4_readSort 55 = .ok (.invokevirtual 126, 3) := by decide +kernel
theorem dX4_readSort_58 : decode cX4_readSort 58 = .ok (.iconst 0, 1) := by decide +kernel
theorem dX4_readSort_59 : decode cX4_readSort 59 = .ok (.ireturn, 1) := by decide +kernel
theorem zm_X4_readSort : ZMv "ClassOfMany$Reader" yX4_readSort cX4_readSort 4 (some .int) 0 := ⟨kw_3_2, kw_3_1, kp_3, kw_1_5, by decide +kernel, by decide⟩
def zf_X4_readSort_j47 (R13 : Int32 → Option (Int32 × ZMem)) (v28 : Int32) : Option (Int32 × ZMem) :=
  (R13 (v28 + (1 : Int32)))
def zf_X4_readSort_L13 (n : Nat) (M : ZMem) (v27 : Int32) (K53 : Option (Int32 × ZMem)) : Nat → Int32 → Option (Int32 × ZMem)
  | 0, _ => none
  | n13 + 1, v28 =>
  (if (8 : Int32) ≤ v28 then K53 else zb1 (zf_X9_wordOf v28) (fun s29 => zb1 (zf_X4_isWord n s29 (M 42 2) v27 M) (fun v30 => (if v30 = 0 then (zf_X4_readSort_j47 (fun x0 => zf_X4_readSort_L13 n M v27 K53 n13 x0) v28) else zb1 (zf_X4_mayStand v28 M) (fun v31 => (if v31 = 0 then (zf_X4_readSort_j47 (fun x0 => zf_X4_readSort_L13 n M v27 K53 n13 x0) v28) else zput M 42 2 v27 (fun M32 => some (v28, M32))))))))
def zf_X4_readSort (n : Nat) (M : ZMem) : Option (Int32 × ZMem) :=
  zb1 (zf_X4_wordEnd n (M 42 2) M) (fun v27 => (zf_X4_readSort_L13 n M v27 (zb1 (zf_X4_fail (M 42 2) M) (fun M33 => some ((0 : Int32), M33))) n (0 : Int32)))
set_option maxHeartbeats 4000000 in
set_option maxRecDepth 100000 in
theorem zc_X4_readSort {l : Launch} {D : va_G} {ad : Nat → Nat} {cA : Nat → ClassId} {n : Nat} {M : ZMem} {r : Int32} {M' : ZMem} (hf : zf_X4_readSort n M = some (r, M')) : ZCt l D ad cA yX4_readSort cX4_readSort 4 (some .int) 10 [.ref (ad 42)] M (some (.int r)) M' := by
  refine zct (by decide +kernel) (Nat.le_of_ble_eq_true rfl) (lv := [(0, .ref (ad 42))]) rfl (fun E hl hD had hcA hN hC hR => ?_)
  subst hl; subst hD; subst had; subst hcA
  unfold zf_X4_readSort at hf
  refine zw_aload_n hC dX4_readSort_0 rfl 0 rfl ?_
  refine zw_geti hC zF_Reader_at zk_42 dX4_readSort_1 kw_1_230 ?_
  refine zw_istore_n hC (lv' := [(1, .int (M 42 2)), (0, .ref (zad E 42))]) dX4_readSort_4 rfl hN (by decide) rfl ?_
  refine zw_aload_n hC dX4_readSort_5 rfl 1 rfl ?_
  refine zw_iload_n hC dX4_readSort_6 rfl 0 rfl ?_
  obtain ⟨v27, hc27, hf⟩ := zb1_some hf
  refine zw_cV hC [.int (M 42 2)] [] (st1 := [.int v27]) zm_X4_wordEnd (zc_X4_wordEnd hc27) zk_42 rfl kw_3_3 dX4_readSort_7 rfl (by decide) (Nat.le_of_ble_eq_true rfl) rfl rfl ?_
  refine zw_istore_n hC (lv' := [(2, .int v27), (1, .int (M 42 2)), (0, .ref (zad E 42))]) dX4_readSort_10 rfl hN (by decide) rfl ?_
  refine zw_iconst hC (v := (0 : Int32)) dX4_readSort_11 (by decide) ?_
  refine zw_istore_n hC (lv' := [(3, .int (0 : Int32)), (2, .int v27), (1, .int (M 42 2)), (0, .ref (zad E 42))]) dX4_readSort_12 rfl hN (by decide) rfl ?_
  have hL13 : ∀ (K53 : Option (Int32 × ZMem)), (K53 = some (r, M') → ZW E 53 [(0, .ref (zad E 42)), (1, .int (M 42 2))] [] M) → ∀ (n13 : Nat), ∀ (v28 : Int32), zf_X4_readSort_L13 n M v27 K53 n13 v28 = some (r, M') → ZW E 13 [(0, .ref (zad E 42)), (1, .int (M 42 2)), (2, .int v27), (3, .int v28)] [] M := by
    intro K53 hK53
    intro n13
    induction n13 with
    | zero => intro v28 hf; rw [zf_X4_readSort_L13] at hf; cases hf
    | succ n13 ih13 =>
      intro v28 hf
      rw [zf_X4_readSort_L13] at hf
      refine zw_iload_n hC dX4_readSort_13 rfl 3 rfl ?_
      refine zw_bipush hC (v := (8 : Int32)) dX4_readSort_14 (by decide) ?_
      refine zw_icmp_ge hC 53 hf dX4_readSort_16 (by decide) (fun hf => ?_) (fun hf => ?_)
      · exact zw_sub [0, 1] rfl (hK53 hf)
      · refine zw_aload_n hC dX4_readSort_19 rfl 0 rfl ?_
        refine zw_iload_n hC dX4_readSort_20 rfl 3 rfl ?_
        obtain ⟨s29, hc29, hf⟩ := zb1_some hf
        have hs29 := zs_X9_wordOf hc29
        refine zw_cN hC [.int v28] [.ref (zad E 42)] (st1 := [.ref (zad E (1000 + s29)), .ref (zad E 42)]) zm_X9_wordOf (zc_X9_wordOf hc29) (by decide +kernel) dX4_readSort_21 rfl (by decide) (Nat.le_of_ble_eq_true rfl) rfl rfl ?_
        refine zw_iload_n hC dX4_readSort_24 rfl 1 rfl ?_
        refine zw_iload_n hC dX4_readSort_25 rfl 2 rfl ?_
        obtain ⟨v30, hc30, hf⟩ := zb1_some hf
        refine zw_cV hC [.ref (zad E (1000 + s29)), .int (M 42 2), .int v27] [] (st1 := [.int v30]) zm_X4_isWord (zc_X4_isWord hs29 hc30) zk_42 rfl kw_3_22 dX4_readSort_26 rfl (by decide) (Nat.le_of_ble_eq_true rfl) rfl rfl ?_
        have hj47 : zf_X4_readSort_j47 (fun x0 => zf_X4_readSort_L13 n M v27 K53 n13 x0) v28 = some (r, M') → ZW E 47 [(0, .ref (zad E 42)), (1, .int (M 42 2)), (2, .int v27), (3, .int v28)] [] M := by
          intro  hf
          unfold zf_X4_readSort_j47 at hf
          refine zw_iinc hC (v := (1 : Int32)) (lv' := [(3, .int (v28 + (1 : Int32))), (0, .ref (zad E 42)), (1, .int (M 42 2)), (2, .int v27)]) dX4_readSort_47 3 rfl (by decide) hN (by decide) rfl ?_
          refine zw_goto hC 13 dX4_readSort_50 (by decide) ?_
          exact zw_sub [1, 2, 3, 0] rfl (ih13 (v28 + (1 : Int32)) hf)
        refine zw_if_eq hC 47 hf dX4_readSort_29 (by decide) (fun hf => ?_) (fun hf => ?_)
        · exact hj47 hf
        · refine zw_aload_n hC dX4_readSort_32 rfl 0 rfl ?_
          refine zw_iload_n hC dX4_readSort_33 rfl 3 rfl ?_
          obtain ⟨v31, hc31, hf⟩ := zb1_some hf
          refine zw_cV hC [.int v28] [] (st1 := [.int v31]) zm_X4_mayStand (zc_X4_mayStand hc31) zk_42 rfl kw_3_74 dX4_readSort_34 rfl (by decide) (Nat.le_of_ble_eq_true rfl) rfl rfl ?_
          refine zw_if_eq hC 47 hf dX4_readSort_37 (by decide) (fun hf => ?_) (fun hf => ?_)
          · exact hj47 hf
          · refine zw_aload_n hC dX4_readSort_40 rfl 0 rfl ?_
            refine zw_iload_n hC dX4_readSort_41 rfl 2 rfl ?_
            refine zw_puti hC hf zF_Reader_at zk_42 dX4_readSort_42 kw_1_230 (fun M32 hf => ?_)
            refine zw_iload_n hC dX4_readSort_45 rfl 3 rfl ?_
            obtain ⟨h1, h2⟩ := Prod.mk.inj (Option.some.inj hf)
            subst h1; subst h2
            exact zw_iret hC hR dX4_readSort_46
  refine zw_sub [3, 2, 1, 0] rfl (hL13 _ ?_ n (0 : Int32) hf)
  · intro  hf
    refine zw_aload_n hC dX4_readSort_53 rfl 0 rfl ?_
    refine zw_iload_n hC dX4_readSort_54 rfl 1 rfl ?_
    obtain ⟨M33, hcM33, hf⟩ := zb1_some hf
    refine zw_cV hC [.int (M 42 2)] [] (st1 := []) zm_X4_fail (zc_X4_fail hcM33) zk_42 rfl kw_3_81 dX4_readSort_55 rfl (by decide) (Nat.le_of_ble_eq_true rfl) rfl rfl ?_
    refine zw_iconst hC (v := (0 : Int32)) dX4_readSort_58 (by decide) ?_
    obtain ⟨h1, h2⟩ := Prod.mk.inj (Option.some.inj hf)
    subst h1; subst h2
    exact zw_iret hC hR dX4_readSort_59
/-! Reader.readReach()I -/
theorem dX4_readReach_0 : decode cX4_readReach 0 = .ok (.aload_n 0, 1) := by decide +kernel
theorem dX4_readReach_1 : decode cX4_readReach 1 = .ok (.invokevirtual 46, 3) := by decide +kernel
theorem dX4_readReach_4 : decode cX4_readReach 4 = .ok (.aload_n 0, 1) := by decide +kernel
theorem dX4_readReach_5 : decode cX4_readReach 5 = .ok (.invokevirtual 49, 3) := by decide +kernel
theorem dX4_readReach_8 : decode cX4_readReach 8 = .ok (.ifCond .eq 14, 3) := by decide +kernel
theorem dX4_readReach_11 : decode cX4_readReach 11 = .ok (.aload_n 0, 1) := by decide +kernel
theorem dX4_readReach_12 : decode cX4_readReach 12 = .ok (.aload_n 0, 1) := by decide +kernel
theorem dX4_readReach_13 : decode cX4_readReach 13 = .ok (.getfield 37, 3) := by decide +kernel
theorem dX4_readReach_16 : decode cX4_readReach 16 = .ok (.invokevirtual 157, 3) := by decide +kernel
theorem dX4_readReach_19 : decode cX4_readReach 19 = .ok (.ifCond .ne 5, 3) := by decide +kernel
theorem dX4_readReach_22 : decode cX4_readReach 22 = .ok (.iconst 0, 1) := by decide +kernel
theorem dX4_readReach_23 : decode cX4_readReach 23 = .ok (.ireturn, 1) := by decide +kernel
theorem dX4_readReach_24 : decode cX4_readReach 24 = .ok (.aload_n 0, 1) := by decide +kernel
theorem dX4_readReach_25 : decode cX4_readReach 25 = .ok (.aload_n 0, 1) := by decide +kernel
theorem dX4_readReach_26 : decode cX4_readReach 26 = .ok (.getfield 37, 3) := by decide +kernel
theorem dX4_readReach_29 : decode cX4_readReach 29 = .ok (.invokevirtual 111, 3) := by decide +kernel
theorem dX4_readReach_32 : decode cX4_readReach 32 = .ok (.istore_n 1, 1) := by decide +kernel
theorem dX4_readReach_33 : decode cX4_readReach 33 = .ok (.aload_n 0, 1) := by decide +kernel
theorem dX4_readReach_34 : decode cX4_readReach 34 = .ok (.aload_n 0, 1) := by decide +kernel
theorem dX4_readReach_35 : decode cX4_readReach 35 = .ok (.getfield 37, 3) := by decide +kernel
theorem dX4_readReach_38 : decode cX4_readReach 38 = .ok (.iconst 1, 1) := by decide +kernel
theorem dX4_readReach_39 : decode cX4_readReach 39 = .ok (.isub, 1) := by decide +kernel
theorem dX4_readReach_40 : decode cX4_readReach 40 = .ok (.invokevirtual 160, 3) := by decide +kernel
theorem dX4_readReach_43 : decode cX4_readReach 43 = .ok (.ifCond .eq 17, 3) := by decide +kernel
theorem dX4_readReach_46 : decode cX4_readReach 46 = .ok (.aload_n 0, 1) := by decide +kernel
theorem dX4_readReach_47 : decode cX4_readReach 47 = .ok (.ldc 163, 2) := by decide +kernel
theorem dX4_readReach_49 : decode cX4_readReach 49 = .ok (.aload_n 0, 1) := by decide +kernel
theorem dX4_readReach_50 : decode cX4_readReach 50 = .ok (.getfield 37, 3) := by decide +kernel
theorem dX4_readReach_53 : decode cX4_readReach 53 = .ok (.iload_n 1, 1) := by decide +kernel
theorem dX4_readReach_54 : decode cX4_readReach 54 = .ok (.invokevirtual 118, 3) := by decide +kernel
theorem dX4_readReach_57 : decode cX4_readReach 57 = .ok (.ifCond .ne 13, 3) := by decide +kernel
theorem dX4_readReach_60 : decode cX4_readReach 60 = .ok (.aload_n 0, 1) := by decide +kernel
theorem dX4_readReach_61 : decode cX4_readReach 61 = .ok (.aload_n 0, 1) := by decide +kernel
theorem dX4_readReach_62 : decode cX4_readReach 62 = .ok (.getfield 37, 3) := by decide +kernel
theorem dX4_readReach_65 : decode cX4_readReach 65 = .ok (.invokevirtual 126, 3) := by decide +kernel
theorem dX4_readReach_68 : decode cX4_readReach 68 = .ok (.iconst 0, 1) := by decide +kernel
theorem dX4_readReach_69 : decode cX4_readReach 69 = .ok (.ireturn, 1) := by decide +kernel
theorem dX4_readReach_70 : decode cX4_readReach 70 = .ok (.aload_n 0, 1) := by decide +kernel
theorem dX4_readReach_71 : decode cX4_readReach 71 = .ok (.iload_n 1, 1) := by decide +kernel
theorem dX4_readReach_72 : decode cX4_readReach 72 = .ok (.putfield 37, 3) := by decide +kernel
theorem dX4_readReach_75 : decode cX4_readReach 75 = .ok (.iconst 0, 1) := by decide +kernel
theorem dX4_readReach_76 : decode cX4_readReach 76 = .ok (.istore_n 2, 1) := by decide +kernel
theorem dX4_readReach_77 : decode cX4_readReach 77 = .ok (.iconst 0, 1) := by decide +kernel
theorem dX4_readReach_78 : decode cX4_readReach 78 = .ok (.istore_n 3, 1) := by decide +kernel
theorem dX4_readReach_79 : decode cX4_readReach 79 = .ok (.iload_n 3, 1) := by decide +kernel
theorem dX4_readReach_80 : decode cX4_readReach 80 = .ok (.iconst 4, 1) := by decide +kernel
theorem dX4_readReach_81 : decode cX4_readReach 81 = .ok (.if_icmp .gt 73, 3) := by decide +kernel
theorem dX4_readReach_84 : decode cX4_readReach 84 = .ok (.aload_n 0, 1) := by decide +kernel
theorem dX4_readReach_85 : decode cX4_readReach 85 = .ok (.iconst 0, 1) := by decide +kernel
theorem dX4_readReach_86 : decode cX4_readReach 86 = .ok (.aload_n 0, 1) := by decide +kernel
theorem dX4_readReach_87 : decode cX4_readReach 87 = .ok (.getfield 18, 3) := by decide +kernel
theorem dX4_readReach_90 : decode cX4_readReach 90 = .ok (.getfield 56, 3) := by decide +kernel
theorem dX4_readReach_93 : decode cX4_readReach 93 = .ok (.iconst 1, 1) := by decide +kernel
theorem dX4_readReach_94 : decode cX4_readReach 94 = .ok (.isub, 1) := by decide +kernel
theorem dX4_readReach_95 : decode cX4_readReach 95 = .ok (.invokevirtual 77, 3) := by decide +kernel
theorem dX4_readReach_98 : decode cX4_readReach 98 = .ok (.istore 4, 2) := by decide +kernel
theorem dX4_readReach_100 : decode cX4_readReach 100 = .ok (.iload_n 2, 1) := by decide +kernel
theorem dX4_readReach_101 : decode cX4_readReach 101 = .ok (.iload 4, 2) := by decide +kernel
theorem dX4_readReach_103 : decode cX4_readReach 103 = .ok (.invokestatic 129, 3) := by decide +kernel
theorem dX4_readReach_106 : decode cX4_readReach 106 = .ok (.ifCond .eq 11, 3) := by decide +kernel
theorem dX4_readReach_109 : decode cX4_readReach 109 = .ok (.aload_n 0, 1) := by decide +kernel
theorem dX4_readReach_110 : decode cX4_readReach 110 = .ok (.aload_n 0, 1) := by decide +kernel
theorem dX4_readReach_111 : decode cX4_readReach 111 = .ok (.getfield 165, 3) := by decide +kernel
theorem dX4_readReach_114 : decode cX4_readReach 114 = .ok (.invokevirtual 126, 3) := by decide +kernel
theorem dX4_readReach_117 : decode cX4_readReach 117 = .ok (.iload_n 2, 1) := by decide +kernel
theorem dX4_readReach_118 : decode cX4_readReach 118 = .ok (.iconst 1, 1) := by decide +kernel
theorem dX4_readReach_119 : decode cX4_readReach 119 = .ok (.iload 4, 2) := by decide +kernel
theorem dX4_readReach_121 : decode cX4_readReach 121 = .ok (.ishl, 1) := by decide +kernel
theorem dX4_readReach_122 : decode cX4_readReach 122 = .ok (.ior, 1) := by decide +kernel
theorem dX4_readReach_123 : decode cX4_readReach 123 = .ok (.istore_n 2, 1) := by decide +kernel
theorem dX4_readReach_124 : decode cX4_readReach 124 = .ok (.aload_n 0, 1) := by decide +kernel
theorem dX4_readReach_125 : decode cX4_readReach 125 = .ok (.invokevirtual 46, 3) := by decide +kernel
theorem dX4_readReach_128 : decode cX4_readReach 128 = .ok (.aload_n 0, 1) := by decide +kernel
theorem dX4_readReach_129 : decode cX4_readReach 129 = .ok (.invokevirtual 49, 3) := by decide +kernel
theorem dX4_readReach_132 : decode cX4_readReach 132 = .ok (.ifCond .eq 14, 3) := by decide +kernel
theorem dX4_readReach_135 : decode cX4_readReach 135 = .ok (.aload_n 0, 1) := by decide +kernel
theorem dX4_readReach_136 : decode cX4_readReach 136 = .ok (.aload_n 0, 1) := by decide +kernel
theorem dX4_readReach_137 : decode cX4_readReach 137 = .ok (.getfield 37, 3) := by decide +kernel
theorem dX4_readReach_140 : decode cX4_readReach 140 = .ok (.invokevirtual 168, 3) := by decide +kernel
theorem dX4_readReach_143 : decode cX4_readReach 143 = .ok (.ifCond .ne 5, 3) := by decide +kernel
theorem dX4_readReach_146 : decode cX4_readReach 146 = .ok (.iload_n 2, 1) := by decide +kernel
theorem dX4_readReach_147 : decode cX4_readReach 147 = .ok (.ireturn, 1) := by decide +kernel
theorem dX4_readReach_148 : decode cX4_readReach 148 = .ok (.iinc 3 1, 3) := by decide +kernel
theorem dX4_readReach_151 : decode cX4_readReach 151 = .ok (.goto (-72), 3) := by decide +kernel
theorem dX4_readReach_154 : decode cX4_readReach 154 = .ok (.iload_n 2, 1) := by decide +kernel
theorem dX4_readReach_155 : decode cX4_readReach 155 = .ok (.ireturn, 1) := by decide +kernel
theorem zm_X4_readReach : ZMv "ClassOfMany$Reader" yX4_readReach cX4_readReach 5 (some .int) 0 := ⟨kw_3_117, kw_3_116, kp_14, kw_1_5, by decide +kernel, by decide⟩
def zf_X4_readReach_j22 (M37 : ZMem) : Option (Int32 × ZMem) :=
  some ((0 : Int32), M37)
def zf_X4_readReach_j60 (M37 : ZMem) : Option (Int32 × ZMem) :=
  zb1 (zf_X4_fail (M37 42 2) M37) (fun M42 => some ((0 : Int32), M42))
def zf_X4_readReach_j117 (n : Nat) (K146 : Int32 → ZMem → Option (Int32 × ZMem)) (v45 : Int32) (v53 : Int32) (R79 : Int32 → Int32 → ZMem → Option (Int32 × ZMem)) (v46 : Int32) (M56 : ZMem) : Option (Int32 × ZMem) :=
  zb1 (zf_X4_skipBlanks n M56) (fun M57 => zb1 (zf_X4_isRight M57) (fun v58 => (if v58 = 0 then (K146 (v45 ||| ((1 : Int32) <<< (v53 &&& 31))) M57) else zb1 (zf_X4_isDigitAt (M57 42 2) M57) (fun v59 => (if v59 = 0 then (K146 (v45 ||| ((1 : Int32) <<< (v53 &&& 31))) M57) else (R79 (v45 ||| ((1 : Int32) <<< (v53 &&& 31))) (v46 + (1 : Int32)) M57))))))
def zf_X4_readReach_L79 (n : Nat) (K154 : Int32 → ZMem → Option (Int32 × ZMem)) (K146 : Int32 → ZMem → Option (Int32 × ZMem)) : Nat → Int32 → Int32 → ZMem → Option (Int32 × ZMem)
  | 0, _, _, _ => none
  | n79 + 1, v45, v46, M47 =>
  (if (4 : Int32) < v46 then (K154 v45 M47) else zdy M47 42 6 (7, 17) (fun o52 => zb2 (zf_X4_readNumber n (0 : Int32) ((M47 o52 1) - (1 : Int32)) M47) (fun v53 M54 => zb1 (zf_X9_has v45 v53) (fun v55 => (if v55 = 0 then (zf_X4_readReach_j117 n K146 v45 v53 (fun x0 x1 x2 => zf_X4_readReach_L79 n K154 K146 n79 x0 x1 x2) v46 M54) else zb1 (zf_X4_fail (M54 42 3) M54) (fun M60 => (zf_X4_readReach_j117 n K146 v45 v53 (fun x0 x1 x2 => zf_X4_readReach_L79 n K154 K146 n79 x0 x1 x2) v46 M60)))))))
def zf_X4_readReach (n : Nat) (M : ZMem) : Option (Int32 × ZMem) :=
  zb1 (zf_X4_skipBlanks n M) (fun M37 => zb1 (zf_X4_isRight M37) (fun v38 => (if v38 = 0 then (zf_X4_readReach_j22 M37) else zb1 (zf_X4_isLetterAt (M37 42 2) M37) (fun v39 => (if v39 = 0 then (zf_X4_readReach_j22 M37) else zb1 (zf_X4_wordEnd n (M37 42 2) M37) (fun v40 => zb1 (zf_X4_isBlankAt ((M37 42 2) - (1 : Int32)) M37) (fun v41 => (if v41 = 0 then (zf_X4_readReach_j60 M37) else zb1 (zf_X4_isWord n 8 (M37 42 2) v40 M37) (fun v43 => (if v43 = 0 then (zf_X4_readReach_j60 M37) else zput M37 42 2 v40 (fun M44 => (zf_X4_readReach_L79 n (fun v61 M62 => some (v61, M62)) (fun v63 M64 => some (v63, M64)) n (0 : Int32) (0 : Int32) M44))))))))))))
set_option maxHeartbeats 4000000 in
set_option maxRecDepth 100000 in
theorem zc_X4_readReach {l : Launch} {D : va_G} {ad : Nat → Nat} {cA : Nat → ClassId} {n : Nat} {M : ZMem} {r : Int32} {M' : ZMem} (hf : zf_X4_readReach n M = some (r, M')) : ZCt l D ad cA yX4_readReach cX4_readReach 5 (some .int) 10 [.ref (ad 42)] M (some (.int r)) M' := by
  refine zct (by decide +kernel) (Nat.le_of_ble_eq_true rfl) (lv := [(0, .ref (ad 42))]) rfl (fun E hl hD had hcA hN hC hR => ?_)
  subst hl; subst hD; subst had; subst hcA
  unfold zf_X4_readReach at hf
  refine zw_aload_n hC dX4_readReach_0 rfl 0 rfl ?_
  obtain ⟨M37, hcM37, hf⟩ := zb1_some hf
  refine zw_cV hC [] [] (st1 := []) zm_X4_skipBlanks (zc_X4_skipBlanks hcM37) zk_42 rfl kw_2_227 dX4_readReach_1 rfl (by decide) (Nat.le_of_ble_eq_true rfl) rfl rfl ?_
  refine zw_aload_n hC dX4_readReach_4 rfl 0 rfl ?_
  obtain ⟨v38, hc38, hf⟩ := zb1_some hf
  refine zw_cV hC [] [] (st1 := [.int v38]) zm_X4_isRight (zc_X4_isRight hc38) zk_42 rfl kw_2_231 dX4_readReach_5 rfl (by decide) (Nat.le_of_ble_eq_true rfl) rfl rfl ?_
  have hj22 : zf_X4_readReach_j22 M37 = some (r, M') → ZW E 22 [] [] M37 := by
    intro  hf
    unfold zf_X4_readReach_j22 at hf
    refine zw_iconst hC (v := (0 : Int32)) dX4_readReach_22 (by decide) ?_
    obtain ⟨h1, h2⟩ := Prod.mk.inj (Option.some.inj hf)
    subst h1; subst h2
    exact zw_iret hC hR dX4_readReach_23
  refine zw_if_eq hC 22 hf dX4_readReach_8 (by decide) (fun hf => ?_) (fun hf => ?_)
  · exact zw_sub [] rfl (hj22 hf)
  · refine zw_aload_n hC dX4_readReach_11 rfl 0 rfl ?_
    refine zw_aload_n hC dX4_readReach_12 rfl 0 rfl ?_
    refine zw_geti hC zF_Reader_at zk_42 dX4_readReach_13 kw_1_230 ?_
    obtain ⟨v39, hc39, hf⟩ := zb1_some hf
    refine zw_cV hC [.int (M37 42 2)] [] (st1 := [.int v39]) zm_X4_isLetterAt (zc_X4_isLetterAt hc39) zk_42 rfl kw_3_7 dX4_readReach_16 rfl (by decide) (Nat.le_of_ble_eq_true rfl) rfl rfl ?_
    refine zw_if_ne hC 24 hf dX4_readReach_19 (by decide) (fun hf => ?_) (fun hf => ?_)
    · refine zw_aload_n hC dX4_readReach_24 rfl 0 rfl ?_
      refine zw_aload_n hC dX4_readReach_25 rfl 0 rfl ?_
      refine zw_geti hC zF_Reader_at zk_42 dX4_readReach_26 kw_1_230 ?_
      obtain ⟨v40, hc40, hf⟩ := zb1_some hf
      refine zw_cV hC [.int (M37 42 2)] [] (st1 := [.int v40]) zm_X4_wordEnd (zc_X4_wordEnd hc40) zk_42 rfl kw_3_3 dX4_readReach_29 rfl (by decide) (Nat.le_of_ble_eq_true rfl) rfl rfl ?_
      refine zw_istore_n hC (lv' := [(1, .int v40), (0, .ref (zad E 42))]) dX4_readReach_32 rfl hN (by decide) rfl ?_
      refine zw_aload_n hC dX4_readReach_33 rfl 1 rfl ?_
      refine zw_aload_n hC dX4_readReach_34 rfl 1 rfl ?_
      refine zw_geti hC zF_Reader_at zk_42 dX4_readReach_35 kw_1_230 ?_
      refine zw_iconst hC (v := (1 : Int32)) dX4_readReach_38 (by decide) ?_
      refine zw_isub hC dX4_readReach_39 ?_
      obtain ⟨v41, hc41, hf⟩ := zb1_some hf
      refine zw_cV hC [.int ((M37 42 2) - (1 : Int32))] [] (st1 := [.int v41]) zm_X4_isBlankAt (zc_X4_isBlankAt hc41) zk_42 rfl kw_3_98 dX4_readReach_40 rfl (by decide) (Nat.le_of_ble_eq_true rfl) rfl rfl ?_
      have hj60 : zf_X4_readReach_j60 M37 = some (r, M') → ZW E 60 [(0, .ref (zad E 42))] [] M37 := by
        intro  hf
        unfold zf_X4_readReach_j60 at hf
        refine zw_aload_n hC dX4_readReach_60 rfl 0 rfl ?_
        refine zw_aload_n hC dX4_readReach_61 rfl 0 rfl ?_
        refine zw_geti hC zF_Reader_at zk_42 dX4_readReach_62 kw_1_230 ?_
        obtain ⟨M42, hcM42, hf⟩ := zb1_some hf
        refine zw_cV hC [.int (M37 42 2)] [] (st1 := []) zm_X4_fail (zc_X4_fail hcM42) zk_42 rfl kw_3_81 dX4_readReach_65 rfl (by decide) (Nat.le_of_ble_eq_true rfl) rfl rfl ?_
        refine zw_iconst hC (v := (0 : Int32)) dX4_readReach_68 (by decide) ?_
        obtain ⟨h1, h2⟩ := Prod.mk.inj (Option.some.inj hf)
        subst h1; subst h2
        exact zw_iret hC hR dX4_readReach_69
      refine zw_if_eq hC 60 hf dX4_readReach_43 (by decide) (fun hf => ?_) (fun hf => ?_)
      · exact zw_sub [1] rfl (hj60 hf)
      · refine zw_aload_n hC dX4_readReach_46 rfl 1 rfl ?_
        refine zw_lds hC (i := 8) dX4_readReach_47 zl_X4_163 ?_
        refine zw_aload_n hC dX4_readReach_49 rfl 1 rfl ?_
        refine zw_geti hC zF_Reader_at zk_42 dX4_readReach_50 kw_1_230 ?_
        refine zw_iload_n hC dX4_readReach_53 rfl 0 rfl ?_
        obtain ⟨v43, hc43, hf⟩ := zb1_some hf
        refine zw_cV hC [.ref (zad E (1000 + 8)), .int (M37 42 2), .int v40] [] (st1 := [.int v43]) zm_X4_isWord (zc_X4_isWord (by decide) hc43) zk_42 rfl kw_3_22 dX4_readReach_54 rfl (by decide) (Nat.le_of_ble_eq_true rfl) rfl rfl ?_
        refine zw_if_ne hC 70 hf dX4_readReach_57 (by decide) (fun hf => ?_) (fun hf => ?_)
        · refine zw_aload_n hC dX4_readReach_70 rfl 1 rfl ?_
          refine zw_iload_n hC dX4_readReach_71 rfl 0 rfl ?_
          refine zw_puti hC hf zF_Reader_at zk_42 dX4_readReach_72 kw_1_230 (fun M44 hf => ?_)
          refine zw_iconst hC (v := (0 : Int32)) dX4_readReach_75 (by decide) ?_
          refine zw_istore_n hC (lv' := [(2, .int (0 : Int32)), (1, .int v40), (0, .ref (zad E 42))]) dX4_readReach_76 rfl hN (by decide) rfl ?_
          refine zw_iconst hC (v := (0 : Int32)) dX4_readReach_77 (by decide) ?_
          refine zw_istore_n hC (lv' := [(3, .int (0 : Int32)), (2, .int (0 : Int32)), (1, .int v40), (0, .ref (zad E 42))]) dX4_readReach_78 rfl hN (by decide) rfl ?_
          have hL79 : ∀ (K154 : Int32 → ZMem → Option (Int32 × ZMem)), (∀ (v48 : Int32), ∀ (M49 : ZMem), K154 v48 M49 = some (r, M') → ZW E 154 [(2, .int v48)] [] M49) → ∀ (K146 : Int32 → ZMem → Option (Int32 × ZMem)), (∀ (v50 : Int32), ∀ (M51 : ZMem), K146 v50 M51 = some (r, M') → ZW E 146 [(2, .int v50)] [] M51) → ∀ (n79 : Nat), ∀ (v45 : Int32), ∀ (v46 : Int32), ∀ (M47 : ZMem), zf_X4_readReach_L79 n K154 K146 n79 v45 v46 M47 = some (r, M') → ZW E 79 [(0, .ref (zad E 42)), (2, .int v45), (3, .int v46)] [] M47 := by
            intro K154 hK154 K146 hK146
            intro n79
            induction n79 with
            | zero => intro v45 v46 M47 hf; rw [zf_X4_readReach_L79] at hf; cases hf
            | succ n79 ih79 =>
              intro v45 v46 M47 hf
              rw [zf_X4_readReach_L79] at hf
              refine zw_iload_n hC dX4_readReach_79 rfl 2 rfl ?_
              refine zw_iconst hC (v := (4 : Int32)) dX4_readReach_80 (by decide) ?_
              refine zw_icmp_gt hC 154 hf dX4_readReach_81 (by decide) (fun hf => ?_) (fun hf => ?_)
              · exact zw_sub [1] rfl (hK154 v45 M47 hf)
              · refine zw_aload_n hC dX4_readReach_84 rfl 0 rfl ?_
                refine zw_iconst hC (v := (0 : Int32)) dX4_readReach_85 (by decide) ?_
                refine zw_aload_n hC dX4_readReach_86 rfl 0 rfl ?_
                refine zw_getd hC hf zF_Reader_told zk_42 dX4_readReach_87 kw_1_234 (fun o52 ho52 hf => ?_)
                refine zw_geti hC zF_Told_channels ho52 dX4_readReach_90 kw_1_42 ?_
                refine zw_iconst hC (v := (1 : Int32)) dX4_readReach_93 (by decide) ?_
                refine zw_isub hC dX4_readReach_94 ?_
                obtain ⟨v53, M54, hcM54, hf⟩ := zb2_some hf
                refine zw_cV hC [.int (0 : Int32), .int ((M47 o52 1) - (1 : Int32))] [] (st1 := [.int v53]) zm_X4_readNumber (zc_X4_readNumber hcM54) zk_42 rfl kw_3_90 dX4_readReach_95 rfl (by decide) (Nat.le_of_ble_eq_true rfl) rfl rfl ?_
                refine zw_istore hC (lv' := [(4, .int v53), (0, .ref (zad E 42)), (2, .int v45), (3, .int v46)]) dX4_readReach_98 hN (by decide) rfl ?_
                refine zw_iload_n hC dX4_readReach_100 rfl 2 rfl ?_
                refine zw_iload hC dX4_readReach_101 0 rfl ?_
                obtain ⟨v55, hc55, hf⟩ := zb1_some hf
                refine zw_cN hC [.int v45, .int v53] [] (st1 := [.int v55]) zm_X9_has (zc_X9_has hc55) (by decide +kernel) dX4_readReach_103 rfl (by decide) (Nat.le_of_ble_eq_true rfl) rfl rfl ?_
                have hj117 : ∀ (M56 : ZMem), zf_X4_readReach_j117 n K146 v45 v53 (fun x0 x1 x2 => zf_X4_readReach_L79 n K154 K146 n79 x0 x1 x2) v46 M56 = some (r, M') → ZW E 117 [(0, .ref (zad E 42)), (2, .int v45), (3, .int v46), (4, .int v53)] [] M56 := by
                  intro M56 hf
                  unfold zf_X4_readReach_j117 at hf
                  refine zw_iload_n hC dX4_readReach_117 rfl 1 rfl ?_
                  refine zw_iconst hC (v := (1 : Int32)) dX4_readReach_118 (by decide) ?_
                  refine zw_iload hC dX4_readReach_119 3 rfl ?_
                  refine zw_ishl hC dX4_readReach_121 ?_
                  refine zw_ior hC dX4_readReach_122 ?_
                  refine zw_istore_n hC (lv' := [(2, .int (v45 ||| ((1 : Int32) <<< (v53 &&& 31)))), (0, .ref (zad E 42)), (3, .int v46), (4, .int v53)]) dX4_readReach_123 rfl hN (by decide) rfl ?_
                  refine zw_aload_n hC dX4_readReach_124 rfl 1 rfl ?_
                  obtain ⟨M57, hcM57, hf⟩ := zb1_some hf
                  refine zw_cV hC [] [] (st1 := []) zm_X4_skipBlanks (zc_X4_skipBlanks hcM57) zk_42 rfl kw_2_227 dX4_readReach_125 rfl (by decide) (Nat.le_of_ble_eq_true rfl) rfl rfl ?_
                  refine zw_aload_n hC dX4_readReach_128 rfl 1 rfl ?_
                  obtain ⟨v58, hc58, hf⟩ := zb1_some hf
                  refine zw_cV hC [] [] (st1 := [.int v58]) zm_X4_isRight (zc_X4_isRight hc58) zk_42 rfl kw_2_231 dX4_readReach_129 rfl (by decide) (Nat.le_of_ble_eq_true rfl) rfl rfl ?_
                  refine zw_if_eq hC 146 hf dX4_readReach_132 (by decide) (fun hf => ?_) (fun hf => ?_)
                  · exact zw_sub [0] rfl (hK146 (v45 ||| ((1 : Int32) <<< (v53 &&& 31))) M57 hf)
                  · refine zw_aload_n hC dX4_readReach_135 rfl 1 rfl ?_
                    refine zw_aload_n hC dX4_readReach_136 rfl 1 rfl ?_
                    refine zw_geti hC zF_Reader_at zk_42 dX4_readReach_137 kw_1_230 ?_
                    obtain ⟨v59, hc59, hf⟩ := zb1_some hf
                    refine zw_cV hC [.int (M57 42 2)] [] (st1 := [.int v59]) zm_X4_isDigitAt (zc_X4_isDigitAt hc59) zk_42 rfl kw_3_94 dX4_readReach_140 rfl (by decide) (Nat.le_of_ble_eq_true rfl) rfl rfl ?_
                    refine zw_if_ne hC 148 hf dX4_readReach_143 (by decide) (fun hf => ?_) (fun hf => ?_)
                    · refine zw_iinc hC (v := (1 : Int32)) (lv' := [(3, .int (v46 + (1 : Int32))), (2, .int (v45 ||| ((1 : Int32) <<< (v53 &&& 31)))), (0, .ref (zad E 42)), (4, .int v53)]) dX4_readReach_148 2 rfl (by decide) hN (by decide) rfl ?_
                      refine zw_goto hC 79 dX4_readReach_151 (by decide) ?_
                      exact zw_sub [2, 1, 0] rfl (ih79 (v45 ||| ((1 : Int32) <<< (v53 &&& 31))) (v46 + (1 : Int32)) M57 hf)
                    · exact zw_sub [0] rfl (hK146 (v45 ||| ((1 : Int32) <<< (v53 &&& 31))) M57 hf)
                refine zw_if_eq hC 117 hf dX4_readReach_106 (by decide) (fun hf => ?_) (fun hf => ?_)
                · exact zw_sub [1, 2, 3, 0] rfl (hj117 M54 hf)
                · refine zw_aload_n hC dX4_readReach_109 rfl 1 rfl ?_
                  refine zw_aload_n hC dX4_readReach_110 rfl 1 rfl ?_
                  refine zw_geti hC zF_Reader_lastNumber zk_42 dX4_readReach_111 kw_1_231 ?_
                  obtain ⟨M60, hcM60, hf⟩ := zb1_some hf
                  refine zw_cV hC [.int (M54 42 3)] [] (st1 := []) zm_X4_fail (zc_X4_fail hcM60) zk_42 rfl kw_3_81 dX4_readReach_114 rfl (by decide) (Nat.le_of_ble_eq_true rfl) rfl rfl ?_
                  exact zw_sub [1, 2, 3, 0] rfl (hj117 M60 hf)
          refine zw_sub [3, 1, 0] rfl (hL79 _ ?_ _ ?_ n (0 : Int32) (0 : Int32) M44 hf)
          · intro v61 M62 hf
            refine zw_iload_n hC dX4_readReach_154 rfl 0 rfl ?_
            obtain ⟨h1, h2⟩ := Prod.mk.inj (Option.some.inj hf)
            subst h1; subst h2
            exact zw_iret hC hR dX4_readReach_155
          · intro v63 M64 hf
            refine zw_iload_n hC dX4_readReach_146 rfl 0 rfl ?_
            obtain ⟨h1, h2⟩ := Prod.mk.inj (Option.some.inj hf)
            subst h1; subst h2
            exact zw_iret hC hR dX4_readReach_147
        · exact zw_sub [1] rfl (hj60 hf)
    · exact zw_sub [] rfl (hj22 hf)
/-! Reader.readMember()V -/
theorem dX4_readMember_0 : decode cX4_readMember 0 = .ok (.aload_n 0, 1) := by decide +kernel
theorem dX4_readMember_1 : decode cX4_readMember 1 = .ok (.iconst 0, 1) := by decide +kernel
theorem dX4_readMember_2 : decode cX4_readMember 2 = .ok (.bipush 99, 2) := by decide +kernel
theorem dX4_readMember_4 : decode cX4_readMember 4 = .ok (.invokevirtual 77, 3) := by decide +kernel
theorem dX4_readMember_7 : decode cX4_readMember 7 = .ok (.istore_n 1, 1) := by decide +kernel
theorem dX4_readMember_8 : decode cX4_readMember 8 = .ok (.aload_n 0, 1) := by decide +kernel
theorem dX4_readMember_9 : decode cX4_readMember 9 = .ok (.iload_n 1, 1) := by decide +kernel
theorem dX4_readMember_10 : decode cX4_readMember 10 = .ok (.bipush 99, 2) := by decide +kernel
theorem dX4_readMember_12 : decode cX4_readMember 12 = .ok (.invokevirtual 77, 3) := by decide +kernel
theorem dX4_readMember_15 : decode cX4_readMember 15 = .ok (.istore_n 2, 1) := by decide +kernel
theorem dX4_readMember_16 : decode cX4_readMember 16 = .ok (.aload_n 0, 1) := by decide +kernel
theorem dX4_readMember_17 : decode cX4_readMember 17 = .ok (.iconst 1, 1) := by decide +kernel
theorem dX4_readMember_18 : decode cX4_readMember 18 = .ok (.bipush 99, 2) := by decide +kernel
theorem dX4_readMember_20 : decode cX4_readMember 20 = .ok (.invokevirtual 77, 3) := by decide +kernel
theorem dX4_readMember_23 : decode cX4_readMember 23 = .ok (.istore_n 3, 1) := by decide +kernel
theorem dX4_readMember_24 : decode cX4_readMember 24 = .ok (.aload_n 0, 1) := by decide +kernel
theorem dX4_readMember_25 : decode cX4_readMember 25 = .ok (.invokevirtual 142, 3) := by decide +kernel
theorem dX4_readMember_28 : decode cX4_readMember 28 = .ok (.istore 4, 2) := by decide +kernel
theorem dX4_readMember_30 : decode cX4_readMember 30 = .ok (.aload_n 0, 1) := by decide +kernel
theorem dX4_readMember_31 : decode cX4_readMember 31 = .ok (.invokevirtual 49, 3) := by decide +kernel
theorem dX4_readMember_34 : decode cX4_readMember 34 = .ok (.ifCond .eq 81, 3) := by decide +kernel
theorem dX4_readMember_37 : decode cX4_readMember 37 = .ok (.aload_n 0, 1) := by decide +kernel
theorem dX4_readMember_38 : decode cX4_readMember 38 = .ok (.getfield 18, 3) := by decide +kernel
theorem dX4_readMember_41 : decode cX4_readMember 41 = .ok (.getfield 145, 3) := by decide +kernel
theorem dX4_readMember_44 : decode cX4_readMember 44 = .ok (.aload_n 0, 1) := by decide +kernel
theorem dX4_readMember_45 : decode cX4_readMember 45 = .ok (.getfield 18, 3) := by decide +kernel
theorem dX4_readMember_48 : decode cX4_readMember 48 = .ok (.getfield 133, 3) := by decide +kernel
theorem dX4_readMember_51 : decode cX4_readMember 51 = .ok (.iload_n 1, 1) := by decide +kernel
theorem dX4_readMember_52 : decode cX4_readMember 52 = .ok (.iastore, 1) := by decide +kernel
theorem dX4_readMember_53 : decode cX4_readMember 53 = .ok (.aload_n 0, 1) := by decide +kernel
theorem dX4_readMember_54 : decode cX4_readMember 54 = .ok (.getfield 18, 3) := by decide +kernel
theorem dX4_readMember_57 : decode cX4_readMember 57 = .ok (.getfield 148, 3) := by decide +kernel
theorem dX4_readMember_60 : decode cX4_readMember 60 = .ok (.aload_n 0, 1) := by decide +kernel
theorem dX4_readMember_61 : decode cX4_readMember 61 = .ok (.getfield 18, 3) := by decide +kernel
theorem dX4_readMember_64 : decode cX4_readMember 64 = .ok (.getfield 133, 3) := by decide +kernel
theorem dX4_readMember_67 : decode cX4_readMember 67 = .ok (.iload_n 2, 1) := by decide +kernel
theorem dX4_readMember_68 : decode cX4_readMember 68 = .ok (.iastore, 1) := by decide +kernel
theorem dX4_readMember_69 : decode cX4_readMember 69 = .ok (.aload_n 0, 1) := by decide +kernel
theorem dX4_readMember_70 : decode cX4_readMember 70 = .ok (.getfield 18, 3) := by decide +kernel
theorem dX4_readMember_73 : decode cX4_readMember 73 = .ok (.getfield 151, 3) := by decide +kernel
theorem dX4_readMember_76 : decode cX4_readMember 76 = .ok (.aload_n 0, 1) := by decide +kernel
theorem dX4_readMember_77 : decode cX4_readMember 77 = .ok (.getfield 18, 3) := by decide +kernel
theorem dX4_readMember_80 : decode cX4_readMember 80 = .ok (.getfield 133, 3) := by decide +kernel
theorem dX4_readMember_83 : decode cX4_readMember 83 = .ok (.iload_n 3, 1) := by decide +kernel
theorem dX4_readMember_84 : decode cX4_readMember 84 = .ok (.iastore, 1) := by decide +kernel
theorem dX4_readMember_85 : decode cX4_readMember 85 = .ok (.aload_n 0, 1) := by decide +kernel
theorem dX4_readMember_86 : decode cX4_readMember 86 = .ok (.getfield 18, 3) := by decide +kernel
theorem dX4_readMember_89 : decode cX4_readMember 89 = .ok (.getfield 154, 3) := by decide +kernel
theorem dX4_readMember_92 : decode cX4_readMember 92 = .ok (.aload_n 0, 1) := by decide +kernel
theorem dX4_readMember_93 : decode cX4_readMember 93 = .ok (.getfield 18, 3) := by decide +kernel
theorem dX4_readMember_96 : decode cX4_readMember 96 = .ok (.getfield 133, 3) := by decide +kernel
theorem dX4_readMember_99 : decode cX4_readMember 99 = .ok (.iload 4, 2) := by decide +kernel
theorem dX4_readMember_101 : decode cX4_readMember 101 = .ok (.iastore, 1) := by decide +kernel
theorem dX4_readMember_102 : decode cX4_readMember 102 = .ok (.aload_n 0, 1) := by decide +kernel
theorem dX4_readMember_103 : decode cX4_readMember 103 = .ok (.getfield 18, 3) := by decide +kernel
theorem dX4_readMember_106 : decode cX4_readMember 106 = .ok (.dup, 1) := by decide +kernel
theorem dX4_readMember_107 : decode cX4_readMember 107 = .ok (.getfield 133, 3) := by decide +kernel
theorem dX4_readMember_110 : decode cX4_readMember 110 = .ok (.iconst 1, 1) := by decide +kernel
theorem dX4_readMember_111 : decode cX4_readMember 111 = .ok (.iadd, 1) := by decide +kernel
theorem dX4_readMember_112 : decode cX4_readMember 112 = .ok (.putfield 133, 3) := by decide +kernel
theorem dX4_readMember_115 : decode cX4_readMember 115 = .ok (.return_, 1) := by decide +kernel
theorem zm_X4_readMember : ZMv "ClassOfMany$Reader" yX4_readMember cX4_readMember 5 (none) 0 := ⟨kw_3_113, kw_3_112, kp_13, kw_1_5, by decide +kernel, by decide⟩
def zf_X4_readMember_j115 (M53 : ZMem) : Option (ZMem) :=
  some M53
def zf_X4_readMember (n : Nat) (M : ZMem) : Option (ZMem) :=
  zb2 (zf_X4_readNumber n (0 : Int32) (99 : Int32) M) (fun v44 M45 => zb2 (zf_X4_readNumber n v44 (99 : Int32) M45) (fun v46 M47 => zb2 (zf_X4_readNumber n (1 : Int32) (99 : Int32) M47) (fun v48 M49 => zb2 (zf_X4_readReach n M49) (fun v50 M51 => zb1 (zf_X4_isRight M51) (fun v52 => (if v52 = 0 then (zf_X4_readMember_j115 M51) else zdy M51 42 6 (7, 17) (fun o54 => zdy M51 42 6 (7, 17) (fun o55 => zst M51 (o54 + 1) 10 (M51 o55 0) v44 (fun M56 => zdy M56 42 6 (7, 17) (fun o57 => zdy M56 42 6 (7, 17) (fun o58 => zst M56 (o57 + 2) 10 (M56 o58 0) v46 (fun M59 => zdy M59 42 6 (7, 17) (fun o60 => zdy M59 42 6 (7, 17) (fun o61 => zst M59 (o60 + 3) 10 (M59 o61 0) v48 (fun M62 => zdy M62 42 6 (7, 17) (fun o63 => zdy M62 42 6 (7, 17) (fun o64 => zst M62 (o63 + 4) 10 (M62 o64 0) v50 (fun M65 => zdy M65 42 6 (7, 17) (fun o66 => zput M65 o66 0 ((M65 o66 0) + (1 : Int32)) (fun M67 => (zf_X4_readMember_j115 M67)))))))))))))))))))))
set_option maxHeartbeats 4000000 in
set_option maxRecDepth 100000 in
theorem zc_X4_readMember {l : Launch} {D : va_G} {ad : Nat → Nat} {cA : Nat → ClassId} {n : Nat} {M : ZMem} {M' : ZMem} (hf : zf_X4_readMember n M = some M') : ZCt l D ad cA yX4_readMember cX4_readMember 5 (none) 11 [.ref (ad 42)] M none M' := by
  refine zct (by decide +kernel) (Nat.le_of_ble_eq_true rfl) (lv := [(0, .ref (ad 42))]) rfl (fun E hl hD had hcA hN hC hR => ?_)
  subst hl; subst hD; subst had; subst hcA
  unfold zf_X4_readMember at hf
  refine zw_aload_n hC dX4_readMember_0 rfl 0 rfl ?_
  refine zw_iconst hC (v := (0 : Int32)) dX4_readMember_1 (by decide) ?_
  refine zw_bipush hC (v := (99 : Int32)) dX4_readMember_2 (by decide) ?_
  obtain ⟨v44, M45, hcM45, hf⟩ := zb2_some hf
  refine zw_cV hC [.int (0 : Int32), .int (99 : Int32)] [] (st1 := [.int v44]) zm_X4_readNumber (zc_X4_readNumber hcM45) zk_42 rfl kw_3_90 dX4_readMember_4 rfl (by decide) (Nat.le_of_ble_eq_true rfl) rfl rfl ?_
  refine zw_istore_n hC (lv' := [(1, .int v44), (0, .ref (zad E 42))]) dX4_readMember_7 rfl hN (by decide) rfl ?_
  refine zw_aload_n hC dX4_readMember_8 rfl 1 rfl ?_
  refine zw_iload_n hC dX4_readMember_9 rfl 0 rfl ?_
  refine zw_bipush hC (v := (99 : Int32)) dX4_readMember_10 (by decide) ?_
  obtain ⟨v46, M47, hcM47, hf⟩ := zb2_some hf
  refine zw_cV hC [.int v44, .int (99 : Int32)] [] (st1 := [.int v46]) zm_X4_readNumber (zc_X4_readNumber hcM47) zk_42 rfl kw_3_90 dX4_readMember_12 rfl (by decide) (Nat.le_of_ble_eq_true rfl) rfl rfl ?_
  refine zw_istore_n hC (lv' := [(2, .int v46), (1, .int v44), (0, .ref (zad E 42))]) dX4_readMember_15 rfl hN (by decide) rfl ?_
  refine zw_aload_n hC dX4_readMember_16 rfl 2 rfl ?_
  refine zw_iconst hC (v := (1 : Int32)) dX4_readMember_17 (by decide) ?_
  refine zw_bipush hC (v := (99 : Int32)) dX4_readMember_18 (by decide) ?_
  obtain ⟨v48, M49, hcM49, hf⟩ := zb2_some hf
  refine zw_cV hC [.int (1 : Int32), .int (99 : Int32)] [] (st1 := [.int v48]) zm_X4_readNumber (zc_X4_readNumber hcM49) zk_42 rfl kw_3_90 dX4_readMember_20 rfl (by decide) (Nat.le_of_ble_eq_true rfl) rfl rfl ?_
  refine zw_istore_n hC (lv' := [(3, .int v48), (2, .int v46), (1, .int v44), (0, .ref (zad E 42))]) dX4_readMember_23 rfl hN (by decide) rfl ?_
  refine zw_aload_n hC dX4_readMember_24 rfl 3 rfl ?_
  obtain ⟨v50, M51, hcM51, hf⟩ := zb2_some hf
  refine zw_cV hC [] [] (st1 := [.int v50]) zm_X4_readReach (zc_X4_readReach hcM51) zk_42 rfl kw_3_114 dX4_readMember_25 rfl (by decide) (Nat.le_of_ble_eq_true rfl) rfl rfl ?_
  refine zw_istore hC (lv' := [(4, .int v50), (3, .int v48), (2, .int v46), (1, .int v44), (0, .ref (zad E 42))]) dX4_readMember_28 hN (by decide) rfl ?_
  refine zw_aload_n hC dX4_readMember_30 rfl 4 rfl ?_
  obtain ⟨v52, hc52, hf⟩ := zb1_some hf
  refine zw_cV hC [] [] (st1 := [.int v52]) zm_X4_isRight (zc_X4_isRight hc52) zk_42 rfl kw_2_231 dX4_readMember_31 rfl (by decide) (Nat.le_of_ble_eq_true rfl) rfl rfl ?_
  have hj115 : ∀ (M53 : ZMem), zf_X4_readMember_j115 M53 = some M' → ZW E 115 [] [] M53 := by
    intro M53 hf
    unfold zf_X4_readMember_j115 at hf
    have h1 := Option.some.inj hf
    subst h1
    exact zw_vret hC hR dX4_readMember_115
  refine zw_if_eq hC 115 hf dX4_readMember_34 (by decide) (fun hf => ?_) (fun hf => ?_)
  · exact zw_sub [] rfl (hj115 M51 hf)
  · refine zw_aload_n hC dX4_readMember_37 rfl 4 rfl ?_
    refine zw_getd hC hf zF_Reader_told zk_42 dX4_readMember_38 kw_1_234 (fun o54 ho54 hf => ?_)
    refine zw_getr (k' := (o54 + 1)) hC zF_Told_from ho54 rfl dX4_readMember_41 kw_1_47 ?_
    refine zw_aload_n hC dX4_readMember_44 rfl 4 rfl ?_
    refine zw_getd hC hf zF_Reader_told zk_42 dX4_readMember_45 kw_1_234 (fun o55 ho55 hf => ?_)
    refine zw_geti hC zF_Told_members ho55 dX4_readMember_48 kw_1_40 ?_
    refine zw_iload_n hC dX4_readMember_51 rfl 3 rfl ?_
    refine zw_iast hC hf (zko_7_1 ho54) dX4_readMember_52 (fun M56 hf => ?_)
    refine zw_aload_n hC dX4_readMember_53 rfl 4 rfl ?_
    refine zw_getd hC hf zF_Reader_told zk_42 dX4_readMember_54 kw_1_234 (fun o57 ho57 hf => ?_)
    refine zw_getr (k' := (o57 + 2)) hC zF_Told_to ho57 rfl dX4_readMember_57 kw_1_51 ?_
    refine zw_aload_n hC dX4_readMember_60 rfl 4 rfl ?_
    refine zw_getd hC hf zF_Reader_told zk_42 dX4_readMember_61 kw_1_234 (fun o58 ho58 hf => ?_)
    refine zw_geti hC zF_Told_members ho58 dX4_readMember_64 kw_1_40 ?_
    refine zw_iload_n hC dX4_readMember_67 rfl 2 rfl ?_
    refine zw_iast hC hf (zko_7_2 ho57) dX4_readMember_68 (fun M59 hf => ?_)
    refine zw_aload_n hC dX4_readMember_69 rfl 4 rfl ?_
    refine zw_getd hC hf zF_Reader_told zk_42 dX4_readMember_70 kw_1_234 (fun o60 ho60 hf => ?_)
    refine zw_getr (k' := (o60 + 3)) hC zF_Told_rate ho60 rfl dX4_readMember_73 kw_1_55 ?_
    refine zw_aload_n hC dX4_readMember_76 rfl 4 rfl ?_
    refine zw_getd hC hf zF_Reader_told zk_42 dX4_readMember_77 kw_1_234 (fun o61 ho61 hf => ?_)
    refine zw_geti hC zF_Told_members ho61 dX4_readMember_80 kw_1_40 ?_
    refine zw_iload_n hC dX4_readMember_83 rfl 1 rfl ?_
    refine zw_iast hC hf (zko_7_3 ho60) dX4_readMember_84 (fun M62 hf => ?_)
    refine zw_aload_n hC dX4_readMember_85 rfl 4 rfl ?_
    refine zw_getd hC hf zF_Reader_told zk_42 dX4_readMember_86 kw_1_234 (fun o63 ho63 hf => ?_)
    refine zw_getr (k' := (o63 + 4)) hC zF_Told_reach ho63 rfl dX4_readMember_89 kw_1_59 ?_
    refine zw_aload_n hC dX4_readMember_92 rfl 4 rfl ?_
    refine zw_getd hC hf zF_Reader_told zk_42 dX4_readMember_93 kw_1_234 (fun o64 ho64 hf => ?_)
    refine zw_geti hC zF_Told_members ho64 dX4_readMember_96 kw_1_40 ?_
    refine zw_iload hC dX4_readMember_99 0 rfl ?_
    refine zw_iast hC hf (zko_7_4 ho63) dX4_readMember_101 (fun M65 hf => ?_)
    refine zw_aload_n hC dX4_readMember_102 rfl 4 rfl ?_
    refine zw_getd hC hf zF_Reader_told zk_42 dX4_readMember_103 kw_1_234 (fun o66 ho66 hf => ?_)
    refine zw_dup hC dX4_readMember_106 rfl ?_
    refine zw_geti hC zF_Told_members ho66 dX4_readMember_107 kw_1_40 ?_
    refine zw_iconst hC (v := (1 : Int32)) dX4_readMember_110 (by decide) ?_
    refine zw_iadd hC dX4_readMember_111 ?_
    refine zw_puti hC hf zF_Told_members ho66 dX4_readMember_112 kw_1_40 (fun M67 hf => ?_)
    exact zw_sub [] rfl (hj115 M67 hf)
/-! Reader.readLine()V -/
theorem dX4_readLine_0 : decode cX4_readLine 0 = .ok (.aload_n 0, 1) := by decide +kernel
theorem dX4_readLine_1 : decode cX4_readLine 1 = .ok (.invokevirtual 68, 3) := by decide +kernel
theorem dX4_readLine_4 : decode cX4_readLine 4 = .ok (.istore_n 1, 1) := by decide +kernel
theorem dX4_readLine_5 : decode cX4_readLine 5 = .ok (.aload_n 0, 1) := by decide +kernel
theorem dX4_readLine_6 : decode cX4_readLine 6 = .ok (.invokevirtual 49, 3) := by decide +kernel
theorem dX4_readLine_9 : decode cX4_readLine 9 = .ok (.ifCond .ne 4, 3) := by decide +kernel
theorem dX4_readLine_12 : decode cX4_readLine 12 = .ok (.return_, 1) := by decide +kernel
theorem dX4_readLine_13 : decode cX4_readLine 13 = .ok (.aload_n 0, 1) := by decide +kernel
theorem dX4_readLine_14 : decode cX4_readLine 14 = .ok (.dup, 1) := by decide +kernel
theorem dX4_readLine_15 : decode cX4_readLine 15 = .ok (.getfield 43, 3) := by decide +kernel
theorem dX4_readLine_18 : decode cX4_readLine 18 = .ok (.iconst 1, 1) := by decide +kernel
theorem dX4_readLine_19 : decode cX4_readLine 19 = .ok (.iload_n 1, 1) := by decide +kernel
theorem dX4_readLine_20 : decode cX4_readLine 20 = .ok (.ishl, 1) := by decide +kernel
theorem dX4_readLine_21 : decode cX4_readLine 21 = .ok (.ior, 1) := by decide +kernel
theorem dX4_readLine_22 : decode cX4_readLine 22 = .ok (.putfield 43, 3) := by decide +kernel
theorem dX4_readLine_25 : decode cX4_readLine 25 = .ok (.aload_n 0, 1) := by decide +kernel
theorem dX4_readLine_26 : decode cX4_readLine 26 = .ok (.getfield 18, 3) := by decide +kernel
theorem dX4_readLine_29 : decode cX4_readLine 29 = .ok (.iload_n 1, 1) := by decide +kernel
theorem dX4_readLine_30 : decode cX4_readLine 30 = .ok (.invokevirtual 72, 3) := by decide +kernel
theorem dX4_readLine_33 : decode cX4_readLine 33 = .ok (.iload_n 1, 1) := by decide +kernel
theorem dX4_readLine_34 : decode cX4_readLine 34 = .ok (.tableswitch 162 0 6 #[42, 59, 76, 94, 111, 148, 155], 42) := by decide +kernel
theorem dX4_readLine_76 : decode cX4_readLine 76 = .ok (.aload_n 0, 1) := by decide +kernel
theorem dX4_readLine_77 : decode cX4_readLine 77 = .ok (.getfield 25, 3) := by decide +kernel
theorem dX4_readLine_80 : decode cX4_readLine 80 = .ok (.aload_n 0, 1) := by decide +kernel
theorem dX4_readLine_81 : decode cX4_readLine 81 = .ok (.iconst 0, 1) := by decide +kernel
theorem dX4_readLine_82 : decode cX4_readLine 82 = .ok (.ldc 76, 2) := by decide +kernel
theorem dX4_readLine_84 : decode cX4_readLine 84 = .ok (.invokevirtual 77, 3) := by decide +kernel
theorem dX4_readLine_87 : decode cX4_readLine 87 = .ok (.putfield 81, 3) := by decide +kernel
theorem dX4_readLine_90 : decode cX4_readLine 90 = .ok (.goto 110, 3) := by decide +kernel
theorem dX4_readLine_93 : decode cX4_readLine 93 = .ok (.aload_n 0, 1) := by decide +kernel
theorem dX4_readLine_94 : decode cX4_readLine 94 = .ok (.getfield 18, 3) := by decide +kernel
theorem dX4_readLine_97 : decode cX4_readLine 97 = .ok (.aload_n 0, 1) := by decide +kernel
theorem dX4_readLine_98 : decode cX4_readLine 98 = .ok (.iconst 0, 1) := by decide +kernel
theorem dX4_readLine_99 : decode cX4_readLine 99 = .ok (.bipush 50, 2) := by decide +kernel
theorem dX4_readLine_101 : decode cX4_readLine 101 = .ok (.invokevirtual 77, 3) := by decide +kernel
theorem dX4_readLine_104 : decode cX4_readLine 104 = .ok (.putfield 84, 3) := by decide +kernel
theorem dX4_readLine_107 : decode cX4_readLine 107 = .ok (.goto 93, 3) := by decide +kernel
theorem dX4_readLine_110 : decode cX4_readLine 110 = .ok (.aload_n 0, 1) := by decide +kernel
theorem dX4_readLine_111 : decode cX4_readLine 111 = .ok (.getfield 18, 3) := by decide +kernel
theorem dX4_readLine_114 : decode cX4_readLine 114 = .ok (.aload_n 0, 1) := by decide +kernel
theorem dX4_readLine_115 : decode cX4_readLine 115 = .ok (.iconst 0, 1) := by decide +kernel
theorem dX4_readLine_116 : decode cX4_readLine 116 = .ok (.sipush 999, 3) := by decide +kernel
theorem dX4_readLine_119 : decode cX4_readLine 119 = .ok (.invokevirtual 77, 3) := by decide +kernel
theorem dX4_readLine_122 : decode cX4_readLine 122 = .ok (.putfield 87, 3) := by decide +kernel
theorem dX4_readLine_125 : decode cX4_readLine 125 = .ok (.goto 75, 3) := by decide +kernel
theorem dX4_readLine_128 : decode cX4_readLine 128 = .ok (.aload_n 0, 1) := by decide +kernel
theorem dX4_readLine_129 : decode cX4_readLine 129 = .ok (.getfield 18, 3) := by decide +kernel
theorem dX4_readLine_132 : decode cX4_readLine 132 = .ok (.aload_n 0, 1) := by decide +kernel
theorem dX4_readLine_133 : decode cX4_readLine 133 = .ok (.iconst 0, 1) := by decide +kernel
theorem dX4_readLine_134 : decode cX4_readLine 134 = .ok (.bipush 99, 2) := by decide +kernel
theorem dX4_readLine_136 : decode cX4_readLine 136 = .ok (.invokevirtual 77, 3) := by decide +kernel
theorem dX4_readLine_139 : decode cX4_readLine 139 = .ok (.putfield 90, 3) := by decide +kernel
theorem dX4_readLine_142 : decode cX4_readLine 142 = .ok (.goto 58, 3) := by decide +kernel
theorem dX4_readLine_145 : decode cX4_readLine 145 = .ok (.aload_n 0, 1) := by decide +kernel
theorem dX4_readLine_146 : decode cX4_readLine 146 = .ok (.getfield 25, 3) := by decide +kernel
theorem dX4_readLine_149 : decode cX4_readLine 149 = .ok (.aload_n 0, 1) := by decide +kernel
theorem dX4_readLine_150 : decode cX4_readLine 150 = .ok (.iconst 0, 1) := by decide +kernel
theorem dX4_readLine_151 : decode cX4_readLine 151 = .ok (.bipush 99, 2) := by decide +kernel
theorem dX4_readLine_153 : decode cX4_readLine 153 = .ok (.invokevirtual 77, 3) := by decide +kernel
theorem dX4_readLine_156 : decode cX4_readLine 156 = .ok (.putfield 93, 3) := by decide +kernel
theorem dX4_readLine_159 : decode cX4_readLine 159 = .ok (.aload_n 0, 1) := by decide +kernel
theorem dX4_readLine_160 : decode cX4_readLine 160 = .ok (.getfield 25, 3) := by decide +kernel
theorem dX4_readLine_163 : decode cX4_readLine 163 = .ok (.aload_n 0, 1) := by decide +kernel
theorem dX4_readLine_164 : decode cX4_readLine 164 = .ok (.aload_n 0, 1) := by decide +kernel
theorem dX4_readLine_165 : decode cX4_readLine 165 = .ok (.getfield 25, 3) := by decide +kernel
theorem dX4_readLine_168 : decode cX4_readLine 168 = .ok (.getfield 93, 3) := by decide +kernel
theorem dX4_readLine_171 : decode cX4_readLine 171 = .ok (.bipush 99, 2) := by decide +kernel
theorem dX4_readLine_173 : decode cX4_readLine 173 = .ok (.invokevirtual 77, 3) := by decide +kernel
theorem dX4_readLine_176 : decode cX4_readLine 176 = .ok (.putfield 96, 3) := by decide +kernel
theorem dX4_readLine_179 : decode cX4_readLine 179 = .ok (.goto 21, 3) := by decide +kernel
theorem dX4_readLine_182 : decode cX4_readLine 182 = .ok (.aload_n 0, 1) := by decide +kernel
theorem dX4_readLine_183 : decode cX4_readLine 183 = .ok (.invokevirtual 99, 3) := by decide +kernel
theorem dX4_readLine_186 : decode cX4_readLine 186 = .ok (.goto 14, 3) := by decide +kernel
theorem dX4_readLine_189 : decode cX4_readLine 189 = .ok (.aload_n 0, 1) := by decide +kernel
theorem dX4_readLine_190 : decode cX4_readLine 190 = .ok (.invokevirtual 102, 3) := by decide +kernel
theorem dX4_readLine_193 : decode cX4_readLine 193 = .ok (.goto 7, 3) := by decide +kernel
theorem dX4_readLine_196 : decode cX4_readLine 196 = .ok (.aload_n 0, 1) := by decide +kernel
theorem dX4_readLine_197 : decode cX4_readLine 197 = .ok (.invokevirtual 105, 3) := by decide +kernel
theorem dX4_readLine_200 : decode cX4_readLine 200 = .ok (.aload_n 0, 1) := by decide +kernel
theorem dX4_readLine_201 : decode cX4_readLine 201 = .ok (.invokevirtual 108, 3) := by decide +kernel
theorem dX4_readLine_204 : decode cX4_readLine 204 = .ok (.return_, 1) := by decide +kernel
theorem zm_X4_readLine : ZMv "ClassOfMany$Reader" yX4_readLine cX4_readLine 2 (none) 0 := ⟨kw_2_238, kw_2_237, kp_2, kw_1_5, by decide +kernel, by decide⟩
def zf_X4_readLine_j200 (n : Nat) (M58 : ZMem) : Option (ZMem) :=
  zb1 (zf_X4_readEnd n M58) (fun M59 => some M59)
def zf_X4_readLine (n : Nat) (M : ZMem) : Option (ZMem) :=
  zb2 (zf_X4_readSort n M) (fun v52 M53 => zb1 (zf_X4_isRight M53) (fun v54 => (if v54 = 0 then some M53 else zput M53 42 5 ((M53 42 5) ||| ((1 : Int32) <<< (v52 &&& 31))) (fun M55 => zdy M55 42 6 (7, 17) (fun o56 => zb1 (zf_X8_openLine o56 v52 M55) (fun M57 => (if v52 = (0 : Int32) then zb2 (zf_X4_readNumber n (0 : Int32) (99999 : Int32) M57) (fun v60 M61 => zput M61 55 7 v60 (fun M62 => (zf_X4_readLine_j200 n M62))) else (if v52 = (1 : Int32) then zdy M57 42 6 (7, 17) (fun o63 => zb2 (zf_X4_readNumber n (0 : Int32) (50 : Int32) M57) (fun v64 M65 => zput M65 o63 8 v64 (fun M66 => (zf_X4_readLine_j200 n M66)))) else (if v52 = (2 : Int32) then zdy M57 42 6 (7, 17) (fun o67 => zb2 (zf_X4_readNumber n (0 : Int32) (999 : Int32) M57) (fun v68 M69 => zput M69 o67 9 v68 (fun M70 => (zf_X4_readLine_j200 n M70)))) else (if v52 = (3 : Int32) then zdy M57 42 6 (7, 17) (fun o71 => zb2 (zf_X4_readNumber n (0 : Int32) (99 : Int32) M57) (fun v72 M73 => zput M73 o71 10 v72 (fun M74 => (zf_X4_readLine_j200 n M74)))) else (if v52 = (4 : Int32) then zb2 (zf_X4_readNumber n (0 : Int32) (99 : Int32) M57) (fun v75 M76 => zput M76 55 9 v75 (fun M77 => zb2 (zf_X4_readNumber n (M77 55 9) (99 : Int32) M77) (fun v78 M79 => zput M79 55 10 v78 (fun M80 => (zf_X4_readLine_j200 n M80))))) else (if v52 = (5 : Int32) then zb1 (zf_X4_readChannel n M57) (fun M81 => (zf_X4_readLine_j200 n M81)) else (if v52 = (6 : Int32) then zb1 (zf_X4_readMember n M57) (fun M82 => (zf_X4_readLine_j200 n M82)) else zb1 (zf_X4_readConflict n M57) (fun M83 => (zf_X4_readLine_j200 n M83)))))))))))))))
set_option maxHeartbeats 4000000 in
set_option maxRecDepth 100000 in
theorem zc_X4_readLine {l : Launch} {D : va_G} {ad : Nat → Nat} {cA : Nat → ClassId} {n : Nat} {M : ZMem} {M' : ZMem} (hf : zf_X4_readLine n M = some M') : ZCt l D ad cA yX4_readLine cX4_readLine 2 (none) 12 [.ref (ad 42)] M none M' := by
  refine zct (by decide +kernel) (Nat.le_of_ble_eq_true rfl) (lv := [(0, .ref (ad 42))]) rfl (fun E hl hD had hcA hN hC hR => ?_)
  subst hl; subst hD; subst had; subst hcA
  unfold zf_X4_readLine at hf
  refine zw_aload_n hC dX4_readLine_0 rfl 0 rfl ?_
  obtain ⟨v52, M53, hcM53, hf⟩ := zb2_some hf
  refine zw_cV hC [] [] (st1 := [.int v52]) zm_X4_readSort (zc_X4_readSort hcM53) zk_42 rfl kw_2_239 dX4_readLine_1 rfl (by decide) (Nat.le_of_ble_eq_true rfl) rfl rfl ?_
  refine zw_istore_n hC (lv' := [(1, .int v52), (0, .ref (zad E 42))]) dX4_readLine_4 rfl hN (by decide) rfl ?_
  refine zw_aload_n hC dX4_readLine_5 rfl 1 rfl ?_
  obtain ⟨v54, hc54, hf⟩ := zb1_some hf
  refine zw_cV hC [] [] (st1 := [.int v54]) zm_X4_isRight (zc_X4_isRight hc54) zk_42 rfl kw_2_231 dX4_readLine_6 rfl (by decide) (Nat.le_of_ble_eq_true rfl) rfl rfl ?_
  refine zw_if_ne hC 13 hf dX4_readLine_9 (by decide) (fun hf => ?_) (fun hf => ?_)
  · refine zw_aload_n hC dX4_readLine_13 rfl 1 rfl ?_
    refine zw_dup hC dX4_readLine_14 rfl ?_
    refine zw_geti hC zF_Reader_seenSorts zk_42 dX4_readLine_15 kw_1_233 ?_
    refine zw_iconst hC (v := (1 : Int32)) dX4_readLine_18 (by decide) ?_
    refine zw_iload_n hC dX4_readLine_19 rfl 0 rfl ?_
    refine zw_ishl hC dX4_readLine_20 ?_
    refine zw_ior hC dX4_readLine_21 ?_
    refine zw_puti hC hf zF_Reader_seenSorts zk_42 dX4_readLine_22 kw_1_233 (fun M55 hf => ?_)
    refine zw_aload_n hC dX4_readLine_25 rfl 1 rfl ?_
    refine zw_getd hC hf zF_Reader_told zk_42 dX4_readLine_26 kw_1_234 (fun o56 ho56 hf => ?_)
    refine zw_iload_n hC dX4_readLine_29 rfl 0 rfl ?_
    obtain ⟨M57, hcM57, hf⟩ := zb1_some hf
    refine zw_cV hC [.int v52] [] (st1 := []) zm_X8_openLine (zc_X8_openLine ho56 hcM57) ho56 rfl kw_3_85 dX4_readLine_30 rfl (by decide) (Nat.le_of_ble_eq_true rfl) rfl rfl ?_
    refine zw_iload_n hC dX4_readLine_33 rfl 0 rfl ?_
    have hj200 : ∀ (M58 : ZMem), zf_X4_readLine_j200 n M58 = some M' → ZW E 200 [(0, .ref (zad E 42))] [] M58 := by
      intro M58 hf
      unfold zf_X4_readLine_j200 at hf
      refine zw_aload_n hC dX4_readLine_200 rfl 0 rfl ?_
      obtain ⟨M59, hcM59, hf⟩ := zb1_some hf
      refine zw_cV hC [] [] (st1 := []) zm_X4_readEnd (zc_X4_readEnd hcM59) zk_42 rfl kw_3_127 dX4_readLine_201 rfl (by decide) (Nat.le_of_ble_eq_true rfl) rfl rfl ?_
      have h1 := Option.some.inj hf
      subst h1
      exact zw_vret hC hR dX4_readLine_204
    by_cases hx34_0 : v52 = (0 : Int32)
    · rw [if_pos hx34_0] at hf
      refine zw_tin hC hx34_0 (tgt := 76) dX4_readLine_34 (by decide) (by decide) rfl (by decide) ?_
      refine zw_aload_n hC dX4_readLine_76 rfl 1 rfl ?_
      refine zw_getr (k' := 55) hC zF_Reader_standing zk_42 rfl dX4_readLine_77 kw_1_236 ?_
      refine zw_aload_n hC dX4_readLine_80 rfl 1 rfl ?_
      refine zw_iconst hC (v := (0 : Int32)) dX4_readLine_81 (by decide) ?_
      refine zw_ldc hC dX4_readLine_82 kw_3_89 ?_
      obtain ⟨v60, M61, hcM61, hf⟩ := zb2_some hf
      refine zw_cV hC [.int (0 : Int32), .int (99999 : Int32)] [.ref (zad E 55)] (st1 := [.int v60, .ref (zad E 55)]) zm_X4_readNumber (zc_X4_readNumber hcM61) zk_42 rfl kw_3_90 dX4_readLine_84 rfl (by decide) (Nat.le_of_ble_eq_true rfl) rfl rfl ?_
      refine zw_puti hC hf zF_Standing_fund zk_55 dX4_readLine_87 kw_1_157 (fun M62 hf => ?_)
      refine zw_goto hC 200 dX4_readLine_90 (by decide) ?_
      exact zw_sub [1] rfl (hj200 M62 hf)
    rw [if_neg hx34_0] at hf
    by_cases hx34_1 : v52 = (1 : Int32)
    · rw [if_pos hx34_1] at hf
      refine zw_tin hC hx34_1 (tgt := 93) dX4_readLine_34 (by decide) (by decide) rfl (by decide) ?_
      refine zw_aload_n hC dX4_readLine_93 rfl 1 rfl ?_
      refine zw_getd hC hf zF_Reader_told zk_42 dX4_readLine_94 kw_1_234 (fun o63 ho63 hf => ?_)
      refine zw_aload_n hC dX4_readLine_97 rfl 1 rfl ?_
      refine zw_iconst hC (v := (0 : Int32)) dX4_readLine_98 (by decide) ?_
      refine zw_bipush hC (v := (50 : Int32)) dX4_readLine_99 (by decide) ?_
      obtain ⟨v64, M65, hcM65, hf⟩ := zb2_some hf
      refine zw_cV hC [.int (0 : Int32), .int (50 : Int32)] [.ref (zad E o63)] (st1 := [.int v64, .ref (zad E o63)]) zm_X4_readNumber (zc_X4_readNumber hcM65) zk_42 rfl kw_3_90 dX4_readLine_101 rfl (by decide) (Nat.le_of_ble_eq_true rfl) rfl rfl ?_
      refine zw_puti hC hf zF_Told_fee ho63 dX4_readLine_104 kw_1_70 (fun M66 hf => ?_)
      refine zw_goto hC 200 dX4_readLine_107 (by decide) ?_
      exact zw_sub [1] rfl (hj200 M66 hf)
    rw [if_neg hx34_1] at hf
    by_cases hx34_2 : v52 = (2 : Int32)
    · rw [if_pos hx34_2] at hf
      refine zw_tin hC hx34_2 (tgt := 110) dX4_readLine_34 (by decide) (by decide) rfl (by decide) ?_
      refine zw_aload_n hC dX4_readLine_110 rfl 1 rfl ?_
      refine zw_getd hC hf zF_Reader_told zk_42 dX4_readLine_111 kw_1_234 (fun o67 ho67 hf => ?_)
      refine zw_aload_n hC dX4_readLine_114 rfl 1 rfl ?_
      refine zw_iconst hC (v := (0 : Int32)) dX4_readLine_115 (by decide) ?_
      refine zw_sipush hC (v := (999 : Int32)) dX4_readLine_116 (by decide) ?_
      obtain ⟨v68, M69, hcM69, hf⟩ := zb2_some hf
      refine zw_cV hC [.int (0 : Int32), .int (999 : Int32)] [.ref (zad E o67)] (st1 := [.int v68, .ref (zad E o67)]) zm_X4_readNumber (zc_X4_readNumber hcM69) zk_42 rfl kw_3_90 dX4_readLine_119 rfl (by decide) (Nat.le_of_ble_eq_true rfl) rfl rfl ?_
      refine zw_puti hC hf zF_Told_least ho67 dX4_readLine_122 kw_1_74 (fun M70 hf => ?_)
      refine zw_goto hC 200 dX4_readLine_125 (by decide) ?_
      exact zw_sub [1] rfl (hj200 M70 hf)
    rw [if_neg hx34_2] at hf
    by_cases hx34_3 : v52 = (3 : Int32)
    · rw [if_pos hx34_3] at hf
      refine zw_tin hC hx34_3 (tgt := 128) dX4_readLine_34 (by decide) (by decide) rfl (by decide) ?_
      refine zw_aload_n hC dX4_readLine_128 rfl 1 rfl ?_
      refine zw_getd hC hf zF_Reader_told zk_42 dX4_readLine_129 kw_1_234 (fun o71 ho71 hf => ?_)
      refine zw_aload_n hC dX4_readLine_132 rfl 1 rfl ?_
      refine zw_iconst hC (v := (0 : Int32)) dX4_readLine_133 (by decide) ?_
      refine zw_bipush hC (v := (99 : Int32)) dX4_readLine_134 (by decide) ?_
      obtain ⟨v72, M73, hcM73, hf⟩ := zb2_some hf
      refine zw_cV hC [.int (0 : Int32), .int (99 : Int32)] [.ref (zad E o71)] (st1 := [.int v72, .ref (zad E o71)]) zm_X4_readNumber (zc_X4_readNumber hcM73) zk_42 rfl kw_3_90 dX4_readLine_136 rfl (by decide) (Nat.le_of_ble_eq_true rfl) rfl rfl ?_
      refine zw_puti hC hf zF_Told_till ho71 dX4_readLine_139 kw_1_77 (fun M74 hf => ?_)
      refine zw_goto hC 200 dX4_readLine_142 (by decide) ?_
      exact zw_sub [1] rfl (hj200 M74 hf)
    rw [if_neg hx34_3] at hf
    by_cases hx34_4 : v52 = (4 : Int32)
    · rw [if_pos hx34_4] at hf
      refine zw_tin hC hx34_4 (tgt := 145) dX4_readLine_34 (by decide) (by decide) rfl (by decide) ?_
      refine zw_aload_n hC dX4_readLine_145 rfl 1 rfl ?_
      refine zw_getr (k' := 55) hC zF_Reader_standing zk_42 rfl dX4_readLine_146 kw_1_236 ?_
      refine zw_aload_n hC dX4_readLine_149 rfl 1 rfl ?_
      refine zw_iconst hC (v := (0 : Int32)) dX4_readLine_150 (by decide) ?_
      refine zw_bipush hC (v := (99 : Int32)) dX4_readLine_151 (by decide) ?_
      obtain ⟨v75, M76, hcM76, hf⟩ := zb2_some hf
      refine zw_cV hC [.int (0 : Int32), .int (99 : Int32)] [.ref (zad E 55)] (st1 := [.int v75, .ref (zad E 55)]) zm_X4_readNumber (zc_X4_readNumber hcM76) zk_42 rfl kw_3_90 dX4_readLine_153 rfl (by decide) (Nat.le_of_ble_eq_true rfl) rfl rfl ?_
      refine zw_puti hC hf zF_Standing_periodFrom zk_55 dX4_readLine_156 kw_1_163 (fun M77 hf => ?_)
      refine zw_aload_n hC dX4_readLine_159 rfl 1 rfl ?_
      refine zw_getr (k' := 55) hC zF_Reader_standing zk_42 rfl dX4_readLine_160 kw_1_236 ?_
      refine zw_aload_n hC dX4_readLine_163 rfl 1 rfl ?_
      refine zw_aload_n hC dX4_readLine_164 rfl 1 rfl ?_
      refine zw_getr (k' := 55) hC zF_Reader_standing zk_42 rfl dX4_readLine_165 kw_1_236 ?_
      refine zw_geti hC zF_Standing_periodFrom zk_55 dX4_readLine_168 kw_1_163 ?_
      refine zw_bipush hC (v := (99 : Int32)) dX4_readLine_171 (by decide) ?_
      obtain ⟨v78, M79, hcM79, hf⟩ := zb2_some hf
      refine zw_cV hC [.int (M77 55 9), .int (99 : Int32)] [.ref (zad E 55)] (st1 := [.int v78, .ref (zad E 55)]) zm_X4_readNumber (zc_X4_readNumber hcM79) zk_42 rfl kw_3_90 dX4_readLine_173 rfl (by decide) (Nat.le_of_ble_eq_true rfl) rfl rfl ?_
      refine zw_puti hC hf zF_Standing_periodTo zk_55 dX4_readLine_176 kw_1_166 (fun M80 hf => ?_)
      refine zw_goto hC 200 dX4_readLine_179 (by decide) ?_
      exact zw_sub [1] rfl (hj200 M80 hf)
    rw [if_neg hx34_4] at hf
    by_cases hx34_5 : v52 = (5 : Int32)
    · rw [if_pos hx34_5] at hf
      refine zw_tin hC hx34_5 (tgt := 182) dX4_readLine_34 (by decide) (by decide) rfl (by decide) ?_
      refine zw_aload_n hC dX4_readLine_182 rfl 1 rfl ?_
      obtain ⟨M81, hcM81, hf⟩ := zb1_some hf
      refine zw_cV hC [] [] (st1 := []) zm_X4_readChannel (zc_X4_readChannel hcM81) zk_42 rfl kw_3_106 dX4_readLine_183 rfl (by decide) (Nat.le_of_ble_eq_true rfl) rfl rfl ?_
      refine zw_goto hC 200 dX4_readLine_186 (by decide) ?_
      exact zw_sub [1] rfl (hj200 M81 hf)
    rw [if_neg hx34_5] at hf
    by_cases hx34_6 : v52 = (6 : Int32)
    · rw [if_pos hx34_6] at hf
      refine zw_tin hC hx34_6 (tgt := 189) dX4_readLine_34 (by decide) (by decide) rfl (by decide) ?_
      refine zw_aload_n hC dX4_readLine_189 rfl 1 rfl ?_
      obtain ⟨M82, hcM82, hf⟩ := zb1_some hf
      refine zw_cV hC [] [] (st1 := []) zm_X4_readMember (zc_X4_readMember hcM82) zk_42 rfl kw_3_110 dX4_readLine_190 rfl (by decide) (Nat.le_of_ble_eq_true rfl) rfl rfl ?_
      refine zw_goto hC 200 dX4_readLine_193 (by decide) ?_
      exact zw_sub [1] rfl (hj200 M82 hf)
    rw [if_neg hx34_6] at hf
    refine zw_tout hC (tgt := 196) dX4_readLine_34 (ztout (n := 6) (fun k hk => by match k, hk with | 0, _ => exact hx34_0 | 1, _ => exact hx34_1 | 2, _ => exact hx34_2 | 3, _ => exact hx34_3 | 4, _ => exact hx34_4 | 5, _ => exact hx34_5 | 6, _ => exact hx34_6 | k + 7, hk => exact absurd hk (by omega))) (by decide) ?_
    refine zw_aload_n hC dX4_readLine_196 rfl 1 rfl ?_
    obtain ⟨M83, hcM83, hf⟩ := zb1_some hf
    refine zw_cV hC [] [] (st1 := []) zm_X4_readConflict (zc_X4_readConflict hcM83) zk_42 rfl kw_3_119 dX4_readLine_197 rfl (by decide) (Nat.le_of_ble_eq_true rfl) rfl rfl ?_
    exact zw_sub [1] rfl (hj200 M83 hf)
  · have h1 := Option.some.inj hf
    subst h1
    exact zw_vret hC hR dX4_readLine_12
/-! Reader.read()I -/
theorem dX4_read_0 : decode cX4_read 0 = .ok (.aload_n 0, 1) := by decide +kernel
theorem dX4_read_1 : decode cX4_read 1 = .ok (.getfield 18, 3) := by decide +kernel
theorem dX4_read_4 : decode cX4_read 4 = .ok (.invokevirtual 33, 3) := by decide +kernel
theorem dX4_read_7 : decode cX4_read 7 = .ok (.aload_n 0, 1) := by decide +kernel
theorem dX4_read_8 : decode cX4_read 8 = .ok (.getfield 25, 3) := by decide +kernel
theorem dX4_read_11 : decode cX4_read 11 = .ok (.invokevirtual 36, 3) := by decide +kernel
theorem dX4_read_14 : decode cX4_read 14 = .ok (.aload_n 0, 1) := by decide +kernel
theorem dX4_read_15 : decode cX4_read 15 = .ok (.iconst 0, 1) := by decide +kernel
theorem dX4_read_16 : decode cX4_read 16 = .ok (.putfield 37, 3) := by decide +kernel
theorem dX4_read_19 : decode cX4_read 19 = .ok (.aload_n 0, 1) := by decide +kernel
theorem dX4_read_20 : decode cX4_read 20 = .ok (.iconst (-1), 1) := by decide +kernel
theorem dX4_read_21 : decode cX4_read 21 = .ok (.putfield 40, 3) := by decide +kernel
theorem dX4_read_24 : decode cX4_read 24 = .ok (.aload_n 0, 1) := by decide +kernel
theorem dX4_read_25 : decode cX4_read 25 = .ok (.iconst 0, 1) := by decide +kernel
theorem dX4_read_26 : decode cX4_read 26 = .ok (.putfield 43, 3) := by decide +kernel
theorem dX4_read_29 : decode cX4_read 29 = .ok (.aload_n 0, 1) := by decide +kernel
theorem dX4_read_30 : decode cX4_read 30 = .ok (.invokevirtual 46, 3) := by decide +kernel
theorem dX4_read_33 : decode cX4_read 33 = .ok (.iconst 0, 1) := by decide +kernel
theorem dX4_read_34 : decode cX4_read 34 = .ok (.istore_n 1, 1) := by decide +kernel
theorem dX4_read_35 : decode cX4_read 35 = .ok (.iload_n 1, 1) := by decide +kernel
theorem dX4_read_36 : decode cX4_read 36 = .ok (.bipush 80, 2) := by decide +kernel
theorem dX4_read_38 : decode cX4_read 38 = .ok (.if_icmp .ge 35, 3) := by decide +kernel
theorem dX4_read_41 : decode cX4_read 41 = .ok (.aload_n 0, 1) := by decide +kernel
theorem dX4_read_42 : decode cX4_read 42 = .ok (.getfield 37, 3) := by decide +kernel
theorem dX4_read_45 : decode cX4_read 45 = .ok (.aload_n 0, 1) := by decide +kernel
theorem dX4_read_46 : decode cX4_read 46 = .ok (.getfield 29, 3) := by decide +kernel
theorem dX4_read_49 : decode cX4_read 49 = .ok (.if_icmp .ge 24, 3) := by decide +kernel
theorem dX4_read_52 : decode cX4_read 52 = .ok (.aload_n 0, 1) := by decide +kernel
theorem dX4_read_53 : decode cX4_read 53 = .ok (.invokevirtual 49, 3) := by decide +kernel
theorem dX4_read_56 : decode cX4_read 56 = .ok (.ifCond .eq 17, 3) := by decide +kernel
theorem dX4_read_59 : decode cX4_read 59 = .ok (.aload_n 0, 1) := by decide +kernel
theorem dX4_read_60 : decode cX4_read 60 = .ok (.invokevirtual 53, 3) := by decide +kernel
theorem dX4_read_63 : decode cX4_read 63 = .ok (.aload_n 0, 1) := by decide +kernel
theorem dX4_read_64 : decode cX4_read 64 = .ok (.invokevirtual 46, 3) := by decide +kernel
theorem dX4_read_67 : decode cX4_read 67 = .ok (.iinc 1 1, 3) := by decide +kernel
theorem dX4_read_70 : decode cX4_read 70 = .ok (.goto (-35), 3) := by decide +kernel
theorem dX4_read_73 : decode cX4_read 73 = .ok (.aload_n 0, 1) := by decide +kernel
theorem dX4_read_74 : decode cX4_read 74 = .ok (.getfield 25, 3) := by decide +kernel
theorem dX4_read_77 : decode cX4_read 77 = .ok (.aload_n 0, 1) := by decide +kernel
theorem dX4_read_78 : decode cX4_read 78 = .ok (.getfield 18, 3) := by decide +kernel
theorem dX4_read_81 : decode cX4_read 81 = .ok (.getfield 56, 3) := by decide +kernel
theorem dX4_read_84 : decode cX4_read 84 = .ok (.invokestatic 59, 3) := by decide +kernel
theorem dX4_read_87 : decode cX4_read 87 = .ok (.putfield 65, 3) := by decide +kernel
theorem dX4_read_90 : decode cX4_read 90 = .ok (.aload_n 0, 1) := by decide +kernel
theorem dX4_read_91 : decode cX4_read 91 = .ok (.getfield 40, 3) := by decide +kernel
theorem dX4_read_94 : decode cX4_read 94 = .ok (.ireturn, 1) := by decide +kernel
theorem zm_X4_read : ZMv "ClassOfMany$Reader" yX4_read cX4_read 2 (some .int) 0 := ⟨kw_2_215, kw_2_213, kw_2_214, kw_1_5, by decide +kernel, by decide⟩
def zf_X4_read_L35 (n : Nat) (K73 : ZMem → Option (Int32 × ZMem)) : Nat → Int32 → ZMem → Option (Int32 × ZMem)
  | 0, _, _ => none
  | n35 + 1, v41, M42 =>
  (if (80 : Int32) ≤ v41 then (K73 M42) else (if (M42 42 1) ≤ (M42 42 2) then (K73 M42) else zb1 (zf_X4_isRight M42) (fun v44 => (if v44 = 0 then (K73 M42) else zb1 (zf_X4_readLine n M42) (fun M45 => zb1 (zf_X4_skipBlanks n M45) (fun M46 => (zf_X4_read_L35 n K73 n35 (v41 + (1 : Int32)) M46)))))))
def zf_X4_read (n : Nat) (M : ZMem) : Option (Int32 × ZMem) :=
  zdy M 42 6 (7, 17) (fun o34 => zb1 (zf_X8_clear o34 M) (fun M35 => zb1 (zf_X7_clear n 55 M35) (fun M36 => zput M36 42 2 (0 : Int32) (fun M37 => zput M37 42 4 (-1 : Int32) (fun M38 => zput M38 42 5 (0 : Int32) (fun M39 => zb1 (zf_X4_skipBlanks n M39) (fun M40 => (zf_X4_read_L35 n (fun M47 => zdy M47 42 6 (7, 17) (fun o48 => zb1 (zf_X1_orderAsTold n (M47 o48 1)) (fun v49 => zput M47 55 1 v49 (fun M50 => some ((M50 42 4), M50))))) n (0 : Int32) M40))))))))
set_option maxHeartbeats 4000000 in
set_option maxRecDepth 100000 in
theorem zc_X4_read {l : Launch} {D : va_G} {ad : Nat → Nat} {cA : Nat → ClassId} {n : Nat} {M : ZMem} {r : Int32} {M' : ZMem} (hf : zf_X4_read n M = some (r, M')) : ZCt l D ad cA yX4_read cX4_read 2 (some .int) 13 [.ref (ad 42)] M (some (.int r)) M' := by
  refine zct (by decide +kernel) (Nat.le_of_ble_eq_true rfl) (lv := [(0, .ref (ad 42))]) rfl (fun E hl hD had hcA hN hC hR => ?_)
  subst hl; subst hD; subst had; subst hcA
  unfold zf_X4_read at hf
  refine zw_aload_n hC dX4_read_0 rfl 0 rfl ?_
  refine zw_getd hC hf zF_Reader_told zk_42 dX4_read_1 kw_1_234 (fun o34 ho34 hf => ?_)
  obtain ⟨M35, hcM35, hf⟩ := zb1_some hf
  refine zw_cV hC [] [] (st1 := []) zm_X8_clear (zc_X8_clear ho34 hcM35) ho34 rfl kw_2_216 dX4_read_4 rfl (by decide) (Nat.le_of_ble_eq_true rfl) rfl rfl ?_
  refine zw_aload_n hC dX4_read_7 rfl 0 rfl ?_
  refine zw_getr (k' := 55) hC zF_Reader_standing zk_42 rfl dX4_read_8 kw_1_236 ?_
  obtain ⟨M36, hcM36, hf⟩ := zb1_some hf
  refine zw_cV hC [] [] (st1 := []) zm_X7_clear (zc_X7_clear zk_55 hcM36) zk_55 rfl kw_2_220 dX4_read_11 rfl (by decide) (Nat.le_of_ble_eq_true rfl) rfl rfl ?_
  refine zw_aload_n hC dX4_read_14 rfl 0 rfl ?_
  refine zw_iconst hC (v := (0 : Int32)) dX4_read_15 (by decide) ?_
  refine zw_puti hC hf zF_Reader_at zk_42 dX4_read_16 kw_1_230 (fun M37 hf => ?_)
  refine zw_aload_n hC dX4_read_19 rfl 0 rfl ?_
  refine zw_iconst hC (v := (-1 : Int32)) dX4_read_20 (by decide) ?_
  refine zw_puti hC hf zF_Reader_fault zk_42 dX4_read_21 kw_1_232 (fun M38 hf => ?_)
  refine zw_aload_n hC dX4_read_24 rfl 0 rfl ?_
  refine zw_iconst hC (v := (0 : Int32)) dX4_read_25 (by decide) ?_
  refine zw_puti hC hf zF_Reader_seenSorts zk_42 dX4_read_26 kw_1_233 (fun M39 hf => ?_)
  refine zw_aload_n hC dX4_read_29 rfl 0 rfl ?_
  obtain ⟨M40, hcM40, hf⟩ := zb1_some hf
  refine zw_cV hC [] [] (st1 := []) zm_X4_skipBlanks (zc_X4_skipBlanks hcM40) zk_42 rfl kw_2_227 dX4_read_30 rfl (by decide) (Nat.le_of_ble_eq_true rfl) rfl rfl ?_
  refine zw_iconst hC (v := (0 : Int32)) dX4_read_33 (by decide) ?_
  refine zw_istore_n hC (lv' := [(1, .int (0 : Int32)), (0, .ref (zad E 42))]) dX4_read_34 rfl hN (by decide) rfl ?_
  have hL35 : ∀ (K73 : ZMem → Option (Int32 × ZMem)), (∀ (M43 : ZMem), K73 M43 = some (r, M') → ZW E 73 [(0, .ref (zad E 42))] [] M43) → ∀ (n35 : Nat), ∀ (v41 : Int32), ∀ (M42 : ZMem), zf_X4_read_L35 n K73 n35 v41 M42 = some (r, M') → ZW E 35 [(0, .ref (zad E 42)), (1, .int v41)] [] M42 := by
    intro K73 hK73
    intro n35
    induction n35 with
    | zero => intro v41 M42 hf; rw [zf_X4_read_L35] at hf; cases hf
    | succ n35 ih35 =>
      intro v41 M42 hf
      rw [zf_X4_read_L35] at hf
      refine zw_iload_n hC dX4_read_35 rfl 1 rfl ?_
      refine zw_bipush hC (v := (80 : Int32)) dX4_read_36 (by decide) ?_
      refine zw_icmp_ge hC 73 hf dX4_read_38 (by decide) (fun hf => ?_) (fun hf => ?_)
      · exact zw_sub [0] rfl (hK73 M42 hf)
      · refine zw_aload_n hC dX4_read_41 rfl 0 rfl ?_
        refine zw_geti hC zF_Reader_at zk_42 dX4_read_42 kw_1_230 ?_
        refine zw_aload_n hC dX4_read_45 rfl 0 rfl ?_
        refine zw_geti hC zF_Reader_length zk_42 dX4_read_46 kw_1_229 ?_
        refine zw_icmp_ge hC 73 hf dX4_read_49 (by decide) (fun hf => ?_) (fun hf => ?_)
        · exact zw_sub [0] rfl (hK73 M42 hf)
        · refine zw_aload_n hC dX4_read_52 rfl 0 rfl ?_
          obtain ⟨v44, hc44, hf⟩ := zb1_some hf
          refine zw_cV hC [] [] (st1 := [.int v44]) zm_X4_isRight (zc_X4_isRight hc44) zk_42 rfl kw_2_231 dX4_read_53 rfl (by decide) (Nat.le_of_ble_eq_true rfl) rfl rfl ?_
          refine zw_if_eq hC 73 hf dX4_read_56 (by decide) (fun hf => ?_) (fun hf => ?_)
          · exact zw_sub [0] rfl (hK73 M42 hf)
          · refine zw_aload_n hC dX4_read_59 rfl 0 rfl ?_
            obtain ⟨M45, hcM45, hf⟩ := zb1_some hf
            refine zw_cV hC [] [] (st1 := []) zm_X4_readLine (zc_X4_readLine hcM45) zk_42 rfl kw_2_235 dX4_read_60 rfl (by decide) (Nat.le_of_ble_eq_true rfl) rfl rfl ?_
            refine zw_aload_n hC dX4_read_63 rfl 0 rfl ?_
            obtain ⟨M46, hcM46, hf⟩ := zb1_some hf
            refine zw_cV hC [] [] (st1 := []) zm_X4_skipBlanks (zc_X4_skipBlanks hcM46) zk_42 rfl kw_2_227 dX4_read_64 rfl (by decide) (Nat.le_of_ble_eq_true rfl) rfl rfl ?_
            refine zw_iinc hC (v := (1 : Int32)) (lv' := [(1, .int (v41 + (1 : Int32))), (0, .ref (zad E 42))]) dX4_read_67 1 rfl (by decide) hN (by decide) rfl ?_
            refine zw_goto hC 35 dX4_read_70 (by decide) ?_
            exact zw_sub [1, 0] rfl (ih35 (v41 + (1 : Int32)) M46 hf)
  refine zw_sub [1, 0] rfl (hL35 _ ?_ n (0 : Int32) M40 hf)
  · intro M47 hf
    refine zw_aload_n hC dX4_read_73 rfl 0 rfl ?_
    refine zw_getr (k' := 55) hC zF_Reader_standing zk_42 rfl dX4_read_74 kw_1_236 ?_
    refine zw_aload_n hC dX4_read_77 rfl 0 rfl ?_
    refine zw_getd hC hf zF_Reader_told zk_42 dX4_read_78 kw_1_234 (fun o48 ho48 hf => ?_)
    refine zw_geti hC zF_Told_channels ho48 dX4_read_81 kw_1_42 ?_
    obtain ⟨v49, hc49, hf⟩ := zb1_some hf
    refine zw_cS hC [.int (M47 o48 1)] [.ref (zad E 55)] (st1 := [.int v49, .ref (zad E 55)]) zm_X1_orderAsTold (zc_X1_orderAsTold hc49) kw_3_131 dX4_read_84 rfl (by decide) (Nat.le_of_ble_eq_true rfl) rfl rfl ?_
    refine zw_puti hC hf zF_Standing_order zk_55 dX4_read_87 kw_1_135 (fun M50 hf => ?_)
    refine zw_aload_n hC dX4_read_90 rfl 0 rfl ?_
    refine zw_geti hC zF_Reader_fault zk_42 dX4_read_91 kw_1_232 ?_
    obtain ⟨h1, h2⟩ := Prod.mk.inj (Option.some.inj hf)
    subst h1; subst h2
    exact zw_iret hC hR dX4_read_94
/-! ClassOfMany.text()I -/
theorem dX9_text_0 : decode cX9_text 0 = .ok (.aload_n 0, 1) := by decide +kernel
theorem dX9_text_1 : decode cX9_text 1 = .ok (.getfield 36, 3) := by decide +kernel
theorem dX9_text_4 : decode cX9_text 4 = .ok (.invokevirtual 76, 3) := by decide +kernel
theorem dX9_text_7 : decode cX9_text 7 = .ok (.istore_n 1, 1) := by decide +kernel
theorem dX9_text_8 : decode cX9_text 8 = .ok (.aload_n 0, 1) := by decide +kernel
theorem dX9_text_9 : decode cX9_text 9 = .ok (.getfield 36, 3) := by decide +kernel
theorem dX9_text_12 : decode cX9_text 12 = .ok (.iconst 0, 1) := by decide +kernel
theorem dX9_text_13 : decode cX9_text 13 = .ok (.putfield 68, 3) := by decide +kernel
theorem dX9_text_16 : decode cX9_text 16 = .ok (.iload_n 1, 1) := by decide +kernel
theorem dX9_text_17 : decode cX9_text 17 = .ok (.iconst (-1), 1) := by decide +kernel
theorem dX9_text_18 : decode cX9_text 18 = .ok (.if_icmp .eq 8, 3) := by decide +kernel
theorem dX9_text_21 : decode cX9_text 21 = .ok (.bipush (-4), 2) := by decide +kernel
theorem dX9_text_23 : decode cX9_text 23 = .ok (.iload_n 1, 1) := by decide +kernel
theorem dX9_text_24 : decode cX9_text 24 = .ok (.isub, 1) := by decide +kernel
theorem dX9_text_25 : decode cX9_text 25 = .ok (.ireturn, 1) := by decide +kernel
theorem dX9_text_26 : decode cX9_text 26 = .ok (.aload_n 0, 1) := by decide +kernel
theorem dX9_text_27 : decode cX9_text 27 = .ok (.getfield 12, 3) := by decide +kernel
theorem dX9_text_30 : decode cX9_text 30 = .ok (.astore_n 2, 1) := by decide +kernel
theorem dX9_text_31 : decode cX9_text 31 = .ok (.aload_n 0, 1) := by decide +kernel
theorem dX9_text_32 : decode cX9_text 32 = .ok (.aload_n 0, 1) := by decide +kernel
theorem dX9_text_33 : decode cX9_text 33 = .ok (.getfield 36, 3) := by decide +kernel
theorem dX9_text_36 : decode cX9_text 36 = .ok (.getfield 80, 3) := by decide +kernel
theorem dX9_text_39 : decode cX9_text 39 = .ok (.putfield 12, 3) := by decide +kernel
theorem dX9_text_42 : decode cX9_text 42 = .ok (.aload_n 0, 1) := by decide +kernel
theorem dX9_text_43 : decode cX9_text 43 = .ok (.getfield 36, 3) := by decide +kernel
theorem dX9_text_46 : decode cX9_text 46 = .ok (.aload_n 2, 1) := by decide +kernel
theorem dX9_text_47 : decode cX9_text 47 = .ok (.putfield 80, 3) := by decide +kernel
theorem dX9_text_50 : decode cX9_text 50 = .ok (.aload_n 0, 1) := by decide +kernel
theorem dX9_text_51 : decode cX9_text 51 = .ok (.getfield 19, 3) := by decide +kernel
theorem dX9_text_54 : decode cX9_text 54 = .ok (.aload_n 0, 1) := by decide +kernel
theorem dX9_text_55 : decode cX9_text 55 = .ok (.getfield 36, 3) := by decide +kernel
theorem dX9_text_58 : decode cX9_text 58 = .ok (.getfield 81, 3) := by decide +kernel
theorem dX9_text_61 : decode cX9_text 61 = .ok (.invokevirtual 84, 3) := by decide +kernel
theorem dX9_text_64 : decode cX9_text 64 = .ok (.aload_n 0, 1) := by decide +kernel
theorem dX9_text_65 : decode cX9_text 65 = .ok (.getfield 29, 3) := by decide +kernel
theorem dX9_text_68 : decode cX9_text 68 = .ok (.invokevirtual 88, 3) := by decide +kernel
theorem dX9_text_71 : decode cX9_text 71 = .ok (.aload_n 0, 1) := by decide +kernel
theorem dX9_text_72 : decode cX9_text 72 = .ok (.getfield 57, 3) := by decide +kernel
theorem dX9_text_75 : decode cX9_text 75 = .ok (.invokevirtual 91, 3) := by decide +kernel
theorem dX9_text_78 : decode cX9_text 78 = .ok (.aload_n 0, 1) := by decide +kernel
theorem dX9_text_79 : decode cX9_text 79 = .ok (.getfield 12, 3) := by decide +kernel
theorem dX9_text_82 : decode cX9_text 82 = .ok (.getfield 92, 3) := by decide +kernel
theorem dX9_text_85 : decode cX9_text 85 = .ok (.ireturn, 1) := by decide +kernel
theorem zm_X9_text : ZMv "ClassOfMany" yX9_text cX9_text 3 (some .int) 0 := ⟨kw_2_211, kw_2_209, kw_2_210, kw_1_1, by decide +kernel, by decide⟩
def zf_X9_text (n : Nat) (M : ZMem) : Option (Int32 × ZMem) :=
  zb2 (zf_X4_read n M) (fun v32 M33 => zput M33 42 1 (0 : Int32) (fun M34 => (if v32 = (-1 : Int32) then zdy M34 0 0 (7, 17) (fun o35 => zdy M34 42 6 (7, 17) (fun o36 => zput M34 0 0 (nI o36) (fun M37 => zput M37 42 6 (nI o35) (fun M38 => zb1 (zf_X7_copyFrom 12 55 M38) (fun M39 => zb1 (zf_X0_forget M39) (fun M40 => zb1 (zf_X5_forget M40) (fun M41 => zdy M41 0 0 (7, 17) (fun o42 => some ((M41 o42 0), M41))))))))) else some (((-4 : Int32) - v32), M34))))
set_option maxHeartbeats 4000000 in
set_option maxRecDepth 100000 in
theorem zc_X9_text {l : Launch} {D : va_G} {ad : Nat → Nat} {cA : Nat → ClassId} {n : Nat} {M : ZMem} {r : Int32} {M' : ZMem} (hf : zf_X9_text n M = some (r, M')) : ZCt l D ad cA yX9_text cX9_text 3 (some .int) 14 [.ref (ad 0)] M (some (.int r)) M' := by
  refine zct (by decide +kernel) (Nat.le_of_ble_eq_true rfl) (lv := [(0, .ref (ad 0))]) rfl (fun E hl hD had hcA hN hC hR => ?_)
  subst hl; subst hD; subst had; subst hcA
  unfold zf_X9_text at hf
  refine zw_aload_n hC dX9_text_0 rfl 0 rfl ?_
  refine zw_getr (k' := 42) hC zF_ClassOfMany_reader zk_0 rfl dX9_text_1 kw_2_172 ?_
  obtain ⟨v32, M33, hcM33, hf⟩ := zb2_some hf
  refine zw_cV hC [] [] (st1 := [.int v32]) zm_X4_read (zc_X4_read hcM33) zk_42 rfl kw_2_212 dX9_text_4 rfl (by decide) (Nat.le_of_ble_eq_true rfl) rfl rfl ?_
  refine zw_istore_n hC (lv' := [(1, .int v32), (0, .ref (zad E 0))]) dX9_text_7 rfl hN (by decide) rfl ?_
  refine zw_aload_n hC dX9_text_8 rfl 1 rfl ?_
  refine zw_getr (k' := 42) hC zF_ClassOfMany_reader zk_0 rfl dX9_text_9 kw_2_172 ?_
  refine zw_iconst hC (v := (0 : Int32)) dX9_text_12 (by decide) ?_
  refine zw_puti hC hf zF_Reader_length zk_42 dX9_text_13 kw_1_228 (fun M34 hf => ?_)
  refine zw_iload_n hC dX9_text_16 rfl 0 rfl ?_
  refine zw_iconst hC (v := (-1 : Int32)) dX9_text_17 (by decide) ?_
  refine zw_icmp_eq hC 26 hf dX9_text_18 (by decide) (fun hf => ?_) (fun hf => ?_)
  · refine zw_aload_n hC dX9_text_26 rfl 1 rfl ?_
    refine zw_getd hC hf zF_ClassOfMany_told zk_0 dX9_text_27 kw_2_168 (fun o35 ho35 hf => ?_)
    refine zw_astore_n hC (lv' := [(2, .ref (zad E o35)), (1, .int v32), (0, .ref (zad E 0))]) dX9_text_30 rfl hN (by decide) rfl ?_
    refine zw_aload_n hC dX9_text_31 rfl 2 rfl ?_
    refine zw_aload_n hC dX9_text_32 rfl 2 rfl ?_
    refine zw_getr (k' := 42) hC zF_ClassOfMany_reader zk_0 rfl dX9_text_33 kw_2_172 ?_
    refine zw_getd hC hf zF_Reader_told zk_42 dX9_text_36 kw_1_235 (fun o36 ho36 hf => ?_)
    refine zw_putd hC (ty := .object "ClassOfMany$Told") hf zF_ClassOfMany_told (by decide +kernel) (fun _ => rfl) (fun _ => rfl) ho36 (by decide) zk_0 dX9_text_39 kw_2_168 (fun M37 hf => ?_)
    refine zw_aload_n hC dX9_text_42 rfl 2 rfl ?_
    refine zw_getr (k' := 42) hC zF_ClassOfMany_reader zk_0 rfl dX9_text_43 kw_2_172 ?_
    refine zw_aload_n hC dX9_text_46 rfl 0 rfl ?_
    refine zw_putd hC (ty := .object "ClassOfMany$Told") hf zF_Reader_told (by decide +kernel) (fun _ => rfl) (fun _ => rfl) ho35 (by decide) zk_42 dX9_text_47 kw_1_235 (fun M38 hf => ?_)
    refine zw_aload_n hC dX9_text_50 rfl 2 rfl ?_
    refine zw_getr (k' := 12) hC zF_ClassOfMany_now zk_0 rfl dX9_text_51 kw_2_169 ?_
    refine zw_aload_n hC dX9_text_54 rfl 2 rfl ?_
    refine zw_getr (k' := 42) hC zF_ClassOfMany_reader zk_0 rfl dX9_text_55 kw_2_172 ?_
    refine zw_getr (k' := 55) hC zF_Reader_standing zk_42 rfl dX9_text_58 kw_1_237 ?_
    obtain ⟨M39, hcM39, hf⟩ := zb1_some hf
    refine zw_cV hC [.ref (zad E 55)] [] (st1 := []) zm_X7_copyFrom (zc_X7_copyFrom zk_12 zk_55 hcM39) zk_12 rfl kw_3_134 dX9_text_61 rfl (by decide) (Nat.le_of_ble_eq_true rfl) rfl rfl ?_
    refine zw_aload_n hC dX9_text_64 rfl 2 rfl ?_
    refine zw_getr (k' := 16) hC zF_ClassOfMany_journal zk_0 rfl dX9_text_65 kw_2_171 ?_
    obtain ⟨M40, hcM40, hf⟩ := zb1_some hf
    refine zw_cV hC [] [] (st1 := []) zm_X0_forget (zc_X0_forget hcM40) zk_16 rfl kw_3_141 dX9_text_68 rfl (by decide) (Nat.le_of_ble_eq_true rfl) rfl rfl ?_
    refine zw_aload_n hC dX9_text_71 rfl 2 rfl ?_
    refine zw_getr (k' := 71) hC zF_ClassOfMany_resting zk_0 rfl dX9_text_72 kw_2_175 ?_
    obtain ⟨M41, hcM41, hf⟩ := zb1_some hf
    refine zw_cV hC [] [] (st1 := []) zm_X5_forget (zc_X5_forget hcM41) zk_71 rfl kw_3_145 dX9_text_75 rfl (by decide) (Nat.le_of_ble_eq_true rfl) rfl rfl ?_
    refine zw_aload_n hC dX9_text_78 rfl 2 rfl ?_
    refine zw_getd hC hf zF_ClassOfMany_told zk_0 dX9_text_79 kw_2_168 (fun o42 ho42 hf => ?_)
    refine zw_geti hC zF_Told_members ho42 dX9_text_82 kw_1_38 ?_
    obtain ⟨h1, h2⟩ := Prod.mk.inj (Option.some.inj hf)
    subst h1; subst h2
    exact zw_iret hC hR dX9_text_85
  · refine zw_bipush hC (v := (-4 : Int32)) dX9_text_21 (by decide) ?_
    refine zw_iload_n hC dX9_text_23 rfl 0 rfl ?_
    refine zw_isub hC dX9_text_24 ?_
    obtain ⟨h1, h2⟩ := Prod.mk.inj (Option.some.inj hf)
    subst h1; subst h2
    exact zw_iret hC hR dX9_text_25
/-! ClassOfMany.payNow()V -/
theorem dX9_payNow_0 : decode cX9_payNow 0 = .ok (.aload_n 0, 1) := by decide +kernel
theorem dX9_payNow_1 : decode cX9_payNow 1 = .ok (.getfield 50, 3) := by decide +kernel
theorem dX9_payNow_4 : decode cX9_payNow 4 = .ok (.aload_n 0, 1) := by decide +kernel
theorem dX9_payNow_5 : decode cX9_payNow 5 = .ok (.getfield 43, 3) := by decide +kernel
theorem dX9_payNow_8 : decode cX9_payNow 8 = .ok (.aload_n 0, 1) := by decide +kernel
theorem dX9_payNow_9 : decode cX9_payNow 9 = .ok (.getfield 12, 3) := by decide +kernel
theorem dX9_payNow_12 : decode cX9_payNow 12 = .ok (.aload_n 0, 1) := by decide +kernel
theorem dX9_payNow_13 : decode cX9_payNow 13 = .ok (.getfield 19, 3) := by decide +kernel
theorem dX9_payNow_16 : decode cX9_payNow 16 = .ok (.invokevirtual 301, 3) := by decide +kernel
theorem dX9_payNow_19 : decode cX9_payNow 19 = .ok (.return_, 1) := by decide +kernel
theorem zm_X9_payNow : ZMv "ClassOfMany" yX9_payNow cX9_payNow 1 (none) 0 := ⟨kw_4_194, kw_4_193, kp_32, kw_1_1, by decide +kernel, by decide⟩
def zf_X9_payNow (n : Nat) (M : ZMem) : Option (ZMem) :=
  zdy M 0 0 (7, 17) (fun o23 => zb1 (zf_X3_pay n o23 12 M) (fun M24 => some M24))
set_option maxHeartbeats 4000000 in
set_option maxRecDepth 100000 in
theorem zc_X9_payNow {l : Launch} {D : va_G} {ad : Nat → Nat} {cA : Nat → ClassId} {n : Nat} {M : ZMem} {M' : ZMem} (hf : zf_X9_payNow n M = some M') : ZCt l D ad cA yX9_payNow cX9_payNow 1 (none) 18 [.ref (ad 0)] M none M' := by
  refine zct (by decide +kernel) (Nat.le_of_ble_eq_true rfl) (lv := [(0, .ref (ad 0))]) rfl (fun E hl hD had hcA hN hC hR => ?_)
  subst hl; subst hD; subst had; subst hcA
  unfold zf_X9_payNow at hf
  refine zw_aload_n hC dX9_payNow_0 rfl 0 rfl ?_
  refine zw_getr (k' := 63) hC zF_ClassOfMany_payer zk_0 rfl dX9_payNow_1 kw_2_174 ?_
  refine zw_aload_n hC dX9_payNow_4 rfl 0 rfl ?_
  refine zw_getr (k' := 57) hC zF_ClassOfMany_splitter zk_0 rfl dX9_payNow_5 kw_2_173 ?_
  refine zw_aload_n hC dX9_payNow_8 rfl 0 rfl ?_
  refine zw_getd hC hf zF_ClassOfMany_told zk_0 dX9_payNow_9 kw_2_168 (fun o23 ho23 hf => ?_)
  refine zw_aload_n hC dX9_payNow_12 rfl 0 rfl ?_
  refine zw_getr (k' := 12) hC zF_ClassOfMany_now zk_0 rfl dX9_payNow_13 kw_2_169 ?_
  obtain ⟨M24, hcM24, hf⟩ := zb1_some hf
  refine zw_cV hC [.ref (zad E 57), .ref (zad E o23), .ref (zad E 12)] [] (st1 := []) zm_X3_pay (zc_X3_pay ho23 zk_12 hcM24) zk_63 rfl kw_4_195 dX9_payNow_16 rfl (by decide) (Nat.le_of_ble_eq_true rfl) rfl rfl ?_
  have h1 := Option.some.inj hf
  subst h1
  exact zw_vret hC hR dX9_payNow_19
/-! ClassOfMany.fundOf(I)I -/
theorem dX9_fundOf_0 : decode cX9_fundOf 0 = .ok (.aload_n 0, 1) := by decide +kernel
theorem dX9_fundOf_1 : decode cX9_fundOf 1 = .ok (.invokevirtual 305, 3) := by decide +kernel
theorem dX9_fundOf_4 : decode cX9_fundOf 4 = .ok (.iload_n 1, 1) := by decide +kernel
theorem dX9_fundOf_5 : decode cX9_fundOf 5 = .ok (.tableswitch 102 0 5 #[39, 47, 63, 71, 79, 87], 39) := by decide +kernel
theorem dX9_fundOf_44 : decode cX9_fundOf 44 = .ok (.aload_n 0, 1) := by decide +kernel
theorem dX9_fundOf_45 : decode cX9_fundOf 45 = .ok (.getfield 50, 3) := by decide +kernel
theorem dX9_fundOf_48 : decode cX9_fundOf 48 = .ok (.getfield 308, 3) := by decide +kernel
theorem dX9_fundOf_51 : decode cX9_fundOf 51 = .ok (.ireturn, 1) := by decide +kernel
theorem dX9_fundOf_52 : decode cX9_fundOf 52 = .ok (.aload_n 0, 1) := by decide +kernel
theorem dX9_fundOf_53 : decode cX9_fundOf 53 = .ok (.getfield 50, 3) := by decide +kernel
theorem dX9_fundOf_56 : decode cX9_fundOf 56 = .ok (.getfield 308, 3) := by decide +kernel
theorem dX9_fundOf_59 : decode cX9_fundOf 59 = .ok (.aload_n 0, 1) := by decide +kernel
theorem dX9_fundOf_60 : decode cX9_fundOf 60 = .ok (.getfield 50, 3) := by decide +kernel
theorem dX9_fundOf_63 : decode cX9_fundOf 63 = .ok (.getfield 311, 3) := by decide +kernel
theorem dX9_fundOf_66 : decode cX9_fundOf 66 = .ok (.isub, 1) := by decide +kernel
theorem dX9_fundOf_67 : decode cX9_fundOf 67 = .ok (.ireturn, 1) := by decide +kernel
theorem dX9_fundOf_68 : decode cX9_fundOf 68 = .ok (.aload_n 0, 1) := by decide +kernel
theorem dX9_fundOf_69 : decode cX9_fundOf 69 = .ok (.getfield 50, 3) := by decide +kernel
theorem dX9_fundOf_72 : decode cX9_fundOf 72 = .ok (.getfield 314, 3) := by decide +kernel
theorem dX9_fundOf_75 : decode cX9_fundOf 75 = .ok (.ireturn, 1) := by decide +kernel
theorem dX9_fundOf_76 : decode cX9_fundOf 76 = .ok (.aload_n 0, 1) := by decide +kernel
theorem dX9_fundOf_77 : decode cX9_fundOf 77 = .ok (.getfield 50, 3) := by decide +kernel
theorem dX9_fundOf_80 : decode cX9_fundOf 80 = .ok (.getfield 311, 3) := by decide +kernel
theorem dX9_fundOf_83 : decode cX9_fundOf 83 = .ok (.ireturn, 1) := by decide +kernel
theorem dX9_fundOf_84 : decode cX9_fundOf 84 = .ok (.aload_n 0, 1) := by decide +kernel
theorem dX9_fundOf_85 : decode cX9_fundOf 85 = .ok (.getfield 50, 3) := by decide +kernel
theorem dX9_fundOf_88 : decode cX9_fundOf 88 = .ok (.getfield 317, 3) := by decide +kernel
theorem dX9_fundOf_91 : decode cX9_fundOf 91 = .ok (.ireturn, 1) := by decide +kernel
theorem dX9_fundOf_92 : decode cX9_fundOf 92 = .ok (.aload_n 0, 1) := by decide +kernel
theorem dX9_fundOf_93 : decode cX9_fundOf 93 = .ok (.getfield 50, 3) := by decide +kernel
theorem dX9_fundOf_96 : decode cX9_fundOf 96 = .ok (.aload_n 0, 1) := by decide +kernel
theorem dX9_fundOf_97 : decode cX9_fundOf 97 = .ok (.getfield 12, 3) := by decide +kernel
theorem dX9_fundOf_100 : decode cX9_fundOf 100 = .ok (.getfield 92, 3) := by decide +kernel
theorem dX9_fundOf_103 : decode cX9_fundOf 103 = .ok (.invokevirtual 320, 3) := by decide +kernel
theorem dX9_fundOf_106 : decode cX9_fundOf 106 = .ok (.ireturn, 1) := by decide +kernel
theorem dX9_fundOf_107 : decode cX9_fundOf 107 = .ok (.iconst (-1), 1) := by decide +kernel
theorem dX9_fundOf_108 : decode cX9_fundOf 108 = .ok (.ireturn, 1) := by decide +kernel
theorem zm_X9_fundOf : ZMv "ClassOfMany" yX9_fundOf cX9_fundOf 2 (some .int) 1 := ⟨kw_4_190, kw_4_188, kw_4_189, kw_1_1, by decide +kernel, by decide⟩
def zf_X9_fundOf (n : Nat) (a1 : Int32) (M : ZMem) : Option (Int32 × ZMem) :=
  zb1 (zf_X9_payNow n M) (fun M24 => (if a1 = (0 : Int32) then some ((M24 63 15), M24) else (if a1 = (1 : Int32) then some (((M24 63 15) - (M24 63 17)), M24) else (if a1 = (2 : Int32) then some ((M24 63 16), M24) else (if a1 = (3 : Int32) then some ((M24 63 17), M24) else (if a1 = (4 : Int32) then some ((M24 63 13), M24) else (if a1 = (5 : Int32) then zdy M24 0 0 (7, 17) (fun o25 => zb1 (zf_X3_satisfied n (M24 o25 0) M24) (fun v26 => some (v26, M24))) else some ((-1 : Int32), M24))))))))
set_option maxHeartbeats 4000000 in
set_option maxRecDepth 100000 in
theorem zc_X9_fundOf {l : Launch} {D : va_G} {ad : Nat → Nat} {cA : Nat → ClassId} {n : Nat} {a1 : Int32} {M : ZMem} {r : Int32} {M' : ZMem} (hf : zf_X9_fundOf n a1 M = some (r, M')) : ZCt l D ad cA yX9_fundOf cX9_fundOf 2 (some .int) 19 [.ref (ad 0), .int a1] M (some (.int r)) M' := by
  refine zct (by decide +kernel) (Nat.le_of_ble_eq_true rfl) (lv := [(0, .ref (ad 0)), (1, .int a1)]) rfl (fun E hl hD had hcA hN hC hR => ?_)
  subst hl; subst hD; subst had; subst hcA
  unfold zf_X9_fundOf at hf
  refine zw_aload_n hC dX9_fundOf_0 rfl 0 rfl ?_
  obtain ⟨M24, hcM24, hf⟩ := zb1_some hf
  refine zw_cV hC [] [] (st1 := []) zm_X9_payNow (zc_X9_payNow hcM24) zk_0 rfl kw_4_191 dX9_fundOf_1 rfl (by decide) (Nat.le_of_ble_eq_true rfl) rfl rfl ?_
  refine zw_iload_n hC dX9_fundOf_4 rfl 1 rfl ?_
  by_cases hx5_0 : a1 = (0 : Int32)
  · rw [if_pos hx5_0] at hf
    refine zw_tin hC hx5_0 (tgt := 44) dX9_fundOf_5 (by decide) (by decide) rfl (by decide) ?_
    refine zw_aload_n hC dX9_fundOf_44 rfl 0 rfl ?_
    refine zw_getr (k' := 63) hC zF_ClassOfMany_payer zk_0 rfl dX9_fundOf_45 kw_2_174 ?_
    refine zw_geti hC zF_Payer_net zk_63 dX9_fundOf_48 kw_2_82 ?_
    obtain ⟨h1, h2⟩ := Prod.mk.inj (Option.some.inj hf)
    subst h1; subst h2
    exact zw_iret hC hR dX9_fundOf_51
  rw [if_neg hx5_0] at hf
  by_cases hx5_1 : a1 = (1 : Int32)
  · rw [if_pos hx5_1] at hf
    refine zw_tin hC hx5_1 (tgt := 52) dX9_fundOf_5 (by decide) (by decide) rfl (by decide) ?_
    refine zw_aload_n hC dX9_fundOf_52 rfl 0 rfl ?_
    refine zw_getr (k' := 63) hC zF_ClassOfMany_payer zk_0 rfl dX9_fundOf_53 kw_2_174 ?_
    refine zw_geti hC zF_Payer_net zk_63 dX9_fundOf_56 kw_2_82 ?_
    refine zw_aload_n hC dX9_fundOf_59 rfl 0 rfl ?_
    refine zw_getr (k' := 63) hC zF_ClassOfMany_payer zk_0 rfl dX9_fundOf_60 kw_2_174 ?_
    refine zw_geti hC zF_Payer_left zk_63 dX9_fundOf_63 kw_2_86 ?_
    refine zw_isub hC dX9_fundOf_66 ?_
    obtain ⟨h1, h2⟩ := Prod.mk.inj (Option.some.inj hf)
    subst h1; subst h2
    exact zw_iret hC hR dX9_fundOf_67
  rw [if_neg hx5_1] at hf
  by_cases hx5_2 : a1 = (2 : Int32)
  · rw [if_pos hx5_2] at hf
    refine zw_tin hC hx5_2 (tgt := 68) dX9_fundOf_5 (by decide) (by decide) rfl (by decide) ?_
    refine zw_aload_n hC dX9_fundOf_68 rfl 0 rfl ?_
    refine zw_getr (k' := 63) hC zF_ClassOfMany_payer zk_0 rfl dX9_fundOf_69 kw_2_174 ?_
    refine zw_geti hC zF_Payer_rounds zk_63 dX9_fundOf_72 kw_2_84 ?_
    obtain ⟨h1, h2⟩ := Prod.mk.inj (Option.some.inj hf)
    subst h1; subst h2
    exact zw_iret hC hR dX9_fundOf_75
  rw [if_neg hx5_2] at hf
  by_cases hx5_3 : a1 = (3 : Int32)
  · rw [if_pos hx5_3] at hf
    refine zw_tin hC hx5_3 (tgt := 76) dX9_fundOf_5 (by decide) (by decide) rfl (by decide) ?_
    refine zw_aload_n hC dX9_fundOf_76 rfl 0 rfl ?_
    refine zw_getr (k' := 63) hC zF_ClassOfMany_payer zk_0 rfl dX9_fundOf_77 kw_2_174 ?_
    refine zw_geti hC zF_Payer_left zk_63 dX9_fundOf_80 kw_2_86 ?_
    obtain ⟨h1, h2⟩ := Prod.mk.inj (Option.some.inj hf)
    subst h1; subst h2
    exact zw_iret hC hR dX9_fundOf_83
  rw [if_neg hx5_3] at hf
  by_cases hx5_4 : a1 = (4 : Int32)
  · rw [if_pos hx5_4] at hf
    refine zw_tin hC hx5_4 (tgt := 84) dX9_fundOf_5 (by decide) (by decide) rfl (by decide) ?_
    refine zw_aload_n hC dX9_fundOf_84 rfl 0 rfl ?_
    refine zw_getr (k' := 63) hC zF_ClassOfMany_payer zk_0 rfl dX9_fundOf_85 kw_2_174 ?_
    refine zw_geti hC zF_Payer_heads zk_63 dX9_fundOf_88 kw_2_79 ?_
    obtain ⟨h1, h2⟩ := Prod.mk.inj (Option.some.inj hf)
    subst h1; subst h2
    exact zw_iret hC hR dX9_fundOf_91
  rw [if_neg hx5_4] at hf
  by_cases hx5_5 : a1 = (5 : Int32)
  · rw [if_pos hx5_5] at hf
    refine zw_tin hC hx5_5 (tgt := 92) dX9_fundOf_5 (by decide) (by decide) rfl (by decide) ?_
    refine zw_aload_n hC dX9_fundOf_92 rfl 0 rfl ?_
    refine zw_getr (k' := 63) hC zF_ClassOfMany_payer zk_0 rfl dX9_fundOf_93 kw_2_174 ?_
    refine zw_aload_n hC dX9_fundOf_96 rfl 0 rfl ?_
    refine zw_getd hC hf zF_ClassOfMany_told zk_0 dX9_fundOf_97 kw_2_168 (fun o25 ho25 hf => ?_)
    refine zw_geti hC zF_Told_members ho25 dX9_fundOf_100 kw_1_38 ?_
    obtain ⟨v26, hc26, hf⟩ := zb1_some hf
    refine zw_cV hC [.int (M24 o25 0)] [] (st1 := [.int v26]) zm_X3_satisfied (zc_X3_satisfied hc26) zk_63 rfl kw_5_7 dX9_fundOf_103 rfl (by decide) (Nat.le_of_ble_eq_true rfl) rfl rfl ?_
    obtain ⟨h1, h2⟩ := Prod.mk.inj (Option.some.inj hf)
    subst h1; subst h2
    exact zw_iret hC hR dX9_fundOf_106
  rw [if_neg hx5_5] at hf
  refine zw_tout hC (tgt := 107) dX9_fundOf_5 (ztout (n := 5) (fun k hk => by match k, hk with | 0, _ => exact hx5_0 | 1, _ => exact hx5_1 | 2, _ => exact hx5_2 | 3, _ => exact hx5_3 | 4, _ => exact hx5_4 | 5, _ => exact hx5_5 | k + 6, hk => exact absurd hk (by omega))) (by decide) ?_
  refine zw_iconst hC (v := (-1 : Int32)) dX9_fundOf_107 (by decide) ?_
  obtain ⟨h1, h2⟩ := Prod.mk.inj (Option.some.inj hf)
  subst h1; subst h2
  exact zw_iret hC hR dX9_fundOf_108
/-! ClassOfMany.pot(I)I -/
theorem dX9_pot_0 : decode cX9_pot 0 = .ok (.aload_n 0, 1) := by decide +kernel
theorem dX9_pot_1 : decode cX9_pot 1 = .ok (.invokevirtual 305, 3) := by decide +kernel
theorem dX9_pot_4 : decode cX9_pot 4 = .ok (.aload_n 0, 1) := by decide +kernel
theorem dX9_pot_5 : decode cX9_pot 5 = .ok (.getfield 43, 3) := by decide +kernel
theorem dX9_pot_8 : decode cX9_pot 8 = .ok (.iload_n 1, 1) := by decide +kernel
theorem dX9_pot_9 : decode cX9_pot 9 = .ok (.invokevirtual 271, 3) := by decide +kernel
theorem dX9_pot_12 : decode cX9_pot 12 = .ok (.ifCond .eq 15, 3) := by decide +kernel
theorem dX9_pot_15 : decode cX9_pot 15 = .ok (.aload_n 0, 1) := by decide +kernel
theorem dX9_pot_16 : decode cX9_pot 16 = .ok (.getfield 50, 3) := by decide +kernel
theorem dX9_pot_19 : decode cX9_pot 19 = .ok (.getfield 323, 3) := by decide +kernel
theorem dX9_pot_22 : decode cX9_pot 22 = .ok (.iload_n 1, 1) := by decide +kernel
theorem dX9_pot_23 : decode cX9_pot 23 = .ok (.iaload, 1) := by decide +kernel
theorem dX9_pot_24 : decode cX9_pot 24 = .ok (.goto 4, 3) := by decide +kernel
theorem dX9_pot_27 : decode cX9_pot 27 = .ok (.iconst (-1), 1) := by decide +kernel
theorem dX9_pot_28 : decode cX9_pot 28 = .ok (.ireturn, 1) := by decide +kernel
theorem zm_X9_pot : ZMv "ClassOfMany" yX9_pot cX9_pot 2 (some .int) 1 := ⟨kw_5_14, kw_5_12, kw_5_13, kw_1_1, by decide +kernel, by decide⟩
def zf_X9_pot_j28 (M24 : ZMem) (v26 : Int32) : Option (Int32 × ZMem) :=
  some (v26, M24)
def zf_X9_pot (n : Nat) (a1 : Int32) (M : ZMem) : Option (Int32 × ZMem) :=
  zb1 (zf_X9_payNow n M) (fun M24 => zb1 (zf_X6_isGroup a1 M24) (fun v25 => (if v25 = 0 then (zf_X9_pot_j28 M24 (-1 : Int32)) else zrd M24 68 10 a1 (fun v27 => (zf_X9_pot_j28 M24 v27)))))
set_option maxHeartbeats 4000000 in
set_option maxRecDepth 100000 in
theorem zc_X9_pot {l : Launch} {D : va_G} {ad : Nat → Nat} {cA : Nat → ClassId} {n : Nat} {a1 : Int32} {M : ZMem} {r : Int32} {M' : ZMem} (hf : zf_X9_pot n a1 M = some (r, M')) : ZCt l D ad cA yX9_pot cX9_pot 2 (some .int) 19 [.ref (ad 0), .int a1] M (some (.int r)) M' := by
  refine zct (by decide +kernel) (Nat.le_of_ble_eq_true rfl) (lv := [(0, .ref (ad 0)), (1, .int a1)]) rfl (fun E hl hD had hcA hN hC hR => ?_)
  subst hl; subst hD; subst had; subst hcA
  unfold zf_X9_pot at hf
  refine zw_aload_n hC dX9_pot_0 rfl 0 rfl ?_
  obtain ⟨M24, hcM24, hf⟩ := zb1_some hf
  refine zw_cV hC [] [] (st1 := []) zm_X9_payNow (zc_X9_payNow hcM24) zk_0 rfl kw_4_191 dX9_pot_1 rfl (by decide) (Nat.le_of_ble_eq_true rfl) rfl rfl ?_
  refine zw_aload_n hC dX9_pot_4 rfl 0 rfl ?_
  refine zw_getr (k' := 57) hC zF_ClassOfMany_splitter zk_0 rfl dX9_pot_5 kw_2_173 ?_
  refine zw_iload_n hC dX9_pot_8 rfl 1 rfl ?_
  obtain ⟨v25, hc25, hf⟩ := zb1_some hf
  refine zw_cV hC [.int a1] [] (st1 := [.int v25]) zm_X6_isGroup (zc_X6_isGroup hc25) zk_57 rfl kw_4_120 dX9_pot_9 rfl (by decide) (Nat.le_of_ble_eq_true rfl) rfl rfl ?_
  have hj28 : ∀ (v26 : Int32), zf_X9_pot_j28 M24 v26 = some (r, M') → ZW E 28 [] [.int v26] M24 := by
    intro v26 hf
    unfold zf_X9_pot_j28 at hf
    obtain ⟨h1, h2⟩ := Prod.mk.inj (Option.some.inj hf)
    subst h1; subst h2
    exact zw_iret hC hR dX9_pot_28
  refine zw_if_eq hC 27 hf dX9_pot_12 (by decide) (fun hf => ?_) (fun hf => ?_)
  · refine zw_iconst hC (v := (-1 : Int32)) dX9_pot_27 (by decide) ?_
    exact zw_sub [] rfl (hj28 (-1 : Int32) hf)
  · refine zw_aload_n hC dX9_pot_15 rfl 0 rfl ?_
    refine zw_getr (k' := 63) hC zF_ClassOfMany_payer zk_0 rfl dX9_pot_16 kw_2_174 ?_
    refine zw_getr (k' := 68) hC zF_Payer_pots zk_63 rfl dX9_pot_19 kw_2_64 ?_
    refine zw_iload_n hC dX9_pot_22 rfl 1 rfl ?_
    refine zw_iald hC hf zk_68 dX9_pot_23 (fun v27 hf => ?_)
    refine zw_goto hC 28 dX9_pot_24 (by decide) ?_
    exact zw_sub [] rfl (hj28 v27 hf)
/-! ClassOfMany.paid(I)I -/
theorem dX9_paid_0 : decode cX9_paid 0 = .ok (.aload_n 0, 1) := by decide +kernel
theorem dX9_paid_1 : decode cX9_paid 1 = .ok (.iload_n 1, 1) := by decide +kernel
theorem dX9_paid_2 : decode cX9_paid 2 = .ok (.invokevirtual 130, 3) := by decide +kernel
theorem dX9_paid_5 : decode cX9_paid 5 = .ok (.ifCond .ne 5, 3) := by decide +kernel
theorem dX9_paid_8 : decode cX9_paid 8 = .ok (.iconst (-1), 1) := by decide +kernel
theorem dX9_paid_9 : decode cX9_paid 9 = .ok (.ireturn, 1) := by decide +kernel
theorem dX9_paid_10 : decode cX9_paid 10 = .ok (.aload_n 0, 1) := by decide +kernel
theorem dX9_paid_11 : decode cX9_paid 11 = .ok (.invokevirtual 305, 3) := by decide +kernel
theorem dX9_paid_14 : decode cX9_paid 14 = .ok (.aload_n 0, 1) := by decide +kernel
theorem dX9_paid_15 : decode cX9_paid 15 = .ok (.getfield 50, 3) := by decide +kernel
theorem dX9_paid_18 : decode cX9_paid 18 = .ok (.getfield 326, 3) := by decide +kernel
theorem dX9_paid_21 : decode cX9_paid 21 = .ok (.iload_n 1, 1) := by decide +kernel
theorem dX9_paid_22 : decode cX9_paid 22 = .ok (.iaload, 1) := by decide +kernel
theorem dX9_paid_23 : decode cX9_paid 23 = .ok (.ireturn, 1) := by decide +kernel
theorem zm_X9_paid : ZMv "ClassOfMany" yX9_paid cX9_paid 2 (some .int) 1 := ⟨kw_5_18, kw_5_16, kw_5_17, kw_1_1, by decide +kernel, by decide⟩
def zf_X9_paid (n : Nat) (a1 : Int32) (M : ZMem) : Option (Int32 × ZMem) :=
  zb1 (zf_X9_isMember a1 M) (fun v24 => (if v24 = 0 then some ((-1 : Int32), M) else zb1 (zf_X9_payNow n M) (fun M25 => zrd M25 69 10 a1 (fun v26 => some (v26, M25)))))
set_option maxHeartbeats 4000000 in
set_option maxRecDepth 100000 in
theorem zc_X9_paid {l : Launch} {D : va_G} {ad : Nat → Nat} {cA : Nat → ClassId} {n : Nat} {a1 : Int32} {M : ZMem} {r : Int32} {M' : ZMem} (hf : zf_X9_paid n a1 M = some (r, M')) : ZCt l D ad cA yX9_paid cX9_paid 2 (some .int) 19 [.ref (ad 0), .int a1] M (some (.int r)) M' := by
  refine zct (by decide +kernel) (Nat.le_of_ble_eq_true rfl) (lv := [(0, .ref (ad 0)), (1, .int a1)]) rfl (fun E hl hD had hcA hN hC hR => ?_)
  subst hl; subst hD; subst had; subst hcA
  unfold zf_X9_paid at hf
  refine zw_aload_n hC dX9_paid_0 rfl 0 rfl ?_
  refine zw_iload_n hC dX9_paid_1 rfl 1 rfl ?_
  obtain ⟨v24, hc24, hf⟩ := zb1_some hf
  refine zw_cV hC [.int a1] [] (st1 := [.int v24]) zm_X9_isMember (zc_X9_isMember hc24) zk_0 rfl kw_3_197 dX9_paid_2 rfl (by decide) (Nat.le_of_ble_eq_true rfl) rfl rfl ?_
  refine zw_if_ne hC 10 hf dX9_paid_5 (by decide) (fun hf => ?_) (fun hf => ?_)
  · refine zw_aload_n hC dX9_paid_10 rfl 0 rfl ?_
    obtain ⟨M25, hcM25, hf⟩ := zb1_some hf
    refine zw_cV hC [] [] (st1 := []) zm_X9_payNow (zc_X9_payNow hcM25) zk_0 rfl kw_4_191 dX9_paid_11 rfl (by decide) (Nat.le_of_ble_eq_true rfl) rfl rfl ?_
    refine zw_aload_n hC dX9_paid_14 rfl 0 rfl ?_
    refine zw_getr (k' := 63) hC zF_ClassOfMany_payer zk_0 rfl dX9_paid_15 kw_2_174 ?_
    refine zw_getr (k' := 69) hC zF_Payer_paidTo zk_63 rfl dX9_paid_18 kw_2_67 ?_
    refine zw_iload_n hC dX9_paid_21 rfl 1 rfl ?_
    refine zw_iald hC hf zk_69 dX9_paid_22 (fun v26 hf => ?_)
    obtain ⟨h1, h2⟩ := Prod.mk.inj (Option.some.inj hf)
    subst h1; subst h2
    exact zw_iret hC hR dX9_paid_23
  · refine zw_iconst hC (v := (-1 : Int32)) dX9_paid_8 (by decide) ?_
    obtain ⟨h1, h2⟩ := Prod.mk.inj (Option.some.inj hf)
    subst h1; subst h2
    exact zw_iret hC hR dX9_paid_9
