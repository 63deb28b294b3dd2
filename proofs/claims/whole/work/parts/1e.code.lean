/-! ClassOfManyModel.isWord(J)Z -/
theorem dX10_isWord_0 : decode cX10_isWord 0 = .ok (.lconst 0, 1) := by decide +kernel
theorem dX10_isWord_1 : decode cX10_isWord 1 = .ok (.lstore_n 3, 1) := by decide +kernel
theorem dX10_isWord_2 : decode cX10_isWord 2 = .ok (.aload_n 0, 1) := by decide +kernel
theorem dX10_isWord_3 : decode cX10_isWord 3 = .ok (.getfield 81, 3) := by decide +kernel
theorem dX10_isWord_6 : decode cX10_isWord 6 = .ok (.istore 5, 2) := by decide +kernel
theorem dX10_isWord_8 : decode cX10_isWord 8 = .ok (.aload_n 0, 1) := by decide +kernel
theorem dX10_isWord_9 : decode cX10_isWord 9 = .ok (.getfield 98, 3) := by decide +kernel
theorem dX10_isWord_12 : decode cX10_isWord 12 = .ok (.iconst 1, 1) := by decide +kernel
theorem dX10_isWord_13 : decode cX10_isWord 13 = .ok (.if_icmp .ne 49, 3) := by decide +kernel
theorem dX10_isWord_16 : decode cX10_isWord 16 = .ok (.iload 5, 2) := by decide +kernel
theorem dX10_isWord_18 : decode cX10_isWord 18 = .ok (.aload_n 0, 1) := by decide +kernel
theorem dX10_isWord_19 : decode cX10_isWord 19 = .ok (.getfield 78, 3) := by decide +kernel
theorem dX10_isWord_22 : decode cX10_isWord 22 = .ok (.if_icmp .ge 40, 3) := by decide +kernel
theorem dX10_isWord_25 : decode cX10_isWord 25 = .ok (.iload 5, 2) := by decide +kernel
theorem dX10_isWord_27 : decode cX10_isWord 27 = .ok (.aload_n 0, 1) := by decide +kernel
theorem dX10_isWord_28 : decode cX10_isWord 28 = .ok (.getfield 81, 3) := by decide +kernel
theorem dX10_isWord_31 : decode cX10_isWord 31 = .ok (.bipush 9, 2) := by decide +kernel
theorem dX10_isWord_33 : decode cX10_isWord 33 = .ok (.iadd, 1) := by decide +kernel
theorem dX10_isWord_34 : decode cX10_isWord 34 = .ok (.if_icmp .ge 28, 3) := by decide +kernel
theorem dX10_isWord_37 : decode cX10_isWord 37 = .ok (.ldc2_w 102, 3) := by decide +kernel
theorem dX10_isWord_40 : decode cX10_isWord 40 = .ok (.lload_n 3, 1) := by decide +kernel
theorem dX10_isWord_41 : decode cX10_isWord 41 = .ok (.lmul, 1) := by decide +kernel
theorem dX10_isWord_42 : decode cX10_isWord 42 = .ok (.aload_n 0, 1) := by decide +kernel
theorem dX10_isWord_43 : decode cX10_isWord 43 = .ok (.getfield 19, 3) := by decide +kernel
theorem dX10_isWord_46 : decode cX10_isWord 46 = .ok (.iload 5, 2) := by decide +kernel
theorem dX10_isWord_48 : decode cX10_isWord 48 = .ok (.iaload, 1) := by decide +kernel
theorem dX10_isWord_49 : decode cX10_isWord 49 = .ok (.i2l, 1) := by decide +kernel
theorem dX10_isWord_50 : decode cX10_isWord 50 = .ok (.ladd, 1) := by decide +kernel
theorem dX10_isWord_51 : decode cX10_isWord 51 = .ok (.ldc2_w 104, 3) := by decide +kernel
theorem dX10_isWord_54 : decode cX10_isWord 54 = .ok (.lsub, 1) := by decide +kernel
theorem dX10_isWord_55 : decode cX10_isWord 55 = .ok (.lstore_n 3, 1) := by decide +kernel
theorem dX10_isWord_56 : decode cX10_isWord 56 = .ok (.iinc 5 1, 3) := by decide +kernel
theorem dX10_isWord_59 : decode cX10_isWord 59 = .ok (.goto (-51), 3) := by decide +kernel
theorem dX10_isWord_62 : decode cX10_isWord 62 = .ok (.aload_n 0, 1) := by decide +kernel
theorem dX10_isWord_63 : decode cX10_isWord 63 = .ok (.getfield 98, 3) := by decide +kernel
theorem dX10_isWord_66 : decode cX10_isWord 66 = .ok (.iconst 1, 1) := by decide +kernel
theorem dX10_isWord_67 : decode cX10_isWord 67 = .ok (.if_icmp .ne 27, 3) := by decide +kernel
theorem dX10_isWord_70 : decode cX10_isWord 70 = .ok (.aload_n 0, 1) := by decide +kernel
theorem dX10_isWord_71 : decode cX10_isWord 71 = .ok (.getfield 78, 3) := by decide +kernel
theorem dX10_isWord_74 : decode cX10_isWord 74 = .ok (.aload_n 0, 1) := by decide +kernel
theorem dX10_isWord_75 : decode cX10_isWord 75 = .ok (.getfield 81, 3) := by decide +kernel
theorem dX10_isWord_78 : decode cX10_isWord 78 = .ok (.isub, 1) := by decide +kernel
theorem dX10_isWord_79 : decode cX10_isWord 79 = .ok (.bipush 9, 2) := by decide +kernel
theorem dX10_isWord_81 : decode cX10_isWord 81 = .ok (.if_icmp .ge 13, 3) := by decide +kernel
theorem dX10_isWord_84 : decode cX10_isWord 84 = .ok (.lload_n 3, 1) := by decide +kernel
theorem dX10_isWord_85 : decode cX10_isWord 85 = .ok (.lload_n 1, 1) := by decide +kernel
theorem dX10_isWord_86 : decode cX10_isWord 86 = .ok (.lcmp, 1) := by decide +kernel
theorem dX10_isWord_87 : decode cX10_isWord 87 = .ok (.ifCond .ne 7, 3) := by decide +kernel
theorem dX10_isWord_90 : decode cX10_isWord 90 = .ok (.iconst 1, 1) := by decide +kernel
theorem dX10_isWord_91 : decode cX10_isWord 91 = .ok (.goto 4, 3) := by decide +kernel
theorem dX10_isWord_94 : decode cX10_isWord 94 = .ok (.iconst 0, 1) := by decide +kernel
theorem dX10_isWord_95 : decode cX10_isWord 95 = .ok (.ireturn, 1) := by decide +kernel
theorem zm_X10_isWord : ZMv "ClassOfManyModel" yX10_isWord cX10_isWord 6 (some .boolean) 1 := ⟨kw_6_138, kw_6_137, kp_63, kw_1_10, by decide +kernel, by decide⟩
def zf_X10_isWord_L8 (M : ZMem) (K62 : Int64 → Option (Int32)) : Nat → Int64 → Int32 → Option (Int32)
  | 0, _, _ => none
  | n8 + 1, w22, v23 =>
  (if (M 77 9) = (1 : Int32) then (if (M 77 8) ≤ v23 then (K62 w22) else (if ((M 77 10) + (9 : Int32)) ≤ v23 then (K62 w22) else zrd M 81 400 v23 (fun v25 => (zf_X10_isWord_L8 M K62 n8 ((((27 : Int64) * w22) + (v25.toInt64)) - (96 : Int64)) (v23 + (1 : Int32)))))) else (K62 w22))
def zf_X10_isWord_j95 (v27 : Int32) : Option (Int32) :=
  zbz v27 (some v27)
def zf_X10_isWord_j94 : Option (Int32) :=
  (zf_X10_isWord_j95 (0 : Int32))
def zf_X10_isWord (n : Nat) (w901 : Int64) (M : ZMem) : Option (Int32) :=
  (zf_X10_isWord_L8 M (fun w26 => (if (M 77 9) = (1 : Int32) then (if (9 : Int32) ≤ ((M 77 8) - (M 77 10)) then (zf_X10_isWord_j94) else (if (lg_cmp w26 w901) = 0 then (zf_X10_isWord_j95 (1 : Int32)) else (zf_X10_isWord_j94))) else (zf_X10_isWord_j94))) n (0 : Int64) (M 77 10))
set_option maxHeartbeats 4000000 in
set_option maxRecDepth 100000 in
theorem zc_X10_isWord {l : Launch} {D : va_G} {ad : Nat → Nat} {cA : Nat → ClassId} {n : Nat} {w901 : Int64} {M : ZMem} {r : Int32} (hf : zf_X10_isWord n w901 M = some r) : ZCt l D ad cA yX10_isWord cX10_isWord 6 (some .boolean) 1 [.ref (ad 77), .long w901] M (some (.int r)) M := by
  refine zct (by decide +kernel) (Nat.le_of_ble_eq_true rfl) (lv := [(0, .ref (ad 77)), (1, .long w901)]) rfl (fun E hl hD had hcA hN hC hR => ?_)
  subst hl; subst hD; subst had; subst hcA
  unfold zf_X10_isWord at hf
  refine zw_lconst hC (v := (0 : Int64)) dX10_isWord_0 (by decide) ?_
  refine zw_lstore_n hC (lv' := [(3, .long (0 : Int64)), (0, .ref (zad E 77)), (1, .long w901)]) dX10_isWord_1 rfl hN (by decide) rfl ?_
  refine zw_aload_n hC dX10_isWord_2 rfl 1 rfl ?_
  refine zw_geti hC zF_Model_from zk_77 dX10_isWord_3 kw_5_236 ?_
  refine zw_istore hC (lv' := [(5, .int (M 77 10)), (3, .long (0 : Int64)), (0, .ref (zad E 77)), (1, .long w901)]) dX10_isWord_6 hN (by decide) rfl ?_
  have hL8 : ∀ (K62 : Int64 → Option (Int32)), (∀ (w24 : Int64), K62 w24 = some r → ZW E 62 [(0, .ref (zad E 77)), (1, .long w901), (3, .long w24)] [] M) → ∀ (n8 : Nat), ∀ (w22 : Int64), ∀ (v23 : Int32), zf_X10_isWord_L8 M K62 n8 w22 v23 = some r → ZW E 8 [(0, .ref (zad E 77)), (1, .long w901), (3, .long w22), (5, .int v23)] [] M := by
    intro K62 hK62
    intro n8
    induction n8 with
    | zero => intro w22 v23 hf; rw [zf_X10_isWord_L8] at hf; cases hf
    | succ n8 ih8 =>
      intro w22 v23 hf
      rw [zf_X10_isWord_L8] at hf
      refine zw_aload_n hC dX10_isWord_8 rfl 0 rfl ?_
      refine zw_geti hC zF_Model_token zk_77 dX10_isWord_9 kw_5_235 ?_
      refine zw_iconst hC (v := (1 : Int32)) dX10_isWord_12 (by decide) ?_
      refine zw_icmp_ne hC 62 hf dX10_isWord_13 (by decide) (fun hf => ?_) (fun hf => ?_)
      · exact zw_sub [0, 1, 2] rfl (hK62 w22 hf)
      · refine zw_iload hC dX10_isWord_16 3 rfl ?_
        refine zw_aload_n hC dX10_isWord_18 rfl 0 rfl ?_
        refine zw_geti hC zF_Model_at zk_77 dX10_isWord_19 kw_5_234 ?_
        refine zw_icmp_ge hC 62 hf dX10_isWord_22 (by decide) (fun hf => ?_) (fun hf => ?_)
        · exact zw_sub [0, 1, 2] rfl (hK62 w22 hf)
        · refine zw_iload hC dX10_isWord_25 3 rfl ?_
          refine zw_aload_n hC dX10_isWord_27 rfl 0 rfl ?_
          refine zw_geti hC zF_Model_from zk_77 dX10_isWord_28 kw_5_236 ?_
          refine zw_bipush hC (v := (9 : Int32)) dX10_isWord_31 (by decide) ?_
          refine zw_iadd hC dX10_isWord_33 ?_
          refine zw_icmp_ge hC 62 hf dX10_isWord_34 (by decide) (fun hf => ?_) (fun hf => ?_)
          · exact zw_sub [0, 1, 2] rfl (hK62 w22 hf)
          · refine zw_ldc2 hC dX10_isWord_37 kw_6_139 ?_
            refine zw_lload_n hC dX10_isWord_40 rfl 2 rfl ?_
            refine zw_lmul hC dX10_isWord_41 ?_
            refine zw_aload_n hC dX10_isWord_42 rfl 0 rfl ?_
            refine zw_getr (k' := 81) hC zF_Model_tape zk_77 rfl dX10_isWord_43 kw_5_231 ?_
            refine zw_iload hC dX10_isWord_46 3 rfl ?_
            refine zw_iald hC hf zk_81 dX10_isWord_48 (fun v25 hf => ?_)
            refine zw_i2l hC dX10_isWord_49 ?_
            refine zw_ladd hC dX10_isWord_50 ?_
            refine zw_ldc2 hC dX10_isWord_51 kw_6_140 ?_
            refine zw_lsub hC dX10_isWord_54 ?_
            refine zw_lstore_n hC (lv' := [(3, .long ((((27 : Int64) * w22) + (v25.toInt64)) - (96 : Int64))), (0, .ref (zad E 77)), (1, .long w901), (5, .int v23)]) dX10_isWord_55 rfl hN (by decide) rfl ?_
            refine zw_iinc hC (v := (1 : Int32)) (lv' := [(5, .int (v23 + (1 : Int32))), (3, .long ((((27 : Int64) * w22) + (v25.toInt64)) - (96 : Int64))), (0, .ref (zad E 77)), (1, .long w901)]) dX10_isWord_56 3 rfl (by decide) hN (by decide) rfl ?_
            refine zw_goto hC 8 dX10_isWord_59 (by decide) ?_
            exact zw_sub [2, 3, 1, 0] rfl (ih8 ((((27 : Int64) * w22) + (v25.toInt64)) - (96 : Int64)) (v23 + (1 : Int32)) hf)
  refine zw_sub [2, 3, 1, 0] rfl (hL8 _ ?_ n (0 : Int64) (M 77 10) hf)
  · intro w26 hf
    refine zw_aload_n hC dX10_isWord_62 rfl 0 rfl ?_
    refine zw_geti hC zF_Model_token zk_77 dX10_isWord_63 kw_5_235 ?_
    refine zw_iconst hC (v := (1 : Int32)) dX10_isWord_66 (by decide) ?_
    have hj95 : ∀ (v27 : Int32), zf_X10_isWord_j95 v27 = some r → ZW E 95 [] [.int v27] M := by
      intro v27 hf
      unfold zf_X10_isWord_j95 at hf
      obtain ⟨hz, hf⟩ := zbz_some hf
      have h1 := Option.some.inj hf
      subst h1
      exact zw_zret hC hR hz dX10_isWord_95
    have hj94 : zf_X10_isWord_j94 = some r → ZW E 94 [] [] M := by
      intro  hf
      unfold zf_X10_isWord_j94 at hf
      refine zw_iconst hC (v := (0 : Int32)) dX10_isWord_94 (by decide) ?_
      exact hj95 (0 : Int32) hf
    refine zw_icmp_ne hC 94 hf dX10_isWord_67 (by decide) (fun hf => ?_) (fun hf => ?_)
    · exact zw_sub [] rfl (hj94 hf)
    · refine zw_aload_n hC dX10_isWord_70 rfl 0 rfl ?_
      refine zw_geti hC zF_Model_at zk_77 dX10_isWord_71 kw_5_234 ?_
      refine zw_aload_n hC dX10_isWord_74 rfl 0 rfl ?_
      refine zw_geti hC zF_Model_from zk_77 dX10_isWord_75 kw_5_236 ?_
      refine zw_isub hC dX10_isWord_78 ?_
      refine zw_bipush hC (v := (9 : Int32)) dX10_isWord_79 (by decide) ?_
      refine zw_icmp_ge hC 94 hf dX10_isWord_81 (by decide) (fun hf => ?_) (fun hf => ?_)
      · exact zw_sub [] rfl (hj94 hf)
      · refine zw_lload_n hC dX10_isWord_84 rfl 2 rfl ?_
        refine zw_lload_n hC dX10_isWord_85 rfl 1 rfl ?_
        refine zw_lcmp hC dX10_isWord_86 ?_
        refine zw_if_ne hC 94 hf dX10_isWord_87 (by decide) (fun hf => ?_) (fun hf => ?_)
        · exact zw_sub [] rfl (hj94 hf)
        · refine zw_iconst hC (v := (1 : Int32)) dX10_isWord_90 (by decide) ?_
          refine zw_goto hC 95 dX10_isWord_91 (by decide) ?_
          exact zw_sub [] rfl (hj95 (1 : Int32) hf)
/-! ClassOfManyModel.keepsNumber(I)V -/
theorem dX10_keepsNumber_0 : decode cX10_keepsNumber 0 = .ok (.bipush 70, 2) := by decide +kernel
theorem dX10_keepsNumber_2 : decode cX10_keepsNumber 2 = .ok (.aload_n 0, 1) := by decide +kernel
theorem dX10_keepsNumber_3 : decode cX10_keepsNumber 3 = .ok (.getfield 112, 3) := by decide +kernel
theorem dX10_keepsNumber_6 : decode cX10_keepsNumber 6 = .ok (.iadd, 1) := by decide +kernel
theorem dX10_keepsNumber_7 : decode cX10_keepsNumber 7 = .ok (.istore_n 2, 1) := by decide +kernel
theorem dX10_keepsNumber_8 : decode cX10_keepsNumber 8 = .ok (.aload_n 0, 1) := by decide +kernel
theorem dX10_keepsNumber_9 : decode cX10_keepsNumber 9 = .ok (.getfield 28, 3) := by decide +kernel
theorem dX10_keepsNumber_12 : decode cX10_keepsNumber 12 = .ok (.bipush 8, 2) := by decide +kernel
theorem dX10_keepsNumber_14 : decode cX10_keepsNumber 14 = .ok (.iload_n 2, 1) := by decide +kernel
theorem dX10_keepsNumber_15 : decode cX10_keepsNumber 15 = .ok (.imul, 1) := by decide +kernel
theorem dX10_keepsNumber_16 : decode cX10_keepsNumber 16 = .ok (.aload_n 0, 1) := by decide +kernel
theorem dX10_keepsNumber_17 : decode cX10_keepsNumber 17 = .ok (.getfield 25, 3) := by decide +kernel
theorem dX10_keepsNumber_20 : decode cX10_keepsNumber 20 = .ok (.iload_n 2, 1) := by decide +kernel
theorem dX10_keepsNumber_21 : decode cX10_keepsNumber 21 = .ok (.iaload, 1) := by decide +kernel
theorem dX10_keepsNumber_22 : decode cX10_keepsNumber 22 = .ok (.iadd, 1) := by decide +kernel
theorem dX10_keepsNumber_23 : decode cX10_keepsNumber 23 = .ok (.iload_n 1, 1) := by decide +kernel
theorem dX10_keepsNumber_24 : decode cX10_keepsNumber 24 = .ok (.iastore, 1) := by decide +kernel
theorem dX10_keepsNumber_25 : decode cX10_keepsNumber 25 = .ok (.aload_n 0, 1) := by decide +kernel
theorem dX10_keepsNumber_26 : decode cX10_keepsNumber 26 = .ok (.getfield 25, 3) := by decide +kernel
theorem dX10_keepsNumber_29 : decode cX10_keepsNumber 29 = .ok (.iload_n 2, 1) := by decide +kernel
theorem dX10_keepsNumber_30 : decode cX10_keepsNumber 30 = .ok (.dup2, 1) := by decide +kernel
theorem dX10_keepsNumber_31 : decode cX10_keepsNumber 31 = .ok (.iaload, 1) := by decide +kernel
theorem dX10_keepsNumber_32 : decode cX10_keepsNumber 32 = .ok (.iconst 1, 1) := by decide +kernel
theorem dX10_keepsNumber_33 : decode cX10_keepsNumber 33 = .ok (.iadd, 1) := by decide +kernel
theorem dX10_keepsNumber_34 : decode cX10_keepsNumber 34 = .ok (.iastore, 1) := by decide +kernel
theorem dX10_keepsNumber_35 : decode cX10_keepsNumber 35 = .ok (.return_, 1) := by decide +kernel
theorem zm_X10_keepsNumber : ZMv "ClassOfManyModel" yX10_keepsNumber cX10_keepsNumber 3 (none) 1 := ⟨kw_6_164, kw_6_163, kp_68, kw_1_10, by decide +kernel, by decide⟩
def zf_X10_keepsNumber (a1 : Int32) (M : ZMem) : Option (ZMem) :=
  zrd M 83 140 ((70 : Int32) + (M 77 17)) (fun v25 => zst M 84 1120 (((8 : Int32) * ((70 : Int32) + (M 77 17))) + v25) a1 (fun M26 => zrd M26 83 140 ((70 : Int32) + (M 77 17)) (fun v27 => zst M26 83 140 ((70 : Int32) + (M 77 17)) (v27 + (1 : Int32)) (fun M28 => some M28))))
set_option maxHeartbeats 4000000 in
set_option maxRecDepth 100000 in
theorem zc_X10_keepsNumber {l : Launch} {D : va_G} {ad : Nat → Nat} {cA : Nat → ClassId} {a1 : Int32} {M : ZMem} {M' : ZMem} (hf : zf_X10_keepsNumber a1 M = some M') : ZCt l D ad cA yX10_keepsNumber cX10_keepsNumber 3 (none) 1 [.ref (ad 77), .int a1] M none M' := by
  refine zct (by decide +kernel) (Nat.le_of_ble_eq_true rfl) (lv := [(0, .ref (ad 77)), (1, .int a1)]) rfl (fun E hl hD had hcA hN hC hR => ?_)
  subst hl; subst hD; subst had; subst hcA
  unfold zf_X10_keepsNumber at hf
  refine zw_bipush hC (v := (70 : Int32)) dX10_keepsNumber_0 (by decide) ?_
  refine zw_aload_n hC dX10_keepsNumber_2 rfl 0 rfl ?_
  refine zw_geti hC zF_Model_read zk_77 dX10_keepsNumber_3 kw_6_3 ?_
  refine zw_iadd hC dX10_keepsNumber_6 ?_
  refine zw_istore_n hC (lv' := [(2, .int ((70 : Int32) + (M 77 17))), (0, .ref (zad E 77)), (1, .int a1)]) dX10_keepsNumber_7 rfl hN (by decide) rfl ?_
  refine zw_aload_n hC dX10_keepsNumber_8 rfl 1 rfl ?_
  refine zw_getr (k' := 84) hC zF_Model_lineN zk_77 rfl dX10_keepsNumber_9 kw_6_1 ?_
  refine zw_bipush hC (v := (8 : Int32)) dX10_keepsNumber_12 (by decide) ?_
  refine zw_iload_n hC dX10_keepsNumber_14 rfl 0 rfl ?_
  refine zw_imul hC dX10_keepsNumber_15 ?_
  refine zw_aload_n hC dX10_keepsNumber_16 rfl 1 rfl ?_
  refine zw_getr (k' := 83) hC zF_Model_lineMany zk_77 rfl dX10_keepsNumber_17 kw_6_0 ?_
  refine zw_iload_n hC dX10_keepsNumber_20 rfl 0 rfl ?_
  refine zw_iald hC hf zk_83 dX10_keepsNumber_21 (fun v25 hf => ?_)
  refine zw_iadd hC dX10_keepsNumber_22 ?_
  refine zw_iload_n hC dX10_keepsNumber_23 rfl 2 rfl ?_
  refine zw_iast hC hf zk_84 dX10_keepsNumber_24 (fun M26 hf => ?_)
  refine zw_aload_n hC dX10_keepsNumber_25 rfl 1 rfl ?_
  refine zw_getr (k' := 83) hC zF_Model_lineMany zk_77 rfl dX10_keepsNumber_26 kw_6_0 ?_
  refine zw_iload_n hC dX10_keepsNumber_29 rfl 0 rfl ?_
  refine zw_dup2 hC dX10_keepsNumber_30 rfl rfl ?_
  refine zw_iald hC hf zk_83 dX10_keepsNumber_31 (fun v27 hf => ?_)
  refine zw_iconst hC (v := (1 : Int32)) dX10_keepsNumber_32 (by decide) ?_
  refine zw_iadd hC dX10_keepsNumber_33 ?_
  refine zw_iast hC hf zk_83 dX10_keepsNumber_34 (fun M28 hf => ?_)
  have h1 := Option.some.inj hf
  subst h1
  exact zw_vret hC hR dX10_keepsNumber_35
/-! ClassOfManyModel.number(II)I -/
theorem dX10_number_0 : decode cX10_number 0 = .ok (.aload_n 0, 1) := by decide +kernel
theorem dX10_number_1 : decode cX10_number 1 = .ok (.getfield 75, 3) := by decide +kernel
theorem dX10_number_4 : decode cX10_number 4 = .ok (.iconst (-1), 1) := by decide +kernel
theorem dX10_number_5 : decode cX10_number 5 = .ok (.if_icmp .ne 31, 3) := by decide +kernel
theorem dX10_number_8 : decode cX10_number 8 = .ok (.aload_n 0, 1) := by decide +kernel
theorem dX10_number_9 : decode cX10_number 9 = .ok (.getfield 98, 3) := by decide +kernel
theorem dX10_number_12 : decode cX10_number 12 = .ok (.iconst 2, 1) := by decide +kernel
theorem dX10_number_13 : decode cX10_number 13 = .ok (.if_icmp .ne 15, 3) := by decide +kernel
theorem dX10_number_16 : decode cX10_number 16 = .ok (.aload_n 0, 1) := by decide +kernel
theorem dX10_number_17 : decode cX10_number 17 = .ok (.getfield 84, 3) := by decide +kernel
theorem dX10_number_20 : decode cX10_number 20 = .ok (.iload_n 1, 1) := by decide +kernel
theorem dX10_number_21 : decode cX10_number 21 = .ok (.iload_n 2, 1) := by decide +kernel
theorem dX10_number_22 : decode cX10_number 22 = .ok (.invokestatic 65, 3) := by decide +kernel
theorem dX10_number_25 : decode cX10_number 25 = .ok (.ifCond .ne 11, 3) := by decide +kernel
theorem dX10_number_28 : decode cX10_number 28 = .ok (.aload_n 0, 1) := by decide +kernel
theorem dX10_number_29 : decode cX10_number 29 = .ok (.aload_n 0, 1) := by decide +kernel
theorem dX10_number_30 : decode cX10_number 30 = .ok (.getfield 81, 3) := by decide +kernel
theorem dX10_number_33 : decode cX10_number 33 = .ok (.invokevirtual 94, 3) := by decide +kernel
theorem dX10_number_36 : decode cX10_number 36 = .ok (.aload_n 0, 1) := by decide +kernel
theorem dX10_number_37 : decode cX10_number 37 = .ok (.getfield 84, 3) := by decide +kernel
theorem dX10_number_40 : decode cX10_number 40 = .ok (.istore_n 3, 1) := by decide +kernel
theorem dX10_number_41 : decode cX10_number 41 = .ok (.aload_n 0, 1) := by decide +kernel
theorem dX10_number_42 : decode cX10_number 42 = .ok (.getfield 75, 3) := by decide +kernel
theorem dX10_number_45 : decode cX10_number 45 = .ok (.iconst (-1), 1) := by decide +kernel
theorem dX10_number_46 : decode cX10_number 46 = .ok (.if_icmp .ne 12, 3) := by decide +kernel
theorem dX10_number_49 : decode cX10_number 49 = .ok (.aload_n 0, 1) := by decide +kernel
theorem dX10_number_50 : decode cX10_number 50 = .ok (.iload_n 3, 1) := by decide +kernel
theorem dX10_number_51 : decode cX10_number 51 = .ok (.invokevirtual 106, 3) := by decide +kernel
theorem dX10_number_54 : decode cX10_number 54 = .ok (.aload_n 0, 1) := by decide +kernel
theorem dX10_number_55 : decode cX10_number 55 = .ok (.invokevirtual 109, 3) := by decide +kernel
theorem dX10_number_58 : decode cX10_number 58 = .ok (.iload_n 3, 1) := by decide +kernel
theorem dX10_number_59 : decode cX10_number 59 = .ok (.ireturn, 1) := by decide +kernel
theorem zm_X10_number : ZMv "ClassOfManyModel" yX10_number cX10_number 4 (some .int) 2 := ⟨kw_6_160, kw_6_159, kp_67, kw_1_10, by decide +kernel, by decide⟩
def zf_X10_number_j58 (M25 : ZMem) (M26 : ZMem) : Option (Int32 × ZMem) :=
  some ((M25 77 11), M26)
def zf_X10_number_j36 (n : Nat) (M25 : ZMem) : Option (Int32 × ZMem) :=
  (if (M25 77 12) = (-1 : Int32) then zb1 (zf_X10_keepsNumber (M25 77 11) M25) (fun M27 => zb1 (zf_X10_nextToken n M27) (fun M28 => (zf_X10_number_j58 M25 M28))) else (zf_X10_number_j58 M25 M25))
def zf_X10_number_j28 (M : ZMem) (n : Nat) : Option (Int32 × ZMem) :=
  zb1 (zf_X10_wrong (M 77 10) M) (fun M29 => (zf_X10_number_j36 n M29))
def zf_X10_number (n : Nat) (a1 : Int32) (a2 : Int32) (M : ZMem) : Option (Int32 × ZMem) :=
  (if (M 77 12) = (-1 : Int32) then (if (M 77 9) = (2 : Int32) then zb1 (zf_X10_isIn (M 77 11) a1 a2) (fun v30 => (if v30 = 0 then (zf_X10_number_j28 M n) else (zf_X10_number_j36 n M))) else (zf_X10_number_j28 M n)) else (zf_X10_number_j36 n M))
set_option maxHeartbeats 4000000 in
set_option maxRecDepth 100000 in
theorem zc_X10_number {l : Launch} {D : va_G} {ad : Nat → Nat} {cA : Nat → ClassId} {n : Nat} {a1 : Int32} {a2 : Int32} {M : ZMem} {r : Int32} {M' : ZMem} (hf : zf_X10_number n a1 a2 M = some (r, M')) : ZCt l D ad cA yX10_number cX10_number 4 (some .int) 4 [.ref (ad 77), .int a1, .int a2] M (some (.int r)) M' := by
  refine zct (by decide +kernel) (Nat.le_of_ble_eq_true rfl) (lv := [(0, .ref (ad 77)), (1, .int a1), (2, .int a2)]) rfl (fun E hl hD had hcA hN hC hR => ?_)
  subst hl; subst hD; subst had; subst hcA
  unfold zf_X10_number at hf
  refine zw_aload_n hC dX10_number_0 rfl 0 rfl ?_
  refine zw_geti hC zF_Model_fault zk_77 dX10_number_1 kw_5_238 ?_
  refine zw_iconst hC (v := (-1 : Int32)) dX10_number_4 (by decide) ?_
  have hj36 : ∀ (M25 : ZMem), zf_X10_number_j36 n M25 = some (r, M') → ZW E 36 [(0, .ref (zad E 77))] [] M25 := by
    intro M25 hf
    unfold zf_X10_number_j36 at hf
    refine zw_aload_n hC dX10_number_36 rfl 0 rfl ?_
    refine zw_geti hC zF_Model_value zk_77 dX10_number_37 kw_5_237 ?_
    refine zw_istore_n hC (lv' := [(3, .int (M25 77 11)), (0, .ref (zad E 77))]) dX10_number_40 rfl hN (by decide) rfl ?_
    refine zw_aload_n hC dX10_number_41 rfl 1 rfl ?_
    refine zw_geti hC zF_Model_fault zk_77 dX10_number_42 kw_5_238 ?_
    refine zw_iconst hC (v := (-1 : Int32)) dX10_number_45 (by decide) ?_
    have hj58 : ∀ (M26 : ZMem), zf_X10_number_j58 M25 M26 = some (r, M') → ZW E 58 [(3, .int (M25 77 11))] [] M26 := by
      intro M26 hf
      unfold zf_X10_number_j58 at hf
      refine zw_iload_n hC dX10_number_58 rfl 0 rfl ?_
      obtain ⟨h1, h2⟩ := Prod.mk.inj (Option.some.inj hf)
      subst h1; subst h2
      exact zw_iret hC hR dX10_number_59
    refine zw_icmp_ne hC 58 hf dX10_number_46 (by decide) (fun hf => ?_) (fun hf => ?_)
    · exact zw_sub [0] rfl (hj58 M25 hf)
    · refine zw_aload_n hC dX10_number_49 rfl 1 rfl ?_
      refine zw_iload_n hC dX10_number_50 rfl 0 rfl ?_
      obtain ⟨M27, hcM27, hf⟩ := zb1_some hf
      refine zw_cV hC [.int (M25 77 11)] [] (st1 := []) zm_X10_keepsNumber (zc_X10_keepsNumber hcM27) zk_77 rfl kw_6_161 dX10_number_51 rfl (by decide) (Nat.le_of_ble_eq_true rfl) rfl rfl ?_
      refine zw_aload_n hC dX10_number_54 rfl 1 rfl ?_
      obtain ⟨M28, hcM28, hf⟩ := zb1_some hf
      refine zw_cV hC [] [] (st1 := []) zm_X10_nextToken (zc_X10_nextToken hcM28) zk_77 rfl kw_6_113 dX10_number_55 rfl (by decide) (Nat.le_of_ble_eq_true rfl) rfl rfl ?_
      exact zw_sub [0] rfl (hj58 M28 hf)
  refine zw_icmp_ne hC 36 hf dX10_number_5 (by decide) (fun hf => ?_) (fun hf => ?_)
  · exact zw_sub [0] rfl (hj36 M hf)
  · refine zw_aload_n hC dX10_number_8 rfl 0 rfl ?_
    refine zw_geti hC zF_Model_token zk_77 dX10_number_9 kw_5_235 ?_
    refine zw_iconst hC (v := (2 : Int32)) dX10_number_12 (by decide) ?_
    have hj28 : zf_X10_number_j28 M n = some (r, M') → ZW E 28 [(0, .ref (zad E 77))] [] M := by
      intro  hf
      unfold zf_X10_number_j28 at hf
      refine zw_aload_n hC dX10_number_28 rfl 0 rfl ?_
      refine zw_aload_n hC dX10_number_29 rfl 0 rfl ?_
      refine zw_geti hC zF_Model_from zk_77 dX10_number_30 kw_5_236 ?_
      obtain ⟨M29, hcM29, hf⟩ := zb1_some hf
      refine zw_cV hC [.int (M 77 10)] [] (st1 := []) zm_X10_wrong (zc_X10_wrong hcM29) zk_77 rfl kw_6_125 dX10_number_33 rfl (by decide) (Nat.le_of_ble_eq_true rfl) rfl rfl ?_
      exact hj36 M29 hf
    refine zw_icmp_ne hC 28 hf dX10_number_13 (by decide) (fun hf => ?_) (fun hf => ?_)
    · exact zw_sub [0] rfl (hj28 hf)
    · refine zw_aload_n hC dX10_number_16 rfl 0 rfl ?_
      refine zw_geti hC zF_Model_value zk_77 dX10_number_17 kw_5_237 ?_
      refine zw_iload_n hC dX10_number_20 rfl 1 rfl ?_
      refine zw_iload_n hC dX10_number_21 rfl 2 rfl ?_
      obtain ⟨v30, hc30, hf⟩ := zb1_some hf
      refine zw_cS hC [.int (M 77 11), .int a1, .int a2] [] (st1 := [.int v30]) zm_X10_isIn (zc_X10_isIn hc30) kw_6_106 dX10_number_22 rfl (by decide) (Nat.le_of_ble_eq_true rfl) rfl rfl ?_
      refine zw_if_ne hC 36 hf dX10_number_25 (by decide) (fun hf => ?_) (fun hf => ?_)
      · exact zw_sub [0] rfl (hj36 M hf)
      · exact zw_sub [0] rfl (hj28 hf)
/-! ClassOfManyModel.begins(I)V -/
theorem dX10_begins_0 : decode cX10_begins 0 = .ok (.aload_n 0, 1) := by decide +kernel
theorem dX10_begins_1 : decode cX10_begins 1 = .ok (.getfield 75, 3) := by decide +kernel
theorem dX10_begins_4 : decode cX10_begins 4 = .ok (.iconst (-1), 1) := by decide +kernel
theorem dX10_begins_5 : decode cX10_begins 5 = .ok (.if_icmp .ne 33, 3) := by decide +kernel
theorem dX10_begins_8 : decode cX10_begins 8 = .ok (.aload_n 0, 1) := by decide +kernel
theorem dX10_begins_9 : decode cX10_begins 9 = .ok (.getfield 22, 3) := by decide +kernel
theorem dX10_begins_12 : decode cX10_begins 12 = .ok (.bipush 70, 2) := by decide +kernel
theorem dX10_begins_14 : decode cX10_begins 14 = .ok (.aload_n 0, 1) := by decide +kernel
theorem dX10_begins_15 : decode cX10_begins 15 = .ok (.getfield 112, 3) := by decide +kernel
theorem dX10_begins_18 : decode cX10_begins 18 = .ok (.iadd, 1) := by decide +kernel
theorem dX10_begins_19 : decode cX10_begins 19 = .ok (.iload_n 1, 1) := by decide +kernel
theorem dX10_begins_20 : decode cX10_begins 20 = .ok (.iastore, 1) := by decide +kernel
theorem dX10_begins_21 : decode cX10_begins 21 = .ok (.aload_n 0, 1) := by decide +kernel
theorem dX10_begins_22 : decode cX10_begins 22 = .ok (.getfield 25, 3) := by decide +kernel
theorem dX10_begins_25 : decode cX10_begins 25 = .ok (.bipush 70, 2) := by decide +kernel
theorem dX10_begins_27 : decode cX10_begins 27 = .ok (.aload_n 0, 1) := by decide +kernel
theorem dX10_begins_28 : decode cX10_begins 28 = .ok (.getfield 112, 3) := by decide +kernel
theorem dX10_begins_31 : decode cX10_begins 31 = .ok (.iadd, 1) := by decide +kernel
theorem dX10_begins_32 : decode cX10_begins 32 = .ok (.iconst 0, 1) := by decide +kernel
theorem dX10_begins_33 : decode cX10_begins 33 = .ok (.iastore, 1) := by decide +kernel
theorem dX10_begins_34 : decode cX10_begins 34 = .ok (.aload_n 0, 1) := by decide +kernel
theorem dX10_begins_35 : decode cX10_begins 35 = .ok (.invokevirtual 109, 3) := by decide +kernel
theorem dX10_begins_38 : decode cX10_begins 38 = .ok (.return_, 1) := by decide +kernel
theorem zm_X10_begins : ZMv "ClassOfManyModel" yX10_begins cX10_begins 2 (none) 1 := ⟨kw_6_156, kw_6_155, kp_66, kw_1_10, by decide +kernel, by decide⟩
def zf_X10_begins_j38 (M24 : ZMem) : Option (ZMem) :=
  some M24
def zf_X10_begins (n : Nat) (a1 : Int32) (M : ZMem) : Option (ZMem) :=
  (if (M 77 12) = (-1 : Int32) then zst M 82 140 ((70 : Int32) + (M 77 17)) a1 (fun M25 => zst M25 83 140 ((70 : Int32) + (M25 77 17)) (0 : Int32) (fun M26 => zb1 (zf_X10_nextToken n M26) (fun M27 => (zf_X10_begins_j38 M27)))) else (zf_X10_begins_j38 M))
set_option maxHeartbeats 4000000 in
set_option maxRecDepth 100000 in
theorem zc_X10_begins {l : Launch} {D : va_G} {ad : Nat → Nat} {cA : Nat → ClassId} {n : Nat} {a1 : Int32} {M : ZMem} {M' : ZMem} (hf : zf_X10_begins n a1 M = some M') : ZCt l D ad cA yX10_begins cX10_begins 2 (none) 4 [.ref (ad 77), .int a1] M none M' := by
  refine zct (by decide +kernel) (Nat.le_of_ble_eq_true rfl) (lv := [(0, .ref (ad 77)), (1, .int a1)]) rfl (fun E hl hD had hcA hN hC hR => ?_)
  subst hl; subst hD; subst had; subst hcA
  unfold zf_X10_begins at hf
  refine zw_aload_n hC dX10_begins_0 rfl 0 rfl ?_
  refine zw_geti hC zF_Model_fault zk_77 dX10_begins_1 kw_5_238 ?_
  refine zw_iconst hC (v := (-1 : Int32)) dX10_begins_4 (by decide) ?_
  have hj38 : ∀ (M24 : ZMem), zf_X10_begins_j38 M24 = some M' → ZW E 38 [] [] M24 := by
    intro M24 hf
    unfold zf_X10_begins_j38 at hf
    have h1 := Option.some.inj hf
    subst h1
    exact zw_vret hC hR dX10_begins_38
  refine zw_icmp_ne hC 38 hf dX10_begins_5 (by decide) (fun hf => ?_) (fun hf => ?_)
  · exact zw_sub [] rfl (hj38 M hf)
  · refine zw_aload_n hC dX10_begins_8 rfl 0 rfl ?_
    refine zw_getr (k' := 82) hC zF_Model_lineSort zk_77 rfl dX10_begins_9 kw_5_239 ?_
    refine zw_bipush hC (v := (70 : Int32)) dX10_begins_12 (by decide) ?_
    refine zw_aload_n hC dX10_begins_14 rfl 0 rfl ?_
    refine zw_geti hC zF_Model_read zk_77 dX10_begins_15 kw_6_3 ?_
    refine zw_iadd hC dX10_begins_18 ?_
    refine zw_iload_n hC dX10_begins_19 rfl 1 rfl ?_
    refine zw_iast hC hf zk_82 dX10_begins_20 (fun M25 hf => ?_)
    refine zw_aload_n hC dX10_begins_21 rfl 0 rfl ?_
    refine zw_getr (k' := 83) hC zF_Model_lineMany zk_77 rfl dX10_begins_22 kw_6_0 ?_
    refine zw_bipush hC (v := (70 : Int32)) dX10_begins_25 (by decide) ?_
    refine zw_aload_n hC dX10_begins_27 rfl 0 rfl ?_
    refine zw_geti hC zF_Model_read zk_77 dX10_begins_28 kw_6_3 ?_
    refine zw_iadd hC dX10_begins_31 ?_
    refine zw_iconst hC (v := (0 : Int32)) dX10_begins_32 (by decide) ?_
    refine zw_iast hC hf zk_83 dX10_begins_33 (fun M26 hf => ?_)
    refine zw_aload_n hC dX10_begins_34 rfl 0 rfl ?_
    obtain ⟨M27, hcM27, hf⟩ := zb1_some hf
    refine zw_cV hC [] [] (st1 := []) zm_X10_nextToken (zc_X10_nextToken hcM27) zk_77 rfl kw_6_113 dX10_begins_35 rfl (by decide) (Nat.le_of_ble_eq_true rfl) rfl rfl ?_
    exact zw_sub [] rfl (hj38 M27 hf)
/-! ClassOfManyModel.closes()V -/
theorem dX10_closes_0 : decode cX10_closes 0 = .ok (.aload_n 0, 1) := by decide +kernel
theorem dX10_closes_1 : decode cX10_closes 1 = .ok (.getfield 75, 3) := by decide +kernel
theorem dX10_closes_4 : decode cX10_closes 4 = .ok (.iconst (-1), 1) := by decide +kernel
theorem dX10_closes_5 : decode cX10_closes 5 = .ok (.if_icmp .ne 28, 3) := by decide +kernel
theorem dX10_closes_8 : decode cX10_closes 8 = .ok (.aload_n 0, 1) := by decide +kernel
theorem dX10_closes_9 : decode cX10_closes 9 = .ok (.getfield 98, 3) := by decide +kernel
theorem dX10_closes_12 : decode cX10_closes 12 = .ok (.iconst 3, 1) := by decide +kernel
theorem dX10_closes_13 : decode cX10_closes 13 = .ok (.if_icmp .ne 12, 3) := by decide +kernel
theorem dX10_closes_16 : decode cX10_closes 16 = .ok (.aload_n 0, 1) := by decide +kernel
theorem dX10_closes_17 : decode cX10_closes 17 = .ok (.getfield 84, 3) := by decide +kernel
theorem dX10_closes_20 : decode cX10_closes 20 = .ok (.bipush 59, 2) := by decide +kernel
theorem dX10_closes_22 : decode cX10_closes 22 = .ok (.if_icmp .eq 11, 3) := by decide +kernel
theorem dX10_closes_25 : decode cX10_closes 25 = .ok (.aload_n 0, 1) := by decide +kernel
theorem dX10_closes_26 : decode cX10_closes 26 = .ok (.aload_n 0, 1) := by decide +kernel
theorem dX10_closes_27 : decode cX10_closes 27 = .ok (.getfield 81, 3) := by decide +kernel
theorem dX10_closes_30 : decode cX10_closes 30 = .ok (.invokevirtual 94, 3) := by decide +kernel
theorem dX10_closes_33 : decode cX10_closes 33 = .ok (.aload_n 0, 1) := by decide +kernel
theorem dX10_closes_34 : decode cX10_closes 34 = .ok (.getfield 75, 3) := by decide +kernel
theorem dX10_closes_37 : decode cX10_closes 37 = .ok (.iconst (-1), 1) := by decide +kernel
theorem dX10_closes_38 : decode cX10_closes 38 = .ok (.if_icmp .ne 17, 3) := by decide +kernel
theorem dX10_closes_41 : decode cX10_closes 41 = .ok (.aload_n 0, 1) := by decide +kernel
theorem dX10_closes_42 : decode cX10_closes 42 = .ok (.dup, 1) := by decide +kernel
theorem dX10_closes_43 : decode cX10_closes 43 = .ok (.getfield 112, 3) := by decide +kernel
theorem dX10_closes_46 : decode cX10_closes 46 = .ok (.iconst 1, 1) := by decide +kernel
theorem dX10_closes_47 : decode cX10_closes 47 = .ok (.iadd, 1) := by decide +kernel
theorem dX10_closes_48 : decode cX10_closes 48 = .ok (.putfield 112, 3) := by decide +kernel
theorem dX10_closes_51 : decode cX10_closes 51 = .ok (.aload_n 0, 1) := by decide +kernel
theorem dX10_closes_52 : decode cX10_closes 52 = .ok (.invokevirtual 109, 3) := by decide +kernel
theorem dX10_closes_55 : decode cX10_closes 55 = .ok (.return_, 1) := by decide +kernel
theorem zm_X10_closes : ZMv "ClassOfManyModel" yX10_closes cX10_closes 1 (none) 0 := ⟨kw_6_168, kw_6_167, kp_69, kw_1_10, by decide +kernel, by decide⟩
def zf_X10_closes_j55 (M25 : ZMem) : Option (ZMem) :=
  some M25
def zf_X10_closes_j33 (n : Nat) (M24 : ZMem) : Option (ZMem) :=
  (if (M24 77 12) = (-1 : Int32) then zput M24 77 17 ((M24 77 17) + (1 : Int32)) (fun M26 => zb1 (zf_X10_nextToken n M26) (fun M27 => (zf_X10_closes_j55 M27))) else (zf_X10_closes_j55 M24))
def zf_X10_closes_j25 (M : ZMem) (n : Nat) : Option (ZMem) :=
  zb1 (zf_X10_wrong (M 77 10) M) (fun M28 => (zf_X10_closes_j33 n M28))
def zf_X10_closes (n : Nat) (M : ZMem) : Option (ZMem) :=
  (if (M 77 12) = (-1 : Int32) then (if (M 77 9) = (3 : Int32) then (if (M 77 11) = (59 : Int32) then (zf_X10_closes_j33 n M) else (zf_X10_closes_j25 M n)) else (zf_X10_closes_j25 M n)) else (zf_X10_closes_j33 n M))
set_option maxHeartbeats 4000000 in
set_option maxRecDepth 100000 in
theorem zc_X10_closes {l : Launch} {D : va_G} {ad : Nat → Nat} {cA : Nat → ClassId} {n : Nat} {M : ZMem} {M' : ZMem} (hf : zf_X10_closes n M = some M') : ZCt l D ad cA yX10_closes cX10_closes 1 (none) 4 [.ref (ad 77)] M none M' := by
  refine zct (by decide +kernel) (Nat.le_of_ble_eq_true rfl) (lv := [(0, .ref (ad 77))]) rfl (fun E hl hD had hcA hN hC hR => ?_)
  subst hl; subst hD; subst had; subst hcA
  unfold zf_X10_closes at hf
  refine zw_aload_n hC dX10_closes_0 rfl 0 rfl ?_
  refine zw_geti hC zF_Model_fault zk_77 dX10_closes_1 kw_5_238 ?_
  refine zw_iconst hC (v := (-1 : Int32)) dX10_closes_4 (by decide) ?_
  have hj33 : ∀ (M24 : ZMem), zf_X10_closes_j33 n M24 = some M' → ZW E 33 [(0, .ref (zad E 77))] [] M24 := by
    intro M24 hf
    unfold zf_X10_closes_j33 at hf
    refine zw_aload_n hC dX10_closes_33 rfl 0 rfl ?_
    refine zw_geti hC zF_Model_fault zk_77 dX10_closes_34 kw_5_238 ?_
    refine zw_iconst hC (v := (-1 : Int32)) dX10_closes_37 (by decide) ?_
    have hj55 : ∀ (M25 : ZMem), zf_X10_closes_j55 M25 = some M' → ZW E 55 [] [] M25 := by
      intro M25 hf
      unfold zf_X10_closes_j55 at hf
      have h1 := Option.some.inj hf
      subst h1
      exact zw_vret hC hR dX10_closes_55
    refine zw_icmp_ne hC 55 hf dX10_closes_38 (by decide) (fun hf => ?_) (fun hf => ?_)
    · exact zw_sub [] rfl (hj55 M24 hf)
    · refine zw_aload_n hC dX10_closes_41 rfl 0 rfl ?_
      refine zw_dup hC dX10_closes_42 rfl ?_
      refine zw_geti hC zF_Model_read zk_77 dX10_closes_43 kw_6_3 ?_
      refine zw_iconst hC (v := (1 : Int32)) dX10_closes_46 (by decide) ?_
      refine zw_iadd hC dX10_closes_47 ?_
      refine zw_puti hC hf zF_Model_read zk_77 dX10_closes_48 kw_6_3 (fun M26 hf => ?_)
      refine zw_aload_n hC dX10_closes_51 rfl 0 rfl ?_
      obtain ⟨M27, hcM27, hf⟩ := zb1_some hf
      refine zw_cV hC [] [] (st1 := []) zm_X10_nextToken (zc_X10_nextToken hcM27) zk_77 rfl kw_6_113 dX10_closes_52 rfl (by decide) (Nat.le_of_ble_eq_true rfl) rfl rfl ?_
      exact zw_sub [] rfl (hj55 M27 hf)
  refine zw_icmp_ne hC 33 hf dX10_closes_5 (by decide) (fun hf => ?_) (fun hf => ?_)
  · exact hj33 M hf
  · refine zw_aload_n hC dX10_closes_8 rfl 0 rfl ?_
    refine zw_geti hC zF_Model_token zk_77 dX10_closes_9 kw_5_235 ?_
    refine zw_iconst hC (v := (3 : Int32)) dX10_closes_12 (by decide) ?_
    have hj25 : zf_X10_closes_j25 M n = some M' → ZW E 25 [(0, .ref (zad E 77))] [] M := by
      intro  hf
      unfold zf_X10_closes_j25 at hf
      refine zw_aload_n hC dX10_closes_25 rfl 0 rfl ?_
      refine zw_aload_n hC dX10_closes_26 rfl 0 rfl ?_
      refine zw_geti hC zF_Model_from zk_77 dX10_closes_27 kw_5_236 ?_
      obtain ⟨M28, hcM28, hf⟩ := zb1_some hf
      refine zw_cV hC [.int (M 77 10)] [] (st1 := []) zm_X10_wrong (zc_X10_wrong hcM28) zk_77 rfl kw_6_125 dX10_closes_30 rfl (by decide) (Nat.le_of_ble_eq_true rfl) rfl rfl ?_
      exact hj33 M28 hf
    refine zw_icmp_ne hC 25 hf dX10_closes_13 (by decide) (fun hf => ?_) (fun hf => ?_)
    · exact hj25 hf
    · refine zw_aload_n hC dX10_closes_16 rfl 0 rfl ?_
      refine zw_geti hC zF_Model_value zk_77 dX10_closes_17 kw_5_237 ?_
      refine zw_bipush hC (v := (59 : Int32)) dX10_closes_20 (by decide) ?_
      refine zw_icmp_eq hC 33 hf dX10_closes_22 (by decide) (fun hf => ?_) (fun hf => ?_)
      · exact hj33 M hf
      · exact hj25 hf
/-! ClassOfManyModel.once(I)V -/
theorem dX10_once_0 : decode cX10_once 0 = .ok (.aload_n 0, 1) := by decide +kernel
theorem dX10_once_1 : decode cX10_once 1 = .ok (.getfield 115, 3) := by decide +kernel
theorem dX10_once_4 : decode cX10_once 4 = .ok (.iload_n 1, 1) := by decide +kernel
theorem dX10_once_5 : decode cX10_once 5 = .ok (.invokestatic 118, 3) := by decide +kernel
theorem dX10_once_8 : decode cX10_once 8 = .ok (.ifCond .eq 11, 3) := by decide +kernel
theorem dX10_once_11 : decode cX10_once 11 = .ok (.aload_n 0, 1) := by decide +kernel
theorem dX10_once_12 : decode cX10_once 12 = .ok (.aload_n 0, 1) := by decide +kernel
theorem dX10_once_13 : decode cX10_once 13 = .ok (.getfield 81, 3) := by decide +kernel
theorem dX10_once_16 : decode cX10_once 16 = .ok (.invokevirtual 94, 3) := by decide +kernel
theorem dX10_once_19 : decode cX10_once 19 = .ok (.aload_n 0, 1) := by decide +kernel
theorem dX10_once_20 : decode cX10_once 20 = .ok (.dup, 1) := by decide +kernel
theorem dX10_once_21 : decode cX10_once 21 = .ok (.getfield 115, 3) := by decide +kernel
theorem dX10_once_24 : decode cX10_once 24 = .ok (.iconst 1, 1) := by decide +kernel
theorem dX10_once_25 : decode cX10_once 25 = .ok (.iload_n 1, 1) := by decide +kernel
theorem dX10_once_26 : decode cX10_once 26 = .ok (.ishl, 1) := by decide +kernel
theorem dX10_once_27 : decode cX10_once 27 = .ok (.ior, 1) := by decide +kernel
theorem dX10_once_28 : decode cX10_once 28 = .ok (.putfield 115, 3) := by decide +kernel
theorem dX10_once_31 : decode cX10_once 31 = .ok (.aload_n 0, 1) := by decide +kernel
theorem dX10_once_32 : decode cX10_once 32 = .ok (.iload_n 1, 1) := by decide +kernel
theorem dX10_once_33 : decode cX10_once 33 = .ok (.invokevirtual 122, 3) := by decide +kernel
theorem dX10_once_36 : decode cX10_once 36 = .ok (.return_, 1) := by decide +kernel
theorem zm_X10_once : ZMv "ClassOfManyModel" yX10_once cX10_once 2 (none) 1 := ⟨kw_6_149, kw_6_148, kp_65, kw_1_10, by decide +kernel, by decide⟩
def zf_X10_once_j19 (a1 : Int32) (n : Nat) (M26 : ZMem) : Option (ZMem) :=
  zput M26 77 18 ((M26 77 18) ||| ((1 : Int32) <<< (a1 &&& 31))) (fun M27 => zb1 (zf_X10_begins n a1 M27) (fun M28 => some M28))
def zf_X10_once (n : Nat) (a1 : Int32) (M : ZMem) : Option (ZMem) :=
  zb1 (zf_X10_has (M 77 18) a1) (fun v25 => (if v25 = 0 then (zf_X10_once_j19 a1 n M) else zb1 (zf_X10_wrong (M 77 10) M) (fun M29 => (zf_X10_once_j19 a1 n M29))))
set_option maxHeartbeats 4000000 in
set_option maxRecDepth 100000 in
theorem zc_X10_once {l : Launch} {D : va_G} {ad : Nat → Nat} {cA : Nat → ClassId} {n : Nat} {a1 : Int32} {M : ZMem} {M' : ZMem} (hf : zf_X10_once n a1 M = some M') : ZCt l D ad cA yX10_once cX10_once 2 (none) 5 [.ref (ad 77), .int a1] M none M' := by
  refine zct (by decide +kernel) (Nat.le_of_ble_eq_true rfl) (lv := [(0, .ref (ad 77)), (1, .int a1)]) rfl (fun E hl hD had hcA hN hC hR => ?_)
  subst hl; subst hD; subst had; subst hcA
  unfold zf_X10_once at hf
  refine zw_aload_n hC dX10_once_0 rfl 0 rfl ?_
  refine zw_geti hC zF_Model_told zk_77 dX10_once_1 kw_6_4 ?_
  refine zw_iload_n hC dX10_once_4 rfl 1 rfl ?_
  obtain ⟨v25, hc25, hf⟩ := zb1_some hf
  refine zw_cS hC [.int (M 77 18), .int a1] [] (st1 := [.int v25]) zm_X10_has (zc_X10_has hc25) kw_6_150 dX10_once_5 rfl (by decide) (Nat.le_of_ble_eq_true rfl) rfl rfl ?_
  have hj19 : ∀ (M26 : ZMem), zf_X10_once_j19 a1 n M26 = some M' → ZW E 19 [(0, .ref (zad E 77)), (1, .int a1)] [] M26 := by
    intro M26 hf
    unfold zf_X10_once_j19 at hf
    refine zw_aload_n hC dX10_once_19 rfl 0 rfl ?_
    refine zw_dup hC dX10_once_20 rfl ?_
    refine zw_geti hC zF_Model_told zk_77 dX10_once_21 kw_6_4 ?_
    refine zw_iconst hC (v := (1 : Int32)) dX10_once_24 (by decide) ?_
    refine zw_iload_n hC dX10_once_25 rfl 1 rfl ?_
    refine zw_ishl hC dX10_once_26 ?_
    refine zw_ior hC dX10_once_27 ?_
    refine zw_puti hC hf zF_Model_told zk_77 dX10_once_28 kw_6_4 (fun M27 hf => ?_)
    refine zw_aload_n hC dX10_once_31 rfl 0 rfl ?_
    refine zw_iload_n hC dX10_once_32 rfl 1 rfl ?_
    obtain ⟨M28, hcM28, hf⟩ := zb1_some hf
    refine zw_cV hC [.int a1] [] (st1 := []) zm_X10_begins (zc_X10_begins hcM28) zk_77 rfl kw_6_153 dX10_once_33 rfl (by decide) (Nat.le_of_ble_eq_true rfl) rfl rfl ?_
    have h1 := Option.some.inj hf
    subst h1
    exact zw_vret hC hR dX10_once_36
  refine zw_if_eq hC 19 hf dX10_once_8 (by decide) (fun hf => ?_) (fun hf => ?_)
  · exact hj19 M hf
  · refine zw_aload_n hC dX10_once_11 rfl 0 rfl ?_
    refine zw_aload_n hC dX10_once_12 rfl 0 rfl ?_
    refine zw_geti hC zF_Model_from zk_77 dX10_once_13 kw_5_236 ?_
    obtain ⟨M29, hcM29, hf⟩ := zb1_some hf
    refine zw_cV hC [.int (M 77 10)] [] (st1 := []) zm_X10_wrong (zc_X10_wrong hcM29) zk_77 rfl kw_6_125 dX10_once_16 rfl (by decide) (Nat.le_of_ble_eq_true rfl) rfl rfl ?_
    exact hj19 M29 hf
/-! ClassOfManyModel.readMember()V -/
theorem dX10_readMember_0 : decode cX10_readMember 0 = .ok (.aload_n 0, 1) := by decide +kernel
theorem dX10_readMember_1 : decode cX10_readMember 1 = .ok (.getfield 7, 3) := by decide +kernel
theorem dX10_readMember_4 : decode cX10_readMember 4 = .ok (.iconst 0, 1) := by decide +kernel
theorem dX10_readMember_5 : decode cX10_readMember 5 = .ok (.iaload, 1) := by decide +kernel
theorem dX10_readMember_6 : decode cX10_readMember 6 = .ok (.bipush 10, 2) := by decide +kernel
theorem dX10_readMember_8 : decode cX10_readMember 8 = .ok (.if_icmp .ne 11, 3) := by decide +kernel
theorem dX10_readMember_11 : decode cX10_readMember 11 = .ok (.aload_n 0, 1) := by decide +kernel
theorem dX10_readMember_12 : decode cX10_readMember 12 = .ok (.aload_n 0, 1) := by decide +kernel
theorem dX10_readMember_13 : decode cX10_readMember 13 = .ok (.getfield 81, 3) := by decide +kernel
theorem dX10_readMember_16 : decode cX10_readMember 16 = .ok (.invokevirtual 94, 3) := by decide +kernel
theorem dX10_readMember_19 : decode cX10_readMember 19 = .ok (.aload_n 0, 1) := by decide +kernel
theorem dX10_readMember_20 : decode cX10_readMember 20 = .ok (.bipush 6, 2) := by decide +kernel
theorem dX10_readMember_22 : decode cX10_readMember 22 = .ok (.invokevirtual 122, 3) := by decide +kernel
theorem dX10_readMember_25 : decode cX10_readMember 25 = .ok (.aload_n 0, 1) := by decide +kernel
theorem dX10_readMember_26 : decode cX10_readMember 26 = .ok (.iconst 0, 1) := by decide +kernel
theorem dX10_readMember_27 : decode cX10_readMember 27 = .ok (.bipush 99, 2) := by decide +kernel
theorem dX10_readMember_29 : decode cX10_readMember 29 = .ok (.invokevirtual 125, 3) := by decide +kernel
theorem dX10_readMember_32 : decode cX10_readMember 32 = .ok (.istore_n 1, 1) := by decide +kernel
theorem dX10_readMember_33 : decode cX10_readMember 33 = .ok (.aload_n 0, 1) := by decide +kernel
theorem dX10_readMember_34 : decode cX10_readMember 34 = .ok (.iload_n 1, 1) := by decide +kernel
theorem dX10_readMember_35 : decode cX10_readMember 35 = .ok (.bipush 99, 2) := by decide +kernel
theorem dX10_readMember_37 : decode cX10_readMember 37 = .ok (.invokevirtual 125, 3) := by decide +kernel
theorem dX10_readMember_40 : decode cX10_readMember 40 = .ok (.istore_n 2, 1) := by decide +kernel
theorem dX10_readMember_41 : decode cX10_readMember 41 = .ok (.aload_n 0, 1) := by decide +kernel
theorem dX10_readMember_42 : decode cX10_readMember 42 = .ok (.iconst 1, 1) := by decide +kernel
theorem dX10_readMember_43 : decode cX10_readMember 43 = .ok (.bipush 99, 2) := by decide +kernel
theorem dX10_readMember_45 : decode cX10_readMember 45 = .ok (.invokevirtual 125, 3) := by decide +kernel
theorem dX10_readMember_48 : decode cX10_readMember 48 = .ok (.istore_n 3, 1) := by decide +kernel
theorem dX10_readMember_49 : decode cX10_readMember 49 = .ok (.iconst 0, 1) := by decide +kernel
theorem dX10_readMember_50 : decode cX10_readMember 50 = .ok (.istore 4, 2) := by decide +kernel
theorem dX10_readMember_52 : decode cX10_readMember 52 = .ok (.aload_n 0, 1) := by decide +kernel
theorem dX10_readMember_53 : decode cX10_readMember 53 = .ok (.getfield 75, 3) := by decide +kernel
theorem dX10_readMember_56 : decode cX10_readMember 56 = .ok (.iconst (-1), 1) := by decide +kernel
theorem dX10_readMember_57 : decode cX10_readMember 57 = .ok (.if_icmp .ne 121, 3) := by decide +kernel
theorem dX10_readMember_60 : decode cX10_readMember 60 = .ok (.aload_n 0, 1) := by decide +kernel
theorem dX10_readMember_61 : decode cX10_readMember 61 = .ok (.ldc2_w 129, 3) := by decide +kernel
theorem dX10_readMember_64 : decode cX10_readMember 64 = .ok (.invokevirtual 131, 3) := by decide +kernel
theorem dX10_readMember_67 : decode cX10_readMember 67 = .ok (.ifCond .eq 111, 3) := by decide +kernel
theorem dX10_readMember_70 : decode cX10_readMember 70 = .ok (.aload_n 0, 1) := by decide +kernel
theorem dX10_readMember_71 : decode cX10_readMember 71 = .ok (.invokevirtual 109, 3) := by decide +kernel
theorem dX10_readMember_74 : decode cX10_readMember 74 = .ok (.iconst 1, 1) := by decide +kernel
theorem dX10_readMember_75 : decode cX10_readMember 75 = .ok (.istore 5, 2) := by decide +kernel
theorem dX10_readMember_77 : decode cX10_readMember 77 = .ok (.aload_n 0, 1) := by decide +kernel
theorem dX10_readMember_78 : decode cX10_readMember 78 = .ok (.getfield 75, 3) := by decide +kernel
theorem dX10_readMember_81 : decode cX10_readMember 81 = .ok (.iconst (-1), 1) := by decide +kernel
theorem dX10_readMember_82 : decode cX10_readMember 82 = .ok (.if_icmp .ne 96, 3) := by decide +kernel
theorem dX10_readMember_85 : decode cX10_readMember 85 = .ok (.iload 5, 2) := by decide +kernel
theorem dX10_readMember_87 : decode cX10_readMember 87 = .ok (.ifCond .eq 91, 3) := by decide +kernel
theorem dX10_readMember_90 : decode cX10_readMember 90 = .ok (.aload_n 0, 1) := by decide +kernel
theorem dX10_readMember_91 : decode cX10_readMember 91 = .ok (.getfield 98, 3) := by decide +kernel
theorem dX10_readMember_94 : decode cX10_readMember 94 = .ok (.iconst 2, 1) := by decide +kernel
theorem dX10_readMember_95 : decode cX10_readMember 95 = .ok (.if_icmp .ne 42, 3) := by decide +kernel
theorem dX10_readMember_98 : decode cX10_readMember 98 = .ok (.aload_n 0, 1) := by decide +kernel
theorem dX10_readMember_99 : decode cX10_readMember 99 = .ok (.getfield 84, 3) := by decide +kernel
theorem dX10_readMember_102 : decode cX10_readMember 102 = .ok (.iconst 0, 1) := by decide +kernel
theorem dX10_readMember_103 : decode cX10_readMember 103 = .ok (.aload_n 0, 1) := by decide +kernel
theorem dX10_readMember_104 : decode cX10_readMember 104 = .ok (.getfield 7, 3) := by decide +kernel
theorem dX10_readMember_107 : decode cX10_readMember 107 = .ok (.iconst 1, 1) := by decide +kernel
theorem dX10_readMember_108 : decode cX10_readMember 108 = .ok (.iaload, 1) := by decide +kernel
theorem dX10_readMember_109 : decode cX10_readMember 109 = .ok (.iconst 1, 1) := by decide +kernel
theorem dX10_readMember_110 : decode cX10_readMember 110 = .ok (.isub, 1) := by decide +kernel
theorem dX10_readMember_111 : decode cX10_readMember 111 = .ok (.invokestatic 65, 3) := by decide +kernel
theorem dX10_readMember_114 : decode cX10_readMember 114 = .ok (.ifCond .eq 23, 3) := by decide +kernel
theorem dX10_readMember_117 : decode cX10_readMember 117 = .ok (.iload 4, 2) := by decide +kernel
theorem dX10_readMember_119 : decode cX10_readMember 119 = .ok (.aload_n 0, 1) := by decide +kernel
theorem dX10_readMember_120 : decode cX10_readMember 120 = .ok (.getfield 84, 3) := by decide +kernel
theorem dX10_readMember_123 : decode cX10_readMember 123 = .ok (.invokestatic 118, 3) := by decide +kernel
theorem dX10_readMember_126 : decode cX10_readMember 126 = .ok (.ifCond .eq 11, 3) := by decide +kernel
theorem dX10_readMember_129 : decode cX10_readMember 129 = .ok (.aload_n 0, 1) := by decide +kernel
theorem dX10_readMember_130 : decode cX10_readMember 130 = .ok (.aload_n 0, 1) := by decide +kernel
theorem dX10_readMember_131 : decode cX10_readMember 131 = .ok (.getfield 81, 3) := by decide +kernel
theorem dX10_readMember_134 : decode cX10_readMember 134 = .ok (.invokevirtual 94, 3) := by decide +kernel
theorem dX10_readMember_137 : decode cX10_readMember 137 = .ok (.iload 4, 2) := by decide +kernel
theorem dX10_readMember_139 : decode cX10_readMember 139 = .ok (.iconst 1, 1) := by decide +kernel
theorem dX10_readMember_140 : decode cX10_readMember 140 = .ok (.aload_n 0, 1) := by decide +kernel
theorem dX10_readMember_141 : decode cX10_readMember 141 = .ok (.iconst 0, 1) := by decide +kernel
theorem dX10_readMember_142 : decode cX10_readMember 142 = .ok (.aload_n 0, 1) := by decide +kernel
theorem dX10_readMember_143 : decode cX10_readMember 143 = .ok (.getfield 7, 3) := by decide +kernel
theorem dX10_readMember_146 : decode cX10_readMember 146 = .ok (.iconst 1, 1) := by decide +kernel
theorem dX10_readMember_147 : decode cX10_readMember 147 = .ok (.iaload, 1) := by decide +kernel
theorem dX10_readMember_148 : decode cX10_readMember 148 = .ok (.iconst 1, 1) := by decide +kernel
theorem dX10_readMember_149 : decode cX10_readMember 149 = .ok (.isub, 1) := by decide +kernel
theorem dX10_readMember_150 : decode cX10_readMember 150 = .ok (.invokevirtual 125, 3) := by decide +kernel
theorem dX10_readMember_153 : decode cX10_readMember 153 = .ok (.bipush 32, 2) := by decide +kernel
theorem dX10_readMember_155 : decode cX10_readMember 155 = .ok (.irem, 1) := by decide +kernel
theorem dX10_readMember_156 : decode cX10_readMember 156 = .ok (.ishl, 1) := by decide +kernel
theorem dX10_readMember_157 : decode cX10_readMember 157 = .ok (.ior, 1) := by decide +kernel
theorem dX10_readMember_158 : decode cX10_readMember 158 = .ok (.istore 4, 2) := by decide +kernel
theorem dX10_readMember_160 : decode cX10_readMember 160 = .ok (.aload_n 0, 1) := by decide +kernel
theorem dX10_readMember_161 : decode cX10_readMember 161 = .ok (.getfield 98, 3) := by decide +kernel
theorem dX10_readMember_164 : decode cX10_readMember 164 = .ok (.iconst 2, 1) := by decide +kernel
theorem dX10_readMember_165 : decode cX10_readMember 165 = .ok (.if_icmp .ne 7, 3) := by decide +kernel
theorem dX10_readMember_168 : decode cX10_readMember 168 = .ok (.iconst 1, 1) := by decide +kernel
theorem dX10_readMember_169 : decode cX10_readMember 169 = .ok (.goto 4, 3) := by decide +kernel
theorem dX10_readMember_172 : decode cX10_readMember 172 = .ok (.iconst 0, 1) := by decide +kernel
theorem dX10_readMember_173 : decode cX10_readMember 173 = .ok (.istore 5, 2) := by decide +kernel
theorem dX10_readMember_175 : decode cX10_readMember 175 = .ok (.goto (-98), 3) := by decide +kernel
theorem dX10_readMember_178 : decode cX10_readMember 178 = .ok (.aload_n 0, 1) := by decide +kernel
theorem dX10_readMember_179 : decode cX10_readMember 179 = .ok (.invokevirtual 135, 3) := by decide +kernel
theorem dX10_readMember_182 : decode cX10_readMember 182 = .ok (.aload_n 0, 1) := by decide +kernel
theorem dX10_readMember_183 : decode cX10_readMember 183 = .ok (.getfield 75, 3) := by decide +kernel
theorem dX10_readMember_186 : decode cX10_readMember 186 = .ok (.iconst (-1), 1) := by decide +kernel
theorem dX10_readMember_187 : decode cX10_readMember 187 = .ok (.if_icmp .ne 66, 3) := by decide +kernel
theorem dX10_readMember_190 : decode cX10_readMember 190 = .ok (.aload_n 0, 1) := by decide +kernel
theorem dX10_readMember_191 : decode cX10_readMember 191 = .ok (.getfield 7, 3) := by decide +kernel
theorem dX10_readMember_194 : decode cX10_readMember 194 = .ok (.iconst 0, 1) := by decide +kernel
theorem dX10_readMember_195 : decode cX10_readMember 195 = .ok (.iaload, 1) := by decide +kernel
theorem dX10_readMember_196 : decode cX10_readMember 196 = .ok (.istore 5, 2) := by decide +kernel
theorem dX10_readMember_198 : decode cX10_readMember 198 = .ok (.aload_n 0, 1) := by decide +kernel
theorem dX10_readMember_199 : decode cX10_readMember 199 = .ok (.getfield 7, 3) := by decide +kernel
theorem dX10_readMember_202 : decode cX10_readMember 202 = .ok (.bipush 15, 2) := by decide +kernel
theorem dX10_readMember_204 : decode cX10_readMember 204 = .ok (.iload 5, 2) := by decide +kernel
theorem dX10_readMember_206 : decode cX10_readMember 206 = .ok (.iadd, 1) := by decide +kernel
theorem dX10_readMember_207 : decode cX10_readMember 207 = .ok (.iload_n 1, 1) := by decide +kernel
theorem dX10_readMember_208 : decode cX10_readMember 208 = .ok (.iastore, 1) := by decide +kernel
theorem dX10_readMember_209 : decode cX10_readMember 209 = .ok (.aload_n 0, 1) := by decide +kernel
theorem dX10_readMember_210 : decode cX10_readMember 210 = .ok (.getfield 7, 3) := by decide +kernel
theorem dX10_readMember_213 : decode cX10_readMember 213 = .ok (.bipush 25, 2) := by decide +kernel
theorem dX10_readMember_215 : decode cX10_readMember 215 = .ok (.iload 5, 2) := by decide +kernel
theorem dX10_readMember_217 : decode cX10_readMember 217 = .ok (.iadd, 1) := by decide +kernel
theorem dX10_readMember_218 : decode cX10_readMember 218 = .ok (.iload_n 2, 1) := by decide +kernel
theorem dX10_readMember_219 : decode cX10_readMember 219 = .ok (.iastore, 1) := by decide +kernel
theorem dX10_readMember_220 : decode cX10_readMember 220 = .ok (.aload_n 0, 1) := by decide +kernel
theorem dX10_readMember_221 : decode cX10_readMember 221 = .ok (.getfield 7, 3) := by decide +kernel
theorem dX10_readMember_224 : decode cX10_readMember 224 = .ok (.bipush 35, 2) := by decide +kernel
theorem dX10_readMember_226 : decode cX10_readMember 226 = .ok (.iload 5, 2) := by decide +kernel
theorem dX10_readMember_228 : decode cX10_readMember 228 = .ok (.iadd, 1) := by decide +kernel
theorem dX10_readMember_229 : decode cX10_readMember 229 = .ok (.iload_n 3, 1) := by decide +kernel
theorem dX10_readMember_230 : decode cX10_readMember 230 = .ok (.iastore, 1) := by decide +kernel
theorem dX10_readMember_231 : decode cX10_readMember 231 = .ok (.aload_n 0, 1) := by decide +kernel
theorem dX10_readMember_232 : decode cX10_readMember 232 = .ok (.getfield 7, 3) := by decide +kernel
theorem dX10_readMember_235 : decode cX10_readMember 235 = .ok (.bipush 45, 2) := by decide +kernel
theorem dX10_readMember_237 : decode cX10_readMember 237 = .ok (.iload 5, 2) := by decide +kernel
theorem dX10_readMember_239 : decode cX10_readMember 239 = .ok (.iadd, 1) := by decide +kernel
theorem dX10_readMember_240 : decode cX10_readMember 240 = .ok (.iload 4, 2) := by decide +kernel
theorem dX10_readMember_242 : decode cX10_readMember 242 = .ok (.iastore, 1) := by decide +kernel
theorem dX10_readMember_243 : decode cX10_readMember 243 = .ok (.aload_n 0, 1) := by decide +kernel
theorem dX10_readMember_244 : decode cX10_readMember 244 = .ok (.getfield 7, 3) := by decide +kernel
theorem dX10_readMember_247 : decode cX10_readMember 247 = .ok (.iconst 0, 1) := by decide +kernel
theorem dX10_readMember_248 : decode cX10_readMember 248 = .ok (.dup2, 1) := by decide +kernel
theorem dX10_readMember_249 : decode cX10_readMember 249 = .ok (.iaload, 1) := by decide +kernel
theorem dX10_readMember_250 : decode cX10_readMember 250 = .ok (.iconst 1, 1) := by decide +kernel
theorem dX10_readMember_251 : decode cX10_readMember 251 = .ok (.iadd, 1) := by decide +kernel
theorem dX10_readMember_252 : decode cX10_readMember 252 = .ok (.iastore, 1) := by decide +kernel
theorem dX10_readMember_253 : decode cX10_readMember 253 = .ok (.return_, 1) := by decide +kernel
theorem zm_X10_readMember : ZMv "ClassOfManyModel" yX10_readMember cX10_readMember 6 (none) 0 := ⟨kw_6_186, kw_6_185, kp_72, kw_1_10, by decide +kernel, by decide⟩
def zf_X10_readMember_j253 (M59 : ZMem) : Option (ZMem) :=
  some M59
def zf_X10_readMember_j178 (n : Nat) (v50 : Int32) (v52 : Int32) (v54 : Int32) (v56 : Int32) (M57 : ZMem) : Option (ZMem) :=
  zb1 (zf_X10_closes n M57) (fun M58 => (if (M58 77 12) = (-1 : Int32) then zrd M58 78 73 (0 : Int32) (fun v60 => zst M58 78 73 ((15 : Int32) + v60) v50 (fun M61 => zst M61 78 73 ((25 : Int32) + v60) v52 (fun M62 => zst M62 78 73 ((35 : Int32) + v60) v54 (fun M63 => zst M63 78 73 ((45 : Int32) + v60) v56 (fun M64 => zrd M64 78 73 (0 : Int32) (fun v65 => zst M64 78 73 (0 : Int32) (v65 + (1 : Int32)) (fun M66 => (zf_X10_readMember_j253 M66)))))))) else (zf_X10_readMember_j253 M58)))
def zf_X10_readMember_j173 (R77 : Int32 → Int32 → ZMem → Option (ZMem)) (v69 : Int32) (v76 : Int32) (M77 : ZMem) (v78 : Int32) : Option (ZMem) :=
  (R77 (v69 ||| ((1 : Int32) <<< ((v76 - v76 / (32 : Int32) * (32 : Int32)) &&& 31))) v78 M77)
def zf_X10_readMember_j137 (n : Nat) (R77 : Int32 → Int32 → ZMem → Option (ZMem)) (v69 : Int32) (M74 : ZMem) : Option (ZMem) :=
  zrd M74 78 73 (1 : Int32) (fun v75 => zb2 (zf_X10_number n (0 : Int32) (v75 - (1 : Int32)) M74) (fun v76 M77 => (if (M77 77 9) = (2 : Int32) then (zf_X10_readMember_j173 R77 v69 v76 M77 (1 : Int32)) else (zf_X10_readMember_j173 R77 v69 v76 M77 (0 : Int32)))))
def zf_X10_readMember_L77 (n : Nat) (K178 : Int32 → ZMem → Option (ZMem)) : Nat → Int32 → Int32 → ZMem → Option (ZMem)
  | 0, _, _, _ => none
  | n77 + 1, v69, v70, M71 =>
  (if (M71 77 12) = (-1 : Int32) then (if v70 = 0 then (K178 v69 M71) else (if (M71 77 9) = (2 : Int32) then zrd M71 78 73 (1 : Int32) (fun v79 => zb1 (zf_X10_isIn (M71 77 11) (0 : Int32) (v79 - (1 : Int32))) (fun v80 => (if v80 = 0 then (zf_X10_readMember_j137 n (fun x0 x1 x2 => zf_X10_readMember_L77 n K178 n77 x0 x1 x2) v69 M71) else zb1 (zf_X10_has v69 (M71 77 11)) (fun v81 => (if v81 = 0 then (zf_X10_readMember_j137 n (fun x0 x1 x2 => zf_X10_readMember_L77 n K178 n77 x0 x1 x2) v69 M71) else zb1 (zf_X10_wrong (M71 77 10) M71) (fun M82 => (zf_X10_readMember_j137 n (fun x0 x1 x2 => zf_X10_readMember_L77 n K178 n77 x0 x1 x2) v69 M82))))))) else (zf_X10_readMember_j137 n (fun x0 x1 x2 => zf_X10_readMember_L77 n K178 n77 x0 x1 x2) v69 M71))) else (K178 v69 M71))
def zf_X10_readMember_j19 (n : Nat) (M48 : ZMem) : Option (ZMem) :=
  zb1 (zf_X10_begins n (6 : Int32) M48) (fun M49 => zb2 (zf_X10_number n (0 : Int32) (99 : Int32) M49) (fun v50 M51 => zb2 (zf_X10_number n v50 (99 : Int32) M51) (fun v52 M53 => zb2 (zf_X10_number n (1 : Int32) (99 : Int32) M53) (fun v54 M55 => (if (M55 77 12) = (-1 : Int32) then zb1 (zf_X10_isWord n (79 : Int64) M55) (fun v67 => (if v67 = 0 then (zf_X10_readMember_j178 n v50 v52 v54 (0 : Int32) M55) else zb1 (zf_X10_nextToken n M55) (fun M68 => (zf_X10_readMember_L77 n (fun v83 M84 => (zf_X10_readMember_j178 n v50 v52 v54 v83 M84)) n (0 : Int32) (1 : Int32) M68)))) else (zf_X10_readMember_j178 n v50 v52 v54 (0 : Int32) M55))))))
def zf_X10_readMember (n : Nat) (M : ZMem) : Option (ZMem) :=
  zrd M 78 73 (0 : Int32) (fun v47 => (if v47 = (10 : Int32) then zb1 (zf_X10_wrong (M 77 10) M) (fun M85 => (zf_X10_readMember_j19 n M85)) else (zf_X10_readMember_j19 n M)))
set_option maxHeartbeats 4000000 in
set_option maxRecDepth 100000 in
theorem zc_X10_readMember {l : Launch} {D : va_G} {ad : Nat → Nat} {cA : Nat → ClassId} {n : Nat} {M : ZMem} {M' : ZMem} (hf : zf_X10_readMember n M = some M') : ZCt l D ad cA yX10_readMember cX10_readMember 6 (none) 5 [.ref (ad 77)] M none M' := by
  refine zct (by decide +kernel) (Nat.le_of_ble_eq_true rfl) (lv := [(0, .ref (ad 77))]) rfl (fun E hl hD had hcA hN hC hR => ?_)
  subst hl; subst hD; subst had; subst hcA
  unfold zf_X10_readMember at hf
  refine zw_aload_n hC dX10_readMember_0 rfl 0 rfl ?_
  refine zw_getr (k' := 78) hC zF_Model_now zk_77 rfl dX10_readMember_1 kw_5_227 ?_
  refine zw_iconst hC (v := (0 : Int32)) dX10_readMember_4 (by decide) ?_
  refine zw_iald hC hf zk_78 dX10_readMember_5 (fun v47 hf => ?_)
  refine zw_bipush hC (v := (10 : Int32)) dX10_readMember_6 (by decide) ?_
  have hj19 : ∀ (M48 : ZMem), zf_X10_readMember_j19 n M48 = some M' → ZW E 19 [(0, .ref (zad E 77))] [] M48 := by
    intro M48 hf
    unfold zf_X10_readMember_j19 at hf
    refine zw_aload_n hC dX10_readMember_19 rfl 0 rfl ?_
    refine zw_bipush hC (v := (6 : Int32)) dX10_readMember_20 (by decide) ?_
    obtain ⟨M49, hcM49, hf⟩ := zb1_some hf
    refine zw_cV hC [.int (6 : Int32)] [] (st1 := []) zm_X10_begins (zc_X10_begins hcM49) zk_77 rfl kw_6_153 dX10_readMember_22 rfl (by decide) (Nat.le_of_ble_eq_true rfl) rfl rfl ?_
    refine zw_aload_n hC dX10_readMember_25 rfl 0 rfl ?_
    refine zw_iconst hC (v := (0 : Int32)) dX10_readMember_26 (by decide) ?_
    refine zw_bipush hC (v := (99 : Int32)) dX10_readMember_27 (by decide) ?_
    obtain ⟨v50, M51, hcM51, hf⟩ := zb2_some hf
    refine zw_cV hC [.int (0 : Int32), .int (99 : Int32)] [] (st1 := [.int v50]) zm_X10_number (zc_X10_number hcM51) zk_77 rfl kw_6_157 dX10_readMember_29 rfl (by decide) (Nat.le_of_ble_eq_true rfl) rfl rfl ?_
    refine zw_istore_n hC (lv' := [(1, .int v50), (0, .ref (zad E 77))]) dX10_readMember_32 rfl hN (by decide) rfl ?_
    refine zw_aload_n hC dX10_readMember_33 rfl 1 rfl ?_
    refine zw_iload_n hC dX10_readMember_34 rfl 0 rfl ?_
    refine zw_bipush hC (v := (99 : Int32)) dX10_readMember_35 (by decide) ?_
    obtain ⟨v52, M53, hcM53, hf⟩ := zb2_some hf
    refine zw_cV hC [.int v50, .int (99 : Int32)] [] (st1 := [.int v52]) zm_X10_number (zc_X10_number hcM53) zk_77 rfl kw_6_157 dX10_readMember_37 rfl (by decide) (Nat.le_of_ble_eq_true rfl) rfl rfl ?_
    refine zw_istore_n hC (lv' := [(2, .int v52), (1, .int v50), (0, .ref (zad E 77))]) dX10_readMember_40 rfl hN (by decide) rfl ?_
    refine zw_aload_n hC dX10_readMember_41 rfl 2 rfl ?_
    refine zw_iconst hC (v := (1 : Int32)) dX10_readMember_42 (by decide) ?_
    refine zw_bipush hC (v := (99 : Int32)) dX10_readMember_43 (by decide) ?_
    obtain ⟨v54, M55, hcM55, hf⟩ := zb2_some hf
    refine zw_cV hC [.int (1 : Int32), .int (99 : Int32)] [] (st1 := [.int v54]) zm_X10_number (zc_X10_number hcM55) zk_77 rfl kw_6_157 dX10_readMember_45 rfl (by decide) (Nat.le_of_ble_eq_true rfl) rfl rfl ?_
    refine zw_istore_n hC (lv' := [(3, .int v54), (2, .int v52), (1, .int v50), (0, .ref (zad E 77))]) dX10_readMember_48 rfl hN (by decide) rfl ?_
    refine zw_iconst hC (v := (0 : Int32)) dX10_readMember_49 (by decide) ?_
    refine zw_istore hC (lv' := [(4, .int (0 : Int32)), (3, .int v54), (2, .int v52), (1, .int v50), (0, .ref (zad E 77))]) dX10_readMember_50 hN (by decide) rfl ?_
    refine zw_aload_n hC dX10_readMember_52 rfl 4 rfl ?_
    refine zw_geti hC zF_Model_fault zk_77 dX10_readMember_53 kw_5_238 ?_
    refine zw_iconst hC (v := (-1 : Int32)) dX10_readMember_56 (by decide) ?_
    have hj178 : ∀ (v56 : Int32), ∀ (M57 : ZMem), zf_X10_readMember_j178 n v50 v52 v54 v56 M57 = some M' → ZW E 178 [(0, .ref (zad E 77)), (1, .int v50), (2, .int v52), (3, .int v54), (4, .int v56)] [] M57 := by
      intro v56 M57 hf
      unfold zf_X10_readMember_j178 at hf
      refine zw_aload_n hC dX10_readMember_178 rfl 0 rfl ?_
      obtain ⟨M58, hcM58, hf⟩ := zb1_some hf
      refine zw_cV hC [] [] (st1 := []) zm_X10_closes (zc_X10_closes hcM58) zk_77 rfl kw_6_165 dX10_readMember_179 rfl (by decide) (Nat.le_of_ble_eq_true rfl) rfl rfl ?_
      refine zw_aload_n hC dX10_readMember_182 rfl 0 rfl ?_
      refine zw_geti hC zF_Model_fault zk_77 dX10_readMember_183 kw_5_238 ?_
      refine zw_iconst hC (v := (-1 : Int32)) dX10_readMember_186 (by decide) ?_
      have hj253 : ∀ (M59 : ZMem), zf_X10_readMember_j253 M59 = some M' → ZW E 253 [] [] M59 := by
        intro M59 hf
        unfold zf_X10_readMember_j253 at hf
        have h1 := Option.some.inj hf
        subst h1
        exact zw_vret hC hR dX10_readMember_253
      refine zw_icmp_ne hC 253 hf dX10_readMember_187 (by decide) (fun hf => ?_) (fun hf => ?_)
      · exact zw_sub [] rfl (hj253 M58 hf)
      · refine zw_aload_n hC dX10_readMember_190 rfl 0 rfl ?_
        refine zw_getr (k' := 78) hC zF_Model_now zk_77 rfl dX10_readMember_191 kw_5_227 ?_
        refine zw_iconst hC (v := (0 : Int32)) dX10_readMember_194 (by decide) ?_
        refine zw_iald hC hf zk_78 dX10_readMember_195 (fun v60 hf => ?_)
        refine zw_istore hC (lv' := [(5, .int v60), (0, .ref (zad E 77)), (1, .int v50), (2, .int v52), (3, .int v54), (4, .int v56)]) dX10_readMember_196 hN (by decide) rfl ?_
        refine zw_aload_n hC dX10_readMember_198 rfl 1 rfl ?_
        refine zw_getr (k' := 78) hC zF_Model_now zk_77 rfl dX10_readMember_199 kw_5_227 ?_
        refine zw_bipush hC (v := (15 : Int32)) dX10_readMember_202 (by decide) ?_
        refine zw_iload hC dX10_readMember_204 0 rfl ?_
        refine zw_iadd hC dX10_readMember_206 ?_
        refine zw_iload_n hC dX10_readMember_207 rfl 2 rfl ?_
        refine zw_iast hC hf zk_78 dX10_readMember_208 (fun M61 hf => ?_)
        refine zw_aload_n hC dX10_readMember_209 rfl 1 rfl ?_
        refine zw_getr (k' := 78) hC zF_Model_now zk_77 rfl dX10_readMember_210 kw_5_227 ?_
        refine zw_bipush hC (v := (25 : Int32)) dX10_readMember_213 (by decide) ?_
        refine zw_iload hC dX10_readMember_215 0 rfl ?_
        refine zw_iadd hC dX10_readMember_217 ?_
        refine zw_iload_n hC dX10_readMember_218 rfl 3 rfl ?_
        refine zw_iast hC hf zk_78 dX10_readMember_219 (fun M62 hf => ?_)
        refine zw_aload_n hC dX10_readMember_220 rfl 1 rfl ?_
        refine zw_getr (k' := 78) hC zF_Model_now zk_77 rfl dX10_readMember_221 kw_5_227 ?_
        refine zw_bipush hC (v := (35 : Int32)) dX10_readMember_224 (by decide) ?_
        refine zw_iload hC dX10_readMember_226 0 rfl ?_
        refine zw_iadd hC dX10_readMember_228 ?_
        refine zw_iload_n hC dX10_readMember_229 rfl 4 rfl ?_
        refine zw_iast hC hf zk_78 dX10_readMember_230 (fun M63 hf => ?_)
        refine zw_aload_n hC dX10_readMember_231 rfl 1 rfl ?_
        refine zw_getr (k' := 78) hC zF_Model_now zk_77 rfl dX10_readMember_232 kw_5_227 ?_
        refine zw_bipush hC (v := (45 : Int32)) dX10_readMember_235 (by decide) ?_
        refine zw_iload hC dX10_readMember_237 0 rfl ?_
        refine zw_iadd hC dX10_readMember_239 ?_
        refine zw_iload hC dX10_readMember_240 5 rfl ?_
        refine zw_iast hC hf zk_78 dX10_readMember_242 (fun M64 hf => ?_)
        refine zw_aload_n hC dX10_readMember_243 rfl 1 rfl ?_
        refine zw_getr (k' := 78) hC zF_Model_now zk_77 rfl dX10_readMember_244 kw_5_227 ?_
        refine zw_iconst hC (v := (0 : Int32)) dX10_readMember_247 (by decide) ?_
        refine zw_dup2 hC dX10_readMember_248 rfl rfl ?_
        refine zw_iald hC hf zk_78 dX10_readMember_249 (fun v65 hf => ?_)
        refine zw_iconst hC (v := (1 : Int32)) dX10_readMember_250 (by decide) ?_
        refine zw_iadd hC dX10_readMember_251 ?_
        refine zw_iast hC hf zk_78 dX10_readMember_252 (fun M66 hf => ?_)
        exact zw_sub [] rfl (hj253 M66 hf)
    refine zw_icmp_ne hC 178 hf dX10_readMember_57 (by decide) (fun hf => ?_) (fun hf => ?_)
    · exact zw_sub [4, 3, 2, 1, 0] rfl (hj178 (0 : Int32) M55 hf)
    · refine zw_aload_n hC dX10_readMember_60 rfl 4 rfl ?_
      refine zw_ldc2 hC dX10_readMember_61 kw_6_187 ?_
      obtain ⟨v67, hc67, hf⟩ := zb1_some hf
      refine zw_cV hC [.long (79 : Int64)] [] (st1 := [.int v67]) zm_X10_isWord (zc_X10_isWord hc67) zk_77 rfl kw_6_135 dX10_readMember_64 rfl (by decide) (Nat.le_of_ble_eq_true rfl) rfl rfl ?_
      refine zw_if_eq hC 178 hf dX10_readMember_67 (by decide) (fun hf => ?_) (fun hf => ?_)
      · exact zw_sub [4, 3, 2, 1, 0] rfl (hj178 (0 : Int32) M55 hf)
      · refine zw_aload_n hC dX10_readMember_70 rfl 4 rfl ?_
        obtain ⟨M68, hcM68, hf⟩ := zb1_some hf
        refine zw_cV hC [] [] (st1 := []) zm_X10_nextToken (zc_X10_nextToken hcM68) zk_77 rfl kw_6_113 dX10_readMember_71 rfl (by decide) (Nat.le_of_ble_eq_true rfl) rfl rfl ?_
        refine zw_iconst hC (v := (1 : Int32)) dX10_readMember_74 (by decide) ?_
        refine zw_istore hC (lv' := [(5, .int (1 : Int32)), (4, .int (0 : Int32)), (3, .int v54), (2, .int v52), (1, .int v50), (0, .ref (zad E 77))]) dX10_readMember_75 hN (by decide) rfl ?_
        have hL77 : ∀ (K178 : Int32 → ZMem → Option (ZMem)), (∀ (v72 : Int32), ∀ (M73 : ZMem), K178 v72 M73 = some M' → ZW E 178 [(0, .ref (zad E 77)), (1, .int v50), (2, .int v52), (3, .int v54), (4, .int v72)] [] M73) → ∀ (n77 : Nat), ∀ (v69 : Int32), ∀ (v70 : Int32), ∀ (M71 : ZMem), zf_X10_readMember_L77 n K178 n77 v69 v70 M71 = some M' → ZW E 77 [(0, .ref (zad E 77)), (1, .int v50), (2, .int v52), (3, .int v54), (4, .int v69), (5, .int v70)] [] M71 := by
          intro K178 hK178
          intro n77
          induction n77 with
          | zero => intro v69 v70 M71 hf; rw [zf_X10_readMember_L77] at hf; cases hf
          | succ n77 ih77 =>
            intro v69 v70 M71 hf
            rw [zf_X10_readMember_L77] at hf
            refine zw_aload_n hC dX10_readMember_77 rfl 0 rfl ?_
            refine zw_geti hC zF_Model_fault zk_77 dX10_readMember_78 kw_5_238 ?_
            refine zw_iconst hC (v := (-1 : Int32)) dX10_readMember_81 (by decide) ?_
            refine zw_icmp_ne hC 178 hf dX10_readMember_82 (by decide) (fun hf => ?_) (fun hf => ?_)
            · exact zw_sub [0, 1, 2, 3, 4] rfl (hK178 v69 M71 hf)
            · refine zw_iload hC dX10_readMember_85 5 rfl ?_
              refine zw_if_eq hC 178 hf dX10_readMember_87 (by decide) (fun hf => ?_) (fun hf => ?_)
              · exact zw_sub [0, 1, 2, 3, 4] rfl (hK178 v69 M71 hf)
              · refine zw_aload_n hC dX10_readMember_90 rfl 0 rfl ?_
                refine zw_geti hC zF_Model_token zk_77 dX10_readMember_91 kw_5_235 ?_
                refine zw_iconst hC (v := (2 : Int32)) dX10_readMember_94 (by decide) ?_
                have hj137 : ∀ (M74 : ZMem), zf_X10_readMember_j137 n (fun x0 x1 x2 => zf_X10_readMember_L77 n K178 n77 x0 x1 x2) v69 M74 = some M' → ZW E 137 [(0, .ref (zad E 77)), (1, .int v50), (2, .int v52), (3, .int v54), (4, .int v69)] [] M74 := by
                  intro M74 hf
                  unfold zf_X10_readMember_j137 at hf
                  refine zw_iload hC dX10_readMember_137 4 rfl ?_
                  refine zw_iconst hC (v := (1 : Int32)) dX10_readMember_139 (by decide) ?_
                  refine zw_aload_n hC dX10_readMember_140 rfl 0 rfl ?_
                  refine zw_iconst hC (v := (0 : Int32)) dX10_readMember_141 (by decide) ?_
                  refine zw_aload_n hC dX10_readMember_142 rfl 0 rfl ?_
                  refine zw_getr (k' := 78) hC zF_Model_now zk_77 rfl dX10_readMember_143 kw_5_227 ?_
                  refine zw_iconst hC (v := (1 : Int32)) dX10_readMember_146 (by decide) ?_
                  refine zw_iald hC hf zk_78 dX10_readMember_147 (fun v75 hf => ?_)
                  refine zw_iconst hC (v := (1 : Int32)) dX10_readMember_148 (by decide) ?_
                  refine zw_isub hC dX10_readMember_149 ?_
                  obtain ⟨v76, M77, hcM77, hf⟩ := zb2_some hf
                  refine zw_cV hC [.int (0 : Int32), .int (v75 - (1 : Int32))] [.int (1 : Int32), .int v69] (st1 := [.int v76, .int (1 : Int32), .int v69]) zm_X10_number (zc_X10_number hcM77) zk_77 rfl kw_6_157 dX10_readMember_150 rfl (by decide) (Nat.le_of_ble_eq_true rfl) rfl rfl ?_
                  refine zw_bipush hC (v := (32 : Int32)) dX10_readMember_153 (by decide) ?_
                  refine zw_iremc hC dX10_readMember_155 (by decide) ?_
                  refine zw_ishl hC dX10_readMember_156 ?_
                  refine zw_ior hC dX10_readMember_157 ?_
                  refine zw_istore hC (lv' := [(4, .int (v69 ||| ((1 : Int32) <<< ((v76 - v76 / (32 : Int32) * (32 : Int32)) &&& 31)))), (0, .ref (zad E 77)), (1, .int v50), (2, .int v52), (3, .int v54)]) dX10_readMember_158 hN (by decide) rfl ?_
                  refine zw_aload_n hC dX10_readMember_160 rfl 1 rfl ?_
                  refine zw_geti hC zF_Model_token zk_77 dX10_readMember_161 kw_5_235 ?_
                  refine zw_iconst hC (v := (2 : Int32)) dX10_readMember_164 (by decide) ?_
                  have hj173 : ∀ (v78 : Int32), zf_X10_readMember_j173 (fun x0 x1 x2 => zf_X10_readMember_L77 n K178 n77 x0 x1 x2) v69 v76 M77 v78 = some M' → ZW E 173 [(0, .ref (zad E 77)), (1, .int v50), (2, .int v52), (3, .int v54), (4, .int (v69 ||| ((1 : Int32) <<< ((v76 - v76 / (32 : Int32) * (32 : Int32)) &&& 31))))] [.int v78] M77 := by
                    intro v78 hf
                    unfold zf_X10_readMember_j173 at hf
                    refine zw_istore hC (lv' := [(5, .int v78), (0, .ref (zad E 77)), (1, .int v50), (2, .int v52), (3, .int v54), (4, .int (v69 ||| ((1 : Int32) <<< ((v76 - v76 / (32 : Int32) * (32 : Int32)) &&& 31))))]) dX10_readMember_173 hN (by decide) rfl ?_
                    refine zw_goto hC 77 dX10_readMember_175 (by decide) ?_
                    exact zw_sub [1, 2, 3, 4, 5, 0] rfl (ih77 (v69 ||| ((1 : Int32) <<< ((v76 - v76 / (32 : Int32) * (32 : Int32)) &&& 31))) v78 M77 hf)
                  refine zw_icmp_ne hC 172 hf dX10_readMember_165 (by decide) (fun hf => ?_) (fun hf => ?_)
                  · refine zw_iconst hC (v := (0 : Int32)) dX10_readMember_172 (by decide) ?_
                    exact zw_sub [1, 2, 3, 4, 0] rfl (hj173 (0 : Int32) hf)
                  · refine zw_iconst hC (v := (1 : Int32)) dX10_readMember_168 (by decide) ?_
                    refine zw_goto hC 173 dX10_readMember_169 (by decide) ?_
                    exact zw_sub [1, 2, 3, 4, 0] rfl (hj173 (1 : Int32) hf)
                refine zw_icmp_ne hC 137 hf dX10_readMember_95 (by decide) (fun hf => ?_) (fun hf => ?_)
                · exact zw_sub [0, 1, 2, 3, 4] rfl (hj137 M71 hf)
                · refine zw_aload_n hC dX10_readMember_98 rfl 0 rfl ?_
                  refine zw_geti hC zF_Model_value zk_77 dX10_readMember_99 kw_5_237 ?_
                  refine zw_iconst hC (v := (0 : Int32)) dX10_readMember_102 (by decide) ?_
                  refine zw_aload_n hC dX10_readMember_103 rfl 0 rfl ?_
                  refine zw_getr (k' := 78) hC zF_Model_now zk_77 rfl dX10_readMember_104 kw_5_227 ?_
                  refine zw_iconst hC (v := (1 : Int32)) dX10_readMember_107 (by decide) ?_
                  refine zw_iald hC hf zk_78 dX10_readMember_108 (fun v79 hf => ?_)
                  refine zw_iconst hC (v := (1 : Int32)) dX10_readMember_109 (by decide) ?_
                  refine zw_isub hC dX10_readMember_110 ?_
                  obtain ⟨v80, hc80, hf⟩ := zb1_some hf
                  refine zw_cS hC [.int (M71 77 11), .int (0 : Int32), .int (v79 - (1 : Int32))] [] (st1 := [.int v80]) zm_X10_isIn (zc_X10_isIn hc80) kw_6_106 dX10_readMember_111 rfl (by decide) (Nat.le_of_ble_eq_true rfl) rfl rfl ?_
                  refine zw_if_eq hC 137 hf dX10_readMember_114 (by decide) (fun hf => ?_) (fun hf => ?_)
                  · exact zw_sub [0, 1, 2, 3, 4] rfl (hj137 M71 hf)
                  · refine zw_iload hC dX10_readMember_117 4 rfl ?_
                    refine zw_aload_n hC dX10_readMember_119 rfl 0 rfl ?_
                    refine zw_geti hC zF_Model_value zk_77 dX10_readMember_120 kw_5_237 ?_
                    obtain ⟨v81, hc81, hf⟩ := zb1_some hf
                    refine zw_cS hC [.int v69, .int (M71 77 11)] [] (st1 := [.int v81]) zm_X10_has (zc_X10_has hc81) kw_6_150 dX10_readMember_123 rfl (by decide) (Nat.le_of_ble_eq_true rfl) rfl rfl ?_
                    refine zw_if_eq hC 137 hf dX10_readMember_126 (by decide) (fun hf => ?_) (fun hf => ?_)
                    · exact zw_sub [0, 1, 2, 3, 4] rfl (hj137 M71 hf)
                    · refine zw_aload_n hC dX10_readMember_129 rfl 0 rfl ?_
                      refine zw_aload_n hC dX10_readMember_130 rfl 0 rfl ?_
                      refine zw_geti hC zF_Model_from zk_77 dX10_readMember_131 kw_5_236 ?_
                      obtain ⟨M82, hcM82, hf⟩ := zb1_some hf
                      refine zw_cV hC [.int (M71 77 10)] [] (st1 := []) zm_X10_wrong (zc_X10_wrong hcM82) zk_77 rfl kw_6_125 dX10_readMember_134 rfl (by decide) (Nat.le_of_ble_eq_true rfl) rfl rfl ?_
                      exact zw_sub [0, 1, 2, 3, 4] rfl (hj137 M82 hf)
        refine zw_sub [5, 4, 3, 2, 1, 0] rfl (hL77 _ ?_ n (0 : Int32) (1 : Int32) M68 hf)
        · intro v83 M84 hf
          exact hj178 v83 M84 hf
  refine zw_icmp_ne hC 19 hf dX10_readMember_8 (by decide) (fun hf => ?_) (fun hf => ?_)
  · exact hj19 M hf
  · refine zw_aload_n hC dX10_readMember_11 rfl 0 rfl ?_
    refine zw_aload_n hC dX10_readMember_12 rfl 0 rfl ?_
    refine zw_geti hC zF_Model_from zk_77 dX10_readMember_13 kw_5_236 ?_
    obtain ⟨M85, hcM85, hf⟩ := zb1_some hf
    refine zw_cV hC [.int (M 77 10)] [] (st1 := []) zm_X10_wrong (zc_X10_wrong hcM85) zk_77 rfl kw_6_125 dX10_readMember_16 rfl (by decide) (Nat.le_of_ble_eq_true rfl) rfl rfl ?_
    exact hj19 M85 hf
/-! ClassOfManyModel.readChannel()V -/
theorem dX10_readChannel_0 : decode cX10_readChannel 0 = .ok (.aload_n 0, 1) := by decide +kernel
theorem dX10_readChannel_1 : decode cX10_readChannel 1 = .ok (.getfield 7, 3) := by decide +kernel
theorem dX10_readChannel_4 : decode cX10_readChannel 4 = .ok (.iconst 1, 1) := by decide +kernel
theorem dX10_readChannel_5 : decode cX10_readChannel 5 = .ok (.iaload, 1) := by decide +kernel
theorem dX10_readChannel_6 : decode cX10_readChannel 6 = .ok (.iconst 4, 1) := by decide +kernel
theorem dX10_readChannel_7 : decode cX10_readChannel 7 = .ok (.if_icmp .ne 11, 3) := by decide +kernel
theorem dX10_readChannel_10 : decode cX10_readChannel 10 = .ok (.aload_n 0, 1) := by decide +kernel
theorem dX10_readChannel_11 : decode cX10_readChannel 11 = .ok (.aload_n 0, 1) := by decide +kernel
theorem dX10_readChannel_12 : decode cX10_readChannel 12 = .ok (.getfield 81, 3) := by decide +kernel
theorem dX10_readChannel_15 : decode cX10_readChannel 15 = .ok (.invokevirtual 94, 3) := by decide +kernel
theorem dX10_readChannel_18 : decode cX10_readChannel 18 = .ok (.aload_n 0, 1) := by decide +kernel
theorem dX10_readChannel_19 : decode cX10_readChannel 19 = .ok (.iconst 5, 1) := by decide +kernel
theorem dX10_readChannel_20 : decode cX10_readChannel 20 = .ok (.invokevirtual 122, 3) := by decide +kernel
theorem dX10_readChannel_23 : decode cX10_readChannel 23 = .ok (.aload_n 0, 1) := by decide +kernel
theorem dX10_readChannel_24 : decode cX10_readChannel 24 = .ok (.iconst 0, 1) := by decide +kernel
theorem dX10_readChannel_25 : decode cX10_readChannel 25 = .ok (.bipush 99, 2) := by decide +kernel
theorem dX10_readChannel_27 : decode cX10_readChannel 27 = .ok (.invokevirtual 125, 3) := by decide +kernel
theorem dX10_readChannel_30 : decode cX10_readChannel 30 = .ok (.istore_n 1, 1) := by decide +kernel
theorem dX10_readChannel_31 : decode cX10_readChannel 31 = .ok (.aload_n 0, 1) := by decide +kernel
theorem dX10_readChannel_32 : decode cX10_readChannel 32 = .ok (.iconst 1, 1) := by decide +kernel
theorem dX10_readChannel_33 : decode cX10_readChannel 33 = .ok (.bipush 30, 2) := by decide +kernel
theorem dX10_readChannel_35 : decode cX10_readChannel 35 = .ok (.invokevirtual 125, 3) := by decide +kernel
theorem dX10_readChannel_38 : decode cX10_readChannel 38 = .ok (.istore_n 2, 1) := by decide +kernel
theorem dX10_readChannel_39 : decode cX10_readChannel 39 = .ok (.aload_n 0, 1) := by decide +kernel
theorem dX10_readChannel_40 : decode cX10_readChannel 40 = .ok (.invokevirtual 135, 3) := by decide +kernel
theorem dX10_readChannel_43 : decode cX10_readChannel 43 = .ok (.aload_n 0, 1) := by decide +kernel
theorem dX10_readChannel_44 : decode cX10_readChannel 44 = .ok (.getfield 75, 3) := by decide +kernel
theorem dX10_readChannel_47 : decode cX10_readChannel 47 = .ok (.iconst (-1), 1) := by decide +kernel
theorem dX10_readChannel_48 : decode cX10_readChannel 48 = .ok (.if_icmp .ne 43, 3) := by decide +kernel
theorem dX10_readChannel_51 : decode cX10_readChannel 51 = .ok (.aload_n 0, 1) := by decide +kernel
theorem dX10_readChannel_52 : decode cX10_readChannel 52 = .ok (.getfield 7, 3) := by decide +kernel
theorem dX10_readChannel_55 : decode cX10_readChannel 55 = .ok (.bipush 55, 2) := by decide +kernel
theorem dX10_readChannel_57 : decode cX10_readChannel 57 = .ok (.aload_n 0, 1) := by decide +kernel
theorem dX10_readChannel_58 : decode cX10_readChannel 58 = .ok (.getfield 7, 3) := by decide +kernel
theorem dX10_readChannel_61 : decode cX10_readChannel 61 = .ok (.iconst 1, 1) := by decide +kernel
theorem dX10_readChannel_62 : decode cX10_readChannel 62 = .ok (.iaload, 1) := by decide +kernel
theorem dX10_readChannel_63 : decode cX10_readChannel 63 = .ok (.iadd, 1) := by decide +kernel
theorem dX10_readChannel_64 : decode cX10_readChannel 64 = .ok (.iload_n 1, 1) := by decide +kernel
theorem dX10_readChannel_65 : decode cX10_readChannel 65 = .ok (.iastore, 1) := by decide +kernel
theorem dX10_readChannel_66 : decode cX10_readChannel 66 = .ok (.aload_n 0, 1) := by decide +kernel
theorem dX10_readChannel_67 : decode cX10_readChannel 67 = .ok (.getfield 7, 3) := by decide +kernel
theorem dX10_readChannel_70 : decode cX10_readChannel 70 = .ok (.bipush 59, 2) := by decide +kernel
theorem dX10_readChannel_72 : decode cX10_readChannel 72 = .ok (.aload_n 0, 1) := by decide +kernel
theorem dX10_readChannel_73 : decode cX10_readChannel 73 = .ok (.getfield 7, 3) := by decide +kernel
theorem dX10_readChannel_76 : decode cX10_readChannel 76 = .ok (.iconst 1, 1) := by decide +kernel
theorem dX10_readChannel_77 : decode cX10_readChannel 77 = .ok (.iaload, 1) := by decide +kernel
theorem dX10_readChannel_78 : decode cX10_readChannel 78 = .ok (.iadd, 1) := by decide +kernel
theorem dX10_readChannel_79 : decode cX10_readChannel 79 = .ok (.iload_n 2, 1) := by decide +kernel
theorem dX10_readChannel_80 : decode cX10_readChannel 80 = .ok (.iastore, 1) := by decide +kernel
theorem dX10_readChannel_81 : decode cX10_readChannel 81 = .ok (.aload_n 0, 1) := by decide +kernel
theorem dX10_readChannel_82 : decode cX10_readChannel 82 = .ok (.getfield 7, 3) := by decide +kernel
theorem dX10_readChannel_85 : decode cX10_readChannel 85 = .ok (.iconst 1, 1) := by decide +kernel
theorem dX10_readChannel_86 : decode cX10_readChannel 86 = .ok (.dup2, 1) := by decide +kernel
theorem dX10_readChannel_87 : decode cX10_readChannel 87 = .ok (.iaload, 1) := by decide +kernel
theorem dX10_readChannel_88 : decode cX10_readChannel 88 = .ok (.iconst 1, 1) := by decide +kernel
theorem dX10_readChannel_89 : decode cX10_readChannel 89 = .ok (.iadd, 1) := by decide +kernel
theorem dX10_readChannel_90 : decode cX10_readChannel 90 = .ok (.iastore, 1) := by decide +kernel
theorem dX10_readChannel_91 : decode cX10_readChannel 91 = .ok (.return_, 1) := by decide +kernel
theorem zm_X10_readChannel : ZMv "ClassOfManyModel" yX10_readChannel cX10_readChannel 3 (none) 0 := ⟨kw_6_181, kw_6_180, kp_71, kw_1_10, by decide +kernel, by decide⟩
def zf_X10_readChannel_j91 (M43 : ZMem) : Option (ZMem) :=
  some M43
def zf_X10_readChannel_j18 (n : Nat) (M36 : ZMem) : Option (ZMem) :=
  zb1 (zf_X10_begins n (5 : Int32) M36) (fun M37 => zb2 (zf_X10_number n (0 : Int32) (99 : Int32) M37) (fun v38 M39 => zb2 (zf_X10_number n (1 : Int32) (30 : Int32) M39) (fun v40 M41 => zb1 (zf_X10_closes n M41) (fun M42 => (if (M42 77 12) = (-1 : Int32) then zrd M42 78 73 (1 : Int32) (fun v44 => zst M42 78 73 ((55 : Int32) + v44) v38 (fun M45 => zrd M45 78 73 (1 : Int32) (fun v46 => zst M45 78 73 ((59 : Int32) + v46) v40 (fun M47 => zrd M47 78 73 (1 : Int32) (fun v48 => zst M47 78 73 (1 : Int32) (v48 + (1 : Int32)) (fun M49 => (zf_X10_readChannel_j91 M49))))))) else (zf_X10_readChannel_j91 M42))))))
def zf_X10_readChannel (n : Nat) (M : ZMem) : Option (ZMem) :=
  zrd M 78 73 (1 : Int32) (fun v35 => (if v35 = (4 : Int32) then zb1 (zf_X10_wrong (M 77 10) M) (fun M50 => (zf_X10_readChannel_j18 n M50)) else (zf_X10_readChannel_j18 n M)))
set_option maxHeartbeats 4000000 in
set_option maxRecDepth 100000 in
theorem zc_X10_readChannel {l : Launch} {D : va_G} {ad : Nat → Nat} {cA : Nat → ClassId} {n : Nat} {M : ZMem} {M' : ZMem} (hf : zf_X10_readChannel n M = some M') : ZCt l D ad cA yX10_readChannel cX10_readChannel 3 (none) 5 [.ref (ad 77)] M none M' := by
  refine zct (by decide +kernel) (Nat.le_of_ble_eq_true rfl) (lv := [(0, .ref (ad 77))]) rfl (fun E hl hD had hcA hN hC hR => ?_)
  subst hl; subst hD; subst had; subst hcA
  unfold zf_X10_readChannel at hf
  refine zw_aload_n hC dX10_readChannel_0 rfl 0 rfl ?_
  refine zw_getr (k' := 78) hC zF_Model_now zk_77 rfl dX10_readChannel_1 kw_5_227 ?_
  refine zw_iconst hC (v := (1 : Int32)) dX10_readChannel_4 (by decide) ?_
  refine zw_iald hC hf zk_78 dX10_readChannel_5 (fun v35 hf => ?_)
  refine zw_iconst hC (v := (4 : Int32)) dX10_readChannel_6 (by decide) ?_
  have hj18 : ∀ (M36 : ZMem), zf_X10_readChannel_j18 n M36 = some M' → ZW E 18 [(0, .ref (zad E 77))] [] M36 := by
    intro M36 hf
    unfold zf_X10_readChannel_j18 at hf
    refine zw_aload_n hC dX10_readChannel_18 rfl 0 rfl ?_
    refine zw_iconst hC (v := (5 : Int32)) dX10_readChannel_19 (by decide) ?_
    obtain ⟨M37, hcM37, hf⟩ := zb1_some hf
    refine zw_cV hC [.int (5 : Int32)] [] (st1 := []) zm_X10_begins (zc_X10_begins hcM37) zk_77 rfl kw_6_153 dX10_readChannel_20 rfl (by decide) (Nat.le_of_ble_eq_true rfl) rfl rfl ?_
    refine zw_aload_n hC dX10_readChannel_23 rfl 0 rfl ?_
    refine zw_iconst hC (v := (0 : Int32)) dX10_readChannel_24 (by decide) ?_
    refine zw_bipush hC (v := (99 : Int32)) dX10_readChannel_25 (by decide) ?_
    obtain ⟨v38, M39, hcM39, hf⟩ := zb2_some hf
    refine zw_cV hC [.int (0 : Int32), .int (99 : Int32)] [] (st1 := [.int v38]) zm_X10_number (zc_X10_number hcM39) zk_77 rfl kw_6_157 dX10_readChannel_27 rfl (by decide) (Nat.le_of_ble_eq_true rfl) rfl rfl ?_
    refine zw_istore_n hC (lv' := [(1, .int v38), (0, .ref (zad E 77))]) dX10_readChannel_30 rfl hN (by decide) rfl ?_
    refine zw_aload_n hC dX10_readChannel_31 rfl 1 rfl ?_
    refine zw_iconst hC (v := (1 : Int32)) dX10_readChannel_32 (by decide) ?_
    refine zw_bipush hC (v := (30 : Int32)) dX10_readChannel_33 (by decide) ?_
    obtain ⟨v40, M41, hcM41, hf⟩ := zb2_some hf
    refine zw_cV hC [.int (1 : Int32), .int (30 : Int32)] [] (st1 := [.int v40]) zm_X10_number (zc_X10_number hcM41) zk_77 rfl kw_6_157 dX10_readChannel_35 rfl (by decide) (Nat.le_of_ble_eq_true rfl) rfl rfl ?_
    refine zw_istore_n hC (lv' := [(2, .int v40), (1, .int v38), (0, .ref (zad E 77))]) dX10_readChannel_38 rfl hN (by decide) rfl ?_
    refine zw_aload_n hC dX10_readChannel_39 rfl 2 rfl ?_
    obtain ⟨M42, hcM42, hf⟩ := zb1_some hf
    refine zw_cV hC [] [] (st1 := []) zm_X10_closes (zc_X10_closes hcM42) zk_77 rfl kw_6_165 dX10_readChannel_40 rfl (by decide) (Nat.le_of_ble_eq_true rfl) rfl rfl ?_
    refine zw_aload_n hC dX10_readChannel_43 rfl 2 rfl ?_
    refine zw_geti hC zF_Model_fault zk_77 dX10_readChannel_44 kw_5_238 ?_
    refine zw_iconst hC (v := (-1 : Int32)) dX10_readChannel_47 (by decide) ?_
    have hj91 : ∀ (M43 : ZMem), zf_X10_readChannel_j91 M43 = some M' → ZW E 91 [] [] M43 := by
      intro M43 hf
      unfold zf_X10_readChannel_j91 at hf
      have h1 := Option.some.inj hf
      subst h1
      exact zw_vret hC hR dX10_readChannel_91
    refine zw_icmp_ne hC 91 hf dX10_readChannel_48 (by decide) (fun hf => ?_) (fun hf => ?_)
    · exact zw_sub [] rfl (hj91 M42 hf)
    · refine zw_aload_n hC dX10_readChannel_51 rfl 2 rfl ?_
      refine zw_getr (k' := 78) hC zF_Model_now zk_77 rfl dX10_readChannel_52 kw_5_227 ?_
      refine zw_bipush hC (v := (55 : Int32)) dX10_readChannel_55 (by decide) ?_
      refine zw_aload_n hC dX10_readChannel_57 rfl 2 rfl ?_
      refine zw_getr (k' := 78) hC zF_Model_now zk_77 rfl dX10_readChannel_58 kw_5_227 ?_
      refine zw_iconst hC (v := (1 : Int32)) dX10_readChannel_61 (by decide) ?_
      refine zw_iald hC hf zk_78 dX10_readChannel_62 (fun v44 hf => ?_)
      refine zw_iadd hC dX10_readChannel_63 ?_
      refine zw_iload_n hC dX10_readChannel_64 rfl 1 rfl ?_
      refine zw_iast hC hf zk_78 dX10_readChannel_65 (fun M45 hf => ?_)
      refine zw_aload_n hC dX10_readChannel_66 rfl 2 rfl ?_
      refine zw_getr (k' := 78) hC zF_Model_now zk_77 rfl dX10_readChannel_67 kw_5_227 ?_
      refine zw_bipush hC (v := (59 : Int32)) dX10_readChannel_70 (by decide) ?_
      refine zw_aload_n hC dX10_readChannel_72 rfl 2 rfl ?_
      refine zw_getr (k' := 78) hC zF_Model_now zk_77 rfl dX10_readChannel_73 kw_5_227 ?_
      refine zw_iconst hC (v := (1 : Int32)) dX10_readChannel_76 (by decide) ?_
      refine zw_iald hC hf zk_78 dX10_readChannel_77 (fun v46 hf => ?_)
      refine zw_iadd hC dX10_readChannel_78 ?_
      refine zw_iload_n hC dX10_readChannel_79 rfl 0 rfl ?_
      refine zw_iast hC hf zk_78 dX10_readChannel_80 (fun M47 hf => ?_)
      refine zw_aload_n hC dX10_readChannel_81 rfl 2 rfl ?_
      refine zw_getr (k' := 78) hC zF_Model_now zk_77 rfl dX10_readChannel_82 kw_5_227 ?_
      refine zw_iconst hC (v := (1 : Int32)) dX10_readChannel_85 (by decide) ?_
      refine zw_dup2 hC dX10_readChannel_86 rfl rfl ?_
      refine zw_iald hC hf zk_78 dX10_readChannel_87 (fun v48 hf => ?_)
      refine zw_iconst hC (v := (1 : Int32)) dX10_readChannel_88 (by decide) ?_
      refine zw_iadd hC dX10_readChannel_89 ?_
      refine zw_iast hC hf zk_78 dX10_readChannel_90 (fun M49 hf => ?_)
      exact zw_sub [] rfl (hj91 M49 hf)
  refine zw_icmp_ne hC 18 hf dX10_readChannel_7 (by decide) (fun hf => ?_) (fun hf => ?_)
  · exact hj18 M hf
  · refine zw_aload_n hC dX10_readChannel_10 rfl 0 rfl ?_
    refine zw_aload_n hC dX10_readChannel_11 rfl 0 rfl ?_
    refine zw_geti hC zF_Model_from zk_77 dX10_readChannel_12 kw_5_236 ?_
    obtain ⟨M50, hcM50, hf⟩ := zb1_some hf
    refine zw_cV hC [.int (M 77 10)] [] (st1 := []) zm_X10_wrong (zc_X10_wrong hcM50) zk_77 rfl kw_6_125 dX10_readChannel_15 rfl (by decide) (Nat.le_of_ble_eq_true rfl) rfl rfl ?_
    exact hj18 M50 hf
/-! ClassOfManyModel.quarrels(II)V -/
theorem dX10_quarrels_0 : decode cX10_quarrels 0 = .ok (.aload_n 0, 1) := by decide +kernel
theorem dX10_quarrels_1 : decode cX10_quarrels 1 = .ok (.getfield 7, 3) := by decide +kernel
theorem dX10_quarrels_4 : decode cX10_quarrels 4 = .ok (.bipush 63, 2) := by decide +kernel
theorem dX10_quarrels_6 : decode cX10_quarrels 6 = .ok (.iload_n 1, 1) := by decide +kernel
theorem dX10_quarrels_7 : decode cX10_quarrels 7 = .ok (.iadd, 1) := by decide +kernel
theorem dX10_quarrels_8 : decode cX10_quarrels 8 = .ok (.dup2, 1) := by decide +kernel
theorem dX10_quarrels_9 : decode cX10_quarrels 9 = .ok (.iaload, 1) := by decide +kernel
theorem dX10_quarrels_10 : decode cX10_quarrels 10 = .ok (.iconst 1, 1) := by decide +kernel
theorem dX10_quarrels_11 : decode cX10_quarrels 11 = .ok (.iload_n 2, 1) := by decide +kernel
theorem dX10_quarrels_12 : decode cX10_quarrels 12 = .ok (.ishl, 1) := by decide +kernel
theorem dX10_quarrels_13 : decode cX10_quarrels 13 = .ok (.ixor, 1) := by decide +kernel
theorem dX10_quarrels_14 : decode cX10_quarrels 14 = .ok (.iastore, 1) := by decide +kernel
theorem dX10_quarrels_15 : decode cX10_quarrels 15 = .ok (.aload_n 0, 1) := by decide +kernel
theorem dX10_quarrels_16 : decode cX10_quarrels 16 = .ok (.getfield 7, 3) := by decide +kernel
theorem dX10_quarrels_19 : decode cX10_quarrels 19 = .ok (.bipush 63, 2) := by decide +kernel
theorem dX10_quarrels_21 : decode cX10_quarrels 21 = .ok (.iload_n 2, 1) := by decide +kernel
theorem dX10_quarrels_22 : decode cX10_quarrels 22 = .ok (.iadd, 1) := by decide +kernel
theorem dX10_quarrels_23 : decode cX10_quarrels 23 = .ok (.dup2, 1) := by decide +kernel
theorem dX10_quarrels_24 : decode cX10_quarrels 24 = .ok (.iaload, 1) := by decide +kernel
theorem dX10_quarrels_25 : decode cX10_quarrels 25 = .ok (.iconst 1, 1) := by decide +kernel
theorem dX10_quarrels_26 : decode cX10_quarrels 26 = .ok (.iload_n 1, 1) := by decide +kernel
theorem dX10_quarrels_27 : decode cX10_quarrels 27 = .ok (.ishl, 1) := by decide +kernel
theorem dX10_quarrels_28 : decode cX10_quarrels 28 = .ok (.ixor, 1) := by decide +kernel
theorem dX10_quarrels_29 : decode cX10_quarrels 29 = .ok (.iastore, 1) := by decide +kernel
theorem dX10_quarrels_30 : decode cX10_quarrels 30 = .ok (.return_, 1) := by decide +kernel
theorem zm_X10_quarrels : ZMv "ClassOfManyModel" yX10_quarrels cX10_quarrels 3 (none) 2 := ⟨kw_6_196, kw_6_195, kp_74, kw_1_10, by decide +kernel, by decide⟩
def zf_X10_quarrels (a1 : Int32) (a2 : Int32) (M : ZMem) : Option (ZMem) :=
  zrd M 78 73 ((63 : Int32) + a1) (fun v25 => zst M 78 73 ((63 : Int32) + a1) (v25 ^^^ ((1 : Int32) <<< (a2 &&& 31))) (fun M26 => zrd M26 78 73 ((63 : Int32) + a2) (fun v27 => zst M26 78 73 ((63 : Int32) + a2) (v27 ^^^ ((1 : Int32) <<< (a1 &&& 31))) (fun M28 => some M28))))
set_option maxHeartbeats 4000000 in
set_option maxRecDepth 100000 in
theorem zc_X10_quarrels {l : Launch} {D : va_G} {ad : Nat → Nat} {cA : Nat → ClassId} {a1 : Int32} {a2 : Int32} {M : ZMem} {M' : ZMem} (hf : zf_X10_quarrels a1 a2 M = some M') : ZCt l D ad cA yX10_quarrels cX10_quarrels 3 (none) 1 [.ref (ad 77), .int a1, .int a2] M none M' := by
  refine zct (by decide +kernel) (Nat.le_of_ble_eq_true rfl) (lv := [(0, .ref (ad 77)), (1, .int a1), (2, .int a2)]) rfl (fun E hl hD had hcA hN hC hR => ?_)
  subst hl; subst hD; subst had; subst hcA
  unfold zf_X10_quarrels at hf
  refine zw_aload_n hC dX10_quarrels_0 rfl 0 rfl ?_
  refine zw_getr (k' := 78) hC zF_Model_now zk_77 rfl dX10_quarrels_1 kw_5_227 ?_
  refine zw_bipush hC (v := (63 : Int32)) dX10_quarrels_4 (by decide) ?_
  refine zw_iload_n hC dX10_quarrels_6 rfl 1 rfl ?_
  refine zw_iadd hC dX10_quarrels_7 ?_
  refine zw_dup2 hC dX10_quarrels_8 rfl rfl ?_
  refine zw_iald hC hf zk_78 dX10_quarrels_9 (fun v25 hf => ?_)
  refine zw_iconst hC (v := (1 : Int32)) dX10_quarrels_10 (by decide) ?_
  refine zw_iload_n hC dX10_quarrels_11 rfl 2 rfl ?_
  refine zw_ishl hC dX10_quarrels_12 ?_
  refine zw_ixor hC dX10_quarrels_13 ?_
  refine zw_iast hC hf zk_78 dX10_quarrels_14 (fun M26 hf => ?_)
  refine zw_aload_n hC dX10_quarrels_15 rfl 0 rfl ?_
  refine zw_getr (k' := 78) hC zF_Model_now zk_77 rfl dX10_quarrels_16 kw_5_227 ?_
  refine zw_bipush hC (v := (63 : Int32)) dX10_quarrels_19 (by decide) ?_
  refine zw_iload_n hC dX10_quarrels_21 rfl 2 rfl ?_
  refine zw_iadd hC dX10_quarrels_22 ?_
  refine zw_dup2 hC dX10_quarrels_23 rfl rfl ?_
  refine zw_iald hC hf zk_78 dX10_quarrels_24 (fun v27 hf => ?_)
  refine zw_iconst hC (v := (1 : Int32)) dX10_quarrels_25 (by decide) ?_
  refine zw_iload_n hC dX10_quarrels_26 rfl 1 rfl ?_
  refine zw_ishl hC dX10_quarrels_27 ?_
  refine zw_ixor hC dX10_quarrels_28 ?_
  refine zw_iast hC hf zk_78 dX10_quarrels_29 (fun M28 hf => ?_)
  have h1 := Option.some.inj hf
  subst h1
  exact zw_vret hC hR dX10_quarrels_30
/-! ClassOfManyModel.readConflict()V -/
theorem dX10_readConflict_0 : decode cX10_readConflict 0 = .ok (.aload_n 0, 1) := by decide +kernel
theorem dX10_readConflict_1 : decode cX10_readConflict 1 = .ok (.bipush 7, 2) := by decide +kernel
theorem dX10_readConflict_3 : decode cX10_readConflict 3 = .ok (.invokevirtual 122, 3) := by decide +kernel
theorem dX10_readConflict_6 : decode cX10_readConflict 6 = .ok (.aload_n 0, 1) := by decide +kernel
theorem dX10_readConflict_7 : decode cX10_readConflict 7 = .ok (.iconst 0, 1) := by decide +kernel
theorem dX10_readConflict_8 : decode cX10_readConflict 8 = .ok (.aload_n 0, 1) := by decide +kernel
theorem dX10_readConflict_9 : decode cX10_readConflict 9 = .ok (.getfield 7, 3) := by decide +kernel
theorem dX10_readConflict_12 : decode cX10_readConflict 12 = .ok (.iconst 0, 1) := by decide +kernel
theorem dX10_readConflict_13 : decode cX10_readConflict 13 = .ok (.iaload, 1) := by decide +kernel
theorem dX10_readConflict_14 : decode cX10_readConflict 14 = .ok (.iconst 1, 1) := by decide +kernel
theorem dX10_readConflict_15 : decode cX10_readConflict 15 = .ok (.isub, 1) := by decide +kernel
theorem dX10_readConflict_16 : decode cX10_readConflict 16 = .ok (.invokevirtual 125, 3) := by decide +kernel
theorem dX10_readConflict_19 : decode cX10_readConflict 19 = .ok (.istore_n 1, 1) := by decide +kernel
theorem dX10_readConflict_20 : decode cX10_readConflict 20 = .ok (.aload_n 0, 1) := by decide +kernel
theorem dX10_readConflict_21 : decode cX10_readConflict 21 = .ok (.getfield 75, 3) := by decide +kernel
theorem dX10_readConflict_24 : decode cX10_readConflict 24 = .ok (.iconst (-1), 1) := by decide +kernel
theorem dX10_readConflict_25 : decode cX10_readConflict 25 = .ok (.if_icmp .ne 65, 3) := by decide +kernel
theorem dX10_readConflict_28 : decode cX10_readConflict 28 = .ok (.aload_n 0, 1) := by decide +kernel
theorem dX10_readConflict_29 : decode cX10_readConflict 29 = .ok (.getfield 98, 3) := by decide +kernel
theorem dX10_readConflict_32 : decode cX10_readConflict 32 = .ok (.iconst 2, 1) := by decide +kernel
theorem dX10_readConflict_33 : decode cX10_readConflict 33 = .ok (.if_icmp .ne 57, 3) := by decide +kernel
theorem dX10_readConflict_36 : decode cX10_readConflict 36 = .ok (.aload_n 0, 1) := by decide +kernel
theorem dX10_readConflict_37 : decode cX10_readConflict 37 = .ok (.getfield 84, 3) := by decide +kernel
theorem dX10_readConflict_40 : decode cX10_readConflict 40 = .ok (.iconst 0, 1) := by decide +kernel
theorem dX10_readConflict_41 : decode cX10_readConflict 41 = .ok (.aload_n 0, 1) := by decide +kernel
theorem dX10_readConflict_42 : decode cX10_readConflict 42 = .ok (.getfield 7, 3) := by decide +kernel
theorem dX10_readConflict_45 : decode cX10_readConflict 45 = .ok (.iconst 0, 1) := by decide +kernel
theorem dX10_readConflict_46 : decode cX10_readConflict 46 = .ok (.iaload, 1) := by decide +kernel
theorem dX10_readConflict_47 : decode cX10_readConflict 47 = .ok (.iconst 1, 1) := by decide +kernel
theorem dX10_readConflict_48 : decode cX10_readConflict 48 = .ok (.isub, 1) := by decide +kernel
theorem dX10_readConflict_49 : decode cX10_readConflict 49 = .ok (.invokestatic 65, 3) := by decide +kernel
theorem dX10_readConflict_52 : decode cX10_readConflict 52 = .ok (.ifCond .eq 38, 3) := by decide +kernel
theorem dX10_readConflict_55 : decode cX10_readConflict 55 = .ok (.aload_n 0, 1) := by decide +kernel
theorem dX10_readConflict_56 : decode cX10_readConflict 56 = .ok (.getfield 84, 3) := by decide +kernel
theorem dX10_readConflict_59 : decode cX10_readConflict 59 = .ok (.iload_n 1, 1) := by decide +kernel
theorem dX10_readConflict_60 : decode cX10_readConflict 60 = .ok (.if_icmp .eq 22, 3) := by decide +kernel
theorem dX10_readConflict_63 : decode cX10_readConflict 63 = .ok (.aload_n 0, 1) := by decide +kernel
theorem dX10_readConflict_64 : decode cX10_readConflict 64 = .ok (.getfield 7, 3) := by decide +kernel
theorem dX10_readConflict_67 : decode cX10_readConflict 67 = .ok (.bipush 63, 2) := by decide +kernel
theorem dX10_readConflict_69 : decode cX10_readConflict 69 = .ok (.iload_n 1, 1) := by decide +kernel
theorem dX10_readConflict_70 : decode cX10_readConflict 70 = .ok (.iadd, 1) := by decide +kernel
theorem dX10_readConflict_71 : decode cX10_readConflict 71 = .ok (.iaload, 1) := by decide +kernel
theorem dX10_readConflict_72 : decode cX10_readConflict 72 = .ok (.aload_n 0, 1) := by decide +kernel
theorem dX10_readConflict_73 : decode cX10_readConflict 73 = .ok (.getfield 84, 3) := by decide +kernel
theorem dX10_readConflict_76 : decode cX10_readConflict 76 = .ok (.invokestatic 118, 3) := by decide +kernel
theorem dX10_readConflict_79 : decode cX10_readConflict 79 = .ok (.ifCond .eq 11, 3) := by decide +kernel
theorem dX10_readConflict_82 : decode cX10_readConflict 82 = .ok (.aload_n 0, 1) := by decide +kernel
theorem dX10_readConflict_83 : decode cX10_readConflict 83 = .ok (.aload_n 0, 1) := by decide +kernel
theorem dX10_readConflict_84 : decode cX10_readConflict 84 = .ok (.getfield 81, 3) := by decide +kernel
theorem dX10_readConflict_87 : decode cX10_readConflict 87 = .ok (.invokevirtual 94, 3) := by decide +kernel
theorem dX10_readConflict_90 : decode cX10_readConflict 90 = .ok (.aload_n 0, 1) := by decide +kernel
theorem dX10_readConflict_91 : decode cX10_readConflict 91 = .ok (.iconst 0, 1) := by decide +kernel
theorem dX10_readConflict_92 : decode cX10_readConflict 92 = .ok (.aload_n 0, 1) := by decide +kernel
theorem dX10_readConflict_93 : decode cX10_readConflict 93 = .ok (.getfield 7, 3) := by decide +kernel
theorem dX10_readConflict_96 : decode cX10_readConflict 96 = .ok (.iconst 0, 1) := by decide +kernel
theorem dX10_readConflict_97 : decode cX10_readConflict 97 = .ok (.iaload, 1) := by decide +kernel
theorem dX10_readConflict_98 : decode cX10_readConflict 98 = .ok (.iconst 1, 1) := by decide +kernel
theorem dX10_readConflict_99 : decode cX10_readConflict 99 = .ok (.isub, 1) := by decide +kernel
theorem dX10_readConflict_100 : decode cX10_readConflict 100 = .ok (.invokevirtual 125, 3) := by decide +kernel
theorem dX10_readConflict_103 : decode cX10_readConflict 103 = .ok (.istore_n 2, 1) := by decide +kernel
theorem dX10_readConflict_104 : decode cX10_readConflict 104 = .ok (.aload_n 0, 1) := by decide +kernel
theorem dX10_readConflict_105 : decode cX10_readConflict 105 = .ok (.invokevirtual 135, 3) := by decide +kernel
theorem dX10_readConflict_108 : decode cX10_readConflict 108 = .ok (.aload_n 0, 1) := by decide +kernel
theorem dX10_readConflict_109 : decode cX10_readConflict 109 = .ok (.getfield 75, 3) := by decide +kernel
theorem dX10_readConflict_112 : decode cX10_readConflict 112 = .ok (.iconst (-1), 1) := by decide +kernel
theorem dX10_readConflict_113 : decode cX10_readConflict 113 = .ok (.if_icmp .ne 9, 3) := by decide +kernel
theorem dX10_readConflict_116 : decode cX10_readConflict 116 = .ok (.aload_n 0, 1) := by decide +kernel
theorem dX10_readConflict_117 : decode cX10_readConflict 117 = .ok (.iload_n 1, 1) := by decide +kernel
theorem dX10_readConflict_118 : decode cX10_readConflict 118 = .ok (.iload_n 2, 1) := by decide +kernel
theorem dX10_readConflict_119 : decode cX10_readConflict 119 = .ok (.invokevirtual 138, 3) := by decide +kernel
theorem dX10_readConflict_122 : decode cX10_readConflict 122 = .ok (.return_, 1) := by decide +kernel
theorem zm_X10_readConflict : ZMv "ClassOfManyModel" yX10_readConflict cX10_readConflict 3 (none) 0 := ⟨kw_6_192, kw_6_191, kp_73, kw_1_10, by decide +kernel, by decide⟩
def zf_X10_readConflict_j122 (M44 : ZMem) : Option (ZMem) :=
  some M44
def zf_X10_readConflict_j90 (n : Nat) (v37 : Int32) (M39 : ZMem) : Option (ZMem) :=
  zrd M39 78 73 (0 : Int32) (fun v40 => zb2 (zf_X10_number n (0 : Int32) (v40 - (1 : Int32)) M39) (fun v41 M42 => zb1 (zf_X10_closes n M42) (fun M43 => (if (M43 77 12) = (-1 : Int32) then zb1 (zf_X10_quarrels v37 v41 M43) (fun M45 => (zf_X10_readConflict_j122 M45)) else (zf_X10_readConflict_j122 M43)))))
def zf_X10_readConflict_j82 (M38 : ZMem) (n : Nat) (v37 : Int32) : Option (ZMem) :=
  zb1 (zf_X10_wrong (M38 77 10) M38) (fun M48 => (zf_X10_readConflict_j90 n v37 M48))
def zf_X10_readConflict (n : Nat) (M : ZMem) : Option (ZMem) :=
  zb1 (zf_X10_begins n (7 : Int32) M) (fun M35 => zrd M35 78 73 (0 : Int32) (fun v36 => zb2 (zf_X10_number n (0 : Int32) (v36 - (1 : Int32)) M35) (fun v37 M38 => (if (M38 77 12) = (-1 : Int32) then (if (M38 77 9) = (2 : Int32) then zrd M38 78 73 (0 : Int32) (fun v46 => zb1 (zf_X10_isIn (M38 77 11) (0 : Int32) (v46 - (1 : Int32))) (fun v47 => (if v47 = 0 then (zf_X10_readConflict_j90 n v37 M38) else (if (M38 77 11) = v37 then (zf_X10_readConflict_j82 M38 n v37) else zrd M38 78 73 ((63 : Int32) + v37) (fun v49 => zb1 (zf_X10_has v49 (M38 77 11)) (fun v50 => (if v50 = 0 then (zf_X10_readConflict_j90 n v37 M38) else (zf_X10_readConflict_j82 M38 n v37)))))))) else (zf_X10_readConflict_j90 n v37 M38)) else (zf_X10_readConflict_j90 n v37 M38)))))
set_option maxHeartbeats 4000000 in
set_option maxRecDepth 100000 in
theorem zc_X10_readConflict {l : Launch} {D : va_G} {ad : Nat → Nat} {cA : Nat → ClassId} {n : Nat} {M : ZMem} {M' : ZMem} (hf : zf_X10_readConflict n M = some M') : ZCt l D ad cA yX10_readConflict cX10_readConflict 3 (none) 5 [.ref (ad 77)] M none M' := by
  refine zct (by decide +kernel) (Nat.le_of_ble_eq_true rfl) (lv := [(0, .ref (ad 77))]) rfl (fun E hl hD had hcA hN hC hR => ?_)
  subst hl; subst hD; subst had; subst hcA
  unfold zf_X10_readConflict at hf
  refine zw_aload_n hC dX10_readConflict_0 rfl 0 rfl ?_
  refine zw_bipush hC (v := (7 : Int32)) dX10_readConflict_1 (by decide) ?_
  obtain ⟨M35, hcM35, hf⟩ := zb1_some hf
  refine zw_cV hC [.int (7 : Int32)] [] (st1 := []) zm_X10_begins (zc_X10_begins hcM35) zk_77 rfl kw_6_153 dX10_readConflict_3 rfl (by decide) (Nat.le_of_ble_eq_true rfl) rfl rfl ?_
  refine zw_aload_n hC dX10_readConflict_6 rfl 0 rfl ?_
  refine zw_iconst hC (v := (0 : Int32)) dX10_readConflict_7 (by decide) ?_
  refine zw_aload_n hC dX10_readConflict_8 rfl 0 rfl ?_
  refine zw_getr (k' := 78) hC zF_Model_now zk_77 rfl dX10_readConflict_9 kw_5_227 ?_
  refine zw_iconst hC (v := (0 : Int32)) dX10_readConflict_12 (by decide) ?_
  refine zw_iald hC hf zk_78 dX10_readConflict_13 (fun v36 hf => ?_)
  refine zw_iconst hC (v := (1 : Int32)) dX10_readConflict_14 (by decide) ?_
  refine zw_isub hC dX10_readConflict_15 ?_
  obtain ⟨v37, M38, hcM38, hf⟩ := zb2_some hf
  refine zw_cV hC [.int (0 : Int32), .int (v36 - (1 : Int32))] [] (st1 := [.int v37]) zm_X10_number (zc_X10_number hcM38) zk_77 rfl kw_6_157 dX10_readConflict_16 rfl (by decide) (Nat.le_of_ble_eq_true rfl) rfl rfl ?_
  refine zw_istore_n hC (lv' := [(1, .int v37), (0, .ref (zad E 77))]) dX10_readConflict_19 rfl hN (by decide) rfl ?_
  refine zw_aload_n hC dX10_readConflict_20 rfl 1 rfl ?_
  refine zw_geti hC zF_Model_fault zk_77 dX10_readConflict_21 kw_5_238 ?_
  refine zw_iconst hC (v := (-1 : Int32)) dX10_readConflict_24 (by decide) ?_
  have hj90 : ∀ (M39 : ZMem), zf_X10_readConflict_j90 n v37 M39 = some M' → ZW E 90 [(0, .ref (zad E 77)), (1, .int v37)] [] M39 := by
    intro M39 hf
    unfold zf_X10_readConflict_j90 at hf
    refine zw_aload_n hC dX10_readConflict_90 rfl 0 rfl ?_
    refine zw_iconst hC (v := (0 : Int32)) dX10_readConflict_91 (by decide) ?_
    refine zw_aload_n hC dX10_readConflict_92 rfl 0 rfl ?_
    refine zw_getr (k' := 78) hC zF_Model_now zk_77 rfl dX10_readConflict_93 kw_5_227 ?_
    refine zw_iconst hC (v := (0 : Int32)) dX10_readConflict_96 (by decide) ?_
    refine zw_iald hC hf zk_78 dX10_readConflict_97 (fun v40 hf => ?_)
    refine zw_iconst hC (v := (1 : Int32)) dX10_readConflict_98 (by decide) ?_
    refine zw_isub hC dX10_readConflict_99 ?_
    obtain ⟨v41, M42, hcM42, hf⟩ := zb2_some hf
    refine zw_cV hC [.int (0 : Int32), .int (v40 - (1 : Int32))] [] (st1 := [.int v41]) zm_X10_number (zc_X10_number hcM42) zk_77 rfl kw_6_157 dX10_readConflict_100 rfl (by decide) (Nat.le_of_ble_eq_true rfl) rfl rfl ?_
    refine zw_istore_n hC (lv' := [(2, .int v41), (0, .ref (zad E 77)), (1, .int v37)]) dX10_readConflict_103 rfl hN (by decide) rfl ?_
    refine zw_aload_n hC dX10_readConflict_104 rfl 1 rfl ?_
    obtain ⟨M43, hcM43, hf⟩ := zb1_some hf
    refine zw_cV hC [] [] (st1 := []) zm_X10_closes (zc_X10_closes hcM43) zk_77 rfl kw_6_165 dX10_readConflict_105 rfl (by decide) (Nat.le_of_ble_eq_true rfl) rfl rfl ?_
    refine zw_aload_n hC dX10_readConflict_108 rfl 1 rfl ?_
    refine zw_geti hC zF_Model_fault zk_77 dX10_readConflict_109 kw_5_238 ?_
    refine zw_iconst hC (v := (-1 : Int32)) dX10_readConflict_112 (by decide) ?_
    have hj122 : ∀ (M44 : ZMem), zf_X10_readConflict_j122 M44 = some M' → ZW E 122 [] [] M44 := by
      intro M44 hf
      unfold zf_X10_readConflict_j122 at hf
      have h1 := Option.some.inj hf
      subst h1
      exact zw_vret hC hR dX10_readConflict_122
    refine zw_icmp_ne hC 122 hf dX10_readConflict_113 (by decide) (fun hf => ?_) (fun hf => ?_)
    · exact zw_sub [] rfl (hj122 M43 hf)
    · refine zw_aload_n hC dX10_readConflict_116 rfl 1 rfl ?_
      refine zw_iload_n hC dX10_readConflict_117 rfl 2 rfl ?_
      refine zw_iload_n hC dX10_readConflict_118 rfl 0 rfl ?_
      obtain ⟨M45, hcM45, hf⟩ := zb1_some hf
      refine zw_cV hC [.int v37, .int v41] [] (st1 := []) zm_X10_quarrels (zc_X10_quarrels hcM45) zk_77 rfl kw_6_193 dX10_readConflict_119 rfl (by decide) (Nat.le_of_ble_eq_true rfl) rfl rfl ?_
      exact zw_sub [] rfl (hj122 M45 hf)
  refine zw_icmp_ne hC 90 hf dX10_readConflict_25 (by decide) (fun hf => ?_) (fun hf => ?_)
  · exact zw_sub [1, 0] rfl (hj90 M38 hf)
  · refine zw_aload_n hC dX10_readConflict_28 rfl 1 rfl ?_
    refine zw_geti hC zF_Model_token zk_77 dX10_readConflict_29 kw_5_235 ?_
    refine zw_iconst hC (v := (2 : Int32)) dX10_readConflict_32 (by decide) ?_
    refine zw_icmp_ne hC 90 hf dX10_readConflict_33 (by decide) (fun hf => ?_) (fun hf => ?_)
    · exact zw_sub [1, 0] rfl (hj90 M38 hf)
    · refine zw_aload_n hC dX10_readConflict_36 rfl 1 rfl ?_
      refine zw_geti hC zF_Model_value zk_77 dX10_readConflict_37 kw_5_237 ?_
      refine zw_iconst hC (v := (0 : Int32)) dX10_readConflict_40 (by decide) ?_
      refine zw_aload_n hC dX10_readConflict_41 rfl 1 rfl ?_
      refine zw_getr (k' := 78) hC zF_Model_now zk_77 rfl dX10_readConflict_42 kw_5_227 ?_
      refine zw_iconst hC (v := (0 : Int32)) dX10_readConflict_45 (by decide) ?_
      refine zw_iald hC hf zk_78 dX10_readConflict_46 (fun v46 hf => ?_)
      refine zw_iconst hC (v := (1 : Int32)) dX10_readConflict_47 (by decide) ?_
      refine zw_isub hC dX10_readConflict_48 ?_
      obtain ⟨v47, hc47, hf⟩ := zb1_some hf
      refine zw_cS hC [.int (M38 77 11), .int (0 : Int32), .int (v46 - (1 : Int32))] [] (st1 := [.int v47]) zm_X10_isIn (zc_X10_isIn hc47) kw_6_106 dX10_readConflict_49 rfl (by decide) (Nat.le_of_ble_eq_true rfl) rfl rfl ?_
      refine zw_if_eq hC 90 hf dX10_readConflict_52 (by decide) (fun hf => ?_) (fun hf => ?_)
      · exact zw_sub [1, 0] rfl (hj90 M38 hf)
      · refine zw_aload_n hC dX10_readConflict_55 rfl 1 rfl ?_
        refine zw_geti hC zF_Model_value zk_77 dX10_readConflict_56 kw_5_237 ?_
        refine zw_iload_n hC dX10_readConflict_59 rfl 0 rfl ?_
        have hj82 : zf_X10_readConflict_j82 M38 n v37 = some M' → ZW E 82 [(0, .ref (zad E 77)), (1, .int v37)] [] M38 := by
          intro  hf
          unfold zf_X10_readConflict_j82 at hf
          refine zw_aload_n hC dX10_readConflict_82 rfl 0 rfl ?_
          refine zw_aload_n hC dX10_readConflict_83 rfl 0 rfl ?_
          refine zw_geti hC zF_Model_from zk_77 dX10_readConflict_84 kw_5_236 ?_
          obtain ⟨M48, hcM48, hf⟩ := zb1_some hf
          refine zw_cV hC [.int (M38 77 10)] [] (st1 := []) zm_X10_wrong (zc_X10_wrong hcM48) zk_77 rfl kw_6_125 dX10_readConflict_87 rfl (by decide) (Nat.le_of_ble_eq_true rfl) rfl rfl ?_
          exact hj90 M48 hf
        refine zw_icmp_eq hC 82 hf dX10_readConflict_60 (by decide) (fun hf => ?_) (fun hf => ?_)
        · exact zw_sub [1, 0] rfl (hj82 hf)
        · refine zw_aload_n hC dX10_readConflict_63 rfl 1 rfl ?_
          refine zw_getr (k' := 78) hC zF_Model_now zk_77 rfl dX10_readConflict_64 kw_5_227 ?_
          refine zw_bipush hC (v := (63 : Int32)) dX10_readConflict_67 (by decide) ?_
          refine zw_iload_n hC dX10_readConflict_69 rfl 0 rfl ?_
          refine zw_iadd hC dX10_readConflict_70 ?_
          refine zw_iald hC hf zk_78 dX10_readConflict_71 (fun v49 hf => ?_)
          refine zw_aload_n hC dX10_readConflict_72 rfl 1 rfl ?_
          refine zw_geti hC zF_Model_value zk_77 dX10_readConflict_73 kw_5_237 ?_
          obtain ⟨v50, hc50, hf⟩ := zb1_some hf
          refine zw_cS hC [.int v49, .int (M38 77 11)] [] (st1 := [.int v50]) zm_X10_has (zc_X10_has hc50) kw_6_150 dX10_readConflict_76 rfl (by decide) (Nat.le_of_ble_eq_true rfl) rfl rfl ?_
          refine zw_if_eq hC 90 hf dX10_readConflict_79 (by decide) (fun hf => ?_) (fun hf => ?_)
          · exact zw_sub [1, 0] rfl (hj90 M38 hf)
          · exact zw_sub [1, 0] rfl (hj82 hf)
/-! ClassOfManyModel.readOne(III)V -/
theorem dX10_readOne_0 : decode cX10_readOne 0 = .ok (.aload_n 0, 1) := by decide +kernel
theorem dX10_readOne_1 : decode cX10_readOne 1 = .ok (.iload_n 1, 1) := by decide +kernel
theorem dX10_readOne_2 : decode cX10_readOne 2 = .ok (.invokevirtual 142, 3) := by decide +kernel
theorem dX10_readOne_5 : decode cX10_readOne 5 = .ok (.aload_n 0, 1) := by decide +kernel
theorem dX10_readOne_6 : decode cX10_readOne 6 = .ok (.iconst 0, 1) := by decide +kernel
theorem dX10_readOne_7 : decode cX10_readOne 7 = .ok (.iload_n 3, 1) := by decide +kernel
theorem dX10_readOne_8 : decode cX10_readOne 8 = .ok (.invokevirtual 125, 3) := by decide +kernel
theorem dX10_readOne_11 : decode cX10_readOne 11 = .ok (.istore 4, 2) := by decide +kernel
theorem dX10_readOne_13 : decode cX10_readOne 13 = .ok (.aload_n 0, 1) := by decide +kernel
theorem dX10_readOne_14 : decode cX10_readOne 14 = .ok (.invokevirtual 135, 3) := by decide +kernel
theorem dX10_readOne_17 : decode cX10_readOne 17 = .ok (.aload_n 0, 1) := by decide +kernel
theorem dX10_readOne_18 : decode cX10_readOne 18 = .ok (.getfield 7, 3) := by decide +kernel
theorem dX10_readOne_21 : decode cX10_readOne 21 = .ok (.iload_n 2, 1) := by decide +kernel
theorem dX10_readOne_22 : decode cX10_readOne 22 = .ok (.iload 4, 2) := by decide +kernel
theorem dX10_readOne_24 : decode cX10_readOne 24 = .ok (.iastore, 1) := by decide +kernel
theorem dX10_readOne_25 : decode cX10_readOne 25 = .ok (.return_, 1) := by decide +kernel
theorem zm_X10_readOne : ZMv "ClassOfManyModel" yX10_readOne cX10_readOne 5 (none) 3 := ⟨kw_6_145, kw_6_144, kp_64, kw_1_10, by decide +kernel, by decide⟩
def zf_X10_readOne (n : Nat) (a1 : Int32) (a2 : Int32) (a3 : Int32) (M : ZMem) : Option (ZMem) :=
  zb1 (zf_X10_once n a1 M) (fun M26 => zb2 (zf_X10_number n (0 : Int32) a3 M26) (fun v27 M28 => zb1 (zf_X10_closes n M28) (fun M29 => zst M29 78 73 a2 v27 (fun M30 => some M30))))
set_option maxHeartbeats 4000000 in
set_option maxRecDepth 100000 in
theorem zc_X10_readOne {l : Launch} {D : va_G} {ad : Nat → Nat} {cA : Nat → ClassId} {n : Nat} {a1 : Int32} {a2 : Int32} {a3 : Int32} {M : ZMem} {M' : ZMem} (hf : zf_X10_readOne n a1 a2 a3 M = some M') : ZCt l D ad cA yX10_readOne cX10_readOne 5 (none) 6 [.ref (ad 77), .int a1, .int a2, .int a3] M none M' := by
  refine zct (by decide +kernel) (Nat.le_of_ble_eq_true rfl) (lv := [(0, .ref (ad 77)), (1, .int a1), (2, .int a2), (3, .int a3)]) rfl (fun E hl hD had hcA hN hC hR => ?_)
  subst hl; subst hD; subst had; subst hcA
  unfold zf_X10_readOne at hf
  refine zw_aload_n hC dX10_readOne_0 rfl 0 rfl ?_
  refine zw_iload_n hC dX10_readOne_1 rfl 1 rfl ?_
  obtain ⟨M26, hcM26, hf⟩ := zb1_some hf
  refine zw_cV hC [.int a1] [] (st1 := []) zm_X10_once (zc_X10_once hcM26) zk_77 rfl kw_6_146 dX10_readOne_2 rfl (by decide) (Nat.le_of_ble_eq_true rfl) rfl rfl ?_
  refine zw_aload_n hC dX10_readOne_5 rfl 0 rfl ?_
  refine zw_iconst hC (v := (0 : Int32)) dX10_readOne_6 (by decide) ?_
  refine zw_iload_n hC dX10_readOne_7 rfl 3 rfl ?_
  obtain ⟨v27, M28, hcM28, hf⟩ := zb2_some hf
  refine zw_cV hC [.int (0 : Int32), .int a3] [] (st1 := [.int v27]) zm_X10_number (zc_X10_number hcM28) zk_77 rfl kw_6_157 dX10_readOne_8 rfl (by decide) (Nat.le_of_ble_eq_true rfl) rfl rfl ?_
  refine zw_istore hC (lv' := [(4, .int v27), (0, .ref (zad E 77)), (1, .int a1), (2, .int a2), (3, .int a3)]) dX10_readOne_11 hN (by decide) rfl ?_
  refine zw_aload_n hC dX10_readOne_13 rfl 1 rfl ?_
  obtain ⟨M29, hcM29, hf⟩ := zb1_some hf
  refine zw_cV hC [] [] (st1 := []) zm_X10_closes (zc_X10_closes hcM29) zk_77 rfl kw_6_165 dX10_readOne_14 rfl (by decide) (Nat.le_of_ble_eq_true rfl) rfl rfl ?_
  refine zw_aload_n hC dX10_readOne_17 rfl 1 rfl ?_
  refine zw_getr (k' := 78) hC zF_Model_now zk_77 rfl dX10_readOne_18 kw_5_227 ?_
  refine zw_iload_n hC dX10_readOne_21 rfl 3 rfl ?_
  refine zw_iload hC dX10_readOne_22 0 rfl ?_
  refine zw_iast hC hf zk_78 dX10_readOne_24 (fun M30 hf => ?_)
  have h1 := Option.some.inj hf
  subst h1
  exact zw_vret hC hR dX10_readOne_25
/-! ClassOfManyModel.readPeriod()V -/
theorem dX10_readPeriod_0 : decode cX10_readPeriod 0 = .ok (.aload_n 0, 1) := by decide +kernel
theorem dX10_readPeriod_1 : decode cX10_readPeriod 1 = .ok (.iconst 4, 1) := by decide +kernel
theorem dX10_readPeriod_2 : decode cX10_readPeriod 2 = .ok (.invokevirtual 142, 3) := by decide +kernel
theorem dX10_readPeriod_5 : decode cX10_readPeriod 5 = .ok (.aload_n 0, 1) := by decide +kernel
theorem dX10_readPeriod_6 : decode cX10_readPeriod 6 = .ok (.iconst 0, 1) := by decide +kernel
theorem dX10_readPeriod_7 : decode cX10_readPeriod 7 = .ok (.bipush 99, 2) := by decide +kernel
theorem dX10_readPeriod_9 : decode cX10_readPeriod 9 = .ok (.invokevirtual 125, 3) := by decide +kernel
theorem dX10_readPeriod_12 : decode cX10_readPeriod 12 = .ok (.istore_n 1, 1) := by decide +kernel
theorem dX10_readPeriod_13 : decode cX10_readPeriod 13 = .ok (.aload_n 0, 1) := by decide +kernel
theorem dX10_readPeriod_14 : decode cX10_readPeriod 14 = .ok (.iload_n 1, 1) := by decide +kernel
theorem dX10_readPeriod_15 : decode cX10_readPeriod 15 = .ok (.bipush 99, 2) := by decide +kernel
theorem dX10_readPeriod_17 : decode cX10_readPeriod 17 = .ok (.invokevirtual 125, 3) := by decide +kernel
theorem dX10_readPeriod_20 : decode cX10_readPeriod 20 = .ok (.istore_n 2, 1) := by decide +kernel
theorem dX10_readPeriod_21 : decode cX10_readPeriod 21 = .ok (.aload_n 0, 1) := by decide +kernel
theorem dX10_readPeriod_22 : decode cX10_readPeriod 22 = .ok (.invokevirtual 135, 3) := by decide +kernel
theorem dX10_readPeriod_25 : decode cX10_readPeriod 25 = .ok (.aload_n 0, 1) := by decide +kernel
theorem dX10_readPeriod_26 : decode cX10_readPeriod 26 = .ok (.getfield 7, 3) := by decide +kernel
theorem dX10_readPeriod_29 : decode cX10_readPeriod 29 = .ok (.bipush 6, 2) := by decide +kernel
theorem dX10_readPeriod_31 : decode cX10_readPeriod 31 = .ok (.iload_n 1, 1) := by decide +kernel
theorem dX10_readPeriod_32 : decode cX10_readPeriod 32 = .ok (.iastore, 1) := by decide +kernel
theorem dX10_readPeriod_33 : decode cX10_readPeriod 33 = .ok (.aload_n 0, 1) := by decide +kernel
theorem dX10_readPeriod_34 : decode cX10_readPeriod 34 = .ok (.getfield 7, 3) := by decide +kernel
theorem dX10_readPeriod_37 : decode cX10_readPeriod 37 = .ok (.bipush 7, 2) := by decide +kernel
theorem dX10_readPeriod_39 : decode cX10_readPeriod 39 = .ok (.iload_n 2, 1) := by decide +kernel
theorem dX10_readPeriod_40 : decode cX10_readPeriod 40 = .ok (.iastore, 1) := by decide +kernel
theorem dX10_readPeriod_41 : decode cX10_readPeriod 41 = .ok (.return_, 1) := by decide +kernel
theorem zm_X10_readPeriod : ZMv "ClassOfManyModel" yX10_readPeriod cX10_readPeriod 3 (none) 0 := ⟨kw_6_176, kw_6_175, kp_70, kw_1_10, by decide +kernel, by decide⟩
def zf_X10_readPeriod (n : Nat) (M : ZMem) : Option (ZMem) :=
  zb1 (zf_X10_once n (4 : Int32) M) (fun M29 => zb2 (zf_X10_number n (0 : Int32) (99 : Int32) M29) (fun v30 M31 => zb2 (zf_X10_number n v30 (99 : Int32) M31) (fun v32 M33 => zb1 (zf_X10_closes n M33) (fun M34 => zst M34 78 73 (6 : Int32) v30 (fun M35 => zst M35 78 73 (7 : Int32) v32 (fun M36 => some M36))))))
set_option maxHeartbeats 4000000 in
set_option maxRecDepth 100000 in
theorem zc_X10_readPeriod {l : Launch} {D : va_G} {ad : Nat → Nat} {cA : Nat → ClassId} {n : Nat} {M : ZMem} {M' : ZMem} (hf : zf_X10_readPeriod n M = some M') : ZCt l D ad cA yX10_readPeriod cX10_readPeriod 3 (none) 6 [.ref (ad 77)] M none M' := by
  refine zct (by decide +kernel) (Nat.le_of_ble_eq_true rfl) (lv := [(0, .ref (ad 77))]) rfl (fun E hl hD had hcA hN hC hR => ?_)
  subst hl; subst hD; subst had; subst hcA
  unfold zf_X10_readPeriod at hf
  refine zw_aload_n hC dX10_readPeriod_0 rfl 0 rfl ?_
  refine zw_iconst hC (v := (4 : Int32)) dX10_readPeriod_1 (by decide) ?_
  obtain ⟨M29, hcM29, hf⟩ := zb1_some hf
  refine zw_cV hC [.int (4 : Int32)] [] (st1 := []) zm_X10_once (zc_X10_once hcM29) zk_77 rfl kw_6_146 dX10_readPeriod_2 rfl (by decide) (Nat.le_of_ble_eq_true rfl) rfl rfl ?_
  refine zw_aload_n hC dX10_readPeriod_5 rfl 0 rfl ?_
  refine zw_iconst hC (v := (0 : Int32)) dX10_readPeriod_6 (by decide) ?_
  refine zw_bipush hC (v := (99 : Int32)) dX10_readPeriod_7 (by decide) ?_
  obtain ⟨v30, M31, hcM31, hf⟩ := zb2_some hf
  refine zw_cV hC [.int (0 : Int32), .int (99 : Int32)] [] (st1 := [.int v30]) zm_X10_number (zc_X10_number hcM31) zk_77 rfl kw_6_157 dX10_readPeriod_9 rfl (by decide) (Nat.le_of_ble_eq_true rfl) rfl rfl ?_
  refine zw_istore_n hC (lv' := [(1, .int v30), (0, .ref (zad E 77))]) dX10_readPeriod_12 rfl hN (by decide) rfl ?_
  refine zw_aload_n hC dX10_readPeriod_13 rfl 1 rfl ?_
  refine zw_iload_n hC dX10_readPeriod_14 rfl 0 rfl ?_
  refine zw_bipush hC (v := (99 : Int32)) dX10_readPeriod_15 (by decide) ?_
  obtain ⟨v32, M33, hcM33, hf⟩ := zb2_some hf
  refine zw_cV hC [.int v30, .int (99 : Int32)] [] (st1 := [.int v32]) zm_X10_number (zc_X10_number hcM33) zk_77 rfl kw_6_157 dX10_readPeriod_17 rfl (by decide) (Nat.le_of_ble_eq_true rfl) rfl rfl ?_
  refine zw_istore_n hC (lv' := [(2, .int v32), (1, .int v30), (0, .ref (zad E 77))]) dX10_readPeriod_20 rfl hN (by decide) rfl ?_
  refine zw_aload_n hC dX10_readPeriod_21 rfl 2 rfl ?_
  obtain ⟨M34, hcM34, hf⟩ := zb1_some hf
  refine zw_cV hC [] [] (st1 := []) zm_X10_closes (zc_X10_closes hcM34) zk_77 rfl kw_6_165 dX10_readPeriod_22 rfl (by decide) (Nat.le_of_ble_eq_true rfl) rfl rfl ?_
  refine zw_aload_n hC dX10_readPeriod_25 rfl 2 rfl ?_
  refine zw_getr (k' := 78) hC zF_Model_now zk_77 rfl dX10_readPeriod_26 kw_5_227 ?_
  refine zw_bipush hC (v := (6 : Int32)) dX10_readPeriod_29 (by decide) ?_
  refine zw_iload_n hC dX10_readPeriod_31 rfl 1 rfl ?_
  refine zw_iast hC hf zk_78 dX10_readPeriod_32 (fun M35 hf => ?_)
  refine zw_aload_n hC dX10_readPeriod_33 rfl 2 rfl ?_
  refine zw_getr (k' := 78) hC zF_Model_now zk_77 rfl dX10_readPeriod_34 kw_5_227 ?_
  refine zw_bipush hC (v := (7 : Int32)) dX10_readPeriod_37 (by decide) ?_
  refine zw_iload_n hC dX10_readPeriod_39 rfl 0 rfl ?_
  refine zw_iast hC hf zk_78 dX10_readPeriod_40 (fun M36 hf => ?_)
  have h1 := Option.some.inj hf
  subst h1
  exact zw_vret hC hR dX10_readPeriod_41
/-! ClassOfManyModel.readLine()V -/
theorem dX10_readLine_0 : decode cX10_readLine 0 = .ok (.aload_n 0, 1) := by decide +kernel
theorem dX10_readLine_1 : decode cX10_readLine 1 = .ok (.ldc2_w 145, 3) := by decide +kernel
theorem dX10_readLine_4 : decode cX10_readLine 4 = .ok (.invokevirtual 131, 3) := by decide +kernel
theorem dX10_readLine_7 : decode cX10_readLine 7 = .ok (.ifCond .eq 14, 3) := by decide +kernel
theorem dX10_readLine_10 : decode cX10_readLine 10 = .ok (.aload_n 0, 1) := by decide +kernel
theorem dX10_readLine_11 : decode cX10_readLine 11 = .ok (.iconst 0, 1) := by decide +kernel
theorem dX10_readLine_12 : decode cX10_readLine 12 = .ok (.iconst 2, 1) := by decide +kernel
theorem dX10_readLine_13 : decode cX10_readLine 13 = .ok (.ldc 147, 2) := by decide +kernel
theorem dX10_readLine_15 : decode cX10_readLine 15 = .ok (.invokevirtual 148, 3) := by decide +kernel
theorem dX10_readLine_18 : decode cX10_readLine 18 = .ok (.goto 143, 3) := by decide +kernel
theorem dX10_readLine_21 : decode cX10_readLine 21 = .ok (.aload_n 0, 1) := by decide +kernel
theorem dX10_readLine_22 : decode cX10_readLine 22 = .ok (.ldc2_w 152, 3) := by decide +kernel
theorem dX10_readLine_25 : decode cX10_readLine 25 = .ok (.invokevirtual 131, 3) := by decide +kernel
theorem dX10_readLine_28 : decode cX10_readLine 28 = .ok (.ifCond .eq 14, 3) := by decide +kernel
theorem dX10_readLine_31 : decode cX10_readLine 31 = .ok (.aload_n 0, 1) := by decide +kernel
theorem dX10_readLine_32 : decode cX10_readLine 32 = .ok (.iconst 1, 1) := by decide +kernel
theorem dX10_readLine_33 : decode cX10_readLine 33 = .ok (.iconst 3, 1) := by decide +kernel
theorem dX10_readLine_34 : decode cX10_readLine 34 = .ok (.bipush 50, 2) := by decide +kernel
theorem dX10_readLine_36 : decode cX10_readLine 36 = .ok (.invokevirtual 148, 3) := by decide +kernel
theorem dX10_readLine_39 : decode cX10_readLine 39 = .ok (.goto 122, 3) := by decide +kernel
theorem dX10_readLine_42 : decode cX10_readLine 42 = .ok (.aload_n 0, 1) := by decide +kernel
theorem dX10_readLine_43 : decode cX10_readLine 43 = .ok (.ldc2_w 154, 3) := by decide +kernel
theorem dX10_readLine_46 : decode cX10_readLine 46 = .ok (.invokevirtual 131, 3) := by decide +kernel
theorem dX10_readLine_49 : decode cX10_readLine 49 = .ok (.ifCond .eq 15, 3) := by decide +kernel
theorem dX10_readLine_52 : decode cX10_readLine 52 = .ok (.aload_n 0, 1) := by decide +kernel
theorem dX10_readLine_53 : decode cX10_readLine 53 = .ok (.iconst 2, 1) := by decide +kernel
theorem dX10_readLine_54 : decode cX10_readLine 54 = .ok (.iconst 4, 1) := by decide +kernel
theorem dX10_readLine_55 : decode cX10_readLine 55 = .ok (.sipush 999, 3) := by decide +kernel
theorem dX10_readLine_58 : decode cX10_readLine 58 = .ok (.invokevirtual 148, 3) := by decide +kernel
theorem dX10_readLine_61 : decode cX10_readLine 61 = .ok (.goto 100, 3) := by decide +kernel
theorem dX10_readLine_64 : decode cX10_readLine 64 = .ok (.aload_n 0, 1) := by decide +kernel
theorem dX10_readLine_65 : decode cX10_readLine 65 = .ok (.ldc2_w 156, 3) := by decide +kernel
theorem dX10_readLine_68 : decode cX10_readLine 68 = .ok (.invokevirtual 131, 3) := by decide +kernel
theorem dX10_readLine_71 : decode cX10_readLine 71 = .ok (.ifCond .eq 14, 3) := by decide +kernel
theorem dX10_readLine_74 : decode cX10_readLine 74 = .ok (.aload_n 0, 1) := by decide +kernel
theorem dX10_readLine_75 : decode cX10_readLine 75 = .ok (.iconst 3, 1) := by decide +kernel
theorem dX10_readLine_76 : decode cX10_readLine 76 = .ok (.iconst 5, 1) := by decide +kernel
theorem dX10_readLine_77 : decode cX10_readLine 77 = .ok (.bipush 99, 2) := by decide +kernel
theorem dX10_readLine_79 : decode cX10_readLine 79 = .ok (.invokevirtual 148, 3) := by decide +kernel
theorem dX10_readLine_82 : decode cX10_readLine 82 = .ok (.goto 79, 3) := by decide +kernel
theorem dX10_readLine_85 : decode cX10_readLine 85 = .ok (.aload_n 0, 1) := by decide +kernel
theorem dX10_readLine_86 : decode cX10_readLine 86 = .ok (.ldc2_w 158, 3) := by decide +kernel
theorem dX10_readLine_89 : decode cX10_readLine 89 = .ok (.invokevirtual 131, 3) := by decide +kernel
theorem dX10_readLine_92 : decode cX10_readLine 92 = .ok (.ifCond .eq 10, 3) := by decide +kernel
theorem dX10_readLine_95 : decode cX10_readLine 95 = .ok (.aload_n 0, 1) := by decide +kernel
theorem dX10_readLine_96 : decode cX10_readLine 96 = .ok (.invokevirtual 160, 3) := by decide +kernel
theorem dX10_readLine_99 : decode cX10_readLine 99 = .ok (.goto 62, 3) := by decide +kernel
theorem dX10_readLine_102 : decode cX10_readLine 102 = .ok (.aload_n 0, 1) := by decide +kernel
theorem dX10_readLine_103 : decode cX10_readLine 103 = .ok (.ldc2_w 163, 3) := by decide +kernel
theorem dX10_readLine_106 : decode cX10_readLine 106 = .ok (.invokevirtual 131, 3) := by decide +kernel
theorem dX10_readLine_109 : decode cX10_readLine 109 = .ok (.ifCond .eq 10, 3) := by decide +kernel
theorem dX10_readLine_112 : decode cX10_readLine 112 = .ok (.aload_n 0, 1) := by decide +kernel
theorem dX10_readLine_113 : decode cX10_readLine 113 = .ok (.invokevirtual 165, 3) := by decide +kernel
theorem dX10_readLine_116 : decode cX10_readLine 116 = .ok (.goto 45, 3) := by decide +kernel
theorem dX10_readLine_119 : decode cX10_readLine 119 = .ok (.aload_n 0, 1) := by decide +kernel
theorem dX10_readLine_120 : decode cX10_readLine 120 = .ok (.ldc2_w 168, 3) := by decide +kernel
theorem dX10_readLine_123 : decode cX10_readLine 123 = .ok (.invokevirtual 131, 3) := by decide +kernel
theorem dX10_readLine_126 : decode cX10_readLine 126 = .ok (.ifCond .eq 10, 3) := by decide +kernel
theorem dX10_readLine_129 : decode cX10_readLine 129 = .ok (.aload_n 0, 1) := by decide +kernel
theorem dX10_readLine_130 : decode cX10_readLine 130 = .ok (.invokevirtual 170, 3) := by decide +kernel
theorem dX10_readLine_133 : decode cX10_readLine 133 = .ok (.goto 28, 3) := by decide +kernel
theorem dX10_readLine_136 : decode cX10_readLine 136 = .ok (.aload_n 0, 1) := by decide +kernel
theorem dX10_readLine_137 : decode cX10_readLine 137 = .ok (.ldc2_w 173, 3) := by decide +kernel
theorem dX10_readLine_140 : decode cX10_readLine 140 = .ok (.invokevirtual 131, 3) := by decide +kernel
theorem dX10_readLine_143 : decode cX10_readLine 143 = .ok (.ifCond .eq 10, 3) := by decide +kernel
theorem dX10_readLine_146 : decode cX10_readLine 146 = .ok (.aload_n 0, 1) := by decide +kernel
theorem dX10_readLine_147 : decode cX10_readLine 147 = .ok (.invokevirtual 175, 3) := by decide +kernel
theorem dX10_readLine_150 : decode cX10_readLine 150 = .ok (.goto 11, 3) := by decide +kernel
theorem dX10_readLine_153 : decode cX10_readLine 153 = .ok (.aload_n 0, 1) := by decide +kernel
theorem dX10_readLine_154 : decode cX10_readLine 154 = .ok (.aload_n 0, 1) := by decide +kernel
theorem dX10_readLine_155 : decode cX10_readLine 155 = .ok (.getfield 81, 3) := by decide +kernel
theorem dX10_readLine_158 : decode cX10_readLine 158 = .ok (.invokevirtual 94, 3) := by decide +kernel
theorem dX10_readLine_161 : decode cX10_readLine 161 = .ok (.return_, 1) := by decide +kernel
theorem zm_X10_readLine : ZMv "ClassOfManyModel" yX10_readLine cX10_readLine 1 (none) 0 := ⟨kw_6_133, kw_6_132, kp_62, kw_1_10, by decide +kernel, by decide⟩
def zf_X10_readLine_j161 (M39 : ZMem) : Option (ZMem) :=
  some M39
def zf_X10_readLine (n : Nat) (M : ZMem) : Option (ZMem) :=
  zb1 (zf_X10_isWord n (133789 : Int64) M) (fun v38 => (if v38 = 0 then zb1 (zf_X10_isWord n (4514 : Int64) M) (fun v40 => (if v40 = 0 then zb1 (zf_X10_isWord n (6476969 : Int64) M) (fun v41 => (if v41 = 0 then zb1 (zf_X10_isWord n (400557 : Int64) M) (fun v42 => (if v42 = 0 then zb1 (zf_X10_isWord n (232600981 : Int64) M) (fun v43 => (if v43 = 0 then zb1 (zf_X10_isWord n (1277870079 : Int64) M) (fun v44 => (if v44 = 0 then zb1 (zf_X10_isWord n (189450486 : Int64) M) (fun v45 => (if v45 = 0 then zb1 (zf_X10_isWord n (37396683146 : Int64) M) (fun v46 => (if v46 = 0 then zb1 (zf_X10_wrong (M 77 10) M) (fun M47 => (zf_X10_readLine_j161 M47)) else zb1 (zf_X10_readConflict n M) (fun M48 => (zf_X10_readLine_j161 M48)))) else zb1 (zf_X10_readMember n M) (fun M49 => (zf_X10_readLine_j161 M49)))) else zb1 (zf_X10_readChannel n M) (fun M50 => (zf_X10_readLine_j161 M50)))) else zb1 (zf_X10_readPeriod n M) (fun M51 => (zf_X10_readLine_j161 M51)))) else zb1 (zf_X10_readOne n (3 : Int32) (5 : Int32) (99 : Int32) M) (fun M52 => (zf_X10_readLine_j161 M52)))) else zb1 (zf_X10_readOne n (2 : Int32) (4 : Int32) (999 : Int32) M) (fun M53 => (zf_X10_readLine_j161 M53)))) else zb1 (zf_X10_readOne n (1 : Int32) (3 : Int32) (50 : Int32) M) (fun M54 => (zf_X10_readLine_j161 M54)))) else zb1 (zf_X10_readOne n (0 : Int32) (2 : Int32) (99999 : Int32) M) (fun M55 => (zf_X10_readLine_j161 M55))))
set_option maxHeartbeats 4000000 in
set_option maxRecDepth 100000 in
theorem zc_X10_readLine {l : Launch} {D : va_G} {ad : Nat → Nat} {cA : Nat → ClassId} {n : Nat} {M : ZMem} {M' : ZMem} (hf : zf_X10_readLine n M = some M') : ZCt l D ad cA yX10_readLine cX10_readLine 1 (none) 7 [.ref (ad 77)] M none M' := by
  refine zct (by decide +kernel) (Nat.le_of_ble_eq_true rfl) (lv := [(0, .ref (ad 77))]) rfl (fun E hl hD had hcA hN hC hR => ?_)
  subst hl; subst hD; subst had; subst hcA
  unfold zf_X10_readLine at hf
  refine zw_aload_n hC dX10_readLine_0 rfl 0 rfl ?_
  refine zw_ldc2 hC dX10_readLine_1 kw_6_134 ?_
  obtain ⟨v38, hc38, hf⟩ := zb1_some hf
  refine zw_cV hC [.long (133789 : Int64)] [] (st1 := [.int v38]) zm_X10_isWord (zc_X10_isWord hc38) zk_77 rfl kw_6_135 dX10_readLine_4 rfl (by decide) (Nat.le_of_ble_eq_true rfl) rfl rfl ?_
  have hj161 : ∀ (M39 : ZMem), zf_X10_readLine_j161 M39 = some M' → ZW E 161 [] [] M39 := by
    intro M39 hf
    unfold zf_X10_readLine_j161 at hf
    have h1 := Option.some.inj hf
    subst h1
    exact zw_vret hC hR dX10_readLine_161
  refine zw_if_eq hC 21 hf dX10_readLine_7 (by decide) (fun hf => ?_) (fun hf => ?_)
  · refine zw_aload_n hC dX10_readLine_21 rfl 0 rfl ?_
    refine zw_ldc2 hC dX10_readLine_22 kw_6_169 ?_
    obtain ⟨v40, hc40, hf⟩ := zb1_some hf
    refine zw_cV hC [.long (4514 : Int64)] [] (st1 := [.int v40]) zm_X10_isWord (zc_X10_isWord hc40) zk_77 rfl kw_6_135 dX10_readLine_25 rfl (by decide) (Nat.le_of_ble_eq_true rfl) rfl rfl ?_
    refine zw_if_eq hC 42 hf dX10_readLine_28 (by decide) (fun hf => ?_) (fun hf => ?_)
    · refine zw_aload_n hC dX10_readLine_42 rfl 0 rfl ?_
      refine zw_ldc2 hC dX10_readLine_43 kw_6_170 ?_
      obtain ⟨v41, hc41, hf⟩ := zb1_some hf
      refine zw_cV hC [.long (6476969 : Int64)] [] (st1 := [.int v41]) zm_X10_isWord (zc_X10_isWord hc41) zk_77 rfl kw_6_135 dX10_readLine_46 rfl (by decide) (Nat.le_of_ble_eq_true rfl) rfl rfl ?_
      refine zw_if_eq hC 64 hf dX10_readLine_49 (by decide) (fun hf => ?_) (fun hf => ?_)
      · refine zw_aload_n hC dX10_readLine_64 rfl 0 rfl ?_
        refine zw_ldc2 hC dX10_readLine_65 kw_6_171 ?_
        obtain ⟨v42, hc42, hf⟩ := zb1_some hf
        refine zw_cV hC [.long (400557 : Int64)] [] (st1 := [.int v42]) zm_X10_isWord (zc_X10_isWord hc42) zk_77 rfl kw_6_135 dX10_readLine_68 rfl (by decide) (Nat.le_of_ble_eq_true rfl) rfl rfl ?_
        refine zw_if_eq hC 85 hf dX10_readLine_71 (by decide) (fun hf => ?_) (fun hf => ?_)
        · refine zw_aload_n hC dX10_readLine_85 rfl 0 rfl ?_
          refine zw_ldc2 hC dX10_readLine_86 kw_6_172 ?_
          obtain ⟨v43, hc43, hf⟩ := zb1_some hf
          refine zw_cV hC [.long (232600981 : Int64)] [] (st1 := [.int v43]) zm_X10_isWord (zc_X10_isWord hc43) zk_77 rfl kw_6_135 dX10_readLine_89 rfl (by decide) (Nat.le_of_ble_eq_true rfl) rfl rfl ?_
          refine zw_if_eq hC 102 hf dX10_readLine_92 (by decide) (fun hf => ?_) (fun hf => ?_)
          · refine zw_aload_n hC dX10_readLine_102 rfl 0 rfl ?_
            refine zw_ldc2 hC dX10_readLine_103 kw_6_177 ?_
            obtain ⟨v44, hc44, hf⟩ := zb1_some hf
            refine zw_cV hC [.long (1277870079 : Int64)] [] (st1 := [.int v44]) zm_X10_isWord (zc_X10_isWord hc44) zk_77 rfl kw_6_135 dX10_readLine_106 rfl (by decide) (Nat.le_of_ble_eq_true rfl) rfl rfl ?_
            refine zw_if_eq hC 119 hf dX10_readLine_109 (by decide) (fun hf => ?_) (fun hf => ?_)
            · refine zw_aload_n hC dX10_readLine_119 rfl 0 rfl ?_
              refine zw_ldc2 hC dX10_readLine_120 kw_6_182 ?_
              obtain ⟨v45, hc45, hf⟩ := zb1_some hf
              refine zw_cV hC [.long (189450486 : Int64)] [] (st1 := [.int v45]) zm_X10_isWord (zc_X10_isWord hc45) zk_77 rfl kw_6_135 dX10_readLine_123 rfl (by decide) (Nat.le_of_ble_eq_true rfl) rfl rfl ?_
              refine zw_if_eq hC 136 hf dX10_readLine_126 (by decide) (fun hf => ?_) (fun hf => ?_)
              · refine zw_aload_n hC dX10_readLine_136 rfl 0 rfl ?_
                refine zw_ldc2 hC dX10_readLine_137 kw_6_188 ?_
                obtain ⟨v46, hc46, hf⟩ := zb1_some hf
                refine zw_cV hC [.long (37396683146 : Int64)] [] (st1 := [.int v46]) zm_X10_isWord (zc_X10_isWord hc46) zk_77 rfl kw_6_135 dX10_readLine_140 rfl (by decide) (Nat.le_of_ble_eq_true rfl) rfl rfl ?_
                refine zw_if_eq hC 153 hf dX10_readLine_143 (by decide) (fun hf => ?_) (fun hf => ?_)
                · refine zw_aload_n hC dX10_readLine_153 rfl 0 rfl ?_
                  refine zw_aload_n hC dX10_readLine_154 rfl 0 rfl ?_
                  refine zw_geti hC zF_Model_from zk_77 dX10_readLine_155 kw_5_236 ?_
                  obtain ⟨M47, hcM47, hf⟩ := zb1_some hf
                  refine zw_cV hC [.int (M 77 10)] [] (st1 := []) zm_X10_wrong (zc_X10_wrong hcM47) zk_77 rfl kw_6_125 dX10_readLine_158 rfl (by decide) (Nat.le_of_ble_eq_true rfl) rfl rfl ?_
                  exact zw_sub [] rfl (hj161 M47 hf)
                · refine zw_aload_n hC dX10_readLine_146 rfl 0 rfl ?_
                  obtain ⟨M48, hcM48, hf⟩ := zb1_some hf
                  refine zw_cV hC [] [] (st1 := []) zm_X10_readConflict (zc_X10_readConflict hcM48) zk_77 rfl kw_6_189 dX10_readLine_147 rfl (by decide) (Nat.le_of_ble_eq_true rfl) rfl rfl ?_
                  refine zw_goto hC 161 dX10_readLine_150 (by decide) ?_
                  exact zw_sub [] rfl (hj161 M48 hf)
              · refine zw_aload_n hC dX10_readLine_129 rfl 0 rfl ?_
                obtain ⟨M49, hcM49, hf⟩ := zb1_some hf
                refine zw_cV hC [] [] (st1 := []) zm_X10_readMember (zc_X10_readMember hcM49) zk_77 rfl kw_6_183 dX10_readLine_130 rfl (by decide) (Nat.le_of_ble_eq_true rfl) rfl rfl ?_
                refine zw_goto hC 161 dX10_readLine_133 (by decide) ?_
                exact zw_sub [] rfl (hj161 M49 hf)
            · refine zw_aload_n hC dX10_readLine_112 rfl 0 rfl ?_
              obtain ⟨M50, hcM50, hf⟩ := zb1_some hf
              refine zw_cV hC [] [] (st1 := []) zm_X10_readChannel (zc_X10_readChannel hcM50) zk_77 rfl kw_6_178 dX10_readLine_113 rfl (by decide) (Nat.le_of_ble_eq_true rfl) rfl rfl ?_
              refine zw_goto hC 161 dX10_readLine_116 (by decide) ?_
              exact zw_sub [] rfl (hj161 M50 hf)
          · refine zw_aload_n hC dX10_readLine_95 rfl 0 rfl ?_
            obtain ⟨M51, hcM51, hf⟩ := zb1_some hf
            refine zw_cV hC [] [] (st1 := []) zm_X10_readPeriod (zc_X10_readPeriod hcM51) zk_77 rfl kw_6_173 dX10_readLine_96 rfl (by decide) (Nat.le_of_ble_eq_true rfl) rfl rfl ?_
            refine zw_goto hC 161 dX10_readLine_99 (by decide) ?_
            exact zw_sub [] rfl (hj161 M51 hf)
        · refine zw_aload_n hC dX10_readLine_74 rfl 0 rfl ?_
          refine zw_iconst hC (v := (3 : Int32)) dX10_readLine_75 (by decide) ?_
          refine zw_iconst hC (v := (5 : Int32)) dX10_readLine_76 (by decide) ?_
          refine zw_bipush hC (v := (99 : Int32)) dX10_readLine_77 (by decide) ?_
          obtain ⟨M52, hcM52, hf⟩ := zb1_some hf
          refine zw_cV hC [.int (3 : Int32), .int (5 : Int32), .int (99 : Int32)] [] (st1 := []) zm_X10_readOne (zc_X10_readOne hcM52) zk_77 rfl kw_6_142 dX10_readLine_79 rfl (by decide) (Nat.le_of_ble_eq_true rfl) rfl rfl ?_
          refine zw_goto hC 161 dX10_readLine_82 (by decide) ?_
          exact zw_sub [] rfl (hj161 M52 hf)
      · refine zw_aload_n hC dX10_readLine_52 rfl 0 rfl ?_
        refine zw_iconst hC (v := (2 : Int32)) dX10_readLine_53 (by decide) ?_
        refine zw_iconst hC (v := (4 : Int32)) dX10_readLine_54 (by decide) ?_
        refine zw_sipush hC (v := (999 : Int32)) dX10_readLine_55 (by decide) ?_
        obtain ⟨M53, hcM53, hf⟩ := zb1_some hf
        refine zw_cV hC [.int (2 : Int32), .int (4 : Int32), .int (999 : Int32)] [] (st1 := []) zm_X10_readOne (zc_X10_readOne hcM53) zk_77 rfl kw_6_142 dX10_readLine_58 rfl (by decide) (Nat.le_of_ble_eq_true rfl) rfl rfl ?_
        refine zw_goto hC 161 dX10_readLine_61 (by decide) ?_
        exact zw_sub [] rfl (hj161 M53 hf)
    · refine zw_aload_n hC dX10_readLine_31 rfl 0 rfl ?_
      refine zw_iconst hC (v := (1 : Int32)) dX10_readLine_32 (by decide) ?_
      refine zw_iconst hC (v := (3 : Int32)) dX10_readLine_33 (by decide) ?_
      refine zw_bipush hC (v := (50 : Int32)) dX10_readLine_34 (by decide) ?_
      obtain ⟨M54, hcM54, hf⟩ := zb1_some hf
      refine zw_cV hC [.int (1 : Int32), .int (3 : Int32), .int (50 : Int32)] [] (st1 := []) zm_X10_readOne (zc_X10_readOne hcM54) zk_77 rfl kw_6_142 dX10_readLine_36 rfl (by decide) (Nat.le_of_ble_eq_true rfl) rfl rfl ?_
      refine zw_goto hC 161 dX10_readLine_39 (by decide) ?_
      exact zw_sub [] rfl (hj161 M54 hf)
  · refine zw_aload_n hC dX10_readLine_10 rfl 0 rfl ?_
    refine zw_iconst hC (v := (0 : Int32)) dX10_readLine_11 (by decide) ?_
    refine zw_iconst hC (v := (2 : Int32)) dX10_readLine_12 (by decide) ?_
    refine zw_ldc hC dX10_readLine_13 kw_6_141 ?_
    obtain ⟨M55, hcM55, hf⟩ := zb1_some hf
    refine zw_cV hC [.int (0 : Int32), .int (2 : Int32), .int (99999 : Int32)] [] (st1 := []) zm_X10_readOne (zc_X10_readOne hcM55) zk_77 rfl kw_6_142 dX10_readLine_15 rfl (by decide) (Nat.le_of_ble_eq_true rfl) rfl rfl ?_
    refine zw_goto hC 161 dX10_readLine_18 (by decide) ?_
    exact zw_sub [] rfl (hj161 M55 hf)
/-! ClassOfManyModel.firstOrder()I -/
theorem dX10_firstOrder_0 : decode cX10_firstOrder 0 = .ok (.iconst 0, 1) := by decide +kernel
theorem dX10_firstOrder_1 : decode cX10_firstOrder 1 = .ok (.istore_n 1, 1) := by decide +kernel
theorem dX10_firstOrder_2 : decode cX10_firstOrder 2 = .ok (.iconst 0, 1) := by decide +kernel
theorem dX10_firstOrder_3 : decode cX10_firstOrder 3 = .ok (.istore_n 2, 1) := by decide +kernel
theorem dX10_firstOrder_4 : decode cX10_firstOrder 4 = .ok (.iload_n 2, 1) := by decide +kernel
theorem dX10_firstOrder_5 : decode cX10_firstOrder 5 = .ok (.aload_n 0, 1) := by decide +kernel
theorem dX10_firstOrder_6 : decode cX10_firstOrder 6 = .ok (.getfield 7, 3) := by decide +kernel
theorem dX10_firstOrder_9 : decode cX10_firstOrder 9 = .ok (.iconst 1, 1) := by decide +kernel
theorem dX10_firstOrder_10 : decode cX10_firstOrder 10 = .ok (.iaload, 1) := by decide +kernel
theorem dX10_firstOrder_11 : decode cX10_firstOrder 11 = .ok (.if_icmp .ge 15, 3) := by decide +kernel
theorem dX10_firstOrder_14 : decode cX10_firstOrder 14 = .ok (.iconst 4, 1) := by decide +kernel
theorem dX10_firstOrder_15 : decode cX10_firstOrder 15 = .ok (.iload_n 1, 1) := by decide +kernel
theorem dX10_firstOrder_16 : decode cX10_firstOrder 16 = .ok (.imul, 1) := by decide +kernel
theorem dX10_firstOrder_17 : decode cX10_firstOrder 17 = .ok (.iload_n 2, 1) := by decide +kernel
theorem dX10_firstOrder_18 : decode cX10_firstOrder 18 = .ok (.iadd, 1) := by decide +kernel
theorem dX10_firstOrder_19 : decode cX10_firstOrder 19 = .ok (.istore_n 1, 1) := by decide +kernel
theorem dX10_firstOrder_20 : decode cX10_firstOrder 20 = .ok (.iinc 2 1, 3) := by decide +kernel
theorem dX10_firstOrder_23 : decode cX10_firstOrder 23 = .ok (.goto (-19), 3) := by decide +kernel
theorem dX10_firstOrder_26 : decode cX10_firstOrder 26 = .ok (.iload_n 1, 1) := by decide +kernel
theorem dX10_firstOrder_27 : decode cX10_firstOrder 27 = .ok (.ireturn, 1) := by decide +kernel
theorem zm_X10_firstOrder : ZMv "ClassOfManyModel" yX10_firstOrder cX10_firstOrder 3 (some .int) 0 := ⟨kw_6_200, kw_6_199, kp_75, kw_1_10, by decide +kernel, by decide⟩
def zf_X10_firstOrder_L4 (M : ZMem) (K26 : Int32 → Option (Int32)) : Nat → Int32 → Int32 → Option (Int32)
  | 0, _, _ => none
  | n4 + 1, v22, v23 =>
  zrd M 78 73 (1 : Int32) (fun v25 => (if v25 ≤ v23 then (K26 v22) else (zf_X10_firstOrder_L4 M K26 n4 (((4 : Int32) * v22) + v23) (v23 + (1 : Int32)))))
def zf_X10_firstOrder (n : Nat) (M : ZMem) : Option (Int32) :=
  (zf_X10_firstOrder_L4 M (fun v26 => some v26) n (0 : Int32) (0 : Int32))
set_option maxHeartbeats 4000000 in
set_option maxRecDepth 100000 in
theorem zc_X10_firstOrder {l : Launch} {D : va_G} {ad : Nat → Nat} {cA : Nat → ClassId} {n : Nat} {M : ZMem} {r : Int32} (hf : zf_X10_firstOrder n M = some r) : ZCt l D ad cA yX10_firstOrder cX10_firstOrder 3 (some .int) 1 [.ref (ad 77)] M (some (.int r)) M := by
  refine zct (by decide +kernel) (Nat.le_of_ble_eq_true rfl) (lv := [(0, .ref (ad 77))]) rfl (fun E hl hD had hcA hN hC hR => ?_)
  subst hl; subst hD; subst had; subst hcA
  unfold zf_X10_firstOrder at hf
  refine zw_iconst hC (v := (0 : Int32)) dX10_firstOrder_0 (by decide) ?_
  refine zw_istore_n hC (lv' := [(1, .int (0 : Int32)), (0, .ref (zad E 77))]) dX10_firstOrder_1 rfl hN (by decide) rfl ?_
  refine zw_iconst hC (v := (0 : Int32)) dX10_firstOrder_2 (by decide) ?_
  refine zw_istore_n hC (lv' := [(2, .int (0 : Int32)), (1, .int (0 : Int32)), (0, .ref (zad E 77))]) dX10_firstOrder_3 rfl hN (by decide) rfl ?_
  have hL4 : ∀ (K26 : Int32 → Option (Int32)), (∀ (v24 : Int32), K26 v24 = some r → ZW E 26 [(1, .int v24)] [] M) → ∀ (n4 : Nat), ∀ (v22 : Int32), ∀ (v23 : Int32), zf_X10_firstOrder_L4 M K26 n4 v22 v23 = some r → ZW E 4 [(0, .ref (zad E 77)), (1, .int v22), (2, .int v23)] [] M := by
    intro K26 hK26
    intro n4
    induction n4 with
    | zero => intro v22 v23 hf; rw [zf_X10_firstOrder_L4] at hf; cases hf
    | succ n4 ih4 =>
      intro v22 v23 hf
      rw [zf_X10_firstOrder_L4] at hf
      refine zw_iload_n hC dX10_firstOrder_4 rfl 2 rfl ?_
      refine zw_aload_n hC dX10_firstOrder_5 rfl 0 rfl ?_
      refine zw_getr (k' := 78) hC zF_Model_now zk_77 rfl dX10_firstOrder_6 kw_5_227 ?_
      refine zw_iconst hC (v := (1 : Int32)) dX10_firstOrder_9 (by decide) ?_
      refine zw_iald hC hf zk_78 dX10_firstOrder_10 (fun v25 hf => ?_)
      refine zw_icmp_ge hC 26 hf dX10_firstOrder_11 (by decide) (fun hf => ?_) (fun hf => ?_)
      · exact zw_sub [1] rfl (hK26 v22 hf)
      · refine zw_iconst hC (v := (4 : Int32)) dX10_firstOrder_14 (by decide) ?_
        refine zw_iload_n hC dX10_firstOrder_15 rfl 1 rfl ?_
        refine zw_imul hC dX10_firstOrder_16 ?_
        refine zw_iload_n hC dX10_firstOrder_17 rfl 2 rfl ?_
        refine zw_iadd hC dX10_firstOrder_18 ?_
        refine zw_istore_n hC (lv' := [(1, .int (((4 : Int32) * v22) + v23)), (0, .ref (zad E 77)), (2, .int v23)]) dX10_firstOrder_19 rfl hN (by decide) rfl ?_
        refine zw_iinc hC (v := (1 : Int32)) (lv' := [(2, .int (v23 + (1 : Int32))), (1, .int (((4 : Int32) * v22) + v23)), (0, .ref (zad E 77))]) dX10_firstOrder_20 2 rfl (by decide) hN (by decide) rfl ?_
        refine zw_goto hC 4 dX10_firstOrder_23 (by decide) ?_
        exact zw_sub [2, 1, 0] rfl (ih4 (((4 : Int32) * v22) + v23) (v23 + (1 : Int32)) hf)
  refine zw_sub [2, 1, 0] rfl (hL4 _ ?_ n (0 : Int32) (0 : Int32) hf)
  · intro v26 hf
    refine zw_iload_n hC dX10_firstOrder_26 rfl 0 rfl ?_
    have h1 := Option.some.inj hf
    subst h1
    exact zw_iret hC hR dX10_firstOrder_27
/-! ClassOfManyModel.text()I -/
theorem dX10_text_0 : decode cX10_text 0 = .ok (.aload_n 0, 1) := by decide +kernel
theorem dX10_text_1 : decode cX10_text 1 = .ok (.aload_n 0, 1) := by decide +kernel
theorem dX10_text_2 : decode cX10_text 2 = .ok (.getfield 69, 3) := by decide +kernel
theorem dX10_text_5 : decode cX10_text 5 = .ok (.putfield 72, 3) := by decide +kernel
theorem dX10_text_8 : decode cX10_text 8 = .ok (.aload_n 0, 1) := by decide +kernel
theorem dX10_text_9 : decode cX10_text 9 = .ok (.iconst 0, 1) := by decide +kernel
theorem dX10_text_10 : decode cX10_text 10 = .ok (.putfield 69, 3) := by decide +kernel
theorem dX10_text_13 : decode cX10_text 13 = .ok (.aload_n 0, 1) := by decide +kernel
theorem dX10_text_14 : decode cX10_text 14 = .ok (.iconst 0, 1) := by decide +kernel
theorem dX10_text_15 : decode cX10_text 15 = .ok (.putfield 78, 3) := by decide +kernel
theorem dX10_text_18 : decode cX10_text 18 = .ok (.aload_n 0, 1) := by decide +kernel
theorem dX10_text_19 : decode cX10_text 19 = .ok (.iconst (-1), 1) := by decide +kernel
theorem dX10_text_20 : decode cX10_text 20 = .ok (.putfield 75, 3) := by decide +kernel
theorem dX10_text_23 : decode cX10_text 23 = .ok (.aload_n 0, 1) := by decide +kernel
theorem dX10_text_24 : decode cX10_text 24 = .ok (.iconst 0, 1) := by decide +kernel
theorem dX10_text_25 : decode cX10_text 25 = .ok (.putfield 112, 3) := by decide +kernel
theorem dX10_text_28 : decode cX10_text 28 = .ok (.aload_n 0, 1) := by decide +kernel
theorem dX10_text_29 : decode cX10_text 29 = .ok (.iconst 0, 1) := by decide +kernel
theorem dX10_text_30 : decode cX10_text 30 = .ok (.putfield 115, 3) := by decide +kernel
theorem dX10_text_33 : decode cX10_text 33 = .ok (.iconst 0, 1) := by decide +kernel
theorem dX10_text_34 : decode cX10_text 34 = .ok (.istore_n 1, 1) := by decide +kernel
theorem dX10_text_35 : decode cX10_text 35 = .ok (.iload_n 1, 1) := by decide +kernel
theorem dX10_text_36 : decode cX10_text 36 = .ok (.bipush 73, 2) := by decide +kernel
theorem dX10_text_38 : decode cX10_text 38 = .ok (.if_icmp .ge 21, 3) := by decide +kernel
theorem dX10_text_41 : decode cX10_text 41 = .ok (.aload_n 0, 1) := by decide +kernel
theorem dX10_text_42 : decode cX10_text 42 = .ok (.getfield 13, 3) := by decide +kernel
theorem dX10_text_45 : decode cX10_text 45 = .ok (.iload_n 1, 1) := by decide +kernel
theorem dX10_text_46 : decode cX10_text 46 = .ok (.aload_n 0, 1) := by decide +kernel
theorem dX10_text_47 : decode cX10_text 47 = .ok (.getfield 7, 3) := by decide +kernel
theorem dX10_text_50 : decode cX10_text 50 = .ok (.iload_n 1, 1) := by decide +kernel
theorem dX10_text_51 : decode cX10_text 51 = .ok (.iaload, 1) := by decide +kernel
theorem dX10_text_52 : decode cX10_text 52 = .ok (.iastore, 1) := by decide +kernel
theorem dX10_text_53 : decode cX10_text 53 = .ok (.iinc 1 1, 3) := by decide +kernel
theorem dX10_text_56 : decode cX10_text 56 = .ok (.goto (-21), 3) := by decide +kernel
theorem dX10_text_59 : decode cX10_text 59 = .ok (.aload_n 0, 1) := by decide +kernel
theorem dX10_text_60 : decode cX10_text 60 = .ok (.invokevirtual 58, 3) := by decide +kernel
theorem dX10_text_63 : decode cX10_text 63 = .ok (.aload_n 0, 1) := by decide +kernel
theorem dX10_text_64 : decode cX10_text 64 = .ok (.invokevirtual 109, 3) := by decide +kernel
theorem dX10_text_67 : decode cX10_text 67 = .ok (.aload_n 0, 1) := by decide +kernel
theorem dX10_text_68 : decode cX10_text 68 = .ok (.getfield 75, 3) := by decide +kernel
theorem dX10_text_71 : decode cX10_text 71 = .ok (.iconst (-1), 1) := by decide +kernel
theorem dX10_text_72 : decode cX10_text 72 = .ok (.if_icmp .ne 17, 3) := by decide +kernel
theorem dX10_text_75 : decode cX10_text 75 = .ok (.aload_n 0, 1) := by decide +kernel
theorem dX10_text_76 : decode cX10_text 76 = .ok (.getfield 98, 3) := by decide +kernel
theorem dX10_text_79 : decode cX10_text 79 = .ok (.ifCond .eq 10, 3) := by decide +kernel
theorem dX10_text_82 : decode cX10_text 82 = .ok (.aload_n 0, 1) := by decide +kernel
theorem dX10_text_83 : decode cX10_text 83 = .ok (.invokevirtual 178, 3) := by decide +kernel
theorem dX10_text_86 : decode cX10_text 86 = .ok (.goto (-19), 3) := by decide +kernel
theorem dX10_text_89 : decode cX10_text 89 = .ok (.aload_n 0, 1) := by decide +kernel
theorem dX10_text_90 : decode cX10_text 90 = .ok (.getfield 75, 3) := by decide +kernel
theorem dX10_text_93 : decode cX10_text 93 = .ok (.iconst (-1), 1) := by decide +kernel
theorem dX10_text_94 : decode cX10_text 94 = .ok (.if_icmp .eq 37, 3) := by decide +kernel
theorem dX10_text_97 : decode cX10_text 97 = .ok (.iconst 0, 1) := by decide +kernel
theorem dX10_text_98 : decode cX10_text 98 = .ok (.istore_n 1, 1) := by decide +kernel
theorem dX10_text_99 : decode cX10_text 99 = .ok (.iload_n 1, 1) := by decide +kernel
theorem dX10_text_100 : decode cX10_text 100 = .ok (.bipush 73, 2) := by decide +kernel
theorem dX10_text_102 : decode cX10_text 102 = .ok (.if_icmp .ge 21, 3) := by decide +kernel
theorem dX10_text_105 : decode cX10_text 105 = .ok (.aload_n 0, 1) := by decide +kernel
theorem dX10_text_106 : decode cX10_text 106 = .ok (.getfield 7, 3) := by decide +kernel
theorem dX10_text_109 : decode cX10_text 109 = .ok (.iload_n 1, 1) := by decide +kernel
theorem dX10_text_110 : decode cX10_text 110 = .ok (.aload_n 0, 1) := by decide +kernel
theorem dX10_text_111 : decode cX10_text 111 = .ok (.getfield 13, 3) := by decide +kernel
theorem dX10_text_114 : decode cX10_text 114 = .ok (.iload_n 1, 1) := by decide +kernel
theorem dX10_text_115 : decode cX10_text 115 = .ok (.iaload, 1) := by decide +kernel
theorem dX10_text_116 : decode cX10_text 116 = .ok (.iastore, 1) := by decide +kernel
theorem dX10_text_117 : decode cX10_text 117 = .ok (.iinc 1 1, 3) := by decide +kernel
theorem dX10_text_120 : decode cX10_text 120 = .ok (.goto (-21), 3) := by decide +kernel
theorem dX10_text_123 : decode cX10_text 123 = .ok (.bipush (-4), 2) := by decide +kernel
theorem dX10_text_125 : decode cX10_text 125 = .ok (.aload_n 0, 1) := by decide +kernel
theorem dX10_text_126 : decode cX10_text 126 = .ok (.getfield 75, 3) := by decide +kernel
theorem dX10_text_129 : decode cX10_text 129 = .ok (.isub, 1) := by decide +kernel
theorem dX10_text_130 : decode cX10_text 130 = .ok (.ireturn, 1) := by decide +kernel
theorem dX10_text_131 : decode cX10_text 131 = .ok (.aload_n 0, 1) := by decide +kernel
theorem dX10_text_132 : decode cX10_text 132 = .ok (.getfield 7, 3) := by decide +kernel
theorem dX10_text_135 : decode cX10_text 135 = .ok (.bipush 10, 2) := by decide +kernel
theorem dX10_text_137 : decode cX10_text 137 = .ok (.aload_n 0, 1) := by decide +kernel
theorem dX10_text_138 : decode cX10_text 138 = .ok (.invokevirtual 181, 3) := by decide +kernel
theorem dX10_text_141 : decode cX10_text 141 = .ok (.iastore, 1) := by decide +kernel
theorem dX10_text_142 : decode cX10_text 142 = .ok (.aload_n 0, 1) := by decide +kernel
theorem dX10_text_143 : decode cX10_text 143 = .ok (.aload_n 0, 1) := by decide +kernel
theorem dX10_text_144 : decode cX10_text 144 = .ok (.getfield 112, 3) := by decide +kernel
theorem dX10_text_147 : decode cX10_text 147 = .ok (.putfield 185, 3) := by decide +kernel
theorem dX10_text_150 : decode cX10_text 150 = .ok (.iconst 0, 1) := by decide +kernel
theorem dX10_text_151 : decode cX10_text 151 = .ok (.istore_n 1, 1) := by decide +kernel
theorem dX10_text_152 : decode cX10_text 152 = .ok (.iload_n 1, 1) := by decide +kernel
theorem dX10_text_153 : decode cX10_text 153 = .ok (.bipush 70, 2) := by decide +kernel
theorem dX10_text_155 : decode cX10_text 155 = .ok (.if_icmp .ge 39, 3) := by decide +kernel
theorem dX10_text_158 : decode cX10_text 158 = .ok (.aload_n 0, 1) := by decide +kernel
theorem dX10_text_159 : decode cX10_text 159 = .ok (.getfield 22, 3) := by decide +kernel
theorem dX10_text_162 : decode cX10_text 162 = .ok (.iload_n 1, 1) := by decide +kernel
theorem dX10_text_163 : decode cX10_text 163 = .ok (.aload_n 0, 1) := by decide +kernel
theorem dX10_text_164 : decode cX10_text 164 = .ok (.getfield 22, 3) := by decide +kernel
theorem dX10_text_167 : decode cX10_text 167 = .ok (.bipush 70, 2) := by decide +kernel
theorem dX10_text_169 : decode cX10_text 169 = .ok (.iload_n 1, 1) := by decide +kernel
theorem dX10_text_170 : decode cX10_text 170 = .ok (.iadd, 1) := by decide +kernel
theorem dX10_text_171 : decode cX10_text 171 = .ok (.iaload, 1) := by decide +kernel
theorem dX10_text_172 : decode cX10_text 172 = .ok (.iastore, 1) := by decide +kernel
theorem dX10_text_173 : decode cX10_text 173 = .ok (.aload_n 0, 1) := by decide +kernel
theorem dX10_text_174 : decode cX10_text 174 = .ok (.getfield 25, 3) := by decide +kernel
theorem dX10_text_177 : decode cX10_text 177 = .ok (.iload_n 1, 1) := by decide +kernel
theorem dX10_text_178 : decode cX10_text 178 = .ok (.aload_n 0, 1) := by decide +kernel
theorem dX10_text_179 : decode cX10_text 179 = .ok (.getfield 25, 3) := by decide +kernel
theorem dX10_text_182 : decode cX10_text 182 = .ok (.bipush 70, 2) := by decide +kernel
theorem dX10_text_184 : decode cX10_text 184 = .ok (.iload_n 1, 1) := by decide +kernel
theorem dX10_text_185 : decode cX10_text 185 = .ok (.iadd, 1) := by decide +kernel
theorem dX10_text_186 : decode cX10_text 186 = .ok (.iaload, 1) := by decide +kernel
theorem dX10_text_187 : decode cX10_text 187 = .ok (.iastore, 1) := by decide +kernel
theorem dX10_text_188 : decode cX10_text 188 = .ok (.iinc 1 1, 3) := by decide +kernel
theorem dX10_text_191 : decode cX10_text 191 = .ok (.goto (-39), 3) := by decide +kernel
theorem dX10_text_194 : decode cX10_text 194 = .ok (.iconst 0, 1) := by decide +kernel
theorem dX10_text_195 : decode cX10_text 195 = .ok (.istore_n 1, 1) := by decide +kernel
theorem dX10_text_196 : decode cX10_text 196 = .ok (.iload_n 1, 1) := by decide +kernel
theorem dX10_text_197 : decode cX10_text 197 = .ok (.sipush 560, 3) := by decide +kernel
theorem dX10_text_200 : decode cX10_text 200 = .ok (.if_icmp .ge 25, 3) := by decide +kernel
theorem dX10_text_203 : decode cX10_text 203 = .ok (.aload_n 0, 1) := by decide +kernel
theorem dX10_text_204 : decode cX10_text 204 = .ok (.getfield 28, 3) := by decide +kernel
theorem dX10_text_207 : decode cX10_text 207 = .ok (.iload_n 1, 1) := by decide +kernel
theorem dX10_text_208 : decode cX10_text 208 = .ok (.aload_n 0, 1) := by decide +kernel
theorem dX10_text_209 : decode cX10_text 209 = .ok (.getfield 28, 3) := by decide +kernel
theorem dX10_text_212 : decode cX10_text 212 = .ok (.sipush 560, 3) := by decide +kernel
theorem dX10_text_215 : decode cX10_text 215 = .ok (.iload_n 1, 1) := by decide +kernel
theorem dX10_text_216 : decode cX10_text 216 = .ok (.iadd, 1) := by decide +kernel
theorem dX10_text_217 : decode cX10_text 217 = .ok (.iaload, 1) := by decide +kernel
theorem dX10_text_218 : decode cX10_text 218 = .ok (.iastore, 1) := by decide +kernel
theorem dX10_text_219 : decode cX10_text 219 = .ok (.iinc 1 1, 3) := by decide +kernel
theorem dX10_text_222 : decode cX10_text 222 = .ok (.goto (-26), 3) := by decide +kernel
theorem dX10_text_225 : decode cX10_text 225 = .ok (.aload_n 0, 1) := by decide +kernel
theorem dX10_text_226 : decode cX10_text 226 = .ok (.iconst 0, 1) := by decide +kernel
theorem dX10_text_227 : decode cX10_text 227 = .ok (.putfield 188, 3) := by decide +kernel
theorem dX10_text_230 : decode cX10_text 230 = .ok (.aload_n 0, 1) := by decide +kernel
theorem dX10_text_231 : decode cX10_text 231 = .ok (.getfield 7, 3) := by decide +kernel
theorem dX10_text_234 : decode cX10_text 234 = .ok (.iconst 0, 1) := by decide +kernel
theorem dX10_text_235 : decode cX10_text 235 = .ok (.iaload, 1) := by decide +kernel
theorem dX10_text_236 : decode cX10_text 236 = .ok (.ireturn, 1) := by decide +kernel
theorem zm_X10_text : ZMv "ClassOfManyModel" yX10_text cX10_text 2 (some .int) 0 := ⟨kw_6_112, kw_6_110, kw_6_111, kw_1_10, by decide +kernel, by decide⟩
def zf_X10_text_L35 (K59 : ZMem → Option (Int32 × ZMem)) : Nat → Int32 → ZMem → Option (Int32 × ZMem)
  | 0, _, _ => none
  | n35 + 1, v51, M52 =>
  (if (73 : Int32) ≤ v51 then (K59 M52) else zrd M52 78 73 v51 (fun v54 => zst M52 79 73 v51 v54 (fun M55 => (zf_X10_text_L35 K59 n35 (v51 + (1 : Int32)) M55))))
def zf_X10_text_L67 (n : Nat) (K89 : ZMem → Option (Int32 × ZMem)) : Nat → ZMem → Option (Int32 × ZMem)
  | 0, _ => none
  | n67 + 1, M59 =>
  (if (M59 77 12) = (-1 : Int32) then (if (M59 77 9) = 0 then (K89 M59) else zb1 (zf_X10_readLine n M59) (fun M61 => (zf_X10_text_L67 n K89 n67 M61))) else (K89 M59))
def zf_X10_text_L152 (K194 : ZMem → Option (Int32 × ZMem)) : Nat → Int32 → ZMem → Option (Int32 × ZMem)
  | 0, _, _ => none
  | n152 + 1, v66, M67 =>
  (if (70 : Int32) ≤ v66 then (K194 M67) else zrd M67 82 140 ((70 : Int32) + v66) (fun v69 => zst M67 82 140 v66 v69 (fun M70 => zrd M70 83 140 ((70 : Int32) + v66) (fun v71 => zst M70 83 140 v66 v71 (fun M72 => (zf_X10_text_L152 K194 n152 (v66 + (1 : Int32)) M72))))))
def zf_X10_text_L196 (K225 : ZMem → Option (Int32 × ZMem)) : Nat → Int32 → ZMem → Option (Int32 × ZMem)
  | 0, _, _ => none
  | n196 + 1, v74, M75 =>
  (if (560 : Int32) ≤ v74 then (K225 M75) else zrd M75 84 1120 ((560 : Int32) + v74) (fun v77 => zst M75 84 1120 v74 v77 (fun M78 => (zf_X10_text_L196 K225 n196 (v74 + (1 : Int32)) M78))))
def zf_X10_text_L99 (K123 : ZMem → Option (Int32 × ZMem)) : Nat → Int32 → ZMem → Option (Int32 × ZMem)
  | 0, _, _ => none
  | n99 + 1, v82, M83 =>
  (if (73 : Int32) ≤ v82 then (K123 M83) else zrd M83 79 73 v82 (fun v85 => zst M83 78 73 v82 v85 (fun M86 => (zf_X10_text_L99 K123 n99 (v82 + (1 : Int32)) M86))))
def zf_X10_text (n : Nat) (M : ZMem) : Option (Int32 × ZMem) :=
  zput M 77 7 (M 77 6) (fun M45 => zput M45 77 6 (0 : Int32) (fun M46 => zput M46 77 8 (0 : Int32) (fun M47 => zput M47 77 12 (-1 : Int32) (fun M48 => zput M48 77 17 (0 : Int32) (fun M49 => zput M49 77 18 (0 : Int32) (fun M50 => (zf_X10_text_L35 (fun M56 => zb1 (zf_X10_anew n M56) (fun M57 => zb1 (zf_X10_nextToken n M57) (fun M58 => (zf_X10_text_L67 n (fun M62 => (if (M62 77 12) = (-1 : Int32) then zb1 (zf_X10_firstOrder n M62) (fun v63 => zst M62 78 73 (10 : Int32) v63 (fun M64 => zput M64 77 16 (M64 77 17) (fun M65 => (zf_X10_text_L152 (fun M73 => (zf_X10_text_L196 (fun M79 => zput M79 77 4 (0 : Int32) (fun M80 => zrd M80 78 73 (0 : Int32) (fun v81 => some (v81, M80)))) n (0 : Int32) M73)) n (0 : Int32) M65)))) else (zf_X10_text_L99 (fun M87 => some (((-4 : Int32) - (M87 77 12)), M87)) n (0 : Int32) M62))) n M58)))) n (0 : Int32) M50)))))))
set_option maxHeartbeats 4000000 in
set_option maxRecDepth 100000 in
theorem zc_X10_text {l : Launch} {D : va_G} {ad : Nat → Nat} {cA : Nat → ClassId} {n : Nat} {M : ZMem} {r : Int32} {M' : ZMem} (hf : zf_X10_text n M = some (r, M')) : ZCt l D ad cA yX10_text cX10_text 2 (some .int) 8 [.ref (ad 77)] M (some (.int r)) M' := by
  refine zct (by decide +kernel) (Nat.le_of_ble_eq_true rfl) (lv := [(0, .ref (ad 77))]) rfl (fun E hl hD had hcA hN hC hR => ?_)
  subst hl; subst hD; subst had; subst hcA
  unfold zf_X10_text at hf
  refine zw_aload_n hC dX10_text_0 rfl 0 rfl ?_
  refine zw_aload_n hC dX10_text_1 rfl 0 rfl ?_
  refine zw_geti hC zF_Model_taped zk_77 dX10_text_2 kw_5_232 ?_
  refine zw_puti hC hf zF_Model_size zk_77 dX10_text_5 kw_5_233 (fun M45 hf => ?_)
  refine zw_aload_n hC dX10_text_8 rfl 0 rfl ?_
  refine zw_iconst hC (v := (0 : Int32)) dX10_text_9 (by decide) ?_
  refine zw_puti hC hf zF_Model_taped zk_77 dX10_text_10 kw_5_232 (fun M46 hf => ?_)
  refine zw_aload_n hC dX10_text_13 rfl 0 rfl ?_
  refine zw_iconst hC (v := (0 : Int32)) dX10_text_14 (by decide) ?_
  refine zw_puti hC hf zF_Model_at zk_77 dX10_text_15 kw_5_234 (fun M47 hf => ?_)
  refine zw_aload_n hC dX10_text_18 rfl 0 rfl ?_
  refine zw_iconst hC (v := (-1 : Int32)) dX10_text_19 (by decide) ?_
  refine zw_puti hC hf zF_Model_fault zk_77 dX10_text_20 kw_5_238 (fun M48 hf => ?_)
  refine zw_aload_n hC dX10_text_23 rfl 0 rfl ?_
  refine zw_iconst hC (v := (0 : Int32)) dX10_text_24 (by decide) ?_
  refine zw_puti hC hf zF_Model_read zk_77 dX10_text_25 kw_6_3 (fun M49 hf => ?_)
  refine zw_aload_n hC dX10_text_28 rfl 0 rfl ?_
  refine zw_iconst hC (v := (0 : Int32)) dX10_text_29 (by decide) ?_
  refine zw_puti hC hf zF_Model_told zk_77 dX10_text_30 kw_6_4 (fun M50 hf => ?_)
  refine zw_iconst hC (v := (0 : Int32)) dX10_text_33 (by decide) ?_
  refine zw_istore_n hC (lv' := [(1, .int (0 : Int32)), (0, .ref (zad E 77))]) dX10_text_34 rfl hN (by decide) rfl ?_
  have hL35 : ∀ (K59 : ZMem → Option (Int32 × ZMem)), (∀ (M53 : ZMem), K59 M53 = some (r, M') → ZW E 59 [(0, .ref (zad E 77))] [] M53) → ∀ (n35 : Nat), ∀ (v51 : Int32), ∀ (M52 : ZMem), zf_X10_text_L35 K59 n35 v51 M52 = some (r, M') → ZW E 35 [(0, .ref (zad E 77)), (1, .int v51)] [] M52 := by
    intro K59 hK59
    intro n35
    induction n35 with
    | zero => intro v51 M52 hf; rw [zf_X10_text_L35] at hf; cases hf
    | succ n35 ih35 =>
      intro v51 M52 hf
      rw [zf_X10_text_L35] at hf
      refine zw_iload_n hC dX10_text_35 rfl 1 rfl ?_
      refine zw_bipush hC (v := (73 : Int32)) dX10_text_36 (by decide) ?_
      refine zw_icmp_ge hC 59 hf dX10_text_38 (by decide) (fun hf => ?_) (fun hf => ?_)
      · exact zw_sub [0] rfl (hK59 M52 hf)
      · refine zw_aload_n hC dX10_text_41 rfl 0 rfl ?_
        refine zw_getr (k' := 79) hC zF_Model_aside zk_77 rfl dX10_text_42 kw_5_228 ?_
        refine zw_iload_n hC dX10_text_45 rfl 1 rfl ?_
        refine zw_aload_n hC dX10_text_46 rfl 0 rfl ?_
        refine zw_getr (k' := 78) hC zF_Model_now zk_77 rfl dX10_text_47 kw_5_227 ?_
        refine zw_iload_n hC dX10_text_50 rfl 1 rfl ?_
        refine zw_iald hC hf zk_78 dX10_text_51 (fun v54 hf => ?_)
        refine zw_iast hC hf zk_79 dX10_text_52 (fun M55 hf => ?_)
        refine zw_iinc hC (v := (1 : Int32)) (lv' := [(1, .int (v51 + (1 : Int32))), (0, .ref (zad E 77))]) dX10_text_53 1 rfl (by decide) hN (by decide) rfl ?_
        refine zw_goto hC 35 dX10_text_56 (by decide) ?_
        exact zw_sub [1, 0] rfl (ih35 (v51 + (1 : Int32)) M55 hf)
  refine zw_sub [1, 0] rfl (hL35 _ ?_ n (0 : Int32) M50 hf)
  · intro M56 hf
    refine zw_aload_n hC dX10_text_59 rfl 0 rfl ?_
    obtain ⟨M57, hcM57, hf⟩ := zb1_some hf
    refine zw_cV hC [] [] (st1 := []) zm_X10_anew (zc_X10_anew hcM57) zk_77 rfl kw_5_223 dX10_text_60 rfl (by decide) (Nat.le_of_ble_eq_true rfl) rfl rfl ?_
    refine zw_aload_n hC dX10_text_63 rfl 0 rfl ?_
    obtain ⟨M58, hcM58, hf⟩ := zb1_some hf
    refine zw_cV hC [] [] (st1 := []) zm_X10_nextToken (zc_X10_nextToken hcM58) zk_77 rfl kw_6_113 dX10_text_64 rfl (by decide) (Nat.le_of_ble_eq_true rfl) rfl rfl ?_
    have hL67 : ∀ (K89 : ZMem → Option (Int32 × ZMem)), (∀ (M60 : ZMem), K89 M60 = some (r, M') → ZW E 89 [(0, .ref (zad E 77))] [] M60) → ∀ (n67 : Nat), ∀ (M59 : ZMem), zf_X10_text_L67 n K89 n67 M59 = some (r, M') → ZW E 67 [(0, .ref (zad E 77))] [] M59 := by
      intro K89 hK89
      intro n67
      induction n67 with
      | zero => intro M59 hf; rw [zf_X10_text_L67] at hf; cases hf
      | succ n67 ih67 =>
        intro M59 hf
        rw [zf_X10_text_L67] at hf
        refine zw_aload_n hC dX10_text_67 rfl 0 rfl ?_
        refine zw_geti hC zF_Model_fault zk_77 dX10_text_68 kw_5_238 ?_
        refine zw_iconst hC (v := (-1 : Int32)) dX10_text_71 (by decide) ?_
        refine zw_icmp_ne hC 89 hf dX10_text_72 (by decide) (fun hf => ?_) (fun hf => ?_)
        · exact hK89 M59 hf
        · refine zw_aload_n hC dX10_text_75 rfl 0 rfl ?_
          refine zw_geti hC zF_Model_token zk_77 dX10_text_76 kw_5_235 ?_
          refine zw_if_eq hC 89 hf dX10_text_79 (by decide) (fun hf => ?_) (fun hf => ?_)
          · exact hK89 M59 hf
          · refine zw_aload_n hC dX10_text_82 rfl 0 rfl ?_
            obtain ⟨M61, hcM61, hf⟩ := zb1_some hf
            refine zw_cV hC [] [] (st1 := []) zm_X10_readLine (zc_X10_readLine hcM61) zk_77 rfl kw_6_130 dX10_text_83 rfl (by decide) (Nat.le_of_ble_eq_true rfl) rfl rfl ?_
            refine zw_goto hC 67 dX10_text_86 (by decide) ?_
            exact ih67 M61 hf
    refine hL67 _ ?_ n M58 hf
    · intro M62 hf
      refine zw_aload_n hC dX10_text_89 rfl 0 rfl ?_
      refine zw_geti hC zF_Model_fault zk_77 dX10_text_90 kw_5_238 ?_
      refine zw_iconst hC (v := (-1 : Int32)) dX10_text_93 (by decide) ?_
      refine zw_icmp_eq hC 131 hf dX10_text_94 (by decide) (fun hf => ?_) (fun hf => ?_)
      · refine zw_aload_n hC dX10_text_131 rfl 0 rfl ?_
        refine zw_getr (k' := 78) hC zF_Model_now zk_77 rfl dX10_text_132 kw_5_227 ?_
        refine zw_bipush hC (v := (10 : Int32)) dX10_text_135 (by decide) ?_
        refine zw_aload_n hC dX10_text_137 rfl 0 rfl ?_
        obtain ⟨v63, hc63, hf⟩ := zb1_some hf
        refine zw_cV hC [] [.int (10 : Int32), .ref (zad E 78)] (st1 := [.int v63, .int (10 : Int32), .ref (zad E 78)]) zm_X10_firstOrder (zc_X10_firstOrder hc63) zk_77 rfl kw_6_197 dX10_text_138 rfl (by decide) (Nat.le_of_ble_eq_true rfl) rfl rfl ?_
        refine zw_iast hC hf zk_78 dX10_text_141 (fun M64 hf => ?_)
        refine zw_aload_n hC dX10_text_142 rfl 0 rfl ?_
        refine zw_aload_n hC dX10_text_143 rfl 0 rfl ?_
        refine zw_geti hC zF_Model_read zk_77 dX10_text_144 kw_6_3 ?_
        refine zw_puti hC hf zF_Model_lines zk_77 dX10_text_147 kw_6_2 (fun M65 hf => ?_)
        refine zw_iconst hC (v := (0 : Int32)) dX10_text_150 (by decide) ?_
        refine zw_istore_n hC (lv' := [(1, .int (0 : Int32)), (0, .ref (zad E 77))]) dX10_text_151 rfl hN (by decide) rfl ?_
        have hL152 : ∀ (K194 : ZMem → Option (Int32 × ZMem)), (∀ (M68 : ZMem), K194 M68 = some (r, M') → ZW E 194 [(0, .ref (zad E 77))] [] M68) → ∀ (n152 : Nat), ∀ (v66 : Int32), ∀ (M67 : ZMem), zf_X10_text_L152 K194 n152 v66 M67 = some (r, M') → ZW E 152 [(0, .ref (zad E 77)), (1, .int v66)] [] M67 := by
          intro K194 hK194
          intro n152
          induction n152 with
          | zero => intro v66 M67 hf; rw [zf_X10_text_L152] at hf; cases hf
          | succ n152 ih152 =>
            intro v66 M67 hf
            rw [zf_X10_text_L152] at hf
            refine zw_iload_n hC dX10_text_152 rfl 1 rfl ?_
            refine zw_bipush hC (v := (70 : Int32)) dX10_text_153 (by decide) ?_
            refine zw_icmp_ge hC 194 hf dX10_text_155 (by decide) (fun hf => ?_) (fun hf => ?_)
            · exact zw_sub [0] rfl (hK194 M67 hf)
            · refine zw_aload_n hC dX10_text_158 rfl 0 rfl ?_
              refine zw_getr (k' := 82) hC zF_Model_lineSort zk_77 rfl dX10_text_159 kw_5_239 ?_
              refine zw_iload_n hC dX10_text_162 rfl 1 rfl ?_
              refine zw_aload_n hC dX10_text_163 rfl 0 rfl ?_
              refine zw_getr (k' := 82) hC zF_Model_lineSort zk_77 rfl dX10_text_164 kw_5_239 ?_
              refine zw_bipush hC (v := (70 : Int32)) dX10_text_167 (by decide) ?_
              refine zw_iload_n hC dX10_text_169 rfl 1 rfl ?_
              refine zw_iadd hC dX10_text_170 ?_
              refine zw_iald hC hf zk_82 dX10_text_171 (fun v69 hf => ?_)
              refine zw_iast hC hf zk_82 dX10_text_172 (fun M70 hf => ?_)
              refine zw_aload_n hC dX10_text_173 rfl 0 rfl ?_
              refine zw_getr (k' := 83) hC zF_Model_lineMany zk_77 rfl dX10_text_174 kw_6_0 ?_
              refine zw_iload_n hC dX10_text_177 rfl 1 rfl ?_
              refine zw_aload_n hC dX10_text_178 rfl 0 rfl ?_
              refine zw_getr (k' := 83) hC zF_Model_lineMany zk_77 rfl dX10_text_179 kw_6_0 ?_
              refine zw_bipush hC (v := (70 : Int32)) dX10_text_182 (by decide) ?_
              refine zw_iload_n hC dX10_text_184 rfl 1 rfl ?_
              refine zw_iadd hC dX10_text_185 ?_
              refine zw_iald hC hf zk_83 dX10_text_186 (fun v71 hf => ?_)
              refine zw_iast hC hf zk_83 dX10_text_187 (fun M72 hf => ?_)
              refine zw_iinc hC (v := (1 : Int32)) (lv' := [(1, .int (v66 + (1 : Int32))), (0, .ref (zad E 77))]) dX10_text_188 1 rfl (by decide) hN (by decide) rfl ?_
              refine zw_goto hC 152 dX10_text_191 (by decide) ?_
              exact zw_sub [1, 0] rfl (ih152 (v66 + (1 : Int32)) M72 hf)
        refine zw_sub [1, 0] rfl (hL152 _ ?_ n (0 : Int32) M65 hf)
        · intro M73 hf
          refine zw_iconst hC (v := (0 : Int32)) dX10_text_194 (by decide) ?_
          refine zw_istore_n hC (lv' := [(1, .int (0 : Int32)), (0, .ref (zad E 77))]) dX10_text_195 rfl hN (by decide) rfl ?_
          have hL196 : ∀ (K225 : ZMem → Option (Int32 × ZMem)), (∀ (M76 : ZMem), K225 M76 = some (r, M') → ZW E 225 [(0, .ref (zad E 77))] [] M76) → ∀ (n196 : Nat), ∀ (v74 : Int32), ∀ (M75 : ZMem), zf_X10_text_L196 K225 n196 v74 M75 = some (r, M') → ZW E 196 [(0, .ref (zad E 77)), (1, .int v74)] [] M75 := by
            intro K225 hK225
            intro n196
            induction n196 with
            | zero => intro v74 M75 hf; rw [zf_X10_text_L196] at hf; cases hf
            | succ n196 ih196 =>
              intro v74 M75 hf
              rw [zf_X10_text_L196] at hf
              refine zw_iload_n hC dX10_text_196 rfl 1 rfl ?_
              refine zw_sipush hC (v := (560 : Int32)) dX10_text_197 (by decide) ?_
              refine zw_icmp_ge hC 225 hf dX10_text_200 (by decide) (fun hf => ?_) (fun hf => ?_)
              · exact zw_sub [0] rfl (hK225 M75 hf)
              · refine zw_aload_n hC dX10_text_203 rfl 0 rfl ?_
                refine zw_getr (k' := 84) hC zF_Model_lineN zk_77 rfl dX10_text_204 kw_6_1 ?_
                refine zw_iload_n hC dX10_text_207 rfl 1 rfl ?_
                refine zw_aload_n hC dX10_text_208 rfl 0 rfl ?_
                refine zw_getr (k' := 84) hC zF_Model_lineN zk_77 rfl dX10_text_209 kw_6_1 ?_
                refine zw_sipush hC (v := (560 : Int32)) dX10_text_212 (by decide) ?_
                refine zw_iload_n hC dX10_text_215 rfl 1 rfl ?_
                refine zw_iadd hC dX10_text_216 ?_
                refine zw_iald hC hf zk_84 dX10_text_217 (fun v77 hf => ?_)
                refine zw_iast hC hf zk_84 dX10_text_218 (fun M78 hf => ?_)
                refine zw_iinc hC (v := (1 : Int32)) (lv' := [(1, .int (v74 + (1 : Int32))), (0, .ref (zad E 77))]) dX10_text_219 1 rfl (by decide) hN (by decide) rfl ?_
                refine zw_goto hC 196 dX10_text_222 (by decide) ?_
                exact zw_sub [1, 0] rfl (ih196 (v74 + (1 : Int32)) M78 hf)
          refine zw_sub [1, 0] rfl (hL196 _ ?_ n (0 : Int32) M73 hf)
          · intro M79 hf
            refine zw_aload_n hC dX10_text_225 rfl 0 rfl ?_
            refine zw_iconst hC (v := (0 : Int32)) dX10_text_226 (by decide) ?_
            refine zw_puti hC hf zF_Model_undoMany zk_77 dX10_text_227 kw_5_230 (fun M80 hf => ?_)
            refine zw_aload_n hC dX10_text_230 rfl 0 rfl ?_
            refine zw_getr (k' := 78) hC zF_Model_now zk_77 rfl dX10_text_231 kw_5_227 ?_
            refine zw_iconst hC (v := (0 : Int32)) dX10_text_234 (by decide) ?_
            refine zw_iald hC hf zk_78 dX10_text_235 (fun v81 hf => ?_)
            obtain ⟨h1, h2⟩ := Prod.mk.inj (Option.some.inj hf)
            subst h1; subst h2
            exact zw_iret hC hR dX10_text_236
      · refine zw_iconst hC (v := (0 : Int32)) dX10_text_97 (by decide) ?_
        refine zw_istore_n hC (lv' := [(1, .int (0 : Int32)), (0, .ref (zad E 77))]) dX10_text_98 rfl hN (by decide) rfl ?_
        have hL99 : ∀ (K123 : ZMem → Option (Int32 × ZMem)), (∀ (M84 : ZMem), K123 M84 = some (r, M') → ZW E 123 [(0, .ref (zad E 77))] [] M84) → ∀ (n99 : Nat), ∀ (v82 : Int32), ∀ (M83 : ZMem), zf_X10_text_L99 K123 n99 v82 M83 = some (r, M') → ZW E 99 [(0, .ref (zad E 77)), (1, .int v82)] [] M83 := by
          intro K123 hK123
          intro n99
          induction n99 with
          | zero => intro v82 M83 hf; rw [zf_X10_text_L99] at hf; cases hf
          | succ n99 ih99 =>
            intro v82 M83 hf
            rw [zf_X10_text_L99] at hf
            refine zw_iload_n hC dX10_text_99 rfl 1 rfl ?_
            refine zw_bipush hC (v := (73 : Int32)) dX10_text_100 (by decide) ?_
            refine zw_icmp_ge hC 123 hf dX10_text_102 (by decide) (fun hf => ?_) (fun hf => ?_)
            · exact zw_sub [0] rfl (hK123 M83 hf)
            · refine zw_aload_n hC dX10_text_105 rfl 0 rfl ?_
              refine zw_getr (k' := 78) hC zF_Model_now zk_77 rfl dX10_text_106 kw_5_227 ?_
              refine zw_iload_n hC dX10_text_109 rfl 1 rfl ?_
              refine zw_aload_n hC dX10_text_110 rfl 0 rfl ?_
              refine zw_getr (k' := 79) hC zF_Model_aside zk_77 rfl dX10_text_111 kw_5_228 ?_
              refine zw_iload_n hC dX10_text_114 rfl 1 rfl ?_
              refine zw_iald hC hf zk_79 dX10_text_115 (fun v85 hf => ?_)
              refine zw_iast hC hf zk_78 dX10_text_116 (fun M86 hf => ?_)
              refine zw_iinc hC (v := (1 : Int32)) (lv' := [(1, .int (v82 + (1 : Int32))), (0, .ref (zad E 77))]) dX10_text_117 1 rfl (by decide) hN (by decide) rfl ?_
              refine zw_goto hC 99 dX10_text_120 (by decide) ?_
              exact zw_sub [1, 0] rfl (ih99 (v82 + (1 : Int32)) M86 hf)
        refine zw_sub [1, 0] rfl (hL99 _ ?_ n (0 : Int32) M62 hf)
        · intro M87 hf
          refine zw_bipush hC (v := (-4 : Int32)) dX10_text_123 (by decide) ?_
          refine zw_aload_n hC dX10_text_125 rfl 0 rfl ?_
          refine zw_geti hC zF_Model_fault zk_77 dX10_text_126 kw_5_238 ?_
          refine zw_isub hC dX10_text_129 ?_
          obtain ⟨h1, h2⟩ := Prod.mk.inj (Option.some.inj hf)
          subst h1; subst h2
          exact zw_iret hC hR dX10_text_130
/-! ClassOfManyModel.orders()I -/
theorem dX10_orders_0 : decode cX10_orders 0 = .ok (.iconst 1, 1) := by decide +kernel
theorem dX10_orders_1 : decode cX10_orders 1 = .ok (.iconst 2, 1) := by decide +kernel
theorem dX10_orders_2 : decode cX10_orders 2 = .ok (.aload_n 0, 1) := by decide +kernel
theorem dX10_orders_3 : decode cX10_orders 3 = .ok (.getfield 7, 3) := by decide +kernel
theorem dX10_orders_6 : decode cX10_orders 6 = .ok (.iconst 1, 1) := by decide +kernel
theorem dX10_orders_7 : decode cX10_orders 7 = .ok (.iaload, 1) := by decide +kernel
theorem dX10_orders_8 : decode cX10_orders 8 = .ok (.imul, 1) := by decide +kernel
theorem dX10_orders_9 : decode cX10_orders 9 = .ok (.ishl, 1) := by decide +kernel
theorem dX10_orders_10 : decode cX10_orders 10 = .ok (.ireturn, 1) := by decide +kernel
theorem zm_X10_orders : ZMv "ClassOfManyModel" yX10_orders cX10_orders 1 (some .int) 0 := ⟨kw_6_224, kw_6_223, kp_79, kw_1_10, by decide +kernel, by decide⟩
def zf_X10_orders (M : ZMem) : Option (Int32) :=
  zrd M 78 73 (1 : Int32) (fun v22 => some ((1 : Int32) <<< (((2 : Int32) * v22) &&& 31)))
set_option maxHeartbeats 4000000 in
set_option maxRecDepth 100000 in
theorem zc_X10_orders {l : Launch} {D : va_G} {ad : Nat → Nat} {cA : Nat → ClassId} {M : ZMem} {r : Int32} (hf : zf_X10_orders M = some r) : ZCt l D ad cA yX10_orders cX10_orders 1 (some .int) 1 [.ref (ad 77)] M (some (.int r)) M := by
  refine zct (by decide +kernel) (Nat.le_of_ble_eq_true rfl) (lv := [(0, .ref (ad 77))]) rfl (fun E hl hD had hcA hN hC hR => ?_)
  subst hl; subst hD; subst had; subst hcA
  unfold zf_X10_orders at hf
  refine zw_iconst hC (v := (1 : Int32)) dX10_orders_0 (by decide) ?_
  refine zw_iconst hC (v := (2 : Int32)) dX10_orders_1 (by decide) ?_
  refine zw_aload_n hC dX10_orders_2 rfl 0 rfl ?_
  refine zw_getr (k' := 78) hC zF_Model_now zk_77 rfl dX10_orders_3 kw_5_227 ?_
  refine zw_iconst hC (v := (1 : Int32)) dX10_orders_6 (by decide) ?_
  refine zw_iald hC hf zk_78 dX10_orders_7 (fun v22 hf => ?_)
  refine zw_imul hC dX10_orders_8 ?_
  refine zw_ishl hC dX10_orders_9 ?_
  have h1 := Option.some.inj hf
  subst h1
  exact zw_iret hC hR dX10_orders_10
/-! ClassOfManyModel.channelAt(II)I -/
theorem dX10_channelAt_0 : decode cX10_channelAt 0 = .ok (.iload_n 1, 1) := by decide +kernel
theorem dX10_channelAt_1 : decode cX10_channelAt 1 = .ok (.iconst 2, 1) := by decide +kernel
theorem dX10_channelAt_2 : decode cX10_channelAt 2 = .ok (.aload_n 0, 1) := by decide +kernel
theorem dX10_channelAt_3 : decode cX10_channelAt 3 = .ok (.getfield 7, 3) := by decide +kernel
theorem dX10_channelAt_6 : decode cX10_channelAt 6 = .ok (.iconst 1, 1) := by decide +kernel
theorem dX10_channelAt_7 : decode cX10_channelAt 7 = .ok (.iaload, 1) := by decide +kernel
theorem dX10_channelAt_8 : decode cX10_channelAt 8 = .ok (.iconst 1, 1) := by decide +kernel
theorem dX10_channelAt_9 : decode cX10_channelAt 9 = .ok (.isub, 1) := by decide +kernel
theorem dX10_channelAt_10 : decode cX10_channelAt 10 = .ok (.iload_n 2, 1) := by decide +kernel
theorem dX10_channelAt_11 : decode cX10_channelAt 11 = .ok (.isub, 1) := by decide +kernel
theorem dX10_channelAt_12 : decode cX10_channelAt 12 = .ok (.imul, 1) := by decide +kernel
theorem dX10_channelAt_13 : decode cX10_channelAt 13 = .ok (.ishr, 1) := by decide +kernel
theorem dX10_channelAt_14 : decode cX10_channelAt 14 = .ok (.iconst 3, 1) := by decide +kernel
theorem dX10_channelAt_15 : decode cX10_channelAt 15 = .ok (.iand, 1) := by decide +kernel
theorem dX10_channelAt_16 : decode cX10_channelAt 16 = .ok (.ireturn, 1) := by decide +kernel
theorem zm_X10_channelAt : ZMv "ClassOfManyModel" yX10_channelAt cX10_channelAt 3 (some .int) 2 := ⟨kw_6_228, kw_6_227, kp_80, kw_1_10, by decide +kernel, by decide⟩
def zf_X10_channelAt (a1 : Int32) (a2 : Int32) (M : ZMem) : Option (Int32) :=
  zrd M 78 73 (1 : Int32) (fun v22 => some ((a1 >>> (((2 : Int32) * ((v22 - (1 : Int32)) - a2)) &&& 31)) &&& (3 : Int32)))
set_option maxHeartbeats 4000000 in
set_option maxRecDepth 100000 in
theorem zc_X10_channelAt {l : Launch} {D : va_G} {ad : Nat → Nat} {cA : Nat → ClassId} {a1 : Int32} {a2 : Int32} {M : ZMem} {r : Int32} (hf : zf_X10_channelAt a1 a2 M = some r) : ZCt l D ad cA yX10_channelAt cX10_channelAt 3 (some .int) 1 [.ref (ad 77), .int a1, .int a2] M (some (.int r)) M := by
  refine zct (by decide +kernel) (Nat.le_of_ble_eq_true rfl) (lv := [(0, .ref (ad 77)), (1, .int a1), (2, .int a2)]) rfl (fun E hl hD had hcA hN hC hR => ?_)
  subst hl; subst hD; subst had; subst hcA
  unfold zf_X10_channelAt at hf
  refine zw_iload_n hC dX10_channelAt_0 rfl 1 rfl ?_
  refine zw_iconst hC (v := (2 : Int32)) dX10_channelAt_1 (by decide) ?_
  refine zw_aload_n hC dX10_channelAt_2 rfl 0 rfl ?_
  refine zw_getr (k' := 78) hC zF_Model_now zk_77 rfl dX10_channelAt_3 kw_5_227 ?_
  refine zw_iconst hC (v := (1 : Int32)) dX10_channelAt_6 (by decide) ?_
  refine zw_iald hC hf zk_78 dX10_channelAt_7 (fun v22 hf => ?_)
  refine zw_iconst hC (v := (1 : Int32)) dX10_channelAt_8 (by decide) ?_
  refine zw_isub hC dX10_channelAt_9 ?_
  refine zw_iload_n hC dX10_channelAt_10 rfl 2 rfl ?_
  refine zw_isub hC dX10_channelAt_11 ?_
  refine zw_imul hC dX10_channelAt_12 ?_
  refine zw_ishr hC dX10_channelAt_13 ?_
  refine zw_iconst hC (v := (3 : Int32)) dX10_channelAt_14 (by decide) ?_
  refine zw_iand hC dX10_channelAt_15 ?_
  have h1 := Option.some.inj hf
  subst h1
  exact zw_iret hC hR dX10_channelAt_16
/-! ClassOfManyModel.isOrder(I)Z -/
theorem dX10_isOrder_0 : decode cX10_isOrder 0 = .ok (.iload_n 1, 1) := by decide +kernel
theorem dX10_isOrder_1 : decode cX10_isOrder 1 = .ok (.iconst 0, 1) := by decide +kernel
theorem dX10_isOrder_2 : decode cX10_isOrder 2 = .ok (.aload_n 0, 1) := by decide +kernel
theorem dX10_isOrder_3 : decode cX10_isOrder 3 = .ok (.invokevirtual 191, 3) := by decide +kernel
theorem dX10_isOrder_6 : decode cX10_isOrder 6 = .ok (.iconst 1, 1) := by decide +kernel
theorem dX10_isOrder_7 : decode cX10_isOrder 7 = .ok (.isub, 1) := by decide +kernel
theorem dX10_isOrder_8 : decode cX10_isOrder 8 = .ok (.invokestatic 65, 3) := by decide +kernel
theorem dX10_isOrder_11 : decode cX10_isOrder 11 = .ok (.ifCond .ne 5, 3) := by decide +kernel
theorem dX10_isOrder_14 : decode cX10_isOrder 14 = .ok (.iconst 0, 1) := by decide +kernel
theorem dX10_isOrder_15 : decode cX10_isOrder 15 = .ok (.ireturn, 1) := by decide +kernel
theorem dX10_isOrder_16 : decode cX10_isOrder 16 = .ok (.iconst 0, 1) := by decide +kernel
theorem dX10_isOrder_17 : decode cX10_isOrder 17 = .ok (.istore_n 2, 1) := by decide +kernel
theorem dX10_isOrder_18 : decode cX10_isOrder 18 = .ok (.iconst 0, 1) := by decide +kernel
theorem dX10_isOrder_19 : decode cX10_isOrder 19 = .ok (.istore_n 3, 1) := by decide +kernel
theorem dX10_isOrder_20 : decode cX10_isOrder 20 = .ok (.iload_n 3, 1) := by decide +kernel
theorem dX10_isOrder_21 : decode cX10_isOrder 21 = .ok (.aload_n 0, 1) := by decide +kernel
theorem dX10_isOrder_22 : decode cX10_isOrder 22 = .ok (.getfield 7, 3) := by decide +kernel
theorem dX10_isOrder_25 : decode cX10_isOrder 25 = .ok (.iconst 1, 1) := by decide +kernel
theorem dX10_isOrder_26 : decode cX10_isOrder 26 = .ok (.iaload, 1) := by decide +kernel
theorem dX10_isOrder_27 : decode cX10_isOrder 27 = .ok (.if_icmp .ge 20, 3) := by decide +kernel
theorem dX10_isOrder_30 : decode cX10_isOrder 30 = .ok (.iload_n 2, 1) := by decide +kernel
theorem dX10_isOrder_31 : decode cX10_isOrder 31 = .ok (.iconst 1, 1) := by decide +kernel
theorem dX10_isOrder_32 : decode cX10_isOrder 32 = .ok (.aload_n 0, 1) := by decide +kernel
theorem dX10_isOrder_33 : decode cX10_isOrder 33 = .ok (.iload_n 1, 1) := by decide +kernel
theorem dX10_isOrder_34 : decode cX10_isOrder 34 = .ok (.iload_n 3, 1) := by decide +kernel
theorem dX10_isOrder_35 : decode cX10_isOrder 35 = .ok (.invokevirtual 194, 3) := by decide +kernel
theorem dX10_isOrder_38 : decode cX10_isOrder 38 = .ok (.ishl, 1) := by decide +kernel
theorem dX10_isOrder_39 : decode cX10_isOrder 39 = .ok (.ior, 1) := by decide +kernel
theorem dX10_isOrder_40 : decode cX10_isOrder 40 = .ok (.istore_n 2, 1) := by decide +kernel
theorem dX10_isOrder_41 : decode cX10_isOrder 41 = .ok (.iinc 3 1, 3) := by decide +kernel
theorem dX10_isOrder_44 : decode cX10_isOrder 44 = .ok (.goto (-24), 3) := by decide +kernel
theorem dX10_isOrder_47 : decode cX10_isOrder 47 = .ok (.iload_n 2, 1) := by decide +kernel
theorem dX10_isOrder_48 : decode cX10_isOrder 48 = .ok (.iconst 1, 1) := by decide +kernel
theorem dX10_isOrder_49 : decode cX10_isOrder 49 = .ok (.aload_n 0, 1) := by decide +kernel
theorem dX10_isOrder_50 : decode cX10_isOrder 50 = .ok (.getfield 7, 3) := by decide +kernel
theorem dX10_isOrder_53 : decode cX10_isOrder 53 = .ok (.iconst 1, 1) := by decide +kernel
theorem dX10_isOrder_54 : decode cX10_isOrder 54 = .ok (.iaload, 1) := by decide +kernel
theorem dX10_isOrder_55 : decode cX10_isOrder 55 = .ok (.ishl, 1) := by decide +kernel
theorem dX10_isOrder_56 : decode cX10_isOrder 56 = .ok (.iconst 1, 1) := by decide +kernel
theorem dX10_isOrder_57 : decode cX10_isOrder 57 = .ok (.isub, 1) := by decide +kernel
theorem dX10_isOrder_58 : decode cX10_isOrder 58 = .ok (.if_icmp .ne 7, 3) := by decide +kernel
theorem dX10_isOrder_61 : decode cX10_isOrder 61 = .ok (.iconst 1, 1) := by decide +kernel
theorem dX10_isOrder_62 : decode cX10_isOrder 62 = .ok (.goto 4, 3) := by decide +kernel
theorem dX10_isOrder_65 : decode cX10_isOrder 65 = .ok (.iconst 0, 1) := by decide +kernel
theorem dX10_isOrder_66 : decode cX10_isOrder 66 = .ok (.ireturn, 1) := by decide +kernel
theorem zm_X10_isOrder : ZMv "ClassOfManyModel" yX10_isOrder cX10_isOrder 4 (some .boolean) 1 := ⟨kw_6_220, kw_6_219, kp_78, kw_1_10, by decide +kernel, by decide⟩
def zf_X10_isOrder_L20 (M : ZMem) (a1 : Int32) (K47 : Int32 → Option (Int32)) : Nat → Int32 → Int32 → Option (Int32)
  | 0, _, _ => none
  | n20 + 1, v28, v29 =>
  zrd M 78 73 (1 : Int32) (fun v31 => (if v31 ≤ v29 then (K47 v28) else zb1 (zf_X10_channelAt a1 v29 M) (fun v32 => (zf_X10_isOrder_L20 M a1 K47 n20 (v28 ||| ((1 : Int32) <<< (v32 &&& 31))) (v29 + (1 : Int32))))))
def zf_X10_isOrder_j66 (v35 : Int32) : Option (Int32) :=
  zbz v35 (some v35)
def zf_X10_isOrder (n : Nat) (a1 : Int32) (M : ZMem) : Option (Int32) :=
  zb1 (zf_X10_orders M) (fun v26 => zb1 (zf_X10_isIn a1 (0 : Int32) (v26 - (1 : Int32))) (fun v27 => (if v27 = 0 then some (0 : Int32) else (zf_X10_isOrder_L20 M a1 (fun v33 => zrd M 78 73 (1 : Int32) (fun v34 => (if v33 = (((1 : Int32) <<< (v34 &&& 31)) - (1 : Int32)) then (zf_X10_isOrder_j66 (1 : Int32)) else (zf_X10_isOrder_j66 (0 : Int32))))) n (0 : Int32) (0 : Int32)))))
set_option maxHeartbeats 4000000 in
set_option maxRecDepth 100000 in
theorem zc_X10_isOrder {l : Launch} {D : va_G} {ad : Nat → Nat} {cA : Nat → ClassId} {n : Nat} {a1 : Int32} {M : ZMem} {r : Int32} (hf : zf_X10_isOrder n a1 M = some r) : ZCt l D ad cA yX10_isOrder cX10_isOrder 4 (some .boolean) 2 [.ref (ad 77), .int a1] M (some (.int r)) M := by
  refine zct (by decide +kernel) (Nat.le_of_ble_eq_true rfl) (lv := [(0, .ref (ad 77)), (1, .int a1)]) rfl (fun E hl hD had hcA hN hC hR => ?_)
  subst hl; subst hD; subst had; subst hcA
  unfold zf_X10_isOrder at hf
  refine zw_iload_n hC dX10_isOrder_0 rfl 1 rfl ?_
  refine zw_iconst hC (v := (0 : Int32)) dX10_isOrder_1 (by decide) ?_
  refine zw_aload_n hC dX10_isOrder_2 rfl 0 rfl ?_
  obtain ⟨v26, hc26, hf⟩ := zb1_some hf
  refine zw_cV hC [] [.int (0 : Int32), .int a1] (st1 := [.int v26, .int (0 : Int32), .int a1]) zm_X10_orders (zc_X10_orders hc26) zk_77 rfl kw_6_221 dX10_isOrder_3 rfl (by decide) (Nat.le_of_ble_eq_true rfl) rfl rfl ?_
  refine zw_iconst hC (v := (1 : Int32)) dX10_isOrder_6 (by decide) ?_
  refine zw_isub hC dX10_isOrder_7 ?_
  obtain ⟨v27, hc27, hf⟩ := zb1_some hf
  refine zw_cS hC [.int a1, .int (0 : Int32), .int (v26 - (1 : Int32))] [] (st1 := [.int v27]) zm_X10_isIn (zc_X10_isIn hc27) kw_6_106 dX10_isOrder_8 rfl (by decide) (Nat.le_of_ble_eq_true rfl) rfl rfl ?_
  refine zw_if_ne hC 16 hf dX10_isOrder_11 (by decide) (fun hf => ?_) (fun hf => ?_)
  · refine zw_iconst hC (v := (0 : Int32)) dX10_isOrder_16 (by decide) ?_
    refine zw_istore_n hC (lv' := [(2, .int (0 : Int32)), (0, .ref (zad E 77)), (1, .int a1)]) dX10_isOrder_17 rfl hN (by decide) rfl ?_
    refine zw_iconst hC (v := (0 : Int32)) dX10_isOrder_18 (by decide) ?_
    refine zw_istore_n hC (lv' := [(3, .int (0 : Int32)), (2, .int (0 : Int32)), (0, .ref (zad E 77)), (1, .int a1)]) dX10_isOrder_19 rfl hN (by decide) rfl ?_
    have hL20 : ∀ (K47 : Int32 → Option (Int32)), (∀ (v30 : Int32), K47 v30 = some r → ZW E 47 [(0, .ref (zad E 77)), (2, .int v30)] [] M) → ∀ (n20 : Nat), ∀ (v28 : Int32), ∀ (v29 : Int32), zf_X10_isOrder_L20 M a1 K47 n20 v28 v29 = some r → ZW E 20 [(0, .ref (zad E 77)), (1, .int a1), (2, .int v28), (3, .int v29)] [] M := by
      intro K47 hK47
      intro n20
      induction n20 with
      | zero => intro v28 v29 hf; rw [zf_X10_isOrder_L20] at hf; cases hf
      | succ n20 ih20 =>
        intro v28 v29 hf
        rw [zf_X10_isOrder_L20] at hf
        refine zw_iload_n hC dX10_isOrder_20 rfl 3 rfl ?_
        refine zw_aload_n hC dX10_isOrder_21 rfl 0 rfl ?_
        refine zw_getr (k' := 78) hC zF_Model_now zk_77 rfl dX10_isOrder_22 kw_5_227 ?_
        refine zw_iconst hC (v := (1 : Int32)) dX10_isOrder_25 (by decide) ?_
        refine zw_iald hC hf zk_78 dX10_isOrder_26 (fun v31 hf => ?_)
        refine zw_icmp_ge hC 47 hf dX10_isOrder_27 (by decide) (fun hf => ?_) (fun hf => ?_)
        · exact zw_sub [0, 2] rfl (hK47 v28 hf)
        · refine zw_iload_n hC dX10_isOrder_30 rfl 2 rfl ?_
          refine zw_iconst hC (v := (1 : Int32)) dX10_isOrder_31 (by decide) ?_
          refine zw_aload_n hC dX10_isOrder_32 rfl 0 rfl ?_
          refine zw_iload_n hC dX10_isOrder_33 rfl 1 rfl ?_
          refine zw_iload_n hC dX10_isOrder_34 rfl 3 rfl ?_
          obtain ⟨v32, hc32, hf⟩ := zb1_some hf
          refine zw_cV hC [.int a1, .int v29] [.int (1 : Int32), .int v28] (st1 := [.int v32, .int (1 : Int32), .int v28]) zm_X10_channelAt (zc_X10_channelAt hc32) zk_77 rfl kw_6_225 dX10_isOrder_35 rfl (by decide) (Nat.le_of_ble_eq_true rfl) rfl rfl ?_
          refine zw_ishl hC dX10_isOrder_38 ?_
          refine zw_ior hC dX10_isOrder_39 ?_
          refine zw_istore_n hC (lv' := [(2, .int (v28 ||| ((1 : Int32) <<< (v32 &&& 31)))), (0, .ref (zad E 77)), (1, .int a1), (3, .int v29)]) dX10_isOrder_40 rfl hN (by decide) rfl ?_
          refine zw_iinc hC (v := (1 : Int32)) (lv' := [(3, .int (v29 + (1 : Int32))), (2, .int (v28 ||| ((1 : Int32) <<< (v32 &&& 31)))), (0, .ref (zad E 77)), (1, .int a1)]) dX10_isOrder_41 3 rfl (by decide) hN (by decide) rfl ?_
          refine zw_goto hC 20 dX10_isOrder_44 (by decide) ?_
          exact zw_sub [2, 3, 1, 0] rfl (ih20 (v28 ||| ((1 : Int32) <<< (v32 &&& 31))) (v29 + (1 : Int32)) hf)
    refine zw_sub [2, 3, 1, 0] rfl (hL20 _ ?_ n (0 : Int32) (0 : Int32) hf)
    · intro v33 hf
      refine zw_iload_n hC dX10_isOrder_47 rfl 1 rfl ?_
      refine zw_iconst hC (v := (1 : Int32)) dX10_isOrder_48 (by decide) ?_
      refine zw_aload_n hC dX10_isOrder_49 rfl 0 rfl ?_
      refine zw_getr (k' := 78) hC zF_Model_now zk_77 rfl dX10_isOrder_50 kw_5_227 ?_
      refine zw_iconst hC (v := (1 : Int32)) dX10_isOrder_53 (by decide) ?_
      refine zw_iald hC hf zk_78 dX10_isOrder_54 (fun v34 hf => ?_)
      refine zw_ishl hC dX10_isOrder_55 ?_
      refine zw_iconst hC (v := (1 : Int32)) dX10_isOrder_56 (by decide) ?_
      refine zw_isub hC dX10_isOrder_57 ?_
      have hj66 : ∀ (v35 : Int32), zf_X10_isOrder_j66 v35 = some r → ZW E 66 [] [.int v35] M := by
        intro v35 hf
        unfold zf_X10_isOrder_j66 at hf
        obtain ⟨hz, hf⟩ := zbz_some hf
        have h1 := Option.some.inj hf
        subst h1
        exact zw_zret hC hR hz dX10_isOrder_66
      refine zw_icmp_ne hC 65 hf dX10_isOrder_58 (by decide) (fun hf => ?_) (fun hf => ?_)
      · refine zw_iconst hC (v := (0 : Int32)) dX10_isOrder_65 (by decide) ?_
        exact zw_sub [] rfl (hj66 (0 : Int32) hf)
      · refine zw_iconst hC (v := (1 : Int32)) dX10_isOrder_61 (by decide) ?_
        refine zw_goto hC 66 dX10_isOrder_62 (by decide) ?_
        exact zw_sub [] rfl (hj66 (1 : Int32) hf)
  · refine zw_iconst hC (v := (0 : Int32)) dX10_isOrder_14 (by decide) ?_
    have h1 := Option.some.inj hf
    subst h1
    exact zw_zret hC hR rfl dX10_isOrder_15
/-! ClassOfManyModel.waitFor(II)I -/
theorem dX10_waitFor_0 : decode cX10_waitFor 0 = .ok (.iconst 0, 1) := by decide +kernel
theorem dX10_waitFor_1 : decode cX10_waitFor 1 = .ok (.istore_n 3, 1) := by decide +kernel
theorem dX10_waitFor_2 : decode cX10_waitFor 2 = .ok (.iconst 0, 1) := by decide +kernel
theorem dX10_waitFor_3 : decode cX10_waitFor 3 = .ok (.istore 4, 2) := by decide +kernel
theorem dX10_waitFor_5 : decode cX10_waitFor 5 = .ok (.iload 4, 2) := by decide +kernel
theorem dX10_waitFor_7 : decode cX10_waitFor 7 = .ok (.aload_n 0, 1) := by decide +kernel
theorem dX10_waitFor_8 : decode cX10_waitFor 8 = .ok (.getfield 7, 3) := by decide +kernel
theorem dX10_waitFor_11 : decode cX10_waitFor 11 = .ok (.iconst 1, 1) := by decide +kernel
theorem dX10_waitFor_12 : decode cX10_waitFor 12 = .ok (.iaload, 1) := by decide +kernel
theorem dX10_waitFor_13 : decode cX10_waitFor 13 = .ok (.if_icmp .ge 50, 3) := by decide +kernel
theorem dX10_waitFor_16 : decode cX10_waitFor 16 = .ok (.aload_n 0, 1) := by decide +kernel
theorem dX10_waitFor_17 : decode cX10_waitFor 17 = .ok (.iload_n 1, 1) := by decide +kernel
theorem dX10_waitFor_18 : decode cX10_waitFor 18 = .ok (.iload 4, 2) := by decide +kernel
theorem dX10_waitFor_20 : decode cX10_waitFor 20 = .ok (.invokevirtual 194, 3) := by decide +kernel
theorem dX10_waitFor_23 : decode cX10_waitFor 23 = .ok (.istore 5, 2) := by decide +kernel
theorem dX10_waitFor_25 : decode cX10_waitFor 25 = .ok (.iload_n 3, 1) := by decide +kernel
theorem dX10_waitFor_26 : decode cX10_waitFor 26 = .ok (.aload_n 0, 1) := by decide +kernel
theorem dX10_waitFor_27 : decode cX10_waitFor 27 = .ok (.getfield 7, 3) := by decide +kernel
theorem dX10_waitFor_30 : decode cX10_waitFor 30 = .ok (.bipush 59, 2) := by decide +kernel
theorem dX10_waitFor_32 : decode cX10_waitFor 32 = .ok (.iload 5, 2) := by decide +kernel
theorem dX10_waitFor_34 : decode cX10_waitFor 34 = .ok (.iadd, 1) := by decide +kernel
theorem dX10_waitFor_35 : decode cX10_waitFor 35 = .ok (.iaload, 1) := by decide +kernel
theorem dX10_waitFor_36 : decode cX10_waitFor 36 = .ok (.iadd, 1) := by decide +kernel
theorem dX10_waitFor_37 : decode cX10_waitFor 37 = .ok (.istore_n 3, 1) := by decide +kernel
theorem dX10_waitFor_38 : decode cX10_waitFor 38 = .ok (.aload_n 0, 1) := by decide +kernel
theorem dX10_waitFor_39 : decode cX10_waitFor 39 = .ok (.getfield 7, 3) := by decide +kernel
theorem dX10_waitFor_42 : decode cX10_waitFor 42 = .ok (.bipush 45, 2) := by decide +kernel
theorem dX10_waitFor_44 : decode cX10_waitFor 44 = .ok (.iload_n 2, 1) := by decide +kernel
theorem dX10_waitFor_45 : decode cX10_waitFor 45 = .ok (.iadd, 1) := by decide +kernel
theorem dX10_waitFor_46 : decode cX10_waitFor 46 = .ok (.iaload, 1) := by decide +kernel
theorem dX10_waitFor_47 : decode cX10_waitFor 47 = .ok (.iload 5, 2) := by decide +kernel
theorem dX10_waitFor_49 : decode cX10_waitFor 49 = .ok (.invokestatic 118, 3) := by decide +kernel
theorem dX10_waitFor_52 : decode cX10_waitFor 52 = .ok (.ifCond .eq 5, 3) := by decide +kernel
theorem dX10_waitFor_55 : decode cX10_waitFor 55 = .ok (.iload_n 3, 1) := by decide +kernel
theorem dX10_waitFor_56 : decode cX10_waitFor 56 = .ok (.ireturn, 1) := by decide +kernel
theorem dX10_waitFor_57 : decode cX10_waitFor 57 = .ok (.iinc 4 1, 3) := by decide +kernel
theorem dX10_waitFor_60 : decode cX10_waitFor 60 = .ok (.goto (-55), 3) := by decide +kernel
theorem dX10_waitFor_63 : decode cX10_waitFor 63 = .ok (.bipush (-2), 2) := by decide +kernel
theorem dX10_waitFor_65 : decode cX10_waitFor 65 = .ok (.ireturn, 1) := by decide +kernel
theorem zm_X10_waitFor : ZMv "ClassOfManyModel" yX10_waitFor cX10_waitFor 6 (some .int) 2 := ⟨kw_7_20, kw_7_19, kp_86, kw_1_10, by decide +kernel, by decide⟩
def zf_X10_waitFor_L5 (M : ZMem) (a1 : Int32) (a2 : Int32) (K63 : Option (Int32)) : Nat → Int32 → Int32 → Option (Int32)
  | 0, _, _ => none
  | n5 + 1, v26, v27 =>
  zrd M 78 73 (1 : Int32) (fun v28 => (if v28 ≤ v27 then K63 else zb1 (zf_X10_channelAt a1 v27 M) (fun v29 => zrd M 78 73 ((59 : Int32) + v29) (fun v30 => zrd M 78 73 ((45 : Int32) + a2) (fun v31 => zb1 (zf_X10_has v31 v29) (fun v32 => (if v32 = 0 then (zf_X10_waitFor_L5 M a1 a2 K63 n5 (v26 + v30) (v27 + (1 : Int32))) else some (v26 + v30))))))))
def zf_X10_waitFor (n : Nat) (a1 : Int32) (a2 : Int32) (M : ZMem) : Option (Int32) :=
  (zf_X10_waitFor_L5 M a1 a2 (some (-2 : Int32)) n (0 : Int32) (0 : Int32))
set_option maxHeartbeats 4000000 in
set_option maxRecDepth 100000 in
theorem zc_X10_waitFor {l : Launch} {D : va_G} {ad : Nat → Nat} {cA : Nat → ClassId} {n : Nat} {a1 : Int32} {a2 : Int32} {M : ZMem} {r : Int32} (hf : zf_X10_waitFor n a1 a2 M = some r) : ZCt l D ad cA yX10_waitFor cX10_waitFor 6 (some .int) 2 [.ref (ad 77), .int a1, .int a2] M (some (.int r)) M := by
  refine zct (by decide +kernel) (Nat.le_of_ble_eq_true rfl) (lv := [(0, .ref (ad 77)), (1, .int a1), (2, .int a2)]) rfl (fun E hl hD had hcA hN hC hR => ?_)
  subst hl; subst hD; subst had; subst hcA
  unfold zf_X10_waitFor at hf
  refine zw_iconst hC (v := (0 : Int32)) dX10_waitFor_0 (by decide) ?_
  refine zw_istore_n hC (lv' := [(3, .int (0 : Int32)), (0, .ref (zad E 77)), (1, .int a1), (2, .int a2)]) dX10_waitFor_1 rfl hN (by decide) rfl ?_
  refine zw_iconst hC (v := (0 : Int32)) dX10_waitFor_2 (by decide) ?_
  refine zw_istore hC (lv' := [(4, .int (0 : Int32)), (3, .int (0 : Int32)), (0, .ref (zad E 77)), (1, .int a1), (2, .int a2)]) dX10_waitFor_3 hN (by decide) rfl ?_
  have hL5 : ∀ (K63 : Option (Int32)), (K63 = some r → ZW E 63 [] [] M) → ∀ (n5 : Nat), ∀ (v26 : Int32), ∀ (v27 : Int32), zf_X10_waitFor_L5 M a1 a2 K63 n5 v26 v27 = some r → ZW E 5 [(0, .ref (zad E 77)), (1, .int a1), (2, .int a2), (3, .int v26), (4, .int v27)] [] M := by
    intro K63 hK63
    intro n5
    induction n5 with
    | zero => intro v26 v27 hf; rw [zf_X10_waitFor_L5] at hf; cases hf
    | succ n5 ih5 =>
      intro v26 v27 hf
      rw [zf_X10_waitFor_L5] at hf
      refine zw_iload hC dX10_waitFor_5 4 rfl ?_
      refine zw_aload_n hC dX10_waitFor_7 rfl 0 rfl ?_
      refine zw_getr (k' := 78) hC zF_Model_now zk_77 rfl dX10_waitFor_8 kw_5_227 ?_
      refine zw_iconst hC (v := (1 : Int32)) dX10_waitFor_11 (by decide) ?_
      refine zw_iald hC hf zk_78 dX10_waitFor_12 (fun v28 hf => ?_)
      refine zw_icmp_ge hC 63 hf dX10_waitFor_13 (by decide) (fun hf => ?_) (fun hf => ?_)
      · exact zw_sub [] rfl (hK63 hf)
      · refine zw_aload_n hC dX10_waitFor_16 rfl 0 rfl ?_
        refine zw_iload_n hC dX10_waitFor_17 rfl 1 rfl ?_
        refine zw_iload hC dX10_waitFor_18 4 rfl ?_
        obtain ⟨v29, hc29, hf⟩ := zb1_some hf
        refine zw_cV hC [.int a1, .int v27] [] (st1 := [.int v29]) zm_X10_channelAt (zc_X10_channelAt hc29) zk_77 rfl kw_6_225 dX10_waitFor_20 rfl (by decide) (Nat.le_of_ble_eq_true rfl) rfl rfl ?_
        refine zw_istore hC (lv' := [(5, .int v29), (0, .ref (zad E 77)), (1, .int a1), (2, .int a2), (3, .int v26), (4, .int v27)]) dX10_waitFor_23 hN (by decide) rfl ?_
        refine zw_iload_n hC dX10_waitFor_25 rfl 4 rfl ?_
        refine zw_aload_n hC dX10_waitFor_26 rfl 1 rfl ?_
        refine zw_getr (k' := 78) hC zF_Model_now zk_77 rfl dX10_waitFor_27 kw_5_227 ?_
        refine zw_bipush hC (v := (59 : Int32)) dX10_waitFor_30 (by decide) ?_
        refine zw_iload hC dX10_waitFor_32 0 rfl ?_
        refine zw_iadd hC dX10_waitFor_34 ?_
        refine zw_iald hC hf zk_78 dX10_waitFor_35 (fun v30 hf => ?_)
        refine zw_iadd hC dX10_waitFor_36 ?_
        refine zw_istore_n hC (lv' := [(3, .int (v26 + v30)), (5, .int v29), (0, .ref (zad E 77)), (1, .int a1), (2, .int a2), (4, .int v27)]) dX10_waitFor_37 rfl hN (by decide) rfl ?_
        refine zw_aload_n hC dX10_waitFor_38 rfl 2 rfl ?_
        refine zw_getr (k' := 78) hC zF_Model_now zk_77 rfl dX10_waitFor_39 kw_5_227 ?_
        refine zw_bipush hC (v := (45 : Int32)) dX10_waitFor_42 (by decide) ?_
        refine zw_iload_n hC dX10_waitFor_44 rfl 4 rfl ?_
        refine zw_iadd hC dX10_waitFor_45 ?_
        refine zw_iald hC hf zk_78 dX10_waitFor_46 (fun v31 hf => ?_)
        refine zw_iload hC dX10_waitFor_47 1 rfl ?_
        obtain ⟨v32, hc32, hf⟩ := zb1_some hf
        refine zw_cS hC [.int v31, .int v29] [] (st1 := [.int v32]) zm_X10_has (zc_X10_has hc32) kw_6_150 dX10_waitFor_49 rfl (by decide) (Nat.le_of_ble_eq_true rfl) rfl rfl ?_
        refine zw_if_eq hC 57 hf dX10_waitFor_52 (by decide) (fun hf => ?_) (fun hf => ?_)
        · refine zw_iinc hC (v := (1 : Int32)) (lv' := [(4, .int (v27 + (1 : Int32))), (3, .int (v26 + v30)), (5, .int v29), (0, .ref (zad E 77)), (1, .int a1), (2, .int a2)]) dX10_waitFor_57 5 rfl (by decide) hN (by decide) rfl ?_
          refine zw_goto hC 5 dX10_waitFor_60 (by decide) ?_
          exact zw_sub [3, 4, 5, 1, 0] rfl (ih5 (v26 + v30) (v27 + (1 : Int32)) hf)
        · refine zw_iload_n hC dX10_waitFor_55 rfl 0 rfl ?_
          have h1 := Option.some.inj hf
          subst h1
          exact zw_iret hC hR dX10_waitFor_56
  refine zw_sub [2, 3, 4, 1, 0] rfl (hL5 _ ?_ n (0 : Int32) (0 : Int32) hf)
  · intro  hf
    refine zw_bipush hC (v := (-2 : Int32)) dX10_waitFor_63 (by decide) ?_
    have h1 := Option.some.inj hf
    subst h1
    exact zw_iret hC hR dX10_waitFor_65
/-! ClassOfManyModel.costsFor(I)I -/
theorem dX10_costsFor_0 : decode cX10_costsFor 0 = .ok (.iconst 0, 1) := by decide +kernel
theorem dX10_costsFor_1 : decode cX10_costsFor 1 = .ok (.istore_n 2, 1) := by decide +kernel
theorem dX10_costsFor_2 : decode cX10_costsFor 2 = .ok (.iconst 0, 1) := by decide +kernel
theorem dX10_costsFor_3 : decode cX10_costsFor 3 = .ok (.istore_n 3, 1) := by decide +kernel
theorem dX10_costsFor_4 : decode cX10_costsFor 4 = .ok (.iload_n 3, 1) := by decide +kernel
theorem dX10_costsFor_5 : decode cX10_costsFor 5 = .ok (.aload_n 0, 1) := by decide +kernel
theorem dX10_costsFor_6 : decode cX10_costsFor 6 = .ok (.getfield 7, 3) := by decide +kernel
theorem dX10_costsFor_9 : decode cX10_costsFor 9 = .ok (.iconst 0, 1) := by decide +kernel
theorem dX10_costsFor_10 : decode cX10_costsFor 10 = .ok (.iaload, 1) := by decide +kernel
theorem dX10_costsFor_11 : decode cX10_costsFor 11 = .ok (.if_icmp .ge 83, 3) := by decide +kernel
theorem dX10_costsFor_14 : decode cX10_costsFor 14 = .ok (.iconst 1, 1) := by decide +kernel
theorem dX10_costsFor_15 : decode cX10_costsFor 15 = .ok (.istore 4, 2) := by decide +kernel
theorem dX10_costsFor_17 : decode cX10_costsFor 17 = .ok (.iconst 0, 1) := by decide +kernel
theorem dX10_costsFor_18 : decode cX10_costsFor 18 = .ok (.istore 5, 2) := by decide +kernel
theorem dX10_costsFor_20 : decode cX10_costsFor 20 = .ok (.iload 5, 2) := by decide +kernel
theorem dX10_costsFor_22 : decode cX10_costsFor 22 = .ok (.aload_n 0, 1) := by decide +kernel
theorem dX10_costsFor_23 : decode cX10_costsFor 23 = .ok (.getfield 7, 3) := by decide +kernel
theorem dX10_costsFor_26 : decode cX10_costsFor 26 = .ok (.iconst 1, 1) := by decide +kernel
theorem dX10_costsFor_27 : decode cX10_costsFor 27 = .ok (.iaload, 1) := by decide +kernel
theorem dX10_costsFor_28 : decode cX10_costsFor 28 = .ok (.if_icmp .ge 60, 3) := by decide +kernel
theorem dX10_costsFor_31 : decode cX10_costsFor 31 = .ok (.iload 4, 2) := by decide +kernel
theorem dX10_costsFor_33 : decode cX10_costsFor 33 = .ok (.ifCond .eq 55, 3) := by decide +kernel
theorem dX10_costsFor_36 : decode cX10_costsFor 36 = .ok (.aload_n 0, 1) := by decide +kernel
theorem dX10_costsFor_37 : decode cX10_costsFor 37 = .ok (.iload_n 1, 1) := by decide +kernel
theorem dX10_costsFor_38 : decode cX10_costsFor 38 = .ok (.iload 5, 2) := by decide +kernel
theorem dX10_costsFor_40 : decode cX10_costsFor 40 = .ok (.invokevirtual 194, 3) := by decide +kernel
theorem dX10_costsFor_43 : decode cX10_costsFor 43 = .ok (.istore 6, 2) := by decide +kernel
theorem dX10_costsFor_45 : decode cX10_costsFor 45 = .ok (.iload_n 2, 1) := by decide +kernel
theorem dX10_costsFor_46 : decode cX10_costsFor 46 = .ok (.aload_n 0, 1) := by decide +kernel
theorem dX10_costsFor_47 : decode cX10_costsFor 47 = .ok (.getfield 7, 3) := by decide +kernel
theorem dX10_costsFor_50 : decode cX10_costsFor 50 = .ok (.bipush 55, 2) := by decide +kernel
theorem dX10_costsFor_52 : decode cX10_costsFor 52 = .ok (.iload 6, 2) := by decide +kernel
theorem dX10_costsFor_54 : decode cX10_costsFor 54 = .ok (.iadd, 1) := by decide +kernel
theorem dX10_costsFor_55 : decode cX10_costsFor 55 = .ok (.iaload, 1) := by decide +kernel
theorem dX10_costsFor_56 : decode cX10_costsFor 56 = .ok (.iadd, 1) := by decide +kernel
theorem dX10_costsFor_57 : decode cX10_costsFor 57 = .ok (.istore_n 2, 1) := by decide +kernel
theorem dX10_costsFor_58 : decode cX10_costsFor 58 = .ok (.aload_n 0, 1) := by decide +kernel
theorem dX10_costsFor_59 : decode cX10_costsFor 59 = .ok (.getfield 7, 3) := by decide +kernel
theorem dX10_costsFor_62 : decode cX10_costsFor 62 = .ok (.bipush 45, 2) := by decide +kernel
theorem dX10_costsFor_64 : decode cX10_costsFor 64 = .ok (.iload_n 3, 1) := by decide +kernel
theorem dX10_costsFor_65 : decode cX10_costsFor 65 = .ok (.iadd, 1) := by decide +kernel
theorem dX10_costsFor_66 : decode cX10_costsFor 66 = .ok (.iaload, 1) := by decide +kernel
theorem dX10_costsFor_67 : decode cX10_costsFor 67 = .ok (.iload 6, 2) := by decide +kernel
theorem dX10_costsFor_69 : decode cX10_costsFor 69 = .ok (.invokestatic 118, 3) := by decide +kernel
theorem dX10_costsFor_72 : decode cX10_costsFor 72 = .ok (.ifCond .ne 7, 3) := by decide +kernel
theorem dX10_costsFor_75 : decode cX10_costsFor 75 = .ok (.iconst 1, 1) := by decide +kernel
theorem dX10_costsFor_76 : decode cX10_costsFor 76 = .ok (.goto 4, 3) := by decide +kernel
theorem dX10_costsFor_79 : decode cX10_costsFor 79 = .ok (.iconst 0, 1) := by decide +kernel
theorem dX10_costsFor_80 : decode cX10_costsFor 80 = .ok (.istore 4, 2) := by decide +kernel
theorem dX10_costsFor_82 : decode cX10_costsFor 82 = .ok (.iinc 5 1, 3) := by decide +kernel
theorem dX10_costsFor_85 : decode cX10_costsFor 85 = .ok (.goto (-65), 3) := by decide +kernel
theorem dX10_costsFor_88 : decode cX10_costsFor 88 = .ok (.iinc 3 1, 3) := by decide +kernel
theorem dX10_costsFor_91 : decode cX10_costsFor 91 = .ok (.goto (-87), 3) := by decide +kernel
theorem dX10_costsFor_94 : decode cX10_costsFor 94 = .ok (.iload_n 2, 1) := by decide +kernel
theorem dX10_costsFor_95 : decode cX10_costsFor 95 = .ok (.ireturn, 1) := by decide +kernel
theorem zm_X10_costsFor : ZMv "ClassOfManyModel" yX10_costsFor cX10_costsFor 7 (some .int) 1 := ⟨kw_7_0, kw_6_239, kp_82, kw_1_10, by decide +kernel, by decide⟩
def zf_X10_costsFor_j80 (R20 : Int32 → Int32 → Int32 → Option (Int32)) (v31 : Int32) (v37 : Int32) (v33 : Int32) (v40 : Int32) : Option (Int32) :=
  (R20 (v31 + v37) v40 (v33 + (1 : Int32)))
def zf_X10_costsFor_L20 (M : ZMem) (a1 : Int32) (v28 : Int32) (K88 : Int32 → Option (Int32)) : Nat → Int32 → Int32 → Int32 → Option (Int32)
  | 0, _, _, _ => none
  | n20 + 1, v31, v32, v33 =>
  zrd M 78 73 (1 : Int32) (fun v35 => (if v35 ≤ v33 then (K88 v31) else (if v32 = 0 then (K88 v31) else zb1 (zf_X10_channelAt a1 v33 M) (fun v36 => zrd M 78 73 ((55 : Int32) + v36) (fun v37 => zrd M 78 73 ((45 : Int32) + v28) (fun v38 => zb1 (zf_X10_has v38 v36) (fun v39 => (if v39 = 0 then (zf_X10_costsFor_j80 (fun x0 x1 x2 => zf_X10_costsFor_L20 M a1 v28 K88 n20 x0 x1 x2) v31 v37 v33 (1 : Int32)) else (zf_X10_costsFor_j80 (fun x0 x1 x2 => zf_X10_costsFor_L20 M a1 v28 K88 n20 x0 x1 x2) v31 v37 v33 (0 : Int32))))))))))
def zf_X10_costsFor_L4 (M : ZMem) (a1 : Int32) (n : Nat) (K94 : Int32 → Option (Int32)) : Nat → Int32 → Int32 → Option (Int32)
  | 0, _, _ => none
  | n4 + 1, v27, v28 =>
  zrd M 78 73 (0 : Int32) (fun v30 => (if v30 ≤ v28 then (K94 v27) else (zf_X10_costsFor_L20 M a1 v28 (fun v41 => (zf_X10_costsFor_L4 M a1 n K94 n4 v41 (v28 + (1 : Int32)))) n v27 (1 : Int32) (0 : Int32))))
def zf_X10_costsFor (n : Nat) (a1 : Int32) (M : ZMem) : Option (Int32) :=
  (zf_X10_costsFor_L4 M a1 n (fun v42 => some v42) n (0 : Int32) (0 : Int32))
set_option maxHeartbeats 4000000 in
set_option maxRecDepth 100000 in
theorem zc_X10_costsFor {l : Launch} {D : va_G} {ad : Nat → Nat} {cA : Nat → ClassId} {n : Nat} {a1 : Int32} {M : ZMem} {r : Int32} (hf : zf_X10_costsFor n a1 M = some r) : ZCt l D ad cA yX10_costsFor cX10_costsFor 7 (some .int) 2 [.ref (ad 77), .int a1] M (some (.int r)) M := by
  refine zct (by decide +kernel) (Nat.le_of_ble_eq_true rfl) (lv := [(0, .ref (ad 77)), (1, .int a1)]) rfl (fun E hl hD had hcA hN hC hR => ?_)
  subst hl; subst hD; subst had; subst hcA
  unfold zf_X10_costsFor at hf
  refine zw_iconst hC (v := (0 : Int32)) dX10_costsFor_0 (by decide) ?_
  refine zw_istore_n hC (lv' := [(2, .int (0 : Int32)), (0, .ref (zad E 77)), (1, .int a1)]) dX10_costsFor_1 rfl hN (by decide) rfl ?_
  refine zw_iconst hC (v := (0 : Int32)) dX10_costsFor_2 (by decide) ?_
  refine zw_istore_n hC (lv' := [(3, .int (0 : Int32)), (2, .int (0 : Int32)), (0, .ref (zad E 77)), (1, .int a1)]) dX10_costsFor_3 rfl hN (by decide) rfl ?_
  have hL4 : ∀ (K94 : Int32 → Option (Int32)), (∀ (v29 : Int32), K94 v29 = some r → ZW E 94 [(2, .int v29)] [] M) → ∀ (n4 : Nat), ∀ (v27 : Int32), ∀ (v28 : Int32), zf_X10_costsFor_L4 M a1 n K94 n4 v27 v28 = some r → ZW E 4 [(0, .ref (zad E 77)), (1, .int a1), (2, .int v27), (3, .int v28)] [] M := by
    intro K94 hK94
    intro n4
    induction n4 with
    | zero => intro v27 v28 hf; rw [zf_X10_costsFor_L4] at hf; cases hf
    | succ n4 ih4 =>
      intro v27 v28 hf
      rw [zf_X10_costsFor_L4] at hf
      refine zw_iload_n hC dX10_costsFor_4 rfl 3 rfl ?_
      refine zw_aload_n hC dX10_costsFor_5 rfl 0 rfl ?_
      refine zw_getr (k' := 78) hC zF_Model_now zk_77 rfl dX10_costsFor_6 kw_5_227 ?_
      refine zw_iconst hC (v := (0 : Int32)) dX10_costsFor_9 (by decide) ?_
      refine zw_iald hC hf zk_78 dX10_costsFor_10 (fun v30 hf => ?_)
      refine zw_icmp_ge hC 94 hf dX10_costsFor_11 (by decide) (fun hf => ?_) (fun hf => ?_)
      · exact zw_sub [2] rfl (hK94 v27 hf)
      · refine zw_iconst hC (v := (1 : Int32)) dX10_costsFor_14 (by decide) ?_
        refine zw_istore hC (lv' := [(4, .int (1 : Int32)), (0, .ref (zad E 77)), (1, .int a1), (2, .int v27), (3, .int v28)]) dX10_costsFor_15 hN (by decide) rfl ?_
        refine zw_iconst hC (v := (0 : Int32)) dX10_costsFor_17 (by decide) ?_
        refine zw_istore hC (lv' := [(5, .int (0 : Int32)), (4, .int (1 : Int32)), (0, .ref (zad E 77)), (1, .int a1), (2, .int v27), (3, .int v28)]) dX10_costsFor_18 hN (by decide) rfl ?_
        have hL20 : ∀ (K88 : Int32 → Option (Int32)), (∀ (v34 : Int32), K88 v34 = some r → ZW E 88 [(0, .ref (zad E 77)), (1, .int a1), (2, .int v34), (3, .int v28)] [] M) → ∀ (n20 : Nat), ∀ (v31 : Int32), ∀ (v32 : Int32), ∀ (v33 : Int32), zf_X10_costsFor_L20 M a1 v28 K88 n20 v31 v32 v33 = some r → ZW E 20 [(0, .ref (zad E 77)), (1, .int a1), (2, .int v31), (3, .int v28), (4, .int v32), (5, .int v33)] [] M := by
          intro K88 hK88
          intro n20
          induction n20 with
          | zero => intro v31 v32 v33 hf; rw [zf_X10_costsFor_L20] at hf; cases hf
          | succ n20 ih20 =>
            intro v31 v32 v33 hf
            rw [zf_X10_costsFor_L20] at hf
            refine zw_iload hC dX10_costsFor_20 5 rfl ?_
            refine zw_aload_n hC dX10_costsFor_22 rfl 0 rfl ?_
            refine zw_getr (k' := 78) hC zF_Model_now zk_77 rfl dX10_costsFor_23 kw_5_227 ?_
            refine zw_iconst hC (v := (1 : Int32)) dX10_costsFor_26 (by decide) ?_
            refine zw_iald hC hf zk_78 dX10_costsFor_27 (fun v35 hf => ?_)
            refine zw_icmp_ge hC 88 hf dX10_costsFor_28 (by decide) (fun hf => ?_) (fun hf => ?_)
            · exact zw_sub [0, 1, 2, 3] rfl (hK88 v31 hf)
            · refine zw_iload hC dX10_costsFor_31 4 rfl ?_
              refine zw_if_eq hC 88 hf dX10_costsFor_33 (by decide) (fun hf => ?_) (fun hf => ?_)
              · exact zw_sub [0, 1, 2, 3] rfl (hK88 v31 hf)
              · refine zw_aload_n hC dX10_costsFor_36 rfl 0 rfl ?_
                refine zw_iload_n hC dX10_costsFor_37 rfl 1 rfl ?_
                refine zw_iload hC dX10_costsFor_38 5 rfl ?_
                obtain ⟨v36, hc36, hf⟩ := zb1_some hf
                refine zw_cV hC [.int a1, .int v33] [] (st1 := [.int v36]) zm_X10_channelAt (zc_X10_channelAt hc36) zk_77 rfl kw_6_225 dX10_costsFor_40 rfl (by decide) (Nat.le_of_ble_eq_true rfl) rfl rfl ?_
                refine zw_istore hC (lv' := [(6, .int v36), (0, .ref (zad E 77)), (1, .int a1), (2, .int v31), (3, .int v28), (4, .int v32), (5, .int v33)]) dX10_costsFor_43 hN (by decide) rfl ?_
                refine zw_iload_n hC dX10_costsFor_45 rfl 3 rfl ?_
                refine zw_aload_n hC dX10_costsFor_46 rfl 1 rfl ?_
                refine zw_getr (k' := 78) hC zF_Model_now zk_77 rfl dX10_costsFor_47 kw_5_227 ?_
                refine zw_bipush hC (v := (55 : Int32)) dX10_costsFor_50 (by decide) ?_
                refine zw_iload hC dX10_costsFor_52 0 rfl ?_
                refine zw_iadd hC dX10_costsFor_54 ?_
                refine zw_iald hC hf zk_78 dX10_costsFor_55 (fun v37 hf => ?_)
                refine zw_iadd hC dX10_costsFor_56 ?_
                refine zw_istore_n hC (lv' := [(2, .int (v31 + v37)), (6, .int v36), (0, .ref (zad E 77)), (1, .int a1), (3, .int v28), (4, .int v32), (5, .int v33)]) dX10_costsFor_57 rfl hN (by decide) rfl ?_
                refine zw_aload_n hC dX10_costsFor_58 rfl 2 rfl ?_
                refine zw_getr (k' := 78) hC zF_Model_now zk_77 rfl dX10_costsFor_59 kw_5_227 ?_
                refine zw_bipush hC (v := (45 : Int32)) dX10_costsFor_62 (by decide) ?_
                refine zw_iload_n hC dX10_costsFor_64 rfl 4 rfl ?_
                refine zw_iadd hC dX10_costsFor_65 ?_
                refine zw_iald hC hf zk_78 dX10_costsFor_66 (fun v38 hf => ?_)
                refine zw_iload hC dX10_costsFor_67 1 rfl ?_
                obtain ⟨v39, hc39, hf⟩ := zb1_some hf
                refine zw_cS hC [.int v38, .int v36] [] (st1 := [.int v39]) zm_X10_has (zc_X10_has hc39) kw_6_150 dX10_costsFor_69 rfl (by decide) (Nat.le_of_ble_eq_true rfl) rfl rfl ?_
                have hj80 : ∀ (v40 : Int32), zf_X10_costsFor_j80 (fun x0 x1 x2 => zf_X10_costsFor_L20 M a1 v28 K88 n20 x0 x1 x2) v31 v37 v33 v40 = some r → ZW E 80 [(0, .ref (zad E 77)), (1, .int a1), (2, .int (v31 + v37)), (3, .int v28), (5, .int v33)] [.int v40] M := by
                  intro v40 hf
                  unfold zf_X10_costsFor_j80 at hf
                  refine zw_istore hC (lv' := [(4, .int v40), (0, .ref (zad E 77)), (1, .int a1), (2, .int (v31 + v37)), (3, .int v28), (5, .int v33)]) dX10_costsFor_80 hN (by decide) rfl ?_
                  refine zw_iinc hC (v := (1 : Int32)) (lv' := [(5, .int (v33 + (1 : Int32))), (4, .int v40), (0, .ref (zad E 77)), (1, .int a1), (2, .int (v31 + v37)), (3, .int v28)]) dX10_costsFor_82 5 rfl (by decide) hN (by decide) rfl ?_
                  refine zw_goto hC 20 dX10_costsFor_85 (by decide) ?_
                  exact zw_sub [2, 3, 4, 5, 1, 0] rfl (ih20 (v31 + v37) v40 (v33 + (1 : Int32)) hf)
                refine zw_if_ne hC 79 hf dX10_costsFor_72 (by decide) (fun hf => ?_) (fun hf => ?_)
                · refine zw_iconst hC (v := (0 : Int32)) dX10_costsFor_79 (by decide) ?_
                  exact zw_sub [2, 3, 0, 4, 6] rfl (hj80 (0 : Int32) hf)
                · refine zw_iconst hC (v := (1 : Int32)) dX10_costsFor_75 (by decide) ?_
                  refine zw_goto hC 80 dX10_costsFor_76 (by decide) ?_
                  exact zw_sub [2, 3, 0, 4, 6] rfl (hj80 (1 : Int32) hf)
        refine zw_sub [2, 3, 4, 5, 1, 0] rfl (hL20 _ ?_ n v27 (1 : Int32) (0 : Int32) hf)
        · intro v41 hf
          refine zw_iinc hC (v := (1 : Int32)) (lv' := [(3, .int (v28 + (1 : Int32))), (0, .ref (zad E 77)), (1, .int a1), (2, .int v41)]) dX10_costsFor_88 3 rfl (by decide) hN (by decide) rfl ?_
          refine zw_goto hC 4 dX10_costsFor_91 (by decide) ?_
          exact zw_sub [1, 2, 3, 0] rfl (ih4 v41 (v28 + (1 : Int32)) hf)
  refine zw_sub [2, 3, 1, 0] rfl (hL4 _ ?_ n (0 : Int32) (0 : Int32) hf)
  · intro v42 hf
    refine zw_iload_n hC dX10_costsFor_94 rfl 0 rfl ?_
    have h1 := Option.some.inj hf
    subst h1
    exact zw_iret hC hR dX10_costsFor_95
