/-! java/util/Arrays.fill([II)V -/
theorem dJ7_fill_53178_0 : decode cJ7_fill_53178 0 = .ok (.iconst 0, 1) := by decide +kernel
theorem dJ7_fill_53178_1 : decode cJ7_fill_53178 1 = .ok (.istore_n 2, 1) := by decide +kernel
theorem dJ7_fill_53178_2 : decode cJ7_fill_53178 2 = .ok (.aload_n 0, 1) := by decide +kernel
theorem dJ7_fill_53178_3 : decode cJ7_fill_53178 3 = .ok (.arraylength, 1) := by decide +kernel
theorem dJ7_fill_53178_4 : decode cJ7_fill_53178 4 = .ok (.istore_n 3, 1) := by decide +kernel
theorem dJ7_fill_53178_5 : decode cJ7_fill_53178 5 = .ok (.iload_n 2, 1) := by decide +kernel
theorem dJ7_fill_53178_6 : decode cJ7_fill_53178 6 = .ok (.iload_n 3, 1) := by decide +kernel
theorem dJ7_fill_53178_7 : decode cJ7_fill_53178 7 = .ok (.if_icmp .ge 13, 3) := by decide +kernel
theorem dJ7_fill_53178_10 : decode cJ7_fill_53178 10 = .ok (.aload_n 0, 1) := by decide +kernel
theorem dJ7_fill_53178_11 : decode cJ7_fill_53178 11 = .ok (.iload_n 2, 1) := by decide +kernel
theorem dJ7_fill_53178_12 : decode cJ7_fill_53178 12 = .ok (.iload_n 1, 1) := by decide +kernel
theorem dJ7_fill_53178_13 : decode cJ7_fill_53178 13 = .ok (.iastore, 1) := by decide +kernel
theorem dJ7_fill_53178_14 : decode cJ7_fill_53178 14 = .ok (.iinc 2 1, 3) := by decide +kernel
theorem dJ7_fill_53178_17 : decode cJ7_fill_53178 17 = .ok (.goto (-12), 3) := by decide +kernel
theorem dJ7_fill_53178_20 : decode cJ7_fill_53178 20 = .ok (.return_, 1) := by decide +kernel
theorem zm_J7_fill_53178 : ZMs yJ7_fill_53178 cJ7_fill_53178 4 (none) 2 := ⟨kw_2_226, kw_2_225, kw_1_11, by decide +kernel, by decide⟩
def zf_J7_fill_53178_L5 (l0 : Nat) (o0 : Nat) (a1 : Int32) (K20 : ZMem → Option (ZMem)) : Nat → Int32 → ZMem → Option (ZMem)
  | 0, _, _ => none
  | n5 + 1, v22, M23 =>
  (if (nI l0) ≤ v22 then (K20 M23) else zst M23 o0 l0 v22 a1 (fun M25 => (zf_J7_fill_53178_L5 l0 o0 a1 K20 n5 (v22 + (1 : Int32)) M25)))
def zf_J7_fill_53178 (n : Nat) (o0 : Nat) (l0 : Nat) (a1 : Int32) (M : ZMem) : Option (ZMem) :=
  (zf_J7_fill_53178_L5 l0 o0 a1 (fun M26 => some M26) n (0 : Int32) M)
set_option maxHeartbeats 4000000 in
set_option maxRecDepth 100000 in
theorem zc_J7_fill_53178 {l : Launch} {D : va_G} {ad : Nat → Nat} {cA : Nat → ClassId} {n : Nat} {o0 : Nat} {l0 : Nat} {a1 : Int32} {M : ZMem} {M' : ZMem} (ho0 : zk o0 = (10, l0)) (hf : zf_J7_fill_53178 n o0 l0 a1 M = some M') : ZCt l D ad cA yJ7_fill_53178 cJ7_fill_53178 4 (none) 1 [.ref (ad o0), .int a1] M none M' := by
  refine zct (by decide +kernel) (Nat.le_of_ble_eq_true rfl) (lv := [(0, .ref (ad o0)), (1, .int a1)]) rfl (fun E hl hD had hcA hN hC hR => ?_)
  subst hl; subst hD; subst had; subst hcA
  unfold zf_J7_fill_53178 at hf
  refine zw_iconst hC (v := (0 : Int32)) dJ7_fill_53178_0 (by decide) ?_
  refine zw_istore_n hC (lv' := [(2, .int (0 : Int32)), (0, .ref (zad E o0)), (1, .int a1)]) dJ7_fill_53178_1 rfl hN (by decide) rfl ?_
  refine zw_aload_n hC dJ7_fill_53178_2 rfl 1 rfl ?_
  refine zw_alen hC ho0 dJ7_fill_53178_3 ?_
  refine zw_istore_n hC (lv' := [(3, .int (nI l0)), (2, .int (0 : Int32)), (0, .ref (zad E o0)), (1, .int a1)]) dJ7_fill_53178_4 rfl hN (by decide) rfl ?_
  have hL5 : ∀ (K20 : ZMem → Option (ZMem)), (∀ (M24 : ZMem), K20 M24 = some M' → ZW E 20 [] [] M24) → ∀ (n5 : Nat), ∀ (v22 : Int32), ∀ (M23 : ZMem), zf_J7_fill_53178_L5 l0 o0 a1 K20 n5 v22 M23 = some M' → ZW E 5 [(0, .ref (zad E o0)), (1, .int a1), (2, .int v22), (3, .int (nI l0))] [] M23 := by
    intro K20 hK20
    intro n5
    induction n5 with
    | zero => intro v22 M23 hf; rw [zf_J7_fill_53178_L5] at hf; cases hf
    | succ n5 ih5 =>
      intro v22 M23 hf
      rw [zf_J7_fill_53178_L5] at hf
      refine zw_iload_n hC dJ7_fill_53178_5 rfl 2 rfl ?_
      refine zw_iload_n hC dJ7_fill_53178_6 rfl 3 rfl ?_
      refine zw_icmp_ge hC 20 hf dJ7_fill_53178_7 (by decide) (fun hf => ?_) (fun hf => ?_)
      · exact zw_sub [] rfl (hK20 M23 hf)
      · refine zw_aload_n hC dJ7_fill_53178_10 rfl 0 rfl ?_
        refine zw_iload_n hC dJ7_fill_53178_11 rfl 2 rfl ?_
        refine zw_iload_n hC dJ7_fill_53178_12 rfl 1 rfl ?_
        refine zw_iast hC hf ho0 dJ7_fill_53178_13 (fun M25 hf => ?_)
        refine zw_iinc hC (v := (1 : Int32)) (lv' := [(2, .int (v22 + (1 : Int32))), (0, .ref (zad E o0)), (1, .int a1), (3, .int (nI l0))]) dJ7_fill_53178_14 2 rfl (by decide) hN (by decide) rfl ?_
        refine zw_goto hC 5 dJ7_fill_53178_17 (by decide) ?_
        exact zw_sub [1, 2, 0, 3] rfl (ih5 (v22 + (1 : Int32)) M25 hf)
  refine zw_sub [2, 3, 1, 0] rfl (hL5 _ ?_ n (0 : Int32) M hf)
  · intro M26 hf
    cases hf
    exact zw_vret hC hR dJ7_fill_53178_20
/-! java/lang/Integer.bitCount(I)I -/
theorem dJ6_bitCount_0f7a4_0 : decode cJ6_bitCount_0f7a4 0 = .ok (.iload_n 0, 1) := by decide +kernel
theorem dJ6_bitCount_0f7a4_1 : decode cJ6_bitCount_0f7a4 1 = .ok (.iload_n 0, 1) := by decide +kernel
theorem dJ6_bitCount_0f7a4_2 : decode cJ6_bitCount_0f7a4 2 = .ok (.iconst 1, 1) := by decide +kernel
theorem dJ6_bitCount_0f7a4_3 : decode cJ6_bitCount_0f7a4 3 = .ok (.iushr, 1) := by decide +kernel
theorem dJ6_bitCount_0f7a4_4 : decode cJ6_bitCount_0f7a4 4 = .ok (.ldc_w 265, 3) := by decide +kernel
theorem dJ6_bitCount_0f7a4_7 : decode cJ6_bitCount_0f7a4 7 = .ok (.iand, 1) := by decide +kernel
theorem dJ6_bitCount_0f7a4_8 : decode cJ6_bitCount_0f7a4 8 = .ok (.isub, 1) := by decide +kernel
theorem dJ6_bitCount_0f7a4_9 : decode cJ6_bitCount_0f7a4 9 = .ok (.istore_n 0, 1) := by decide +kernel
theorem dJ6_bitCount_0f7a4_10 : decode cJ6_bitCount_0f7a4 10 = .ok (.iload_n 0, 1) := by decide +kernel
theorem dJ6_bitCount_0f7a4_11 : decode cJ6_bitCount_0f7a4 11 = .ok (.ldc_w 266, 3) := by decide +kernel
theorem dJ6_bitCount_0f7a4_14 : decode cJ6_bitCount_0f7a4 14 = .ok (.iand, 1) := by decide +kernel
theorem dJ6_bitCount_0f7a4_15 : decode cJ6_bitCount_0f7a4 15 = .ok (.iload_n 0, 1) := by decide +kernel
theorem dJ6_bitCount_0f7a4_16 : decode cJ6_bitCount_0f7a4 16 = .ok (.iconst 2, 1) := by decide +kernel
theorem dJ6_bitCount_0f7a4_17 : decode cJ6_bitCount_0f7a4 17 = .ok (.iushr, 1) := by decide +kernel
theorem dJ6_bitCount_0f7a4_18 : decode cJ6_bitCount_0f7a4 18 = .ok (.ldc_w 266, 3) := by decide +kernel
theorem dJ6_bitCount_0f7a4_21 : decode cJ6_bitCount_0f7a4 21 = .ok (.iand, 1) := by decide +kernel
theorem dJ6_bitCount_0f7a4_22 : decode cJ6_bitCount_0f7a4 22 = .ok (.iadd, 1) := by decide +kernel
theorem dJ6_bitCount_0f7a4_23 : decode cJ6_bitCount_0f7a4 23 = .ok (.istore_n 0, 1) := by decide +kernel
theorem dJ6_bitCount_0f7a4_24 : decode cJ6_bitCount_0f7a4 24 = .ok (.iload_n 0, 1) := by decide +kernel
theorem dJ6_bitCount_0f7a4_25 : decode cJ6_bitCount_0f7a4 25 = .ok (.iload_n 0, 1) := by decide +kernel
theorem dJ6_bitCount_0f7a4_26 : decode cJ6_bitCount_0f7a4 26 = .ok (.iconst 4, 1) := by decide +kernel
theorem dJ6_bitCount_0f7a4_27 : decode cJ6_bitCount_0f7a4 27 = .ok (.iushr, 1) := by decide +kernel
theorem dJ6_bitCount_0f7a4_28 : decode cJ6_bitCount_0f7a4 28 = .ok (.iadd, 1) := by decide +kernel
theorem dJ6_bitCount_0f7a4_29 : decode cJ6_bitCount_0f7a4 29 = .ok (.ldc_w 267, 3) := by decide +kernel
theorem dJ6_bitCount_0f7a4_32 : decode cJ6_bitCount_0f7a4 32 = .ok (.iand, 1) := by decide +kernel
theorem dJ6_bitCount_0f7a4_33 : decode cJ6_bitCount_0f7a4 33 = .ok (.istore_n 0, 1) := by decide +kernel
theorem dJ6_bitCount_0f7a4_34 : decode cJ6_bitCount_0f7a4 34 = .ok (.iload_n 0, 1) := by decide +kernel
theorem dJ6_bitCount_0f7a4_35 : decode cJ6_bitCount_0f7a4 35 = .ok (.iload_n 0, 1) := by decide +kernel
theorem dJ6_bitCount_0f7a4_36 : decode cJ6_bitCount_0f7a4 36 = .ok (.bipush 8, 2) := by decide +kernel
theorem dJ6_bitCount_0f7a4_38 : decode cJ6_bitCount_0f7a4 38 = .ok (.iushr, 1) := by decide +kernel
theorem dJ6_bitCount_0f7a4_39 : decode cJ6_bitCount_0f7a4 39 = .ok (.iadd, 1) := by decide +kernel
theorem dJ6_bitCount_0f7a4_40 : decode cJ6_bitCount_0f7a4 40 = .ok (.istore_n 0, 1) := by decide +kernel
theorem dJ6_bitCount_0f7a4_41 : decode cJ6_bitCount_0f7a4 41 = .ok (.iload_n 0, 1) := by decide +kernel
theorem dJ6_bitCount_0f7a4_42 : decode cJ6_bitCount_0f7a4 42 = .ok (.iload_n 0, 1) := by decide +kernel
theorem dJ6_bitCount_0f7a4_43 : decode cJ6_bitCount_0f7a4 43 = .ok (.bipush 16, 2) := by decide +kernel
theorem dJ6_bitCount_0f7a4_45 : decode cJ6_bitCount_0f7a4 45 = .ok (.iushr, 1) := by decide +kernel
theorem dJ6_bitCount_0f7a4_46 : decode cJ6_bitCount_0f7a4 46 = .ok (.iadd, 1) := by decide +kernel
theorem dJ6_bitCount_0f7a4_47 : decode cJ6_bitCount_0f7a4 47 = .ok (.istore_n 0, 1) := by decide +kernel
theorem dJ6_bitCount_0f7a4_48 : decode cJ6_bitCount_0f7a4 48 = .ok (.iload_n 0, 1) := by decide +kernel
theorem dJ6_bitCount_0f7a4_49 : decode cJ6_bitCount_0f7a4 49 = .ok (.bipush 63, 2) := by decide +kernel
theorem dJ6_bitCount_0f7a4_51 : decode cJ6_bitCount_0f7a4 51 = .ok (.iand, 1) := by decide +kernel
theorem dJ6_bitCount_0f7a4_52 : decode cJ6_bitCount_0f7a4 52 = .ok (.ireturn, 1) := by decide +kernel
theorem zm_J6_bitCount_0f7a4 : ZMs yJ6_bitCount_0f7a4 cJ6_bitCount_0f7a4 1 (some .int) 1 := ⟨kw_3_215, kw_3_214, kw_1_19, by decide +kernel, by decide⟩
def zf_J6_bitCount_0f7a4 (a0 : Int32) : Option (Int32) :=
  some ((((((((a0 - (((a0.toUInt32 >>> ((1 : Int32).toUInt32 &&& Int32.toUInt32 31)).toInt32) &&& (1431655765 : Int32))) &&& (858993459 : Int32)) + ((((a0 - (((a0.toUInt32 >>> ((1 : Int32).toUInt32 &&& Int32.toUInt32 31)).toInt32) &&& (1431655765 : Int32))).toUInt32 >>> ((2 : Int32).toUInt32 &&& Int32.toUInt32 31)).toInt32) &&& (858993459 : Int32))) + (((((a0 - (((a0.toUInt32 >>> ((1 : Int32).toUInt32 &&& Int32.toUInt32 31)).toInt32) &&& (1431655765 : Int32))) &&& (858993459 : Int32)) + ((((a0 - (((a0.toUInt32 >>> ((1 : Int32).toUInt32 &&& Int32.toUInt32 31)).toInt32) &&& (1431655765 : Int32))).toUInt32 >>> ((2 : Int32).toUInt32 &&& Int32.toUInt32 31)).toInt32) &&& (858993459 : Int32))).toUInt32 >>> ((4 : Int32).toUInt32 &&& Int32.toUInt32 31)).toInt32)) &&& (252645135 : Int32)) + (((((((a0 - (((a0.toUInt32 >>> ((1 : Int32).toUInt32 &&& Int32.toUInt32 31)).toInt32) &&& (1431655765 : Int32))) &&& (858993459 : Int32)) + ((((a0 - (((a0.toUInt32 >>> ((1 : Int32).toUInt32 &&& Int32.toUInt32 31)).toInt32) &&& (1431655765 : Int32))).toUInt32 >>> ((2 : Int32).toUInt32 &&& Int32.toUInt32 31)).toInt32) &&& (858993459 : Int32))) + (((((a0 - (((a0.toUInt32 >>> ((1 : Int32).toUInt32 &&& Int32.toUInt32 31)).toInt32) &&& (1431655765 : Int32))) &&& (858993459 : Int32)) + ((((a0 - (((a0.toUInt32 >>> ((1 : Int32).toUInt32 &&& Int32.toUInt32 31)).toInt32) &&& (1431655765 : Int32))).toUInt32 >>> ((2 : Int32).toUInt32 &&& Int32.toUInt32 31)).toInt32) &&& (858993459 : Int32))).toUInt32 >>> ((4 : Int32).toUInt32 &&& Int32.toUInt32 31)).toInt32)) &&& (252645135 : Int32)).toUInt32 >>> ((8 : Int32).toUInt32 &&& Int32.toUInt32 31)).toInt32)) + ((((((((a0 - (((a0.toUInt32 >>> ((1 : Int32).toUInt32 &&& Int32.toUInt32 31)).toInt32) &&& (1431655765 : Int32))) &&& (858993459 : Int32)) + ((((a0 - (((a0.toUInt32 >>> ((1 : Int32).toUInt32 &&& Int32.toUInt32 31)).toInt32) &&& (1431655765 : Int32))).toUInt32 >>> ((2 : Int32).toUInt32 &&& Int32.toUInt32 31)).toInt32) &&& (858993459 : Int32))) + (((((a0 - (((a0.toUInt32 >>> ((1 : Int32).toUInt32 &&& Int32.toUInt32 31)).toInt32) &&& (1431655765 : Int32))) &&& (858993459 : Int32)) + ((((a0 - (((a0.toUInt32 >>> ((1 : Int32).toUInt32 &&& Int32.toUInt32 31)).toInt32) &&& (1431655765 : Int32))).toUInt32 >>> ((2 : Int32).toUInt32 &&& Int32.toUInt32 31)).toInt32) &&& (858993459 : Int32))).toUInt32 >>> ((4 : Int32).toUInt32 &&& Int32.toUInt32 31)).toInt32)) &&& (252645135 : Int32)) + (((((((a0 - (((a0.toUInt32 >>> ((1 : Int32).toUInt32 &&& Int32.toUInt32 31)).toInt32) &&& (1431655765 : Int32))) &&& (858993459 : Int32)) + ((((a0 - (((a0.toUInt32 >>> ((1 : Int32).toUInt32 &&& Int32.toUInt32 31)).toInt32) &&& (1431655765 : Int32))).toUInt32 >>> ((2 : Int32).toUInt32 &&& Int32.toUInt32 31)).toInt32) &&& (858993459 : Int32))) + (((((a0 - (((a0.toUInt32 >>> ((1 : Int32).toUInt32 &&& Int32.toUInt32 31)).toInt32) &&& (1431655765 : Int32))) &&& (858993459 : Int32)) + ((((a0 - (((a0.toUInt32 >>> ((1 : Int32).toUInt32 &&& Int32.toUInt32 31)).toInt32) &&& (1431655765 : Int32))).toUInt32 >>> ((2 : Int32).toUInt32 &&& Int32.toUInt32 31)).toInt32) &&& (858993459 : Int32))).toUInt32 >>> ((4 : Int32).toUInt32 &&& Int32.toUInt32 31)).toInt32)) &&& (252645135 : Int32)).toUInt32 >>> ((8 : Int32).toUInt32 &&& Int32.toUInt32 31)).toInt32)).toUInt32 >>> ((16 : Int32).toUInt32 &&& Int32.toUInt32 31)).toInt32)) &&& (63 : Int32))
set_option maxHeartbeats 4000000 in
set_option maxRecDepth 100000 in
theorem zc_J6_bitCount_0f7a4 {l : Launch} {D : va_G} {ad : Nat → Nat} {cA : Nat → ClassId} {a0 : Int32} {M : ZMem} {r : Int32} (hf : zf_J6_bitCount_0f7a4 a0 = some r) : ZCt l D ad cA yJ6_bitCount_0f7a4 cJ6_bitCount_0f7a4 1 (some .int) 1 [.int a0] M (some (.int r)) M := by
  refine zct (by decide +kernel) (Nat.le_of_ble_eq_true rfl) (lv := [(0, .int a0)]) rfl (fun E hl hD had hcA hN hC hR => ?_)
  subst hl; subst hD; subst had; subst hcA
  unfold zf_J6_bitCount_0f7a4 at hf
  refine zw_iload_n hC dJ6_bitCount_0f7a4_0 rfl 0 rfl ?_
  refine zw_iload_n hC dJ6_bitCount_0f7a4_1 rfl 0 rfl ?_
  refine zw_iconst hC (v := (1 : Int32)) dJ6_bitCount_0f7a4_2 (by decide) ?_
  refine zw_iushr hC dJ6_bitCount_0f7a4_3 ?_
  refine zw_ldcw hC dJ6_bitCount_0f7a4_4 kw_3_216 ?_
  refine zw_iand hC dJ6_bitCount_0f7a4_7 ?_
  refine zw_isub hC dJ6_bitCount_0f7a4_8 ?_
  refine zw_istore_n hC (lv' := [(0, .int (a0 - (((a0.toUInt32 >>> ((1 : Int32).toUInt32 &&& Int32.toUInt32 31)).toInt32) &&& (1431655765 : Int32))))]) dJ6_bitCount_0f7a4_9 rfl hN (by decide) rfl ?_
  refine zw_iload_n hC dJ6_bitCount_0f7a4_10 rfl 0 rfl ?_
  refine zw_ldcw hC dJ6_bitCount_0f7a4_11 kw_3_217 ?_
  refine zw_iand hC dJ6_bitCount_0f7a4_14 ?_
  refine zw_iload_n hC dJ6_bitCount_0f7a4_15 rfl 0 rfl ?_
  refine zw_iconst hC (v := (2 : Int32)) dJ6_bitCount_0f7a4_16 (by decide) ?_
  refine zw_iushr hC dJ6_bitCount_0f7a4_17 ?_
  refine zw_ldcw hC dJ6_bitCount_0f7a4_18 kw_3_217 ?_
  refine zw_iand hC dJ6_bitCount_0f7a4_21 ?_
  refine zw_iadd hC dJ6_bitCount_0f7a4_22 ?_
  refine zw_istore_n hC (lv' := [(0, .int (((a0 - (((a0.toUInt32 >>> ((1 : Int32).toUInt32 &&& Int32.toUInt32 31)).toInt32) &&& (1431655765 : Int32))) &&& (858993459 : Int32)) + ((((a0 - (((a0.toUInt32 >>> ((1 : Int32).toUInt32 &&& Int32.toUInt32 31)).toInt32) &&& (1431655765 : Int32))).toUInt32 >>> ((2 : Int32).toUInt32 &&& Int32.toUInt32 31)).toInt32) &&& (858993459 : Int32))))]) dJ6_bitCount_0f7a4_23 rfl hN (by decide) rfl ?_
  refine zw_iload_n hC dJ6_bitCount_0f7a4_24 rfl 0 rfl ?_
  refine zw_iload_n hC dJ6_bitCount_0f7a4_25 rfl 0 rfl ?_
  refine zw_iconst hC (v := (4 : Int32)) dJ6_bitCount_0f7a4_26 (by decide) ?_
  refine zw_iushr hC dJ6_bitCount_0f7a4_27 ?_
  refine zw_iadd hC dJ6_bitCount_0f7a4_28 ?_
  refine zw_ldcw hC dJ6_bitCount_0f7a4_29 kw_3_218 ?_
  refine zw_iand hC dJ6_bitCount_0f7a4_32 ?_
  refine zw_istore_n hC (lv' := [(0, .int (((((a0 - (((a0.toUInt32 >>> ((1 : Int32).toUInt32 &&& Int32.toUInt32 31)).toInt32) &&& (1431655765 : Int32))) &&& (858993459 : Int32)) + ((((a0 - (((a0.toUInt32 >>> ((1 : Int32).toUInt32 &&& Int32.toUInt32 31)).toInt32) &&& (1431655765 : Int32))).toUInt32 >>> ((2 : Int32).toUInt32 &&& Int32.toUInt32 31)).toInt32) &&& (858993459 : Int32))) + (((((a0 - (((a0.toUInt32 >>> ((1 : Int32).toUInt32 &&& Int32.toUInt32 31)).toInt32) &&& (1431655765 : Int32))) &&& (858993459 : Int32)) + ((((a0 - (((a0.toUInt32 >>> ((1 : Int32).toUInt32 &&& Int32.toUInt32 31)).toInt32) &&& (1431655765 : Int32))).toUInt32 >>> ((2 : Int32).toUInt32 &&& Int32.toUInt32 31)).toInt32) &&& (858993459 : Int32))).toUInt32 >>> ((4 : Int32).toUInt32 &&& Int32.toUInt32 31)).toInt32)) &&& (252645135 : Int32)))]) dJ6_bitCount_0f7a4_33 rfl hN (by decide) rfl ?_
  refine zw_iload_n hC dJ6_bitCount_0f7a4_34 rfl 0 rfl ?_
  refine zw_iload_n hC dJ6_bitCount_0f7a4_35 rfl 0 rfl ?_
  refine zw_bipush hC (v := (8 : Int32)) dJ6_bitCount_0f7a4_36 (by decide) ?_
  refine zw_iushr hC dJ6_bitCount_0f7a4_38 ?_
  refine zw_iadd hC dJ6_bitCount_0f7a4_39 ?_
  refine zw_istore_n hC (lv' := [(0, .int ((((((a0 - (((a0.toUInt32 >>> ((1 : Int32).toUInt32 &&& Int32.toUInt32 31)).toInt32) &&& (1431655765 : Int32))) &&& (858993459 : Int32)) + ((((a0 - (((a0.toUInt32 >>> ((1 : Int32).toUInt32 &&& Int32.toUInt32 31)).toInt32) &&& (1431655765 : Int32))).toUInt32 >>> ((2 : Int32).toUInt32 &&& Int32.toUInt32 31)).toInt32) &&& (858993459 : Int32))) + (((((a0 - (((a0.toUInt32 >>> ((1 : Int32).toUInt32 &&& Int32.toUInt32 31)).toInt32) &&& (1431655765 : Int32))) &&& (858993459 : Int32)) + ((((a0 - (((a0.toUInt32 >>> ((1 : Int32).toUInt32 &&& Int32.toUInt32 31)).toInt32) &&& (1431655765 : Int32))).toUInt32 >>> ((2 : Int32).toUInt32 &&& Int32.toUInt32 31)).toInt32) &&& (858993459 : Int32))).toUInt32 >>> ((4 : Int32).toUInt32 &&& Int32.toUInt32 31)).toInt32)) &&& (252645135 : Int32)) + (((((((a0 - (((a0.toUInt32 >>> ((1 : Int32).toUInt32 &&& Int32.toUInt32 31)).toInt32) &&& (1431655765 : Int32))) &&& (858993459 : Int32)) + ((((a0 - (((a0.toUInt32 >>> ((1 : Int32).toUInt32 &&& Int32.toUInt32 31)).toInt32) &&& (1431655765 : Int32))).toUInt32 >>> ((2 : Int32).toUInt32 &&& Int32.toUInt32 31)).toInt32) &&& (858993459 : Int32))) + (((((a0 - (((a0.toUInt32 >>> ((1 : Int32).toUInt32 &&& Int32.toUInt32 31)).toInt32) &&& (1431655765 : Int32))) &&& (858993459 : Int32)) + ((((a0 - (((a0.toUInt32 >>> ((1 : Int32).toUInt32 &&& Int32.toUInt32 31)).toInt32) &&& (1431655765 : Int32))).toUInt32 >>> ((2 : Int32).toUInt32 &&& Int32.toUInt32 31)).toInt32) &&& (858993459 : Int32))).toUInt32 >>> ((4 : Int32).toUInt32 &&& Int32.toUInt32 31)).toInt32)) &&& (252645135 : Int32)).toUInt32 >>> ((8 : Int32).toUInt32 &&& Int32.toUInt32 31)).toInt32)))]) dJ6_bitCount_0f7a4_40 rfl hN (by decide) rfl ?_
  refine zw_iload_n hC dJ6_bitCount_0f7a4_41 rfl 0 rfl ?_
  refine zw_iload_n hC dJ6_bitCount_0f7a4_42 rfl 0 rfl ?_
  refine zw_bipush hC (v := (16 : Int32)) dJ6_bitCount_0f7a4_43 (by decide) ?_
  refine zw_iushr hC dJ6_bitCount_0f7a4_45 ?_
  refine zw_iadd hC dJ6_bitCount_0f7a4_46 ?_
  refine zw_istore_n hC (lv' := [(0, .int (((((((a0 - (((a0.toUInt32 >>> ((1 : Int32).toUInt32 &&& Int32.toUInt32 31)).toInt32) &&& (1431655765 : Int32))) &&& (858993459 : Int32)) + ((((a0 - (((a0.toUInt32 >>> ((1 : Int32).toUInt32 &&& Int32.toUInt32 31)).toInt32) &&& (1431655765 : Int32))).toUInt32 >>> ((2 : Int32).toUInt32 &&& Int32.toUInt32 31)).toInt32) &&& (858993459 : Int32))) + (((((a0 - (((a0.toUInt32 >>> ((1 : Int32).toUInt32 &&& Int32.toUInt32 31)).toInt32) &&& (1431655765 : Int32))) &&& (858993459 : Int32)) + ((((a0 - (((a0.toUInt32 >>> ((1 : Int32).toUInt32 &&& Int32.toUInt32 31)).toInt32) &&& (1431655765 : Int32))).toUInt32 >>> ((2 : Int32).toUInt32 &&& Int32.toUInt32 31)).toInt32) &&& (858993459 : Int32))).toUInt32 >>> ((4 : Int32).toUInt32 &&& Int32.toUInt32 31)).toInt32)) &&& (252645135 : Int32)) + (((((((a0 - (((a0.toUInt32 >>> ((1 : Int32).toUInt32 &&& Int32.toUInt32 31)).toInt32) &&& (1431655765 : Int32))) &&& (858993459 : Int32)) + ((((a0 - (((a0.toUInt32 >>> ((1 : Int32).toUInt32 &&& Int32.toUInt32 31)).toInt32) &&& (1431655765 : Int32))).toUInt32 >>> ((2 : Int32).toUInt32 &&& Int32.toUInt32 31)).toInt32) &&& (858993459 : Int32))) + (((((a0 - (((a0.toUInt32 >>> ((1 : Int32).toUInt32 &&& Int32.toUInt32 31)).toInt32) &&& (1431655765 : Int32))) &&& (858993459 : Int32)) + ((((a0 - (((a0.toUInt32 >>> ((1 : Int32).toUInt32 &&& Int32.toUInt32 31)).toInt32) &&& (1431655765 : Int32))).toUInt32 >>> ((2 : Int32).toUInt32 &&& Int32.toUInt32 31)).toInt32) &&& (858993459 : Int32))).toUInt32 >>> ((4 : Int32).toUInt32 &&& Int32.toUInt32 31)).toInt32)) &&& (252645135 : Int32)).toUInt32 >>> ((8 : Int32).toUInt32 &&& Int32.toUInt32 31)).toInt32)) + ((((((((a0 - (((a0.toUInt32 >>> ((1 : Int32).toUInt32 &&& Int32.toUInt32 31)).toInt32) &&& (1431655765 : Int32))) &&& (858993459 : Int32)) + ((((a0 - (((a0.toUInt32 >>> ((1 : Int32).toUInt32 &&& Int32.toUInt32 31)).toInt32) &&& (1431655765 : Int32))).toUInt32 >>> ((2 : Int32).toUInt32 &&& Int32.toUInt32 31)).toInt32) &&& (858993459 : Int32))) + (((((a0 - (((a0.toUInt32 >>> ((1 : Int32).toUInt32 &&& Int32.toUInt32 31)).toInt32) &&& (1431655765 : Int32))) &&& (858993459 : Int32)) + ((((a0 - (((a0.toUInt32 >>> ((1 : Int32).toUInt32 &&& Int32.toUInt32 31)).toInt32) &&& (1431655765 : Int32))).toUInt32 >>> ((2 : Int32).toUInt32 &&& Int32.toUInt32 31)).toInt32) &&& (858993459 : Int32))).toUInt32 >>> ((4 : Int32).toUInt32 &&& Int32.toUInt32 31)).toInt32)) &&& (252645135 : Int32)) + (((((((a0 - (((a0.toUInt32 >>> ((1 : Int32).toUInt32 &&& Int32.toUInt32 31)).toInt32) &&& (1431655765 : Int32))) &&& (858993459 : Int32)) + ((((a0 - (((a0.toUInt32 >>> ((1 : Int32).toUInt32 &&& Int32.toUInt32 31)).toInt32) &&& (1431655765 : Int32))).toUInt32 >>> ((2 : Int32).toUInt32 &&& Int32.toUInt32 31)).toInt32) &&& (858993459 : Int32))) + (((((a0 - (((a0.toUInt32 >>> ((1 : Int32).toUInt32 &&& Int32.toUInt32 31)).toInt32) &&& (1431655765 : Int32))) &&& (858993459 : Int32)) + ((((a0 - (((a0.toUInt32 >>> ((1 : Int32).toUInt32 &&& Int32.toUInt32 31)).toInt32) &&& (1431655765 : Int32))).toUInt32 >>> ((2 : Int32).toUInt32 &&& Int32.toUInt32 31)).toInt32) &&& (858993459 : Int32))).toUInt32 >>> ((4 : Int32).toUInt32 &&& Int32.toUInt32 31)).toInt32)) &&& (252645135 : Int32)).toUInt32 >>> ((8 : Int32).toUInt32 &&& Int32.toUInt32 31)).toInt32)).toUInt32 >>> ((16 : Int32).toUInt32 &&& Int32.toUInt32 31)).toInt32)))]) dJ6_bitCount_0f7a4_47 rfl hN (by decide) rfl ?_
  refine zw_iload_n hC dJ6_bitCount_0f7a4_48 rfl 0 rfl ?_
  refine zw_bipush hC (v := (63 : Int32)) dJ6_bitCount_0f7a4_49 (by decide) ?_
  refine zw_iand hC dJ6_bitCount_0f7a4_51 ?_
  cases hf
  exact zw_iret hC hR dJ6_bitCount_0f7a4_52
/-! Told.clear()V -/
theorem dX8_clear_0 : decode cX8_clear 0 = .ok (.aload_n 0, 1) := by decide +kernel
theorem dX8_clear_1 : decode cX8_clear 1 = .ok (.iconst 0, 1) := by decide +kernel
theorem dX8_clear_2 : decode cX8_clear 2 = .ok (.putfield 46, 3) := by decide +kernel
theorem dX8_clear_5 : decode cX8_clear 5 = .ok (.aload_n 0, 1) := by decide +kernel
theorem dX8_clear_6 : decode cX8_clear 6 = .ok (.iconst 0, 1) := by decide +kernel
theorem dX8_clear_7 : decode cX8_clear 7 = .ok (.putfield 49, 3) := by decide +kernel
theorem dX8_clear_10 : decode cX8_clear 10 = .ok (.aload_n 0, 1) := by decide +kernel
theorem dX8_clear_11 : decode cX8_clear 11 = .ok (.iconst 0, 1) := by decide +kernel
theorem dX8_clear_12 : decode cX8_clear 12 = .ok (.putfield 52, 3) := by decide +kernel
theorem dX8_clear_15 : decode cX8_clear 15 = .ok (.aload_n 0, 1) := by decide +kernel
theorem dX8_clear_16 : decode cX8_clear 16 = .ok (.iconst 0, 1) := by decide +kernel
theorem dX8_clear_17 : decode cX8_clear 17 = .ok (.putfield 55, 3) := by decide +kernel
theorem dX8_clear_20 : decode cX8_clear 20 = .ok (.aload_n 0, 1) := by decide +kernel
theorem dX8_clear_21 : decode cX8_clear 21 = .ok (.bipush 99, 2) := by decide +kernel
theorem dX8_clear_23 : decode cX8_clear 23 = .ok (.putfield 30, 3) := by decide +kernel
theorem dX8_clear_26 : decode cX8_clear 26 = .ok (.aload_n 0, 1) := by decide +kernel
theorem dX8_clear_27 : decode cX8_clear 27 = .ok (.iconst 0, 1) := by decide +kernel
theorem dX8_clear_28 : decode cX8_clear 28 = .ok (.putfield 58, 3) := by decide +kernel
theorem dX8_clear_31 : decode cX8_clear 31 = .ok (.aload_n 0, 1) := by decide +kernel
theorem dX8_clear_32 : decode cX8_clear 32 = .ok (.iconst 0, 1) := by decide +kernel
theorem dX8_clear_33 : decode cX8_clear 33 = .ok (.putfield 61, 3) := by decide +kernel
theorem dX8_clear_36 : decode cX8_clear 36 = .ok (.return_, 1) := by decide +kernel
theorem zm_X8_clear : ZMv "ClassOfMany$Told" yX8_clear cX8_clear 1 (none) 0 := ⟨kw_2_219, kw_2_217, kw_2_218, kw_1_2, by decide +kernel, by decide⟩
def zf_X8_clear (o0 : Nat) (M : ZMem) : Option (ZMem) :=
  zput M o0 0 (0 : Int32) (fun M28 => zput M28 o0 1 (0 : Int32) (fun M29 => zput M29 o0 8 (0 : Int32) (fun M30 => zput M30 o0 9 (0 : Int32) (fun M31 => zput M31 o0 10 (99 : Int32) (fun M32 => zput M32 o0 11 (0 : Int32) (fun M33 => zput M33 o0 15 (0 : Int32) (fun M34 => some M34)))))))
set_option maxHeartbeats 4000000 in
set_option maxRecDepth 100000 in
theorem zc_X8_clear {l : Launch} {D : va_G} {ad : Nat → Nat} {cA : Nat → ClassId} {o0 : Nat} {M : ZMem} {M' : ZMem} (ho0 : zk o0 = (7, 17)) (hf : zf_X8_clear o0 M = some M') : ZCt l D ad cA yX8_clear cX8_clear 1 (none) 1 [.ref (ad o0)] M none M' := by
  refine zct (by decide +kernel) (Nat.le_of_ble_eq_true rfl) (lv := [(0, .ref (ad o0))]) rfl (fun E hl hD had hcA hN hC hR => ?_)
  subst hl; subst hD; subst had; subst hcA
  unfold zf_X8_clear at hf
  refine zw_aload_n hC dX8_clear_0 rfl 0 rfl ?_
  refine zw_iconst hC (v := (0 : Int32)) dX8_clear_1 (by decide) ?_
  refine zw_puti hC hf zF_Told_members ho0 dX8_clear_2 kw_1_34 (fun M28 hf => ?_)
  refine zw_aload_n hC dX8_clear_5 rfl 0 rfl ?_
  refine zw_iconst hC (v := (0 : Int32)) dX8_clear_6 (by decide) ?_
  refine zw_puti hC hf zF_Told_channels ho0 dX8_clear_7 kw_1_41 (fun M29 hf => ?_)
  refine zw_aload_n hC dX8_clear_10 rfl 0 rfl ?_
  refine zw_iconst hC (v := (0 : Int32)) dX8_clear_11 (by decide) ?_
  refine zw_puti hC hf zF_Told_fee ho0 dX8_clear_12 kw_1_69 (fun M30 hf => ?_)
  refine zw_aload_n hC dX8_clear_15 rfl 0 rfl ?_
  refine zw_iconst hC (v := (0 : Int32)) dX8_clear_16 (by decide) ?_
  refine zw_puti hC hf zF_Told_least ho0 dX8_clear_17 kw_1_72 (fun M31 hf => ?_)
  refine zw_aload_n hC dX8_clear_20 rfl 0 rfl ?_
  refine zw_bipush hC (v := (99 : Int32)) dX8_clear_21 (by decide) ?_
  refine zw_puti hC hf zF_Told_till ho0 dX8_clear_23 kw_1_76 (fun M32 hf => ?_)
  refine zw_aload_n hC dX8_clear_26 rfl 0 rfl ?_
  refine zw_iconst hC (v := (0 : Int32)) dX8_clear_27 (by decide) ?_
  refine zw_puti hC hf zF_Told_lines ho0 dX8_clear_28 kw_1_79 (fun M33 hf => ?_)
  refine zw_aload_n hC dX8_clear_31 rfl 0 rfl ?_
  refine zw_iconst hC (v := (0 : Int32)) dX8_clear_32 (by decide) ?_
  refine zw_puti hC hf zF_Told_used ho0 dX8_clear_33 kw_1_87 (fun M34 hf => ?_)
  cases hf
  exact zw_vret hC hR dX8_clear_36
/-! Told.openLine(I)V -/
theorem dX8_openLine_0 : decode cX8_openLine 0 = .ok (.aload_n 0, 1) := by decide +kernel
theorem dX8_openLine_1 : decode cX8_openLine 1 = .ok (.getfield 58, 3) := by decide +kernel
theorem dX8_openLine_4 : decode cX8_openLine 4 = .ok (.bipush 80, 2) := by decide +kernel
theorem dX8_openLine_6 : decode cX8_openLine 6 = .ok (.if_icmp .ge 46, 3) := by decide +kernel
theorem dX8_openLine_9 : decode cX8_openLine 9 = .ok (.aload_n 0, 1) := by decide +kernel
theorem dX8_openLine_10 : decode cX8_openLine 10 = .ok (.getfield 34, 3) := by decide +kernel
theorem dX8_openLine_13 : decode cX8_openLine 13 = .ok (.aload_n 0, 1) := by decide +kernel
theorem dX8_openLine_14 : decode cX8_openLine 14 = .ok (.getfield 58, 3) := by decide +kernel
theorem dX8_openLine_17 : decode cX8_openLine 17 = .ok (.iload_n 1, 1) := by decide +kernel
theorem dX8_openLine_18 : decode cX8_openLine 18 = .ok (.iastore, 1) := by decide +kernel
theorem dX8_openLine_19 : decode cX8_openLine 19 = .ok (.aload_n 0, 1) := by decide +kernel
theorem dX8_openLine_20 : decode cX8_openLine 20 = .ok (.getfield 37, 3) := by decide +kernel
theorem dX8_openLine_23 : decode cX8_openLine 23 = .ok (.aload_n 0, 1) := by decide +kernel
theorem dX8_openLine_24 : decode cX8_openLine 24 = .ok (.getfield 58, 3) := by decide +kernel
theorem dX8_openLine_27 : decode cX8_openLine 27 = .ok (.aload_n 0, 1) := by decide +kernel
theorem dX8_openLine_28 : decode cX8_openLine 28 = .ok (.getfield 61, 3) := by decide +kernel
theorem dX8_openLine_31 : decode cX8_openLine 31 = .ok (.iastore, 1) := by decide +kernel
theorem dX8_openLine_32 : decode cX8_openLine 32 = .ok (.aload_n 0, 1) := by decide +kernel
theorem dX8_openLine_33 : decode cX8_openLine 33 = .ok (.getfield 40, 3) := by decide +kernel
theorem dX8_openLine_36 : decode cX8_openLine 36 = .ok (.aload_n 0, 1) := by decide +kernel
theorem dX8_openLine_37 : decode cX8_openLine 37 = .ok (.getfield 58, 3) := by decide +kernel
theorem dX8_openLine_40 : decode cX8_openLine 40 = .ok (.iconst 0, 1) := by decide +kernel
theorem dX8_openLine_41 : decode cX8_openLine 41 = .ok (.iastore, 1) := by decide +kernel
theorem dX8_openLine_42 : decode cX8_openLine 42 = .ok (.aload_n 0, 1) := by decide +kernel
theorem dX8_openLine_43 : decode cX8_openLine 43 = .ok (.dup, 1) := by decide +kernel
theorem dX8_openLine_44 : decode cX8_openLine 44 = .ok (.getfield 58, 3) := by decide +kernel
theorem dX8_openLine_47 : decode cX8_openLine 47 = .ok (.iconst 1, 1) := by decide +kernel
theorem dX8_openLine_48 : decode cX8_openLine 48 = .ok (.iadd, 1) := by decide +kernel
theorem dX8_openLine_49 : decode cX8_openLine 49 = .ok (.putfield 58, 3) := by decide +kernel
theorem dX8_openLine_52 : decode cX8_openLine 52 = .ok (.return_, 1) := by decide +kernel
theorem zm_X8_openLine : ZMv "ClassOfMany$Told" yX8_openLine cX8_openLine 2 (none) 1 := ⟨kw_3_88, kw_3_86, kw_3_87, kw_1_2, by decide +kernel, by decide⟩
def zf_X8_openLine_j52 (M25 : ZMem) : Option (ZMem) :=
  some M25
def zf_X8_openLine (o0 : Nat) (a1 : Int32) (M : ZMem) : Option (ZMem) :=
  (if (80 : Int32) ≤ (M o0 11) then (zf_X8_openLine_j52 M) else zst M (o0 + 7) 80 (M o0 11) a1 (fun M26 => zst M26 (o0 + 8) 80 (M26 o0 11) (M26 o0 15) (fun M27 => zst M27 (o0 + 9) 80 (M27 o0 11) (0 : Int32) (fun M28 => zput M28 o0 11 ((M28 o0 11) + (1 : Int32)) (fun M29 => (zf_X8_openLine_j52 M29))))))
set_option maxHeartbeats 4000000 in
set_option maxRecDepth 100000 in
theorem zc_X8_openLine {l : Launch} {D : va_G} {ad : Nat → Nat} {cA : Nat → ClassId} {o0 : Nat} {a1 : Int32} {M : ZMem} {M' : ZMem} (ho0 : zk o0 = (7, 17)) (hf : zf_X8_openLine o0 a1 M = some M') : ZCt l D ad cA yX8_openLine cX8_openLine 2 (none) 1 [.ref (ad o0), .int a1] M none M' := by
  refine zct (by decide +kernel) (Nat.le_of_ble_eq_true rfl) (lv := [(0, .ref (ad o0)), (1, .int a1)]) rfl (fun E hl hD had hcA hN hC hR => ?_)
  subst hl; subst hD; subst had; subst hcA
  unfold zf_X8_openLine at hf
  refine zw_aload_n hC dX8_openLine_0 rfl 0 rfl ?_
  refine zw_geti hC zF_Told_lines ho0 dX8_openLine_1 kw_1_79 ?_
  refine zw_bipush hC (v := (80 : Int32)) dX8_openLine_4 (by decide) ?_
  have hj52 : ∀ (M25 : ZMem), zf_X8_openLine_j52 M25 = some M' → ZW E 52 [] [] M25 := by
    intro M25 hf
    unfold zf_X8_openLine_j52 at hf
    cases hf
    exact zw_vret hC hR dX8_openLine_52
  refine zw_icmp_ge hC 52 hf dX8_openLine_6 (by decide) (fun hf => ?_) (fun hf => ?_)
  · exact zw_sub [] rfl (hj52 M hf)
  · refine zw_aload_n hC dX8_openLine_9 rfl 0 rfl ?_
    refine zw_getr (k' := (o0 + 7)) hC zF_Told_sorts ho0 rfl dX8_openLine_10 kw_1_81 ?_
    refine zw_aload_n hC dX8_openLine_13 rfl 0 rfl ?_
    refine zw_geti hC zF_Told_lines ho0 dX8_openLine_14 kw_1_79 ?_
    refine zw_iload_n hC dX8_openLine_17 rfl 1 rfl ?_
    refine zw_iast hC hf (zko_7_7 ho0) dX8_openLine_18 (fun M26 hf => ?_)
    refine zw_aload_n hC dX8_openLine_19 rfl 0 rfl ?_
    refine zw_getr (k' := (o0 + 8)) hC zF_Told_starts ho0 rfl dX8_openLine_20 kw_1_83 ?_
    refine zw_aload_n hC dX8_openLine_23 rfl 0 rfl ?_
    refine zw_geti hC zF_Told_lines ho0 dX8_openLine_24 kw_1_79 ?_
    refine zw_aload_n hC dX8_openLine_27 rfl 0 rfl ?_
    refine zw_geti hC zF_Told_used ho0 dX8_openLine_28 kw_1_87 ?_
    refine zw_iast hC hf (zko_7_8 ho0) dX8_openLine_31 (fun M27 hf => ?_)
    refine zw_aload_n hC dX8_openLine_32 rfl 0 rfl ?_
    refine zw_getr (k' := (o0 + 9)) hC zF_Told_sizes ho0 rfl dX8_openLine_33 kw_1_85 ?_
    refine zw_aload_n hC dX8_openLine_36 rfl 0 rfl ?_
    refine zw_geti hC zF_Told_lines ho0 dX8_openLine_37 kw_1_79 ?_
    refine zw_iconst hC (v := (0 : Int32)) dX8_openLine_40 (by decide) ?_
    refine zw_iast hC hf (zko_7_9 ho0) dX8_openLine_41 (fun M28 hf => ?_)
    refine zw_aload_n hC dX8_openLine_42 rfl 0 rfl ?_
    refine zw_dup hC dX8_openLine_43 rfl ?_
    refine zw_geti hC zF_Told_lines ho0 dX8_openLine_44 kw_1_79 ?_
    refine zw_iconst hC (v := (1 : Int32)) dX8_openLine_47 (by decide) ?_
    refine zw_iadd hC dX8_openLine_48 ?_
    refine zw_puti hC hf zF_Told_lines ho0 dX8_openLine_49 kw_1_79 (fun M29 hf => ?_)
    exact zw_sub [] rfl (hj52 M29 hf)
/-! Told.addNumber(I)V -/
theorem dX8_addNumber_0 : decode cX8_addNumber 0 = .ok (.aload_n 0, 1) := by decide +kernel
theorem dX8_addNumber_1 : decode cX8_addNumber 1 = .ok (.getfield 58, 3) := by decide +kernel
theorem dX8_addNumber_4 : decode cX8_addNumber 4 = .ok (.ifCond .le 48, 3) := by decide +kernel
theorem dX8_addNumber_7 : decode cX8_addNumber 7 = .ok (.aload_n 0, 1) := by decide +kernel
theorem dX8_addNumber_8 : decode cX8_addNumber 8 = .ok (.getfield 61, 3) := by decide +kernel
theorem dX8_addNumber_11 : decode cX8_addNumber 11 = .ok (.sipush 200, 3) := by decide +kernel
theorem dX8_addNumber_14 : decode cX8_addNumber 14 = .ok (.if_icmp .ge 38, 3) := by decide +kernel
theorem dX8_addNumber_17 : decode cX8_addNumber 17 = .ok (.aload_n 0, 1) := by decide +kernel
theorem dX8_addNumber_18 : decode cX8_addNumber 18 = .ok (.getfield 43, 3) := by decide +kernel
theorem dX8_addNumber_21 : decode cX8_addNumber 21 = .ok (.aload_n 0, 1) := by decide +kernel
theorem dX8_addNumber_22 : decode cX8_addNumber 22 = .ok (.getfield 61, 3) := by decide +kernel
theorem dX8_addNumber_25 : decode cX8_addNumber 25 = .ok (.iload_n 1, 1) := by decide +kernel
theorem dX8_addNumber_26 : decode cX8_addNumber 26 = .ok (.iastore, 1) := by decide +kernel
theorem dX8_addNumber_27 : decode cX8_addNumber 27 = .ok (.aload_n 0, 1) := by decide +kernel
theorem dX8_addNumber_28 : decode cX8_addNumber 28 = .ok (.dup, 1) := by decide +kernel
theorem dX8_addNumber_29 : decode cX8_addNumber 29 = .ok (.getfield 61, 3) := by decide +kernel
theorem dX8_addNumber_32 : decode cX8_addNumber 32 = .ok (.iconst 1, 1) := by decide +kernel
theorem dX8_addNumber_33 : decode cX8_addNumber 33 = .ok (.iadd, 1) := by decide +kernel
theorem dX8_addNumber_34 : decode cX8_addNumber 34 = .ok (.putfield 61, 3) := by decide +kernel
theorem dX8_addNumber_37 : decode cX8_addNumber 37 = .ok (.aload_n 0, 1) := by decide +kernel
theorem dX8_addNumber_38 : decode cX8_addNumber 38 = .ok (.getfield 40, 3) := by decide +kernel
theorem dX8_addNumber_41 : decode cX8_addNumber 41 = .ok (.aload_n 0, 1) := by decide +kernel
theorem dX8_addNumber_42 : decode cX8_addNumber 42 = .ok (.getfield 58, 3) := by decide +kernel
theorem dX8_addNumber_45 : decode cX8_addNumber 45 = .ok (.iconst 1, 1) := by decide +kernel
theorem dX8_addNumber_46 : decode cX8_addNumber 46 = .ok (.isub, 1) := by decide +kernel
theorem dX8_addNumber_47 : decode cX8_addNumber 47 = .ok (.dup2, 1) := by decide +kernel
theorem dX8_addNumber_48 : decode cX8_addNumber 48 = .ok (.iaload, 1) := by decide +kernel
theorem dX8_addNumber_49 : decode cX8_addNumber 49 = .ok (.iconst 1, 1) := by decide +kernel
theorem dX8_addNumber_50 : decode cX8_addNumber 50 = .ok (.iadd, 1) := by decide +kernel
theorem dX8_addNumber_51 : decode cX8_addNumber 51 = .ok (.iastore, 1) := by decide +kernel
theorem dX8_addNumber_52 : decode cX8_addNumber 52 = .ok (.return_, 1) := by decide +kernel
theorem zm_X8_addNumber : ZMv "ClassOfMany$Told" yX8_addNumber cX8_addNumber 2 (none) 1 := ⟨kw_3_105, kw_3_103, kw_3_104, kw_1_2, by decide +kernel, by decide⟩
def zf_X8_addNumber_j52 (M25 : ZMem) : Option (ZMem) :=
  some M25
def zf_X8_addNumber (o0 : Nat) (a1 : Int32) (M : ZMem) : Option (ZMem) :=
  (if (M o0 11) ≤ 0 then (zf_X8_addNumber_j52 M) else (if (200 : Int32) ≤ (M o0 15) then (zf_X8_addNumber_j52 M) else zst M (o0 + 10) 200 (M o0 15) a1 (fun M26 => zput M26 o0 15 ((M26 o0 15) + (1 : Int32)) (fun M27 => zrd M27 (o0 + 9) 80 ((M27 o0 11) - (1 : Int32)) (fun v28 => zst M27 (o0 + 9) 80 ((M27 o0 11) - (1 : Int32)) (v28 + (1 : Int32)) (fun M29 => (zf_X8_addNumber_j52 M29)))))))
set_option maxHeartbeats 4000000 in
set_option maxRecDepth 100000 in
theorem zc_X8_addNumber {l : Launch} {D : va_G} {ad : Nat → Nat} {cA : Nat → ClassId} {o0 : Nat} {a1 : Int32} {M : ZMem} {M' : ZMem} (ho0 : zk o0 = (7, 17)) (hf : zf_X8_addNumber o0 a1 M = some M') : ZCt l D ad cA yX8_addNumber cX8_addNumber 2 (none) 1 [.ref (ad o0), .int a1] M none M' := by
  refine zct (by decide +kernel) (Nat.le_of_ble_eq_true rfl) (lv := [(0, .ref (ad o0)), (1, .int a1)]) rfl (fun E hl hD had hcA hN hC hR => ?_)
  subst hl; subst hD; subst had; subst hcA
  unfold zf_X8_addNumber at hf
  refine zw_aload_n hC dX8_addNumber_0 rfl 0 rfl ?_
  refine zw_geti hC zF_Told_lines ho0 dX8_addNumber_1 kw_1_79 ?_
  have hj52 : ∀ (M25 : ZMem), zf_X8_addNumber_j52 M25 = some M' → ZW E 52 [] [] M25 := by
    intro M25 hf
    unfold zf_X8_addNumber_j52 at hf
    cases hf
    exact zw_vret hC hR dX8_addNumber_52
  refine zw_if_le hC 52 hf dX8_addNumber_4 (by decide) (fun hf => ?_) (fun hf => ?_)
  · exact zw_sub [] rfl (hj52 M hf)
  · refine zw_aload_n hC dX8_addNumber_7 rfl 0 rfl ?_
    refine zw_geti hC zF_Told_used ho0 dX8_addNumber_8 kw_1_87 ?_
    refine zw_sipush hC (v := (200 : Int32)) dX8_addNumber_11 (by decide) ?_
    refine zw_icmp_ge hC 52 hf dX8_addNumber_14 (by decide) (fun hf => ?_) (fun hf => ?_)
    · exact zw_sub [] rfl (hj52 M hf)
    · refine zw_aload_n hC dX8_addNumber_17 rfl 0 rfl ?_
      refine zw_getr (k' := (o0 + 10)) hC zF_Told_numbers ho0 rfl dX8_addNumber_18 kw_1_88 ?_
      refine zw_aload_n hC dX8_addNumber_21 rfl 0 rfl ?_
      refine zw_geti hC zF_Told_used ho0 dX8_addNumber_22 kw_1_87 ?_
      refine zw_iload_n hC dX8_addNumber_25 rfl 1 rfl ?_
      refine zw_iast hC hf (zko_7_10 ho0) dX8_addNumber_26 (fun M26 hf => ?_)
      refine zw_aload_n hC dX8_addNumber_27 rfl 0 rfl ?_
      refine zw_dup hC dX8_addNumber_28 rfl ?_
      refine zw_geti hC zF_Told_used ho0 dX8_addNumber_29 kw_1_87 ?_
      refine zw_iconst hC (v := (1 : Int32)) dX8_addNumber_32 (by decide) ?_
      refine zw_iadd hC dX8_addNumber_33 ?_
      refine zw_puti hC hf zF_Told_used ho0 dX8_addNumber_34 kw_1_87 (fun M27 hf => ?_)
      refine zw_aload_n hC dX8_addNumber_37 rfl 0 rfl ?_
      refine zw_getr (k' := (o0 + 9)) hC zF_Told_sizes ho0 rfl dX8_addNumber_38 kw_1_85 ?_
      refine zw_aload_n hC dX8_addNumber_41 rfl 0 rfl ?_
      refine zw_geti hC zF_Told_lines ho0 dX8_addNumber_42 kw_1_79 ?_
      refine zw_iconst hC (v := (1 : Int32)) dX8_addNumber_45 (by decide) ?_
      refine zw_isub hC dX8_addNumber_46 ?_
      refine zw_dup2 hC dX8_addNumber_47 rfl rfl ?_
      refine zw_iald hC hf (zko_7_9 ho0) dX8_addNumber_48 (fun v28 hf => ?_)
      refine zw_iconst hC (v := (1 : Int32)) dX8_addNumber_49 (by decide) ?_
      refine zw_iadd hC dX8_addNumber_50 ?_
      refine zw_iast hC hf (zko_7_9 ho0) dX8_addNumber_51 (fun M29 hf => ?_)
      exact zw_sub [] rfl (hj52 M29 hf)
/-! Standing.clear()V -/
theorem dX7_clear_0 : decode cX7_clear 0 = .ok (.aload_n 0, 1) := by decide +kernel
theorem dX7_clear_1 : decode cX7_clear 1 = .ok (.iconst 0, 1) := by decide +kernel
theorem dX7_clear_2 : decode cX7_clear 2 = .ok (.putfield 22, 3) := by decide +kernel
theorem dX7_clear_5 : decode cX7_clear 5 = .ok (.aload_n 0, 1) := by decide +kernel
theorem dX7_clear_6 : decode cX7_clear 6 = .ok (.iconst 0, 1) := by decide +kernel
theorem dX7_clear_7 : decode cX7_clear 7 = .ok (.putfield 25, 3) := by decide +kernel
theorem dX7_clear_10 : decode cX7_clear 10 = .ok (.aload_n 0, 1) := by decide +kernel
theorem dX7_clear_11 : decode cX7_clear 11 = .ok (.bipush (-2), 2) := by decide +kernel
theorem dX7_clear_13 : decode cX7_clear 13 = .ok (.putfield 9, 3) := by decide +kernel
theorem dX7_clear_16 : decode cX7_clear 16 = .ok (.aload_n 0, 1) := by decide +kernel
theorem dX7_clear_17 : decode cX7_clear 17 = .ok (.iconst 0, 1) := by decide +kernel
theorem dX7_clear_18 : decode cX7_clear 18 = .ok (.putfield 28, 3) := by decide +kernel
theorem dX7_clear_21 : decode cX7_clear 21 = .ok (.aload_n 0, 1) := by decide +kernel
theorem dX7_clear_22 : decode cX7_clear 22 = .ok (.iconst 0, 1) := by decide +kernel
theorem dX7_clear_23 : decode cX7_clear 23 = .ok (.putfield 31, 3) := by decide +kernel
theorem dX7_clear_26 : decode cX7_clear 26 = .ok (.aload_n 0, 1) := by decide +kernel
theorem dX7_clear_27 : decode cX7_clear 27 = .ok (.iconst 0, 1) := by decide +kernel
theorem dX7_clear_28 : decode cX7_clear 28 = .ok (.putfield 34, 3) := by decide +kernel
theorem dX7_clear_31 : decode cX7_clear 31 = .ok (.aload_n 0, 1) := by decide +kernel
theorem dX7_clear_32 : decode cX7_clear 32 = .ok (.iconst 0, 1) := by decide +kernel
theorem dX7_clear_33 : decode cX7_clear 33 = .ok (.putfield 37, 3) := by decide +kernel
theorem dX7_clear_36 : decode cX7_clear 36 = .ok (.aload_n 0, 1) := by decide +kernel
theorem dX7_clear_37 : decode cX7_clear 37 = .ok (.iconst 0, 1) := by decide +kernel
theorem dX7_clear_38 : decode cX7_clear 38 = .ok (.putfield 40, 3) := by decide +kernel
theorem dX7_clear_41 : decode cX7_clear 41 = .ok (.aload_n 0, 1) := by decide +kernel
theorem dX7_clear_42 : decode cX7_clear 42 = .ok (.iconst 0, 1) := by decide +kernel
theorem dX7_clear_43 : decode cX7_clear 43 = .ok (.putfield 43, 3) := by decide +kernel
theorem dX7_clear_46 : decode cX7_clear 46 = .ok (.aload_n 0, 1) := by decide +kernel
theorem dX7_clear_47 : decode cX7_clear 47 = .ok (.iconst 0, 1) := by decide +kernel
theorem dX7_clear_48 : decode cX7_clear 48 = .ok (.putfield 46, 3) := by decide +kernel
theorem dX7_clear_51 : decode cX7_clear 51 = .ok (.aload_n 0, 1) := by decide +kernel
theorem dX7_clear_52 : decode cX7_clear 52 = .ok (.bipush 99, 2) := by decide +kernel
theorem dX7_clear_54 : decode cX7_clear 54 = .ok (.putfield 15, 3) := by decide +kernel
theorem dX7_clear_57 : decode cX7_clear 57 = .ok (.aload_n 0, 1) := by decide +kernel
theorem dX7_clear_58 : decode cX7_clear 58 = .ok (.getfield 18, 3) := by decide +kernel
theorem dX7_clear_61 : decode cX7_clear 61 = .ok (.iconst 0, 1) := by decide +kernel
theorem dX7_clear_62 : decode cX7_clear 62 = .ok (.invokestatic 49, 3) := by decide +kernel
theorem dX7_clear_65 : decode cX7_clear 65 = .ok (.return_, 1) := by decide +kernel
theorem zm_X7_clear : ZMv "ClassOfMany$Standing" yX7_clear cX7_clear 1 (none) 0 := ⟨kw_2_223, kw_2_221, kw_2_222, kw_1_3, by decide +kernel, by decide⟩
def zf_X7_clear (n : Nat) (o0 : Nat) (M : ZMem) : Option (ZMem) :=
  zput M o0 0 (0 : Int32) (fun M33 => zput M33 o0 1 (0 : Int32) (fun M34 => zput M34 o0 2 (-2 : Int32) (fun M35 => zput M35 o0 3 (0 : Int32) (fun M36 => zput M36 o0 4 (0 : Int32) (fun M37 => zput M37 o0 5 (0 : Int32) (fun M38 => zput M38 o0 6 (0 : Int32) (fun M39 => zput M39 o0 7 (0 : Int32) (fun M40 => zput M40 o0 8 (0 : Int32) (fun M41 => zput M41 o0 9 (0 : Int32) (fun M42 => zput M42 o0 10 (99 : Int32) (fun M43 => zb1 (zf_J7_fill_53178 n (o0 + 1) 10 (0 : Int32) M43) (fun M44 => some M44))))))))))))
set_option maxHeartbeats 4000000 in
set_option maxRecDepth 100000 in
theorem zc_X7_clear {l : Launch} {D : va_G} {ad : Nat → Nat} {cA : Nat → ClassId} {n : Nat} {o0 : Nat} {M : ZMem} {M' : ZMem} (ho0 : zk o0 = (6, 12)) (hf : zf_X7_clear n o0 M = some M') : ZCt l D ad cA yX7_clear cX7_clear 1 (none) 2 [.ref (ad o0)] M none M' := by
  refine zct (by decide +kernel) (Nat.le_of_ble_eq_true rfl) (lv := [(0, .ref (ad o0))]) rfl (fun E hl hD had hcA hN hC hR => ?_)
  subst hl; subst hD; subst had; subst hcA
  unfold zf_X7_clear at hf
  refine zw_aload_n hC dX7_clear_0 rfl 0 rfl ?_
  refine zw_iconst hC (v := (0 : Int32)) dX7_clear_1 (by decide) ?_
  refine zw_puti hC hf zF_Standing_today ho0 dX7_clear_2 kw_1_132 (fun M33 hf => ?_)
  refine zw_aload_n hC dX7_clear_5 rfl 0 rfl ?_
  refine zw_iconst hC (v := (0 : Int32)) dX7_clear_6 (by decide) ?_
  refine zw_puti hC hf zF_Standing_order ho0 dX7_clear_7 kw_1_134 (fun M34 hf => ?_)
  refine zw_aload_n hC dX7_clear_10 rfl 0 rfl ?_
  refine zw_bipush hC (v := (-2 : Int32)) dX7_clear_11 (by decide) ?_
  refine zw_puti hC hf zF_Standing_sentDay ho0 dX7_clear_13 kw_1_137 (fun M35 hf => ?_)
  refine zw_aload_n hC dX7_clear_16 rfl 0 rfl ?_
  refine zw_iconst hC (v := (0 : Int32)) dX7_clear_17 (by decide) ?_
  refine zw_puti hC hf zF_Standing_costs ho0 dX7_clear_18 kw_1_140 (fun M36 hf => ?_)
  refine zw_aload_n hC dX7_clear_21 rfl 0 rfl ?_
  refine zw_iconst hC (v := (0 : Int32)) dX7_clear_22 (by decide) ?_
  refine zw_puti hC hf zF_Standing_out ho0 dX7_clear_23 kw_1_143 (fun M37 hf => ?_)
  refine zw_aload_n hC dX7_clear_26 rfl 0 rfl ?_
  refine zw_iconst hC (v := (0 : Int32)) dX7_clear_27 (by decide) ?_
  refine zw_puti hC hf zF_Standing_filed ho0 dX7_clear_28 kw_1_147 (fun M38 hf => ?_)
  refine zw_aload_n hC dX7_clear_31 rfl 0 rfl ?_
  refine zw_iconst hC (v := (0 : Int32)) dX7_clear_32 (by decide) ?_
  refine zw_puti hC hf zF_Standing_lazy ho0 dX7_clear_33 kw_1_151 (fun M39 hf => ?_)
  refine zw_aload_n hC dX7_clear_36 rfl 0 rfl ?_
  refine zw_iconst hC (v := (0 : Int32)) dX7_clear_37 (by decide) ?_
  refine zw_puti hC hf zF_Standing_fund ho0 dX7_clear_38 kw_1_156 (fun M40 hf => ?_)
  refine zw_aload_n hC dX7_clear_41 rfl 0 rfl ?_
  refine zw_iconst hC (v := (0 : Int32)) dX7_clear_42 (by decide) ?_
  refine zw_puti hC hf zF_Standing_rule ho0 dX7_clear_43 kw_1_159 (fun M41 hf => ?_)
  refine zw_aload_n hC dX7_clear_46 rfl 0 rfl ?_
  refine zw_iconst hC (v := (0 : Int32)) dX7_clear_47 (by decide) ?_
  refine zw_puti hC hf zF_Standing_periodFrom ho0 dX7_clear_48 kw_1_162 (fun M42 hf => ?_)
  refine zw_aload_n hC dX7_clear_51 rfl 0 rfl ?_
  refine zw_bipush hC (v := (99 : Int32)) dX7_clear_52 (by decide) ?_
  refine zw_puti hC hf zF_Standing_periodTo ho0 dX7_clear_54 kw_1_165 (fun M43 hf => ?_)
  refine zw_aload_n hC dX7_clear_57 rfl 0 rfl ?_
  refine zw_getr (k' := (o0 + 1)) hC zF_Standing_foes ho0 rfl dX7_clear_58 kw_1_168 ?_
  refine zw_iconst hC (v := (0 : Int32)) dX7_clear_61 (by decide) ?_
  obtain ⟨M44, hcM44, hf⟩ := zb1_some hf
  refine zw_cS hC [.ref (zad E (o0 + 1)), .int (0 : Int32)] [] (st1 := []) zm_J7_fill_53178 (zc_J7_fill_53178 (zko_6_1 ho0) hcM44) kw_2_224 dX7_clear_62 rfl (by decide) (Nat.le_of_ble_eq_true rfl) rfl rfl ?_
  cases hf
  exact zw_vret hC hR dX7_clear_65
/-! Standing.copyFrom(LClassOfMany$Standing;)V -/
theorem dX7_copyFrom_0 : decode cX7_copyFrom 0 = .ok (.aload_n 0, 1) := by decide +kernel
theorem dX7_copyFrom_1 : decode cX7_copyFrom 1 = .ok (.aload_n 1, 1) := by decide +kernel
theorem dX7_copyFrom_2 : decode cX7_copyFrom 2 = .ok (.getfield 22, 3) := by decide +kernel
theorem dX7_copyFrom_5 : decode cX7_copyFrom 5 = .ok (.putfield 22, 3) := by decide +kernel
theorem dX7_copyFrom_8 : decode cX7_copyFrom 8 = .ok (.aload_n 0, 1) := by decide +kernel
theorem dX7_copyFrom_9 : decode cX7_copyFrom 9 = .ok (.aload_n 1, 1) := by decide +kernel
theorem dX7_copyFrom_10 : decode cX7_copyFrom 10 = .ok (.getfield 25, 3) := by decide +kernel
theorem dX7_copyFrom_13 : decode cX7_copyFrom 13 = .ok (.putfield 25, 3) := by decide +kernel
theorem dX7_copyFrom_16 : decode cX7_copyFrom 16 = .ok (.aload_n 0, 1) := by decide +kernel
theorem dX7_copyFrom_17 : decode cX7_copyFrom 17 = .ok (.aload_n 1, 1) := by decide +kernel
theorem dX7_copyFrom_18 : decode cX7_copyFrom 18 = .ok (.getfield 9, 3) := by decide +kernel
theorem dX7_copyFrom_21 : decode cX7_copyFrom 21 = .ok (.putfield 9, 3) := by decide +kernel
theorem dX7_copyFrom_24 : decode cX7_copyFrom 24 = .ok (.aload_n 0, 1) := by decide +kernel
theorem dX7_copyFrom_25 : decode cX7_copyFrom 25 = .ok (.aload_n 1, 1) := by decide +kernel
theorem dX7_copyFrom_26 : decode cX7_copyFrom 26 = .ok (.getfield 28, 3) := by decide +kernel
theorem dX7_copyFrom_29 : decode cX7_copyFrom 29 = .ok (.putfield 28, 3) := by decide +kernel
theorem dX7_copyFrom_32 : decode cX7_copyFrom 32 = .ok (.aload_n 0, 1) := by decide +kernel
theorem dX7_copyFrom_33 : decode cX7_copyFrom 33 = .ok (.aload_n 1, 1) := by decide +kernel
theorem dX7_copyFrom_34 : decode cX7_copyFrom 34 = .ok (.getfield 31, 3) := by decide +kernel
theorem dX7_copyFrom_37 : decode cX7_copyFrom 37 = .ok (.putfield 31, 3) := by decide +kernel
theorem dX7_copyFrom_40 : decode cX7_copyFrom 40 = .ok (.aload_n 0, 1) := by decide +kernel
theorem dX7_copyFrom_41 : decode cX7_copyFrom 41 = .ok (.aload_n 1, 1) := by decide +kernel
theorem dX7_copyFrom_42 : decode cX7_copyFrom 42 = .ok (.getfield 34, 3) := by decide +kernel
theorem dX7_copyFrom_45 : decode cX7_copyFrom 45 = .ok (.putfield 34, 3) := by decide +kernel
theorem dX7_copyFrom_48 : decode cX7_copyFrom 48 = .ok (.aload_n 0, 1) := by decide +kernel
theorem dX7_copyFrom_49 : decode cX7_copyFrom 49 = .ok (.aload_n 1, 1) := by decide +kernel
theorem dX7_copyFrom_50 : decode cX7_copyFrom 50 = .ok (.getfield 37, 3) := by decide +kernel
theorem dX7_copyFrom_53 : decode cX7_copyFrom 53 = .ok (.putfield 37, 3) := by decide +kernel
theorem dX7_copyFrom_56 : decode cX7_copyFrom 56 = .ok (.aload_n 0, 1) := by decide +kernel
theorem dX7_copyFrom_57 : decode cX7_copyFrom 57 = .ok (.aload_n 1, 1) := by decide +kernel
theorem dX7_copyFrom_58 : decode cX7_copyFrom 58 = .ok (.getfield 40, 3) := by decide +kernel
theorem dX7_copyFrom_61 : decode cX7_copyFrom 61 = .ok (.putfield 40, 3) := by decide +kernel
theorem dX7_copyFrom_64 : decode cX7_copyFrom 64 = .ok (.aload_n 0, 1) := by decide +kernel
theorem dX7_copyFrom_65 : decode cX7_copyFrom 65 = .ok (.aload_n 1, 1) := by decide +kernel
theorem dX7_copyFrom_66 : decode cX7_copyFrom 66 = .ok (.getfield 43, 3) := by decide +kernel
theorem dX7_copyFrom_69 : decode cX7_copyFrom 69 = .ok (.putfield 43, 3) := by decide +kernel
theorem dX7_copyFrom_72 : decode cX7_copyFrom 72 = .ok (.aload_n 0, 1) := by decide +kernel
theorem dX7_copyFrom_73 : decode cX7_copyFrom 73 = .ok (.aload_n 1, 1) := by decide +kernel
theorem dX7_copyFrom_74 : decode cX7_copyFrom 74 = .ok (.getfield 46, 3) := by decide +kernel
theorem dX7_copyFrom_77 : decode cX7_copyFrom 77 = .ok (.putfield 46, 3) := by decide +kernel
theorem dX7_copyFrom_80 : decode cX7_copyFrom 80 = .ok (.aload_n 0, 1) := by decide +kernel
theorem dX7_copyFrom_81 : decode cX7_copyFrom 81 = .ok (.aload_n 1, 1) := by decide +kernel
theorem dX7_copyFrom_82 : decode cX7_copyFrom 82 = .ok (.getfield 15, 3) := by decide +kernel
theorem dX7_copyFrom_85 : decode cX7_copyFrom 85 = .ok (.putfield 15, 3) := by decide +kernel
theorem dX7_copyFrom_88 : decode cX7_copyFrom 88 = .ok (.aload_n 1, 1) := by decide +kernel
theorem dX7_copyFrom_89 : decode cX7_copyFrom 89 = .ok (.getfield 18, 3) := by decide +kernel
theorem dX7_copyFrom_92 : decode cX7_copyFrom 92 = .ok (.iconst 0, 1) := by decide +kernel
theorem dX7_copyFrom_93 : decode cX7_copyFrom 93 = .ok (.aload_n 0, 1) := by decide +kernel
theorem dX7_copyFrom_94 : decode cX7_copyFrom 94 = .ok (.getfield 18, 3) := by decide +kernel
theorem dX7_copyFrom_97 : decode cX7_copyFrom 97 = .ok (.iconst 0, 1) := by decide +kernel
theorem dX7_copyFrom_98 : decode cX7_copyFrom 98 = .ok (.bipush 10, 2) := by decide +kernel
theorem dX7_copyFrom_100 : decode cX7_copyFrom 100 = .ok (.invokestatic 55, 3) := by decide +kernel
theorem dX7_copyFrom_103 : decode cX7_copyFrom 103 = .ok (.return_, 1) := by decide +kernel
theorem zm_X7_copyFrom : ZMv "ClassOfMany$Standing" yX7_copyFrom cX7_copyFrom 2 (none) 1 := ⟨kw_3_137, kw_3_135, kw_3_136, kw_1_3, by decide +kernel, by decide⟩
def zf_X7_copyFrom (o0 : Nat) (o1 : Nat) (M : ZMem) : Option (ZMem) :=
  zput M o0 0 (M o1 0) (fun M33 => zput M33 o0 1 (M33 o1 1) (fun M34 => zput M34 o0 2 (M34 o1 2) (fun M35 => zput M35 o0 3 (M35 o1 3) (fun M36 => zput M36 o0 4 (M36 o1 4) (fun M37 => zput M37 o0 5 (M37 o1 5) (fun M38 => zput M38 o0 6 (M38 o1 6) (fun M39 => zput M39 o0 7 (M39 o1 7) (fun M40 => zput M40 o0 8 (M40 o1 8) (fun M41 => zput M41 o0 9 (M41 o1 9) (fun M42 => zput M42 o0 10 (M42 o1 10) (fun M43 => zcp M43 (o1 + 1) (o0 + 1) 10 10 (0 : Int32) (0 : Int32) (10 : Int32) (fun M44 => some M44))))))))))))
set_option maxHeartbeats 4000000 in
set_option maxRecDepth 100000 in
theorem zc_X7_copyFrom {l : Launch} {D : va_G} {ad : Nat → Nat} {cA : Nat → ClassId} {o0 : Nat} {o1 : Nat} {M : ZMem} {M' : ZMem} (ho0 : zk o0 = (6, 12)) (ho1 : zk o1 = (6, 12)) (hf : zf_X7_copyFrom o0 o1 M = some M') : ZCt l D ad cA yX7_copyFrom cX7_copyFrom 2 (none) 1 [.ref (ad o0), .ref (ad o1)] M none M' := by
  refine zct (by decide +kernel) (Nat.le_of_ble_eq_true rfl) (lv := [(0, .ref (ad o0)), (1, .ref (ad o1))]) rfl (fun E hl hD had hcA hN hC hR => ?_)
  subst hl; subst hD; subst had; subst hcA
  unfold zf_X7_copyFrom at hf
  refine zw_aload_n hC dX7_copyFrom_0 rfl 0 rfl ?_
  refine zw_aload_n hC dX7_copyFrom_1 rfl 1 rfl ?_
  refine zw_geti hC zF_Standing_today ho1 dX7_copyFrom_2 kw_1_132 ?_
  refine zw_puti hC hf zF_Standing_today ho0 dX7_copyFrom_5 kw_1_132 (fun M33 hf => ?_)
  refine zw_aload_n hC dX7_copyFrom_8 rfl 0 rfl ?_
  refine zw_aload_n hC dX7_copyFrom_9 rfl 1 rfl ?_
  refine zw_geti hC zF_Standing_order ho1 dX7_copyFrom_10 kw_1_134 ?_
  refine zw_puti hC hf zF_Standing_order ho0 dX7_copyFrom_13 kw_1_134 (fun M34 hf => ?_)
  refine zw_aload_n hC dX7_copyFrom_16 rfl 0 rfl ?_
  refine zw_aload_n hC dX7_copyFrom_17 rfl 1 rfl ?_
  refine zw_geti hC zF_Standing_sentDay ho1 dX7_copyFrom_18 kw_1_137 ?_
  refine zw_puti hC hf zF_Standing_sentDay ho0 dX7_copyFrom_21 kw_1_137 (fun M35 hf => ?_)
  refine zw_aload_n hC dX7_copyFrom_24 rfl 0 rfl ?_
  refine zw_aload_n hC dX7_copyFrom_25 rfl 1 rfl ?_
  refine zw_geti hC zF_Standing_costs ho1 dX7_copyFrom_26 kw_1_140 ?_
  refine zw_puti hC hf zF_Standing_costs ho0 dX7_copyFrom_29 kw_1_140 (fun M36 hf => ?_)
  refine zw_aload_n hC dX7_copyFrom_32 rfl 0 rfl ?_
  refine zw_aload_n hC dX7_copyFrom_33 rfl 1 rfl ?_
  refine zw_geti hC zF_Standing_out ho1 dX7_copyFrom_34 kw_1_143 ?_
  refine zw_puti hC hf zF_Standing_out ho0 dX7_copyFrom_37 kw_1_143 (fun M37 hf => ?_)
  refine zw_aload_n hC dX7_copyFrom_40 rfl 0 rfl ?_
  refine zw_aload_n hC dX7_copyFrom_41 rfl 1 rfl ?_
  refine zw_geti hC zF_Standing_filed ho1 dX7_copyFrom_42 kw_1_147 ?_
  refine zw_puti hC hf zF_Standing_filed ho0 dX7_copyFrom_45 kw_1_147 (fun M38 hf => ?_)
  refine zw_aload_n hC dX7_copyFrom_48 rfl 0 rfl ?_
  refine zw_aload_n hC dX7_copyFrom_49 rfl 1 rfl ?_
  refine zw_geti hC zF_Standing_lazy ho1 dX7_copyFrom_50 kw_1_151 ?_
  refine zw_puti hC hf zF_Standing_lazy ho0 dX7_copyFrom_53 kw_1_151 (fun M39 hf => ?_)
  refine zw_aload_n hC dX7_copyFrom_56 rfl 0 rfl ?_
  refine zw_aload_n hC dX7_copyFrom_57 rfl 1 rfl ?_
  refine zw_geti hC zF_Standing_fund ho1 dX7_copyFrom_58 kw_1_156 ?_
  refine zw_puti hC hf zF_Standing_fund ho0 dX7_copyFrom_61 kw_1_156 (fun M40 hf => ?_)
  refine zw_aload_n hC dX7_copyFrom_64 rfl 0 rfl ?_
  refine zw_aload_n hC dX7_copyFrom_65 rfl 1 rfl ?_
  refine zw_geti hC zF_Standing_rule ho1 dX7_copyFrom_66 kw_1_159 ?_
  refine zw_puti hC hf zF_Standing_rule ho0 dX7_copyFrom_69 kw_1_159 (fun M41 hf => ?_)
  refine zw_aload_n hC dX7_copyFrom_72 rfl 0 rfl ?_
  refine zw_aload_n hC dX7_copyFrom_73 rfl 1 rfl ?_
  refine zw_geti hC zF_Standing_periodFrom ho1 dX7_copyFrom_74 kw_1_162 ?_
  refine zw_puti hC hf zF_Standing_periodFrom ho0 dX7_copyFrom_77 kw_1_162 (fun M42 hf => ?_)
  refine zw_aload_n hC dX7_copyFrom_80 rfl 0 rfl ?_
  refine zw_aload_n hC dX7_copyFrom_81 rfl 1 rfl ?_
  refine zw_geti hC zF_Standing_periodTo ho1 dX7_copyFrom_82 kw_1_165 ?_
  refine zw_puti hC hf zF_Standing_periodTo ho0 dX7_copyFrom_85 kw_1_165 (fun M43 hf => ?_)
  refine zw_aload_n hC dX7_copyFrom_88 rfl 1 rfl ?_
  refine zw_getr (k' := (o1 + 1)) hC zF_Standing_foes ho1 rfl dX7_copyFrom_89 kw_1_168 ?_
  refine zw_iconst hC (v := (0 : Int32)) dX7_copyFrom_92 (by decide) ?_
  refine zw_aload_n hC dX7_copyFrom_93 rfl 0 rfl ?_
  refine zw_getr (k' := (o0 + 1)) hC zF_Standing_foes ho0 rfl dX7_copyFrom_94 kw_1_168 ?_
  refine zw_iconst hC (v := (0 : Int32)) dX7_copyFrom_97 (by decide) ?_
  refine zw_bipush hC (v := (10 : Int32)) dX7_copyFrom_98 (by decide) ?_
  refine zw_copy hC (by decide) (Nat.le_of_ble_eq_true rfl) hf (zko_6_1 ho1) (zko_6_1 ho0) dX7_copyFrom_100 kw_3_138 kw_3_140 kw_3_139 kw_1_17 (fun M44 hf => ?_)
  cases hf
  exact zw_vret hC hR dX7_copyFrom_103
/-! Standing.isSent()Z -/
theorem dX7_isSent_0 : decode cX7_isSent 0 = .ok (.aload_n 0, 1) := by decide +kernel
theorem dX7_isSent_1 : decode cX7_isSent 1 = .ok (.getfield 9, 3) := by decide +kernel
theorem dX7_isSent_4 : decode cX7_isSent 4 = .ok (.bipush (-2), 2) := by decide +kernel
theorem dX7_isSent_6 : decode cX7_isSent 6 = .ok (.if_icmp .eq 7, 3) := by decide +kernel
theorem dX7_isSent_9 : decode cX7_isSent 9 = .ok (.iconst 1, 1) := by decide +kernel
theorem dX7_isSent_10 : decode cX7_isSent 10 = .ok (.goto 4, 3) := by decide +kernel
theorem dX7_isSent_13 : decode cX7_isSent 13 = .ok (.iconst 0, 1) := by decide +kernel
theorem dX7_isSent_14 : decode cX7_isSent 14 = .ok (.ireturn, 1) := by decide +kernel
theorem zm_X7_isSent : ZMv "ClassOfMany$Standing" yX7_isSent cX7_isSent 1 (some .boolean) 0 := ⟨kw_3_181, kw_3_179, kw_3_180, kw_1_3, by decide +kernel, by decide⟩
def zf_X7_isSent_j14 (v21 : Int32) : Option (Int32) :=
  zbz v21 (some v21)
def zf_X7_isSent (o0 : Nat) (M : ZMem) : Option (Int32) :=
  (if (M o0 2) = (-2 : Int32) then (zf_X7_isSent_j14 (0 : Int32)) else (zf_X7_isSent_j14 (1 : Int32)))
set_option maxHeartbeats 4000000 in
set_option maxRecDepth 100000 in
theorem zc_X7_isSent {l : Launch} {D : va_G} {ad : Nat → Nat} {cA : Nat → ClassId} {o0 : Nat} {M : ZMem} {r : Int32} (ho0 : zk o0 = (6, 12)) (hf : zf_X7_isSent o0 M = some r) : ZCt l D ad cA yX7_isSent cX7_isSent 1 (some .boolean) 1 [.ref (ad o0)] M (some (.int r)) M := by
  refine zct (by decide +kernel) (Nat.le_of_ble_eq_true rfl) (lv := [(0, .ref (ad o0))]) rfl (fun E hl hD had hcA hN hC hR => ?_)
  subst hl; subst hD; subst had; subst hcA
  unfold zf_X7_isSent at hf
  refine zw_aload_n hC dX7_isSent_0 rfl 0 rfl ?_
  refine zw_geti hC zF_Standing_sentDay ho0 dX7_isSent_1 kw_1_137 ?_
  refine zw_bipush hC (v := (-2 : Int32)) dX7_isSent_4 (by decide) ?_
  have hj14 : ∀ (v21 : Int32), zf_X7_isSent_j14 v21 = some r → ZW E 14 [] [.int v21] M := by
    intro v21 hf
    unfold zf_X7_isSent_j14 at hf
    obtain ⟨hz, hf⟩ := zbz_some hf
    cases hf
    exact zw_zret hC hR hz dX7_isSent_14
  refine zw_icmp_eq hC 13 hf dX7_isSent_6 (by decide) (fun hf => ?_) (fun hf => ?_)
  · refine zw_iconst hC (v := (0 : Int32)) dX7_isSent_13 (by decide) ?_
    exact zw_sub [] rfl (hj14 (0 : Int32) hf)
  · refine zw_iconst hC (v := (1 : Int32)) dX7_isSent_9 (by decide) ?_
    refine zw_goto hC 14 dX7_isSent_10 (by decide) ?_
    exact zw_sub [] rfl (hj14 (1 : Int32) hf)
/-! Standing.toggleConflict(II)V -/
theorem dX7_toggleConflict_0 : decode cX7_toggleConflict 0 = .ok (.aload_n 0, 1) := by decide +kernel
theorem dX7_toggleConflict_1 : decode cX7_toggleConflict 1 = .ok (.getfield 18, 3) := by decide +kernel
theorem dX7_toggleConflict_4 : decode cX7_toggleConflict 4 = .ok (.iload_n 1, 1) := by decide +kernel
theorem dX7_toggleConflict_5 : decode cX7_toggleConflict 5 = .ok (.dup2, 1) := by decide +kernel
theorem dX7_toggleConflict_6 : decode cX7_toggleConflict 6 = .ok (.iaload, 1) := by decide +kernel
theorem dX7_toggleConflict_7 : decode cX7_toggleConflict 7 = .ok (.iconst 1, 1) := by decide +kernel
theorem dX7_toggleConflict_8 : decode cX7_toggleConflict 8 = .ok (.iload_n 2, 1) := by decide +kernel
theorem dX7_toggleConflict_9 : decode cX7_toggleConflict 9 = .ok (.ishl, 1) := by decide +kernel
theorem dX7_toggleConflict_10 : decode cX7_toggleConflict 10 = .ok (.ixor, 1) := by decide +kernel
theorem dX7_toggleConflict_11 : decode cX7_toggleConflict 11 = .ok (.iastore, 1) := by decide +kernel
theorem dX7_toggleConflict_12 : decode cX7_toggleConflict 12 = .ok (.aload_n 0, 1) := by decide +kernel
theorem dX7_toggleConflict_13 : decode cX7_toggleConflict 13 = .ok (.getfield 18, 3) := by decide +kernel
theorem dX7_toggleConflict_16 : decode cX7_toggleConflict 16 = .ok (.iload_n 2, 1) := by decide +kernel
theorem dX7_toggleConflict_17 : decode cX7_toggleConflict 17 = .ok (.dup2, 1) := by decide +kernel
theorem dX7_toggleConflict_18 : decode cX7_toggleConflict 18 = .ok (.iaload, 1) := by decide +kernel
theorem dX7_toggleConflict_19 : decode cX7_toggleConflict 19 = .ok (.iconst 1, 1) := by decide +kernel
theorem dX7_toggleConflict_20 : decode cX7_toggleConflict 20 = .ok (.iload_n 1, 1) := by decide +kernel
theorem dX7_toggleConflict_21 : decode cX7_toggleConflict 21 = .ok (.ishl, 1) := by decide +kernel
theorem dX7_toggleConflict_22 : decode cX7_toggleConflict 22 = .ok (.ixor, 1) := by decide +kernel
theorem dX7_toggleConflict_23 : decode cX7_toggleConflict 23 = .ok (.iastore, 1) := by decide +kernel
theorem dX7_toggleConflict_24 : decode cX7_toggleConflict 24 = .ok (.return_, 1) := by decide +kernel
theorem zm_X7_toggleConflict : ZMv "ClassOfMany$Standing" yX7_toggleConflict cX7_toggleConflict 3 (none) 2 := ⟨kw_3_126, kw_3_124, kw_3_125, kw_1_3, by decide +kernel, by decide⟩
def zf_X7_toggleConflict (o0 : Nat) (a1 : Int32) (a2 : Int32) (M : ZMem) : Option (ZMem) :=
  zrd M (o0 + 1) 10 a1 (fun v25 => zst M (o0 + 1) 10 a1 (v25 ^^^ ((1 : Int32) <<< (a2 &&& 31))) (fun M26 => zrd M26 (o0 + 1) 10 a2 (fun v27 => zst M26 (o0 + 1) 10 a2 (v27 ^^^ ((1 : Int32) <<< (a1 &&& 31))) (fun M28 => some M28))))
set_option maxHeartbeats 4000000 in
set_option maxRecDepth 100000 in
theorem zc_X7_toggleConflict {l : Launch} {D : va_G} {ad : Nat → Nat} {cA : Nat → ClassId} {o0 : Nat} {a1 : Int32} {a2 : Int32} {M : ZMem} {M' : ZMem} (ho0 : zk o0 = (6, 12)) (hf : zf_X7_toggleConflict o0 a1 a2 M = some M') : ZCt l D ad cA yX7_toggleConflict cX7_toggleConflict 3 (none) 1 [.ref (ad o0), .int a1, .int a2] M none M' := by
  refine zct (by decide +kernel) (Nat.le_of_ble_eq_true rfl) (lv := [(0, .ref (ad o0)), (1, .int a1), (2, .int a2)]) rfl (fun E hl hD had hcA hN hC hR => ?_)
  subst hl; subst hD; subst had; subst hcA
  unfold zf_X7_toggleConflict at hf
  refine zw_aload_n hC dX7_toggleConflict_0 rfl 0 rfl ?_
  refine zw_getr (k' := (o0 + 1)) hC zF_Standing_foes ho0 rfl dX7_toggleConflict_1 kw_1_168 ?_
  refine zw_iload_n hC dX7_toggleConflict_4 rfl 1 rfl ?_
  refine zw_dup2 hC dX7_toggleConflict_5 rfl rfl ?_
  refine zw_iald hC hf (zko_6_1 ho0) dX7_toggleConflict_6 (fun v25 hf => ?_)
  refine zw_iconst hC (v := (1 : Int32)) dX7_toggleConflict_7 (by decide) ?_
  refine zw_iload_n hC dX7_toggleConflict_8 rfl 2 rfl ?_
  refine zw_ishl hC dX7_toggleConflict_9 ?_
  refine zw_ixor hC dX7_toggleConflict_10 ?_
  refine zw_iast hC hf (zko_6_1 ho0) dX7_toggleConflict_11 (fun M26 hf => ?_)
  refine zw_aload_n hC dX7_toggleConflict_12 rfl 0 rfl ?_
  refine zw_getr (k' := (o0 + 1)) hC zF_Standing_foes ho0 rfl dX7_toggleConflict_13 kw_1_168 ?_
  refine zw_iload_n hC dX7_toggleConflict_16 rfl 2 rfl ?_
  refine zw_dup2 hC dX7_toggleConflict_17 rfl rfl ?_
  refine zw_iald hC hf (zko_6_1 ho0) dX7_toggleConflict_18 (fun v27 hf => ?_)
  refine zw_iconst hC (v := (1 : Int32)) dX7_toggleConflict_19 (by decide) ?_
  refine zw_iload_n hC dX7_toggleConflict_20 rfl 1 rfl ?_
  refine zw_ishl hC dX7_toggleConflict_21 ?_
  refine zw_ixor hC dX7_toggleConflict_22 ?_
  refine zw_iast hC hf (zko_6_1 ho0) dX7_toggleConflict_23 (fun M28 hf => ?_)
  cases hf
  exact zw_vret hC hR dX7_toggleConflict_24
/-! Standing.claimOf(LClassOfMany$Told;I)I -/
theorem dX7_claimOf_0 : decode cX7_claimOf 0 = .ok (.aload_n 0, 1) := by decide +kernel
theorem dX7_claimOf_1 : decode cX7_claimOf 1 = .ok (.getfield 46, 3) := by decide +kernel
theorem dX7_claimOf_4 : decode cX7_claimOf 4 = .ok (.aload_n 1, 1) := by decide +kernel
theorem dX7_claimOf_5 : decode cX7_claimOf 5 = .ok (.getfield 61, 3) := by decide +kernel
theorem dX7_claimOf_8 : decode cX7_claimOf 8 = .ok (.iload_n 2, 1) := by decide +kernel
theorem dX7_claimOf_9 : decode cX7_claimOf 9 = .ok (.iaload, 1) := by decide +kernel
theorem dX7_claimOf_10 : decode cX7_claimOf 10 = .ok (.invokestatic 66, 3) := by decide +kernel
theorem dX7_claimOf_13 : decode cX7_claimOf 13 = .ok (.istore_n 3, 1) := by decide +kernel
theorem dX7_claimOf_14 : decode cX7_claimOf 14 = .ok (.aload_n 0, 1) := by decide +kernel
theorem dX7_claimOf_15 : decode cX7_claimOf 15 = .ok (.getfield 15, 3) := by decide +kernel
theorem dX7_claimOf_18 : decode cX7_claimOf 18 = .ok (.aload_n 1, 1) := by decide +kernel
theorem dX7_claimOf_19 : decode cX7_claimOf 19 = .ok (.getfield 72, 3) := by decide +kernel
theorem dX7_claimOf_22 : decode cX7_claimOf 22 = .ok (.iload_n 2, 1) := by decide +kernel
theorem dX7_claimOf_23 : decode cX7_claimOf 23 = .ok (.iaload, 1) := by decide +kernel
theorem dX7_claimOf_24 : decode cX7_claimOf 24 = .ok (.invokestatic 75, 3) := by decide +kernel
theorem dX7_claimOf_27 : decode cX7_claimOf 27 = .ok (.istore 4, 2) := by decide +kernel
theorem dX7_claimOf_29 : decode cX7_claimOf 29 = .ok (.aload_n 1, 1) := by decide +kernel
theorem dX7_claimOf_30 : decode cX7_claimOf 30 = .ok (.getfield 78, 3) := by decide +kernel
theorem dX7_claimOf_33 : decode cX7_claimOf 33 = .ok (.iload_n 2, 1) := by decide +kernel
theorem dX7_claimOf_34 : decode cX7_claimOf 34 = .ok (.iaload, 1) := by decide +kernel
theorem dX7_claimOf_35 : decode cX7_claimOf 35 = .ok (.iconst 0, 1) := by decide +kernel
theorem dX7_claimOf_36 : decode cX7_claimOf 36 = .ok (.iload 4, 2) := by decide +kernel
theorem dX7_claimOf_38 : decode cX7_claimOf 38 = .ok (.iload_n 3, 1) := by decide +kernel
theorem dX7_claimOf_39 : decode cX7_claimOf 39 = .ok (.isub, 1) := by decide +kernel
theorem dX7_claimOf_40 : decode cX7_claimOf 40 = .ok (.iconst 1, 1) := by decide +kernel
theorem dX7_claimOf_41 : decode cX7_claimOf 41 = .ok (.iadd, 1) := by decide +kernel
theorem dX7_claimOf_42 : decode cX7_claimOf 42 = .ok (.invokestatic 66, 3) := by decide +kernel
theorem dX7_claimOf_45 : decode cX7_claimOf 45 = .ok (.imul, 1) := by decide +kernel
theorem dX7_claimOf_46 : decode cX7_claimOf 46 = .ok (.ireturn, 1) := by decide +kernel
theorem zm_X7_claimOf : ZMv "ClassOfMany$Standing" yX7_claimOf cX7_claimOf 5 (some .int) 2 := ⟨kw_4_17, kw_4_15, kw_4_16, kw_1_3, by decide +kernel, by decide⟩
def zf_X7_claimOf (o0 : Nat) (o1 : Nat) (a2 : Int32) (M : ZMem) : Option (Int32) :=
  zrd M (o1 + 1) 10 a2 (fun v24 => zrd M (o1 + 2) 10 a2 (fun v25 => zrd M (o1 + 3) 10 a2 (fun v26 => some (v26 * (zmax (0 : Int32) (((zmin (M o0 10) v25) - (zmax (M o0 9) v24)) + (1 : Int32)))))))
set_option maxHeartbeats 4000000 in
set_option maxRecDepth 100000 in
theorem zc_X7_claimOf {l : Launch} {D : va_G} {ad : Nat → Nat} {cA : Nat → ClassId} {o0 : Nat} {o1 : Nat} {a2 : Int32} {M : ZMem} {r : Int32} (ho0 : zk o0 = (6, 12)) (ho1 : zk o1 = (7, 17)) (hf : zf_X7_claimOf o0 o1 a2 M = some r) : ZCt l D ad cA yX7_claimOf cX7_claimOf 5 (some .int) 1 [.ref (ad o0), .ref (ad o1), .int a2] M (some (.int r)) M := by
  refine zct (by decide +kernel) (Nat.le_of_ble_eq_true rfl) (lv := [(0, .ref (ad o0)), (1, .ref (ad o1)), (2, .int a2)]) rfl (fun E hl hD had hcA hN hC hR => ?_)
  subst hl; subst hD; subst had; subst hcA
  unfold zf_X7_claimOf at hf
  refine zw_aload_n hC dX7_claimOf_0 rfl 0 rfl ?_
  refine zw_geti hC zF_Standing_periodFrom ho0 dX7_claimOf_1 kw_1_162 ?_
  refine zw_aload_n hC dX7_claimOf_4 rfl 1 rfl ?_
  refine zw_getr (k' := (o1 + 1)) hC zF_Told_from ho1 rfl dX7_claimOf_5 kw_1_46 ?_
  refine zw_iload_n hC dX7_claimOf_8 rfl 2 rfl ?_
  refine zw_iald hC hf (zko_7_1 ho1) dX7_claimOf_9 (fun v24 hf => ?_)
  refine zw_mmax hC (by decide) (Nat.le_of_ble_eq_true rfl) dX7_claimOf_10 kw_4_18 kw_4_19 kw_1_18 kw_4_20 ?_
  refine zw_istore_n hC (lv' := [(3, .int (zmax (M o0 9) v24)), (0, .ref (zad E o0)), (1, .ref (zad E o1)), (2, .int a2)]) dX7_claimOf_13 rfl hN (by decide) rfl ?_
  refine zw_aload_n hC dX7_claimOf_14 rfl 1 rfl ?_
  refine zw_geti hC zF_Standing_periodTo ho0 dX7_claimOf_15 kw_1_165 ?_
  refine zw_aload_n hC dX7_claimOf_18 rfl 2 rfl ?_
  refine zw_getr (k' := (o1 + 2)) hC zF_Told_to ho1 rfl dX7_claimOf_19 kw_1_50 ?_
  refine zw_iload_n hC dX7_claimOf_22 rfl 3 rfl ?_
  refine zw_iald hC hf (zko_7_2 ho1) dX7_claimOf_23 (fun v25 hf => ?_)
  refine zw_mmin hC (by decide) (Nat.le_of_ble_eq_true rfl) dX7_claimOf_24 kw_4_21 kw_3_163 kw_1_18 kw_3_164 ?_
  refine zw_istore hC (lv' := [(4, .int (zmin (M o0 10) v25)), (3, .int (zmax (M o0 9) v24)), (0, .ref (zad E o0)), (1, .ref (zad E o1)), (2, .int a2)]) dX7_claimOf_27 hN (by decide) rfl ?_
  refine zw_aload_n hC dX7_claimOf_29 rfl 3 rfl ?_
  refine zw_getr (k' := (o1 + 3)) hC zF_Told_rate ho1 rfl dX7_claimOf_30 kw_1_54 ?_
  refine zw_iload_n hC dX7_claimOf_33 rfl 4 rfl ?_
  refine zw_iald hC hf (zko_7_3 ho1) dX7_claimOf_34 (fun v26 hf => ?_)
  refine zw_iconst hC (v := (0 : Int32)) dX7_claimOf_35 (by decide) ?_
  refine zw_iload hC dX7_claimOf_36 0 rfl ?_
  refine zw_iload_n hC dX7_claimOf_38 rfl 1 rfl ?_
  refine zw_isub hC dX7_claimOf_39 ?_
  refine zw_iconst hC (v := (1 : Int32)) dX7_claimOf_40 (by decide) ?_
  refine zw_iadd hC dX7_claimOf_41 ?_
  refine zw_mmax hC (by decide) (Nat.le_of_ble_eq_true rfl) dX7_claimOf_42 kw_4_18 kw_4_19 kw_1_18 kw_4_20 ?_
  refine zw_imul hC dX7_claimOf_45 ?_
  cases hf
  exact zw_iret hC hR dX7_claimOf_46
/-! Journal.keep(LClassOfMany$Standing;)V -/
theorem dX0_keep_0 : decode cX0_keep 0 = .ok (.aload_n 0, 1) := by decide +kernel
theorem dX0_keep_1 : decode cX0_keep 1 = .ok (.getfield 11, 3) := by decide +kernel
theorem dX0_keep_4 : decode cX0_keep 4 = .ok (.aload_n 0, 1) := by decide +kernel
theorem dX0_keep_5 : decode cX0_keep 5 = .ok (.getfield 18, 3) := by decide +kernel
theorem dX0_keep_8 : decode cX0_keep 8 = .ok (.aaload, 1) := by decide +kernel
theorem dX0_keep_9 : decode cX0_keep 9 = .ok (.aload_n 1, 1) := by decide +kernel
theorem dX0_keep_10 : decode cX0_keep 10 = .ok (.invokevirtual 22, 3) := by decide +kernel
theorem dX0_keep_13 : decode cX0_keep 13 = .ok (.aload_n 0, 1) := by decide +kernel
theorem dX0_keep_14 : decode cX0_keep 14 = .ok (.aload_n 0, 1) := by decide +kernel
theorem dX0_keep_15 : decode cX0_keep 15 = .ok (.getfield 18, 3) := by decide +kernel
theorem dX0_keep_18 : decode cX0_keep 18 = .ok (.iconst 1, 1) := by decide +kernel
theorem dX0_keep_19 : decode cX0_keep 19 = .ok (.iadd, 1) := by decide +kernel
theorem dX0_keep_20 : decode cX0_keep 20 = .ok (.bipush 12, 2) := by decide +kernel
theorem dX0_keep_22 : decode cX0_keep 22 = .ok (.irem, 1) := by decide +kernel
theorem dX0_keep_23 : decode cX0_keep 23 = .ok (.putfield 18, 3) := by decide +kernel
theorem dX0_keep_26 : decode cX0_keep 26 = .ok (.aload_n 0, 1) := by decide +kernel
theorem dX0_keep_27 : decode cX0_keep 27 = .ok (.aload_n 0, 1) := by decide +kernel
theorem dX0_keep_28 : decode cX0_keep 28 = .ok (.getfield 26, 3) := by decide +kernel
theorem dX0_keep_31 : decode cX0_keep 31 = .ok (.iconst 1, 1) := by decide +kernel
theorem dX0_keep_32 : decode cX0_keep 32 = .ok (.iadd, 1) := by decide +kernel
theorem dX0_keep_33 : decode cX0_keep 33 = .ok (.bipush 12, 2) := by decide +kernel
theorem dX0_keep_35 : decode cX0_keep 35 = .ok (.invokestatic 29, 3) := by decide +kernel
theorem dX0_keep_38 : decode cX0_keep 38 = .ok (.putfield 26, 3) := by decide +kernel
theorem dX0_keep_41 : decode cX0_keep 41 = .ok (.return_, 1) := by decide +kernel
theorem zm_X0_keep : ZMv "ClassOfMany$Journal" yX0_keep cX0_keep 2 (none) 1 := ⟨kw_3_160, kw_3_158, kw_3_159, kw_1_4, by decide +kernel, by decide⟩
def zf_X0_keep (o1 : Nat) (M : ZMem) : Option (ZMem) :=
  zkp 17 12 (M 16 1) (fun o25 => zb1 (zf_X7_copyFrom o25 o1 M) (fun M26 => zput M26 16 1 (((M26 16 1) + (1 : Int32)) - ((M26 16 1) + (1 : Int32)) / (12 : Int32) * (12 : Int32)) (fun M27 => zput M27 16 2 (zmin ((M27 16 2) + (1 : Int32)) (12 : Int32)) (fun M28 => some M28))))
set_option maxHeartbeats 4000000 in
set_option maxRecDepth 100000 in
theorem zc_X0_keep {l : Launch} {D : va_G} {ad : Nat → Nat} {cA : Nat → ClassId} {o1 : Nat} {M : ZMem} {M' : ZMem} (ho1 : zk o1 = (6, 12)) (hf : zf_X0_keep o1 M = some M') : ZCt l D ad cA yX0_keep cX0_keep 2 (none) 2 [.ref (ad 16), .ref (ad o1)] M none M' := by
  refine zct (by decide +kernel) (Nat.le_of_ble_eq_true rfl) (lv := [(0, .ref (ad 16)), (1, .ref (ad o1))]) rfl (fun E hl hD had hcA hN hC hR => ?_)
  subst hl; subst hD; subst had; subst hcA
  unfold zf_X0_keep at hf
  refine zw_aload_n hC dX0_keep_0 rfl 0 rfl ?_
  refine zw_getr (k' := 17) hC zF_Journal_kept zk_16 rfl dX0_keep_1 kw_1_206 ?_
  refine zw_aload_n hC dX0_keep_4 rfl 0 rfl ?_
  refine zw_geti hC zF_Journal_next zk_16 dX0_keep_5 kw_1_207 ?_
  refine zw_aald hC hf dX0_keep_8 (fun o25 ho25 hf => ?_)
  refine zw_aload_n hC dX0_keep_9 rfl 1 rfl ?_
  obtain ⟨M26, hcM26, hf⟩ := zb1_some hf
  refine zw_cV hC [.ref (zad E o1)] [] (st1 := []) zm_X7_copyFrom (zc_X7_copyFrom ho25 ho1 hcM26) ho25 rfl kw_3_161 dX0_keep_10 rfl (by decide) (Nat.le_of_ble_eq_true rfl) rfl rfl ?_
  refine zw_aload_n hC dX0_keep_13 rfl 0 rfl ?_
  refine zw_aload_n hC dX0_keep_14 rfl 0 rfl ?_
  refine zw_geti hC zF_Journal_next zk_16 dX0_keep_15 kw_1_207 ?_
  refine zw_iconst hC (v := (1 : Int32)) dX0_keep_18 (by decide) ?_
  refine zw_iadd hC dX0_keep_19 ?_
  refine zw_bipush hC (v := (12 : Int32)) dX0_keep_20 (by decide) ?_
  refine zw_iremc hC dX0_keep_22 (by decide) ?_
  refine zw_puti hC hf zF_Journal_next zk_16 dX0_keep_23 kw_1_207 (fun M27 hf => ?_)
  refine zw_aload_n hC dX0_keep_26 rfl 0 rfl ?_
  refine zw_aload_n hC dX0_keep_27 rfl 0 rfl ?_
  refine zw_geti hC zF_Journal_size zk_16 dX0_keep_28 kw_1_208 ?_
  refine zw_iconst hC (v := (1 : Int32)) dX0_keep_31 (by decide) ?_
  refine zw_iadd hC dX0_keep_32 ?_
  refine zw_bipush hC (v := (12 : Int32)) dX0_keep_33 (by decide) ?_
  refine zw_mmin hC (by decide) (Nat.le_of_ble_eq_true rfl) dX0_keep_35 kw_3_162 kw_3_163 kw_1_18 kw_3_164 ?_
  refine zw_puti hC hf zF_Journal_size zk_16 dX0_keep_38 kw_1_208 (fun M28 hf => ?_)
  cases hf
  exact zw_vret hC hR dX0_keep_41
/-! Journal.restore(LClassOfMany$Standing;)V -/
theorem dX0_restore_0 : decode cX0_restore 0 = .ok (.aload_n 0, 1) := by decide +kernel
theorem dX0_restore_1 : decode cX0_restore 1 = .ok (.getfield 26, 3) := by decide +kernel
theorem dX0_restore_4 : decode cX0_restore 4 = .ok (.ifCond .le 42, 3) := by decide +kernel
theorem dX0_restore_7 : decode cX0_restore 7 = .ok (.aload_n 0, 1) := by decide +kernel
theorem dX0_restore_8 : decode cX0_restore 8 = .ok (.aload_n 0, 1) := by decide +kernel
theorem dX0_restore_9 : decode cX0_restore 9 = .ok (.getfield 18, 3) := by decide +kernel
theorem dX0_restore_12 : decode cX0_restore 12 = .ok (.bipush 12, 2) := by decide +kernel
theorem dX0_restore_14 : decode cX0_restore 14 = .ok (.iadd, 1) := by decide +kernel
theorem dX0_restore_15 : decode cX0_restore 15 = .ok (.iconst 1, 1) := by decide +kernel
theorem dX0_restore_16 : decode cX0_restore 16 = .ok (.isub, 1) := by decide +kernel
theorem dX0_restore_17 : decode cX0_restore 17 = .ok (.bipush 12, 2) := by decide +kernel
theorem dX0_restore_19 : decode cX0_restore 19 = .ok (.irem, 1) := by decide +kernel
theorem dX0_restore_20 : decode cX0_restore 20 = .ok (.putfield 18, 3) := by decide +kernel
theorem dX0_restore_23 : decode cX0_restore 23 = .ok (.aload_n 0, 1) := by decide +kernel
theorem dX0_restore_24 : decode cX0_restore 24 = .ok (.dup, 1) := by decide +kernel
theorem dX0_restore_25 : decode cX0_restore 25 = .ok (.getfield 26, 3) := by decide +kernel
theorem dX0_restore_28 : decode cX0_restore 28 = .ok (.iconst 1, 1) := by decide +kernel
theorem dX0_restore_29 : decode cX0_restore 29 = .ok (.isub, 1) := by decide +kernel
theorem dX0_restore_30 : decode cX0_restore 30 = .ok (.putfield 26, 3) := by decide +kernel
theorem dX0_restore_33 : decode cX0_restore 33 = .ok (.aload_n 1, 1) := by decide +kernel
theorem dX0_restore_34 : decode cX0_restore 34 = .ok (.aload_n 0, 1) := by decide +kernel
theorem dX0_restore_35 : decode cX0_restore 35 = .ok (.getfield 11, 3) := by decide +kernel
theorem dX0_restore_38 : decode cX0_restore 38 = .ok (.aload_n 0, 1) := by decide +kernel
theorem dX0_restore_39 : decode cX0_restore 39 = .ok (.getfield 18, 3) := by decide +kernel
theorem dX0_restore_42 : decode cX0_restore 42 = .ok (.aaload, 1) := by decide +kernel
theorem dX0_restore_43 : decode cX0_restore 43 = .ok (.invokevirtual 22, 3) := by decide +kernel
theorem dX0_restore_46 : decode cX0_restore 46 = .ok (.return_, 1) := by decide +kernel
theorem zm_X0_restore : ZMv "ClassOfMany$Journal" yX0_restore cX0_restore 2 (none) 1 := ⟨kw_4_38, kw_4_36, kw_4_37, kw_1_4, by decide +kernel, by decide⟩
def zf_X0_restore_j46 (M25 : ZMem) : Option (ZMem) :=
  some M25
def zf_X0_restore (o1 : Nat) (M : ZMem) : Option (ZMem) :=
  (if (M 16 2) ≤ 0 then (zf_X0_restore_j46 M) else zput M 16 1 ((((M 16 1) + (12 : Int32)) - (1 : Int32)) - (((M 16 1) + (12 : Int32)) - (1 : Int32)) / (12 : Int32) * (12 : Int32)) (fun M26 => zput M26 16 2 ((M26 16 2) - (1 : Int32)) (fun M27 => zkp 17 12 (M27 16 1) (fun o28 => zb1 (zf_X7_copyFrom o1 o28 M27) (fun M29 => (zf_X0_restore_j46 M29))))))
set_option maxHeartbeats 4000000 in
set_option maxRecDepth 100000 in
theorem zc_X0_restore {l : Launch} {D : va_G} {ad : Nat → Nat} {cA : Nat → ClassId} {o1 : Nat} {M : ZMem} {M' : ZMem} (ho1 : zk o1 = (6, 12)) (hf : zf_X0_restore o1 M = some M') : ZCt l D ad cA yX0_restore cX0_restore 2 (none) 2 [.ref (ad 16), .ref (ad o1)] M none M' := by
  refine zct (by decide +kernel) (Nat.le_of_ble_eq_true rfl) (lv := [(0, .ref (ad 16)), (1, .ref (ad o1))]) rfl (fun E hl hD had hcA hN hC hR => ?_)
  subst hl; subst hD; subst had; subst hcA
  unfold zf_X0_restore at hf
  refine zw_aload_n hC dX0_restore_0 rfl 0 rfl ?_
  refine zw_geti hC zF_Journal_size zk_16 dX0_restore_1 kw_1_208 ?_
  have hj46 : ∀ (M25 : ZMem), zf_X0_restore_j46 M25 = some M' → ZW E 46 [] [] M25 := by
    intro M25 hf
    unfold zf_X0_restore_j46 at hf
    cases hf
    exact zw_vret hC hR dX0_restore_46
  refine zw_if_le hC 46 hf dX0_restore_4 (by decide) (fun hf => ?_) (fun hf => ?_)
  · exact zw_sub [] rfl (hj46 M hf)
  · refine zw_aload_n hC dX0_restore_7 rfl 0 rfl ?_
    refine zw_aload_n hC dX0_restore_8 rfl 0 rfl ?_
    refine zw_geti hC zF_Journal_next zk_16 dX0_restore_9 kw_1_207 ?_
    refine zw_bipush hC (v := (12 : Int32)) dX0_restore_12 (by decide) ?_
    refine zw_iadd hC dX0_restore_14 ?_
    refine zw_iconst hC (v := (1 : Int32)) dX0_restore_15 (by decide) ?_
    refine zw_isub hC dX0_restore_16 ?_
    refine zw_bipush hC (v := (12 : Int32)) dX0_restore_17 (by decide) ?_
    refine zw_iremc hC dX0_restore_19 (by decide) ?_
    refine zw_puti hC hf zF_Journal_next zk_16 dX0_restore_20 kw_1_207 (fun M26 hf => ?_)
    refine zw_aload_n hC dX0_restore_23 rfl 0 rfl ?_
    refine zw_dup hC dX0_restore_24 rfl ?_
    refine zw_geti hC zF_Journal_size zk_16 dX0_restore_25 kw_1_208 ?_
    refine zw_iconst hC (v := (1 : Int32)) dX0_restore_28 (by decide) ?_
    refine zw_isub hC dX0_restore_29 ?_
    refine zw_puti hC hf zF_Journal_size zk_16 dX0_restore_30 kw_1_208 (fun M27 hf => ?_)
    refine zw_aload_n hC dX0_restore_33 rfl 1 rfl ?_
    refine zw_aload_n hC dX0_restore_34 rfl 0 rfl ?_
    refine zw_getr (k' := 17) hC zF_Journal_kept zk_16 rfl dX0_restore_35 kw_1_206 ?_
    refine zw_aload_n hC dX0_restore_38 rfl 0 rfl ?_
    refine zw_geti hC zF_Journal_next zk_16 dX0_restore_39 kw_1_207 ?_
    refine zw_aald hC hf dX0_restore_42 (fun o28 ho28 hf => ?_)
    obtain ⟨M29, hcM29, hf⟩ := zb1_some hf
    refine zw_cV hC [.ref (zad E o28)] [] (st1 := []) zm_X7_copyFrom (zc_X7_copyFrom ho1 ho28 hcM29) ho1 rfl kw_3_161 dX0_restore_43 rfl (by decide) (Nat.le_of_ble_eq_true rfl) rfl rfl ?_
    exact zw_sub [] rfl (hj46 M29 hf)
/-! Journal.forget()V -/
theorem dX0_forget_0 : decode cX0_forget 0 = .ok (.aload_n 0, 1) := by decide +kernel
theorem dX0_forget_1 : decode cX0_forget 1 = .ok (.iconst 0, 1) := by decide +kernel
theorem dX0_forget_2 : decode cX0_forget 2 = .ok (.putfield 26, 3) := by decide +kernel
theorem dX0_forget_5 : decode cX0_forget 5 = .ok (.return_, 1) := by decide +kernel
theorem zm_X0_forget : ZMv "ClassOfMany$Journal" yX0_forget cX0_forget 1 (none) 0 := ⟨kw_3_144, kw_3_142, kw_3_143, kw_1_4, by decide +kernel, by decide⟩
def zf_X0_forget (M : ZMem) : Option (ZMem) :=
  zput M 16 2 (0 : Int32) (fun M22 => some M22)
set_option maxHeartbeats 4000000 in
set_option maxRecDepth 100000 in
theorem zc_X0_forget {l : Launch} {D : va_G} {ad : Nat → Nat} {cA : Nat → ClassId} {M : ZMem} {M' : ZMem} (hf : zf_X0_forget M = some M') : ZCt l D ad cA yX0_forget cX0_forget 1 (none) 1 [.ref (ad 16)] M none M' := by
  refine zct (by decide +kernel) (Nat.le_of_ble_eq_true rfl) (lv := [(0, .ref (ad 16))]) rfl (fun E hl hD had hcA hN hC hR => ?_)
  subst hl; subst hD; subst had; subst hcA
  unfold zf_X0_forget at hf
  refine zw_aload_n hC dX0_forget_0 rfl 0 rfl ?_
  refine zw_iconst hC (v := (0 : Int32)) dX0_forget_1 (by decide) ?_
  refine zw_puti hC hf zF_Journal_size zk_16 dX0_forget_2 kw_1_208 (fun M22 hf => ?_)
  cases hf
  exact zw_vret hC hR dX0_forget_5
/-! Mail.numbersOf(I)I -/
theorem dX1_numbersOf_0 : decode cX1_numbersOf 0 = .ok (.iconst 1, 1) := by decide +kernel
theorem dX1_numbersOf_1 : decode cX1_numbersOf 1 = .ok (.iconst 2, 1) := by decide +kernel
theorem dX1_numbersOf_2 : decode cX1_numbersOf 2 = .ok (.iload_n 0, 1) := by decide +kernel
theorem dX1_numbersOf_3 : decode cX1_numbersOf 3 = .ok (.imul, 1) := by decide +kernel
theorem dX1_numbersOf_4 : decode cX1_numbersOf 4 = .ok (.ishl, 1) := by decide +kernel
theorem dX1_numbersOf_5 : decode cX1_numbersOf 5 = .ok (.ireturn, 1) := by decide +kernel
theorem zm_X1_numbersOf : ZMs yX1_numbersOf cX1_numbersOf 1 (some .int) 1 := ⟨kw_3_174, kw_3_173, kw_1_16, by decide +kernel, by decide⟩
def zf_X1_numbersOf (a0 : Int32) : Option (Int32) :=
  some ((1 : Int32) <<< (((2 : Int32) * a0) &&& 31))
set_option maxHeartbeats 4000000 in
set_option maxRecDepth 100000 in
theorem zc_X1_numbersOf {l : Launch} {D : va_G} {ad : Nat → Nat} {cA : Nat → ClassId} {a0 : Int32} {M : ZMem} {r : Int32} (hf : zf_X1_numbersOf a0 = some r) : ZCt l D ad cA yX1_numbersOf cX1_numbersOf 1 (some .int) 1 [.int a0] M (some (.int r)) M := by
  refine zct (by decide +kernel) (Nat.le_of_ble_eq_true rfl) (lv := [(0, .int a0)]) rfl (fun E hl hD had hcA hN hC hR => ?_)
  subst hl; subst hD; subst had; subst hcA
  unfold zf_X1_numbersOf at hf
  refine zw_iconst hC (v := (1 : Int32)) dX1_numbersOf_0 (by decide) ?_
  refine zw_iconst hC (v := (2 : Int32)) dX1_numbersOf_1 (by decide) ?_
  refine zw_iload_n hC dX1_numbersOf_2 rfl 0 rfl ?_
  refine zw_imul hC dX1_numbersOf_3 ?_
  refine zw_ishl hC dX1_numbersOf_4 ?_
  cases hf
  exact zw_iret hC hR dX1_numbersOf_5
