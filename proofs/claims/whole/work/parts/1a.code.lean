/-! java/util/Arrays.fill([II)V -/
theorem dJ7_fill_53178_0 : decode cJ7_fill_53178 0 = .ok (.iconst 0, 1) := by decide +kernel
theorem dJ7_fill_53178_1 : decode cJ7_fill_53178 1 = .ok (.istore_n 2, 1) := by decide +kernel
theorem dJ7_fill_53178_2 : decode cJ7_fill_53178 2 = .ok (.aload_n 0, 1) := by decide +kernel
theorem dJ7_fill_53178_3 : decode cJ7_fill_53178 3 = .ok (.arraylength, 1) := by decide +kernel
theorem dJ7_fill_53178_4 : decode cJ7_fill_53178 4 = .ok (.istore_n 3, 1) := by decide +kernel
theorem dJ7_fill_53178_5 : decode cJ7_fill_53178 5 = .ok (.iload_n 2, 1) := by decide +kernel
theorem dJ7_fill_53178_6 : decode cJ7_fill_53178 6 = .ok (.iload_n 3, 1) := by decide +kernel
theorem dJ7_fill_53178_7 : decode cJ7_fill_53178 7 = .ok (.if_icmp .ge 13, 3) := by decide +kernel
theorem dJ7_fill_53178_10 : decode cJ7_fill_53178 10 = .ok (.aload_n 0, 1) := by decide +kernel
theorem dJ7_fill_53178_11 : decode cJ7_fill_53178 11 = .ok (.iload_n 2, 1) := by decide +kernel
theorem dJ7_fill_53178_12 : decode cJ7_fill_53178 12 = .ok (.iload_n 1, 1) := by decide +kernel
theorem dJ7_fill_53178_13 : decode cJ7_fill_53178 13 = .ok (.iastore, 1) := by decide +kernel
theorem dJ7_fill_53178_14 : decode cJ7_fill_53178 14 = .ok (.iinc 2 1, 3) := by decide +kernel
theorem dJ7_fill_53178_17 : decode cJ7_fill_53178 17 = .ok (.goto (-12), 3) := by decide +kernel
theorem dJ7_fill_53178_20 : decode cJ7_fill_53178 20 = .ok (.return_, 1) := by decide +kernel
theorem zm_J7_fill_53178 : ZMs yJ7_fill_53178 cJ7_fill_53178 4 (none) 2 := ⟨kw_2_226, kw_2_225, kw_1_11, by decide +kernel, by decide⟩
def zf_J7_fill_53178_L5 (l0 : Nat) (o0 : Nat) (a1 : Int32) (K20 : ZMem → Option (ZMem)) : Nat → Int32 → ZMem → Option (ZMem)
  | 0, _, _ => none
  | n5 + 1, v22, M23 =>
  (if (nI l0) ≤ v22 then (K20 M23) else zst M23 o0 l0 v22 a1 (fun M25 => (zf_J7_fill_53178_L5 l0 o0 a1 K20 n5 (v22 + (1 : Int32)) M25)))
def zf_J7_fill_53178 (n : Nat) (o0 : Nat) (l0 : Nat) (a1 : Int32) (M : ZMem) : Option (ZMem) :=
  (zf_J7_fill_53178_L5 l0 o0 a1 (fun M26 => some M26) n (0 : Int32) M)
set_option maxHeartbeats 4000000 in
set_option maxRecDepth 100000 in
theorem zc_J7_fill_53178 {l : Launch} {D : va_G} {ad : Nat → Nat} {cA : Nat → ClassId} {n : Nat} {o0 : Nat} {l0 : Nat} {a1 : Int32} {M : ZMem} {M' : ZMem} (ho0 : zk o0 = (10, l0)) (hf : zf_J7_fill_53178 n o0 l0 a1 M = some M') : ZCt l D ad cA yJ7_fill_53178 cJ7_fill_53178 4 (none) 1 [.ref (ad o0), .int a1] M none M' := by
  refine zct (by decide +kernel) (Nat.le_of_ble_eq_true rfl) (lv := [(0, .ref (ad o0)), (1, .int a1)]) rfl (fun E hl hD had hcA hN hC hR => ?_)
  subst hl; subst hD; subst had; subst hcA
  unfold zf_J7_fill_53178 at hf
  refine zw_iconst hC (v := (0 : Int32)) dJ7_fill_53178_0 (by decide) ?_
  refine zw_istore_n hC (lv' := [(2, .int (0 : Int32)), (0, .ref (zad E o0)), (1, .int a1)]) dJ7_fill_53178_1 rfl hN (by decide) rfl ?_
  refine zw_aload_n hC dJ7_fill_53178_2 rfl 1 rfl ?_
  refine zw_alen hC ho0 dJ7_fill_53178_3 ?_
  refine zw_istore_n hC (lv' := [(3, .int (nI l0)), (2, .int (0 : Int32)), (0, .ref (zad E o0)), (1, .int a1)]) dJ7_fill_53178_4 rfl hN (by decide) rfl ?_
  have hL5 : ∀ (K20 : ZMem → Option (ZMem)), (∀ (M24 : ZMem), K20 M24 = some M' → ZW E 20 [] [] M24) → ∀ (n5 : Nat), ∀ (v22 : Int32), ∀ (M23 : ZMem), zf_J7_fill_53178_L5 l0 o0 a1 K20 n5 v22 M23 = some M' → ZW E 5 [(0, .ref (zad E o0)), (1, .int a1), (2, .int v22), (3, .int (nI l0))] [] M23 := by
    intro K20 hK20
    intro n5
    induction n5 with
    | zero => intro v22 M23 hf; rw [zf_J7_fill_53178_L5] at hf; cases hf
    | succ n5 ih5 =>
      intro v22 M23 hf
      rw [zf_J7_fill_53178_L5] at hf
      refine zw_iload_n hC dJ7_fill_53178_5 rfl 2 rfl ?_
      refine zw_iload_n hC dJ7_fill_53178_6 rfl 3 rfl ?_
      refine zw_icmp_ge hC 20 hf dJ7_fill_53178_7 (by decide) (fun hf => ?_) (fun hf => ?_)
      · exact zw_sub [] rfl (hK20 M23 hf)
      · refine zw_aload_n hC dJ7_fill_53178_10 rfl 0 rfl ?_
        refine zw_iload_n hC dJ7_fill_53178_11 rfl 2 rfl ?_
        refine zw_iload_n hC dJ7_fill_53178_12 rfl 1 rfl ?_
        refine zw_iast hC hf ho0 dJ7_fill_53178_13 (fun M25 hf => ?_)
        refine zw_iinc hC (v := (1 : Int32)) (lv' := [(2, .int (v22 + (1 : Int32))), (0, .ref (zad E o0)), (1, .int a1), (3, .int (nI l0))]) dJ7_fill_53178_14 2 rfl (by decide) hN (by decide) rfl ?_
        refine zw_goto hC 5 dJ7_fill_53178_17 (by decide) ?_
        exact zw_sub [1, 2, 0, 3] rfl (ih5 (v22 + (1 : Int32)) M25 hf)
  refine zw_sub [2, 3, 1, 0] rfl (hL5 _ ?_ n (0 : Int32) M hf)
  · intro M26 hf
    have h1 := Option.some.inj hf
    subst h1
    exact zw_vret hC hR dJ7_fill_53178_20
/-! java/lang/Integer.bitCount(I)I -/
theorem dJ6_bitCount_0f7a4_0 : decode cJ6_bitCount_0f7a4 0 = .ok (.iload_n 0, 1) := by decide +kernel
theorem dJ6_bitCount_0f7a4_1 : decode cJ6_bitCount_0f7a4 1 = .ok (.iload_n 0, 1) := by decide +kernel
theorem dJ6_bitCount_0f7a4_2 : decode cJ6_bitCount_0f7a4 2 = .ok (.iconst 1, 1) := by decide +kernel
theorem dJ6_bitCount_0f7a4_3 : decode cJ6_bitCount_0f7a4 3 = .ok (.iushr, 1) := by decide +kernel
theorem dJ6_bitCount_0f7a4_4 : decode cJ6_bitCount_0f7a4 4 = .ok (.ldc_w 265, 3) := by decide +kernel
theorem dJ6_bitCount_0f7a4_7 : decode cJ6_bitCount_0f7a4 7 = .ok (.iand, 1) := by decide +kernel
theorem dJ6_bitCount_0f7a4_8 : decode cJ6_bitCount_0f7a4 8 = .ok (.isub, 1) := by decide +kernel
theorem dJ6_bitCount_0f7a4_9 : decode cJ6_bitCount_0f7a4 9 = .ok (.istore_n 0, 1) := by decide +kernel
theorem dJ6_bitCount_0f7a4_10 : decode cJ6_bitCount_0f7a4 10 = .ok (.iload_n 0, 1) := by decide +kernel
theorem dJ6_bitCount_0f7a4_11 : decode cJ6_bitCount_0f7a4 11 = .ok (.ldc_w 266, 3) := by decide +kernel
theorem dJ6_bitCount_0f7a4_14 : decode cJ6_bitCount_0f7a4 14 = .ok (.iand, 1) := by decide +kernel
theorem dJ6_bitCount_0f7a4_15 : decode cJ6_bitCount_0f7a4 15 = .ok (.iload_n 0, 1) := by decide +kernel
theorem dJ6_bitCount_0f7a4_16 : decode cJ6_bitCount_0f7a4 16 = .ok (.iconst 2, 1) := by decide +kernel
theorem dJ6_bitCount_0f7a4_17 : decode cJ6_bitCount_0f7a4 17 = .ok (.iushr, 1) := by decide +kernel
theorem dJ6_bitCount_0f7a4_18 : decode cJ6_bitCount_0f7a4 18 = .ok (.ldc_w 266, 3) := by decide +kernel
theorem dJ6_bitCount_0f7a4_21 : decode cJ6_bitCount_0f7a4 21 = .ok (.iand, 1) := by decide +kernel
theorem dJ6_bitCount_0f7a4_22 : decode cJ6_bitCount_0f7a4 22 = .ok (.iadd, 1) := by decide +kernel
theorem dJ6_bitCount_0f7a4_23 : decode cJ6_bitCount_0f7a4 23 = .ok (.istore_n 0, 1) := by decide +kernel
theorem dJ6_bitCount_0f7a4_24 : decode cJ6_bitCount_0f7a4 24 = .ok (.iload_n 0, 1) := by decide +kernel
theorem dJ6_bitCount_0f7a4_25 : decode cJ6_bitCount_0f7a4 25 = .ok (.iload_n 0, 1) := by decide +kernel
theorem dJ6_bitCount_0f7a4_26 : decode cJ6_bitCount_0f7a4 26 = .ok (.iconst 4, 1) := by decide +kernel
theorem dJ6_bitCount_0f7a4_27 : decode cJ6_bitCount_0f7a4 27 = .ok (.iushr, 1) := by decide +kernel
theorem dJ6_bitCount_0f7a4_28 : decode cJ6_bitCount_0f7a4 28 = .ok (.iadd, 1) := by decide +kernel
theorem dJ6_bitCount_0f7a4_29 : decode cJ6_bitCount_0f7a4 29 = .ok (.ldc_w 267, 3) := by decide +kernel
theorem dJ6_bitCount_0f7a4_32 : decode cJ6_bitCount_0f7a4 32 = .ok (.iand, 1) := by decide +kernel
theorem dJ6_bitCount_0f7a4_33 : decode cJ6_bitCount_0f7a4 33 = .ok (.istore_n 0, 1) := by decide +kernel
theorem dJ6_bitCount_0f7a4_34 : decode cJ6_bitCount_0f7a4 34 = .ok (.iload_n 0, 1) := by decide +kernel
theorem dJ6_bitCount_0f7a4_35 : decode cJ6_bitCount_0f7a4 35 = .ok (.iload_n 0, 1) := by decide +kernel
theorem dJ6_bitCount_0f7a4_36 : decode cJ6_bitCount_0f7a4 36 = .ok (.bipush 8, 2) := by decide +kernel
theorem dJ6_bitCount_0f7a4_38 : decode cJ6_bitCount_0f7a4 38 = .ok (.iushr, 1) := by decide +kernel
theorem dJ6_bitCount_0f7a4_39 : decode cJ6_bitCount_0f7a4 39 = .ok (.iadd, 1) := by decide +kernel
theorem dJ6_bitCount_0f7a4_40 : decode cJ6_bitCount_0f7a4 40 = .ok (.istore_n 0, 1) := by decide +kernel
theorem dJ6_bitCount_0f7a4_41 : decode cJ6_bitCount_0f7a4 41 = .ok (.iload_n 0, 1) := by decide +kernel
theorem dJ6_bitCount_0f7a4_42 : decode cJ6_bitCount_0f7a4 42 = .ok (.iload_n 0, 1) := by decide +kernel
theorem dJ6_bitCount_0f7a4_43 : decode cJ6_bitCount_0f7a4 43 = .ok (.bipush 16, 2) := by decide +kernel
theorem dJ6_bitCount_0f7a4_45 : decode cJ6_bitCount_0f7a4 45 = .ok (.iushr, 1) := by decide +kernel
theorem dJ6_bitCount_0f7a4_46 : decode cJ6_bitCount_0f7a4 46 = .ok (.iadd, 1) := by decide +kernel
theorem dJ6_bitCount_0f7a4_47 : decode cJ6_bitCount_0f7a4 47 = .ok (.istore_n 0, 1) := by decide +kernel
theorem dJ6_bitCount_0f7a4_48 : decode cJ6_bitCount_0f7a4 48 = .ok (.iload_n 0, 1) := by decide +kernel
theorem dJ6_bitCount_0f7a4_49 : decode cJ6_bitCount_0f7a4 49 = .ok (.bipush 63, 2) := by decide +kernel
theorem dJ6_bitCount_0f7a4_51 : decode cJ6_bitCount_0f7a4 51 = .ok (.iand, 1) := by decide +kernel
theorem dJ6_bitCount_0f7a4_52 : decode cJ6_bitCount_0f7a4 52 = .ok (.ireturn, 1) := by decide +kernel
theorem zm_J6_bitCount_0f7a4 : ZMs yJ6_bitCount_0f7a4 cJ6_bitCount_0f7a4 1 (some .int) 1 := ⟨kw_3_215, kw_3_214, kw_1_19, by decide +kernel, by decide⟩
def zf_J6_bitCount_0f7a4 (a0 : Int32) : Option (Int32) :=
  some ((((((((a0 - (((a0.toUInt32 >>> ((1 : Int32).toUInt32 &&& Int32.toUInt32 31)).toInt32) &&& (1431655765 : Int32))) &&& (858993459 : Int32)) + ((((a0 - (((a0.toUInt32 >>> ((1 : Int32).toUInt32 &&& Int32.toUInt32 31)).toInt32) &&& (1431655765 : Int32))).toUInt32 >>> ((2 : Int32).toUInt32 &&& Int32.toUInt32 31)).toInt32) &&& (858993459 : Int32))) + (((((a0 - (((a0.toUInt32 >>> ((1 : Int32).toUInt32 &&& Int32.toUInt32 31)).toInt32) &&& (1431655765 : Int32))) &&& (858993459 : Int32)) + ((((a0 - (((a0.toUInt32 >>> ((1 : Int32).toUInt32 &&& Int32.toUInt32 31)).toInt32) &&& (1431655765 : Int32))).toUInt32 >>> ((2 : Int32).toUInt32 &&& Int32.toUInt32 31)).toInt32) &&& (858993459 : Int32))).toUInt32 >>> ((4 : Int32).toUInt32 &&& Int32.toUInt32 31)).toInt32)) &&& (252645135 : Int32)) + (((((((a0 - (((a0.toUInt32 >>> ((1 : Int32).toUInt32 &&& Int32.toUInt32 31)).toInt32) &&& (1431655765 : Int32))) &&& (858993459 : Int32)) + ((((a0 - (((a0.toUInt32 >>> ((1 : Int32).toUInt32 &&& Int32.toUInt32 31)).toInt32) &&& (1431655765 : Int32))).toUInt32 >>> ((2 : Int32).toUInt32 &&& Int32.toUInt32 31)).toInt32) &&& (858993459 : Int32))) + (((((a0 - (((a0.toUInt32 >>> ((1 : Int32).toUInt32 &&& Int32.toUInt32 31)).toInt32) &&& (1431655765 : Int32))) &&& (858993459 : Int32)) + ((((a0 - (((a0.toUInt32 >>> ((1 : Int32).toUInt32 &&& Int32.toUInt32 31)).toInt32) &&& (1431655765 : Int32))).toUInt32 >>> ((2 : Int32).toUInt32 &&& Int32.toUInt32 31)).toInt32) &&& (858993459 : Int32))).toUInt32 >>> ((4 : Int32).toUInt32 &&& Int32.toUInt32 31)).toInt32)) &&& (252645135 : Int32)).toUInt32 >>> ((8 : Int32).toUInt32 &&& Int32.toUInt32 31)).toInt32)) + ((((((((a0 - (((a0.toUInt32 >>> ((1 : Int32).toUInt32 &&& Int32.toUInt32 31)).toInt32) &&& (1431655765 : Int32))) &&& (858993459 : Int32)) + ((((a0 - (((a0.toUInt32 >>> ((1 : Int32).toUInt32 &&& Int32.toUInt32 31)).toInt32) &&& (1431655765 : Int32))).toUInt32 >>> ((2 : Int32).toUInt32 &&& Int32.toUInt32 31)).toInt32) &&& (858993459 : Int32))) + (((((a0 - (((a0.toUInt32 >>> ((1 : Int32).toUInt32 &&& Int32.toUInt32 31)).toInt32) &&& (1431655765 : Int32))) &&& (858993459 : Int32)) + ((((a0 - (((a0.toUInt32 >>> ((1 : Int32).toUInt32 &&& Int32.toUInt32 31)).toInt32) &&& (1431655765 : Int32))).toUInt32 >>> ((2 : Int32).toUInt32 &&& Int32.toUInt32 31)).toInt32) &&& (858993459 : Int32))).toUInt32 >>> ((4 : Int32).toUInt32 &&& Int32.toUInt32 31)).toInt32)) &&& (252645135 : Int32)) + (((((((a0 - (((a0.toUInt32 >>> ((1 : Int32).toUInt32 &&& Int32.toUInt32 31)).toInt32) &&& (1431655765 : Int32))) &&& (858993459 : Int32)) + ((((a0 - (((a0.toUInt32 >>> ((1 : Int32).toUInt32 &&& Int32.toUInt32 31)).toInt32) &&& (1431655765 : Int32))).toUInt32 >>> ((2 : Int32).toUInt32 &&& Int32.toUInt32 31)).toInt32) &&& (858993459 : Int32))) + (((((a0 - (((a0.toUInt32 >>> ((1 : Int32).toUInt32 &&& Int32.toUInt32 31)).toInt32) &&& (1431655765 : Int32))) &&& (858993459 : Int32)) + ((((a0 - (((a0.toUInt32 >>> ((1 : Int32).toUInt32 &&& Int32.toUInt32 31)).toInt32) &&& (1431655765 : Int32))).toUInt32 >>> ((2 : Int32).toUInt32 &&& Int32.toUInt32 31)).toInt32) &&& (858993459 : Int32))).toUInt32 >>> ((4 : Int32).toUInt32 &&& Int32.toUInt32 31)).toInt32)) &&& (252645135 : Int32)).toUInt32 >>> ((8 : Int32).toUInt32 &&& Int32.toUInt32 31)).toInt32)).toUInt32 >>> ((16 : Int32).toUInt32 &&& Int32.toUInt32 31)).toInt32)) &&& (63 : Int32))
set_option maxHeartbeats 4000000 in
set_option maxRecDepth 100000 in
theorem zc_J6_bitCount_0f7a4 {l : Launch} {D : va_G} {ad : Nat → Nat} {cA : Nat → ClassId} {a0 : Int32} {M : ZMem} {r : Int32} (hf : zf_J6_bitCount_0f7a4 a0 = some r) : ZCt l D ad cA yJ6_bitCount_0f7a4 cJ6_bitCount_0f7a4 1 (some .int) 1 [.int a0] M (some (.int r)) M := by
  refine zct (by decide +kernel) (Nat.le_of_ble_eq_true rfl) (lv := [(0, .int a0)]) rfl (fun E hl hD had hcA hN hC hR => ?_)
  subst hl; subst hD; subst had; subst hcA
  unfold zf_J6_bitCount_0f7a4 at hf
  refine zw_iload_n hC dJ6_bitCount_0f7a4_0 rfl 0 rfl ?_
  refine zw_iload_n hC dJ6_bitCount_0f7a4_1 rfl 0 rfl ?_
  refine zw_iconst hC (v := (1 : Int32)) dJ6_bitCount_0f7a4_2 (by decide) ?_
  refine zw_iushr hC dJ6_bitCount_0f7a4_3 ?_
  refine zw_ldcw hC dJ6_bitCount_0f7a4_4 kw_3_216 ?_
  refine zw_iand hC dJ6_bitCount_0f7a4_7 ?_
  refine zw_isub hC dJ6_bitCount_0f7a4_8 ?_
  refine zw_istore_n hC (lv' := [(0, .int (a0 - (((a0.toUInt32 >>> ((1 : Int32).toUInt32 &&& Int32.toUInt32 31)).toInt32) &&& (1431655765 : Int32))))]) dJ6_bitCount_0f7a4_9 rfl hN (by decide) rfl ?_
  refine zw_iload_n hC dJ6_bitCount_0f7a4_10 rfl 0 rfl ?_
  refine zw_ldcw hC dJ6_bitCount_0f7a4_11 kw_3_217 ?_
  refine zw_iand hC dJ6_bitCount_0f7a4_14 ?_
  refine zw_iload_n hC dJ6_bitCount_0f7a4_15 rfl 0 rfl ?_
  refine zw_iconst hC (v := (2 : Int32)) dJ6_bitCount_0f7a4_16 (by decide) ?_
  refine zw_iushr hC dJ6_bitCount_0f7a4_17 ?_
  refine zw_ldcw hC dJ6_bitCount_0f7a4_18 kw_3_217 ?_
  refine zw_iand hC dJ6_bitCount_0f7a4_21 ?_
  refine zw_iadd hC dJ6_bitCount_0f7a4_22 ?_
  refine zw_istore_n hC (lv' := [(0, .int (((a0 - (((a0.toUInt32 >>> ((1 : Int32).toUInt32 &&& Int32.toUInt32 31)).toInt32) &&& (1431655765 : Int32))) &&& (858993459 : Int32)) + ((((a0 - (((a0.toUInt32 >>> ((1 : Int32).toUInt32 &&& Int32.toUInt32 31)).toInt32) &&& (1431655765 : Int32))).toUInt32 >>> ((2 : Int32).toUInt32 &&& Int32.toUInt32 31)).toInt32) &&& (858993459 : Int32))))]) dJ6_bitCount_0f7a4_23 rfl hN (by decide) rfl ?_
  refine zw_iload_n hC dJ6_bitCount_0f7a4_24 rfl 0 rfl ?_
  refine zw_iload_n hC dJ6_bitCount_0f7a4_25 rfl 0 rfl ?_
  refine zw_iconst hC (v := (4 : Int32)) dJ6_bitCount_0f7a4_26 (by decide) ?_
  refine zw_iushr hC dJ6_bitCount_0f7a4_27 ?_
  refine zw_iadd hC dJ6_bitCount_0f7a4_28 ?_
  refine zw_ldcw hC dJ6_bitCount_0f7a4_29 kw_3_218 ?_
  refine zw_iand hC dJ6_bitCount_0f7a4_32 ?_
  refine zw_istore_n hC (lv' := [(0, .int (((((a0 - (((a0.toUInt32 >>> ((1 : Int32).toUInt32 &&& Int32.toUInt32 31)).toInt32) &&& (1431655765 : Int32))) &&& (858993459 : Int32)) + ((((a0 - (((a0.toUInt32 >>> ((1 : Int32).toUInt32 &&& Int32.toUInt32 31)).toInt32) &&& (1431655765 : Int32))).toUInt32 >>> ((2 : Int32).toUInt32 &&& Int32.toUInt32 31)).toInt32) &&& (858993459 : Int32))) + (((((a0 - (((a0.toUInt32 >>> ((1 : Int32).toUInt32 &&& Int32.toUInt32 31)).toInt32) &&& (1431655765 : Int32))) &&& (858993459 : Int32)) + ((((a0 - (((a0.toUInt32 >>> ((1 : Int32).toUInt32 &&& Int32.toUInt32 31)).toInt32) &&& (1431655765 : Int32))).toUInt32 >>> ((2 : Int32).toUInt32 &&& Int32.toUInt32 31)).toInt32) &&& (858993459 : Int32))).toUInt32 >>> ((4 : Int32).toUInt32 &&& Int32.toUInt32 31)).toInt32)) &&& (252645135 : Int32)))]) dJ6_bitCount_0f7a4_33 rfl hN (by decide) rfl ?_
  refine zw_iload_n hC dJ6_bitCount_0f7a4_34 rfl 0 rfl ?_
  refine zw_iload_n hC dJ6_bitCount_0f7a4_35 rfl 0 rfl ?_
  refine zw_bipush hC (v := (8 : Int32)) dJ6_bitCount_0f7a4_36 (by decide) ?_
  refine zw_iushr hC dJ6_bitCount_0f7a4_38 ?_
  refine zw_iadd hC dJ6_bitCount_0f7a4_39 ?_
  refine zw_istore_n hC (lv' := [(0, .int ((((((a0 - (((a0.toUInt32 >>> ((1 : Int32).toUInt32 &&& Int32.toUInt32 31)).toInt32) &&& (1431655765 : Int32))) &&& (858993459 : Int32)) + ((((a0 - (((a0.toUInt32 >>> ((1 : Int32).toUInt32 &&& Int32.toUInt32 31)).toInt32) &&& (1431655765 : Int32))).toUInt32 >>> ((2 : Int32).toUInt32 &&& Int32.toUInt32 31)).toInt32) &&& (858993459 : Int32))) + (((((a0 - (((a0.toUInt32 >>> ((1 : Int32).toUInt32 &&& Int32.toUInt32 31)).toInt32) &&& (1431655765 : Int32))) &&& (858993459 : Int32)) + ((((a0 - (((a0.toUInt32 >>> ((1 : Int32).toUInt32 &&& Int32.toUInt32 31)).toInt32) &&& (1431655765 : Int32))).toUInt32 >>> ((2 : Int32).toUInt32 &&& Int32.toUInt32 31)).toInt32) &&& (858993459 : Int32))).toUInt32 >>> ((4 : Int32).toUInt32 &&& Int32.toUInt32 31)).toInt32)) &&& (252645135 : Int32)) + (((((((a0 - (((a0.toUInt32 >>> ((1 : Int32).toUInt32 &&& Int32.toUInt32 31)).toInt32) &&& (1431655765 : Int32))) &&& (858993459 : Int32)) + ((((a0 - (((a0.toUInt32 >>> ((1 : Int32).toUInt32 &&& Int32.toUInt32 31)).toInt32) &&& (1431655765 : Int32))).toUInt32 >>> ((2 : Int32).toUInt32 &&& Int32.toUInt32 31)).toInt32) &&& (858993459 : Int32))) + (((((a0 - (((a0.toUInt32 >>> ((1 : Int32).toUInt32 &&& Int32.toUInt32 31)).toInt32) &&& (1431655765 : Int32))) &&& (858993459 : Int32)) + ((((a0 - (((a0.toUInt32 >>> ((1 : Int32).toUInt32 &&& Int32.toUInt32 31)).toInt32) &&& (1431655765 : Int32))).toUInt32 >>> ((2 : Int32).toUInt32 &&& Int32.toUInt32 31)).toInt32) &&& (858993459 : Int32))).toUInt32 >>> ((4 : Int32).toUInt32 &&& Int32.toUInt32 31)).toInt32)) &&& (252645135 : Int32)).toUInt32 >>> ((8 : Int32).toUInt32 &&& Int32.toUInt32 31)).toInt32)))]) dJ6_bitCount_0f7a4_40 rfl hN (by decide) rfl ?_
  refine zw_iload_n hC dJ6_bitCount_0f7a4_41 rfl 0 rfl ?_
  refine zw_iload_n hC dJ6_bitCount_0f7a4_42 rfl 0 rfl ?_
  refine zw_bipush hC (v := (16 : Int32)) dJ6_bitCount_0f7a4_43 (by decide) ?_
  refine zw_iushr hC dJ6_bitCount_0f7a4_45 ?_
  refine zw_iadd hC dJ6_bitCount_0f7a4_46 ?_
  refine zw_istore_n hC (lv' := [(0, .int (((((((a0 - (((a0.toUInt32 >>> ((1 : Int32).toUInt32 &&& Int32.toUInt32 31)).toInt32) &&& (1431655765 : Int32))) &&& (858993459 : Int32)) + ((((a0 - (((a0.toUInt32 >>> ((1 : Int32).toUInt32 &&& Int32.toUInt32 31)).toInt32) &&& (1431655765 : Int32))).toUInt32 >>> ((2 : Int32).toUInt32 &&& Int32.toUInt32 31)).toInt32) &&& (858993459 : Int32))) + (((((a0 - (((a0.toUInt32 >>> ((1 : Int32).toUInt32 &&& Int32.toUInt32 31)).toInt32) &&& (1431655765 : Int32))) &&& (858993459 : Int32)) + ((((a0 - (((a0.toUInt32 >>> ((1 : Int32).toUInt32 &&& Int32.toUInt32 31)).toInt32) &&& (1431655765 : Int32))).toUInt32 >>> ((2 : Int32).toUInt32 &&& Int32.toUInt32 31)).toInt32) &&& (858993459 : Int32))).toUInt32 >>> ((4 : Int32).toUInt32 &&& Int32.toUInt32 31)).toInt32)) &&& (252645135 : Int32)) + (((((((a0 - (((a0.toUInt32 >>> ((1 : Int32).toUInt32 &&& Int32.toUInt32 31)).toInt32) &&& (1431655765 : Int32))) &&& (858993459 : Int32)) + ((((a0 - (((a0.toUInt32 >>> ((1 : Int32).toUInt32 &&& Int32.toUInt32 31)).toInt32) &&& (1431655765 : Int32))).toUInt32 >>> ((2 : Int32).toUInt32 &&& Int32.toUInt32 31)).toInt32) &&& (858993459 : Int32))) + (((((a0 - (((a0.toUInt32 >>> ((1 : Int32).toUInt32 &&& Int32.toUInt32 31)).toInt32) &&& (1431655765 : Int32))) &&& (858993459 : Int32)) + ((((a0 - (((a0.toUInt32 >>> ((1 : Int32).toUInt32 &&& Int32.toUInt32 31)).toInt32) &&& (1431655765 : Int32))).toUInt32 >>> ((2 : Int32).toUInt32 &&& Int32.toUInt32 31)).toInt32) &&& (858993459 : Int32))).toUInt32 >>> ((4 : Int32).toUInt32 &&& Int32.toUInt32 31)).toInt32)) &&& (252645135 : Int32)).toUInt32 >>> ((8 : Int32).toUInt32 &&& Int32.toUInt32 31)).toInt32)) + ((((((((a0 - (((a0.toUInt32 >>> ((1 : Int32).toUInt32 &&& Int32.toUInt32 31)).toInt32) &&& (1431655765 : Int32))) &&& (858993459 : Int32)) + ((((a0 - (((a0.toUInt32 >>> ((1 : Int32).toUInt32 &&& Int32.toUInt32 31)).toInt32) &&& (1431655765 : Int32))).toUInt32 >>> ((2 : Int32).toUInt32 &&& Int32.toUInt32 31)).toInt32) &&& (858993459 : Int32))) + (((((a0 - (((a0.toUInt32 >>> ((1 : Int32).toUInt32 &&& Int32.toUInt32 31)).toInt32) &&& (1431655765 : Int32))) &&& (858993459 : Int32)) + ((((a0 - (((a0.toUInt32 >>> ((1 : Int32).toUInt32 &&& Int32.toUInt32 31)).toInt32) &&& (1431655765 : Int32))).toUInt32 >>> ((2 : Int32).toUInt32 &&& Int32.toUInt32 31)).toInt32) &&& (858993459 : Int32))).toUInt32 >>> ((4 : Int32).toUInt32 &&& Int32.toUInt32 31)).toInt32)) &&& (252645135 : Int32)) + (((((((a0 - (((a0.toUInt32 >>> ((1 : Int32).toUInt32 &&& Int32.toUInt32 31)).toInt32) &&& (1431655765 : Int32))) &&& (858993459 : Int32)) + ((((a0 - (((a0.toUInt32 >>> ((1 : Int32).toUInt32 &&& Int32.toUInt32 31)).toInt32) &&& (1431655765 : Int32))).toUInt32 >>> ((2 : Int32).toUInt32 &&& Int32.toUInt32 31)).toInt32) &&& (858993459 : Int32))) + (((((a0 - (((a0.toUInt32 >>> ((1 : Int32).toUInt32 &&& Int32.toUInt32 31)).toInt32) &&& (1431655765 : Int32))) &&& (858993459 : Int32)) + ((((a0 - (((a0.toUInt32 >>> ((1 : Int32).toUInt32 &&& Int32.toUInt32 31)).toInt32) &&& (1431655765 : Int32))).toUInt32 >>> ((2 : Int32).toUInt32 &&& Int32.toUInt32 31)).toInt32) &&& (858993459 : Int32))).toUInt32 >>> ((4 : Int32).toUInt32 &&& Int32.toUInt32 31)).toInt32)) &&& (252645135 : Int32)).toUInt32 >>> ((8 : Int32).toUInt32 &&& Int32.toUInt32 31)).toInt32)).toUInt32 >>> ((16 : Int32).toUInt32 &&& Int32.toUInt32 31)).toInt32)))]) dJ6_bitCount_0f7a4_47 rfl hN (by decide) rfl ?_
  refine zw_iload_n hC dJ6_bitCount_0f7a4_48 rfl 0 rfl ?_
  refine zw_bipush hC (v := (63 : Int32)) dJ6_bitCount_0f7a4_49 (by decide) ?_
  refine zw_iand hC dJ6_bitCount_0f7a4_51 ?_
  have h1 := Option.some.inj hf
  subst h1
  exact zw_iret hC hR dJ6_bitCount_0f7a4_52
/-! Told.clear()V -/
theorem dX8_clear_0 : decode cX8_clear 0 = .ok (.aload_n 0, 1) := by decide +kernel
theorem dX8_clear_1 : decode cX8_clear 1 = .ok (.iconst 0, 1) := by decide +kernel
theorem dX8_clear_2 : decode cX8_clear 2 = .ok (.putfield 46, 3) := by decide +kernel
theorem dX8_clear_5 : decode cX8_clear 5 = .ok (.aload_n 0, 1) := by decide +kernel
theorem dX8_clear_6 : decode cX8_clear 6 = .ok (.iconst 0, 1) := by decide +kernel
theorem dX8_clear_7 : decode cX8_clear 7 = .ok (.putfield 49, 3) := by decide +kernel
theorem dX8_clear_10 : decode cX8_clear 10 = .ok (.aload_n 0, 1) := by decide +kernel
theorem dX8_clear_11 : decode cX8_clear 11 = .ok (.iconst 0, 1) := by decide +kernel
theorem dX8_clear_12 : decode cX8_clear 12 = .ok (.putfield 52, 3) := by decide +kernel
theorem dX8_clear_15 : decode cX8_clear 15 = .ok (.aload_n 0, 1) := by decide +kernel
theorem dX8_clear_16 : decode cX8_clear 16 = .ok (.iconst 0, 1) := by decide +kernel
theorem dX8_clear_17 : decode cX8_clear 17 = .ok (.putfield 55, 3) := by decide +kernel
theorem dX8_clear_20 : decode cX8_clear 20 = .ok (.aload_n 0, 1) := by decide +kernel
theorem dX8_clear_21 : decode cX8_clear 21 = .ok (.bipush 99, 2) := by decide +kernel
theorem dX8_clear_23 : decode cX8_clear 23 = .ok (.putfield 30, 3) := by decide +kernel
theorem dX8_clear_26 : decode cX8_clear 26 = .ok (.aload_n 0, 1) := by decide +kernel
theorem dX8_clear_27 : decode cX8_clear 27 = .ok (.iconst 0, 1) := by decide +kernel
theorem dX8_clear_28 : decode cX8_clear 28 = .ok (.putfield 58, 3) := by decide +kernel
theorem dX8_clear_31 : decode cX8_clear 31 = .ok (.aload_n 0, 1) := by decide +kernel
theorem dX8_clear_32 : decode cX8_clear 32 = .ok (.iconst 0, 1) := by decide +kernel
theorem dX8_clear_33 : decode cX8_clear 33 = .ok (.putfield 61, 3) := by decide +kernel
theorem dX8_clear_36 : decode cX8_clear 36 = .ok (.return_, 1) := by decide +kernel
theorem zm_X8_clear : ZMv "ClassOfMany$Told" yX8_clear cX8_clear 1 (none) 0 := ⟨kw_2_219, kw_2_217, kw_2_218, kw_1_2, by decide +kernel, by decide⟩
def zf_X8_clear (o0 : Nat) (M : ZMem) : Option (ZMem) :=
  zput M o0 0 (0 : Int32) (fun M28 => zput M28 o0 1 (0 : Int32) (fun M29 => zput M29 o0 8 (0 : Int32) (fun M30 => zput M30 o0 9 (0 : Int32) (fun M31 => zput M31 o0 10 (99 : Int32) (fun M32 => zput M32 o0 11 (0 : Int32) (fun M33 => zput M33 o0 15 (0 : Int32) (fun M34 => some M34)))))))
set_option maxHeartbeats 4000000 in
set_option maxRecDepth 100000 in
theorem zc_X8_clear {l : Launch} {D : va_G} {ad : Nat → Nat} {cA : Nat → ClassId} {o0 : Nat} {M : ZMem} {M' : ZMem} (ho0 : zk o0 = (7, 17)) (hf : zf_X8_clear o0 M = some M') : ZCt l D ad cA yX8_clear cX8_clear 1 (none) 1 [.ref (ad o0)] M none M' := by
  refine zct (by decide +kernel) (Nat.le_of_ble_eq_true rfl) (lv := [(0, .ref (ad o0))]) rfl (fun E hl hD had hcA hN hC hR => ?_)
  subst hl; subst hD; subst had; subst hcA
  unfold zf_X8_clear at hf
  refine zw_aload_n hC dX8_clear_0 rfl 0 rfl ?_
  refine zw_iconst hC (v := (0 : Int32)) dX8_clear_1 (by decide) ?_
  refine zw_puti hC hf zF_Told_members ho0 dX8_clear_2 kw_1_34 (fun M28 hf => ?_)
  refine zw_aload_n hC dX8_clear_5 rfl 0 rfl ?_
  refine zw_iconst hC (v := (0 : Int32)) dX8_clear_6 (by decide) ?_
  refine zw_puti hC hf zF_Told_channels ho0 dX8_clear_7 kw_1_41 (fun M29 hf => ?_)
  refine zw_aload_n hC dX8_clear_10 rfl 0 rfl ?_
  refine zw_iconst hC (v := (0 : Int32)) dX8_clear_11 (by decide) ?_
  refine zw_puti hC hf zF_Told_fee ho0 dX8_clear_12 kw_1_69 (fun M30 hf => ?_)
  refine zw_aload_n hC dX8_clear_15 rfl 0 rfl ?_
  refine zw_iconst hC (v := (0 : Int32)) dX8_clear_16 (by decide) ?_
  refine zw_puti hC hf zF_Told_least ho0 dX8_clear_17 kw_1_72 (fun M31 hf => ?_)
  refine zw_aload_n hC dX8_clear_20 rfl 0 rfl ?_
  refine zw_bipush hC (v := (99 : Int32)) dX8_clear_21 (by decide) ?_
  refine zw_puti hC hf zF_Told_till ho0 dX8_clear_23 kw_1_76 (fun M32 hf => ?_)
  refine zw_aload_n hC dX8_clear_26 rfl 0 rfl ?_
  refine zw_iconst hC (v := (0 : Int32)) dX8_clear_27 (by decide) ?_
  refine zw_puti hC hf zF_Told_lines ho0 dX8_clear_28 kw_1_79 (fun M33 hf => ?_)
  refine zw_aload_n hC dX8_clear_31 rfl 0 rfl ?_
  refine zw_iconst hC (v := (0 : Int32)) dX8_clear_32 (by decide) ?_
  refine zw_puti hC hf zF_Told_used ho0 dX8_clear_33 kw_1_87 (fun M34 hf => ?_)
  have h1 := Option.some.inj hf
  subst h1
  exact zw_vret hC hR dX8_clear_36
/-! Told.openLine(I)V -/
theorem dX8_openLine_0 : decode cX8_openLine 0 = .ok (.aload_n 0, 1) := by decide +kernel
theorem dX8_openLine_1 : decode cX8_openLine 1 = .ok (.getfield 58, 3) := by decide +kernel
theorem dX8_openLine_4 : decode cX8_openLine 4 = .ok (.bipush 80, 2) := by decide +kernel
theorem dX8_openLine_6 : decode cX8_openLine 6 = .ok (.if_icmp .ge 46, 3) := by decide +kernel
theorem dX8_openLine_9 : decode cX8_openLine 9 = .ok (.aload_n 0, 1) := by decide +kernel
theorem dX8_openLine_10 : decode cX8_openLine 10 = .ok (.getfield 34, 3) := by decide +kernel
theorem dX8_openLine_13 : decode cX8_openLine 13 = .ok (.aload_n 0, 1) := by decide +kernel
theorem dX8_openLine_14 : decode cX8_openLine 14 = .ok (.getfield 58, 3) := by decide +kernel
theorem dX8_openLine_17 : decode cX8_openLine 17 = .ok (.iload_n 1, 1) := by decide +kernel
theorem dX8_openLine_18 : decode cX8_openLine 18 = .ok (.iastore, 1) := by decide +kernel
theorem dX8_openLine_19 : decode cX8_openLine 19 = .ok (.aload_n 0, 1) := by decide +kernel
theorem dX8_openLine_20 : decode cX8_openLine 20 = .ok (.getfield 37, 3) := by decide +kernel
theorem dX8_openLine_23 : decode cX8_openLine 23 = .ok (.aload_n 0, 1) := by decide +kernel
theorem dX8_openLine_24 : decode cX8_openLine 24 = .ok (.getfield 58, 3) := by decide +kernel
theorem dX8_openLine_27 : decode cX8_openLine 27 = .ok (.aload_n 0, 1) := by decide +kernel
theorem dX8_openLine_28 : decode cX8_openLine 28 = .ok (.getfield 61, 3) := by decide +kernel
theorem dX8_openLine_31 : decode cX8_openLine 31 = .ok (.iastore, 1) := by decide +kernel
theorem dX8_openLine_32 : decode cX8_openLine 32 = .ok (.aload_n 0, 1) := by decide +kernel
theorem dX8_openLine_33 : decode cX8_openLine 33 = .ok (.getfield 40, 3) := by decide +kernel
theorem dX8_openLine_36 : decode cX8_openLine 36 = .ok (.aload_n 0, 1) := by decide +kernel
theorem dX8_openLine_37 : decode cX8_openLine 37 = .ok (.getfield 58, 3) := by decide +kernel
theorem dX8_openLine_40 : decode cX8_openLine 40 = .ok (.iconst 0, 1) := by decide +kernel
theorem dX8_openLine_41 : decode cX8_openLine 41 = .ok (.iastore, 1) := by decide +kernel
theorem dX8_openLine_42 : decode cX8_openLine 42 = .ok (.aload_n 0, 1) := by decide +kernel
theorem dX8_openLine_43 : decode cX8_openLine 43 = .ok (.dup, 1) := by decide +kernel
theorem dX8_openLine_44 : decode cX8_openLine 44 = .ok (.getfield 58, 3) := by decide +kernel
theorem dX8_openLine_47 : decode cX8_openLine 47 = .ok (.iconst 1, 1) := by decide +kernel
theorem dX8_openLine_48 : decode cX8_openLine 48 = .ok (.iadd, 1) := by decide +kernel
theorem dX8_openLine_49 : decode cX8_openLine 49 = .ok (.putfield 58, 3) := by decide +kernel
theorem dX8_openLine_52 : decode cX8_openLine 52 = .ok (.return_, 1) := by decide +kernel
theorem zm_X8_openLine : ZMv "ClassOfMany$Told" yX8_openLine cX8_openLine 2 (none) 1 := ⟨kw_3_88, kw_3_86, kw_3_87, kw_1_2, by decide +kernel, by decide⟩
def zf_X8_openLine_j52 (M25 : ZMem) : Option (ZMem) :=
  some M25
def zf_X8_openLine (o0 : Nat) (a1 : Int32) (M : ZMem) : Option (ZMem) :=
  (if (80 : Int32) ≤ (M o0 11) then (zf_X8_openLine_j52 M) else zst M (o0 + 7) 80 (M o0 11) a1 (fun M26 => zst M26 (o0 + 8) 80 (M26 o0 11) (M26 o0 15) (fun M27 => zst M27 (o0 + 9) 80 (M27 o0 11) (0 : Int32) (fun M28 => zput M28 o0 11 ((M28 o0 11) + (1 : Int32)) (fun M29 => (zf_X8_openLine_j52 M29))))))
set_option maxHeartbeats 4000000 in
set_option maxRecDepth 100000 in
theorem zc_X8_openLine {l : Launch} {D : va_G} {ad : Nat → Nat} {cA : Nat → ClassId} {o0 : Nat} {a1 : Int32} {M : ZMem} {M' : ZMem} (ho0 : zk o0 = (7, 17)) (hf : zf_X8_openLine o0 a1 M = some M') : ZCt l D ad cA yX8_openLine cX8_openLine 2 (none) 1 [.ref (ad o0), .int a1] M none M' := by
  refine zct (by decide +kernel) (Nat.le_of_ble_eq_true rfl) (lv := [(0, .ref (ad o0)), (1, .int a1)]) rfl (fun E hl hD had hcA hN hC hR => ?_)
  subst hl; subst hD; subst had; subst hcA
  unfold zf_X8_openLine at hf
  refine zw_aload_n hC dX8_openLine_0 rfl 0 rfl ?_
  refine zw_geti hC zF_Told_lines ho0 dX8_openLine_1 kw_1_79 ?_
  refine zw_bipush hC (v := (80 : Int32)) dX8_openLine_4 (by decide) ?_
  have hj52 : ∀ (M25 : ZMem), zf_X8_openLine_j52 M25 = some M' → ZW E 52 [] [] M25 := by
    intro M25 hf
    unfold zf_X8_openLine_j52 at hf
    have h1 := Option.some.inj hf
    subst h1
    exact zw_vret hC hR dX8_openLine_52
  refine zw_icmp_ge hC 52 hf dX8_openLine_6 (by decide) (fun hf => ?_) (fun hf => ?_)
  · exact zw_sub [] rfl (hj52 M hf)
  · refine zw_aload_n hC dX8_openLine_9 rfl 0 rfl ?_
    refine zw_getr (k' := (o0 + 7)) hC zF_Told_sorts ho0 rfl dX8_openLine_10 kw_1_81 ?_
    refine zw_aload_n hC dX8_openLine_13 rfl 0 rfl ?_
    refine zw_geti hC zF_Told_lines ho0 dX8_openLine_14 kw_1_79 ?_
    refine zw_iload_n hC dX8_openLine_17 rfl 1 rfl ?_
    refine zw_iast hC hf (zko_7_7 ho0) dX8_openLine_18 (fun M26 hf => ?_)
    refine zw_aload_n hC dX8_openLine_19 rfl 0 rfl ?_
    refine zw_getr (k' := (o0 + 8)) hC zF_Told_starts ho0 rfl dX8_openLine_20 kw_1_83 ?_
    refine zw_aload_n hC dX8_openLine_23 rfl 0 rfl ?_
    refine zw_geti hC zF_Told_lines ho0 dX8_openLine_24 kw_1_79 ?_
    refine zw_aload_n hC dX8_openLine_27 rfl 0 rfl ?_
    refine zw_geti hC zF_Told_used ho0 dX8_openLine_28 kw_1_87 ?_
    refine zw_iast hC hf (zko_7_8 ho0) dX8_openLine_31 (fun M27 hf => ?_)
    refine zw_aload_n hC dX8_openLine_32 rfl 0 rfl ?_
    refine zw_getr (k' := (o0 + 9)) hC zF_Told_sizes ho0 rfl dX8_openLine_33 kw_1_85 ?_
    refine zw_aload_n hC dX8_openLine_36 rfl 0 rfl ?_
    refine zw_geti hC zF_Told_lines ho0 dX8_openLine_37 kw_1_79 ?_
    refine zw_iconst hC (v := (0 : Int32)) dX8_openLine_40 (by decide) ?_
    refine zw_iast hC hf (zko_7_9 ho0) dX8_openLine_41 (fun M28 hf => ?_)
    refine zw_aload_n hC dX8_openLine_42 rfl 0 rfl ?_
    refine zw_dup hC dX8_openLine_43 rfl ?_
    refine zw_geti hC zF_Told_lines ho0 dX8_openLine_44 kw_1_79 ?_
    refine zw_iconst hC (v := (1 : Int32)) dX8_openLine_47 (by decide) ?_
    refine zw_iadd hC dX8_openLine_48 ?_
    refine zw_puti hC hf zF_Told_lines ho0 dX8_openLine_49 kw_1_79 (fun M29 hf => ?_)
    exact zw_sub [] rfl (hj52 M29 hf)
/-! Told.addNumber(I)V -/
theorem dX8_addNumber_0 : decode cX8_addNumber 0 = .ok (.aload_n 0, 1) := by decide +kernel
theorem dX8_addNumber_1 : decode cX8_addNumber 1 = .ok (.getfield 58, 3) := by decide +kernel
theorem dX8_addNumber_4 : decode cX8_addNumber 4 = .ok (.ifCond .le 48, 3) := by decide +kernel
theorem dX8_addNumber_7 : decode cX8_addNumber 7 = .ok (.aload_n 0, 1) := by decide +kernel
theorem dX8_addNumber_8 : decode cX8_addNumber 8 = .ok (.getfield 61, 3) := by decide +kernel
theorem dX8_addNumber_11 : decode cX8_addNumber 11 = .ok (.sipush 200, 3) := by decide +kernel
theorem dX8_addNumber_14 : decode cX8_addNumber 14 = .ok (.if_icmp .ge 38, 3) := by decide +kernel
theorem dX8_addNumber_17 : decode cX8_addNumber 17 = .ok (.aload_n 0, 1) := by decide +kernel
theorem dX8_addNumber_18 : decode cX8_addNumber 18 = .ok (.getfield 43, 3) := by decide +kernel
theorem dX8_addNumber_21 : decode cX8_addNumber 21 = .ok (.aload_n 0, 1) := by decide +kernel
theorem dX8_addNumber_22 : decode cX8_addNumber 22 = .ok (.getfield 61, 3) := by decide +kernel
theorem dX8_addNumber_25 : decode cX8_addNumber 25 = .ok (.iload_n 1, 1) := by decide +kernel
theorem dX8_addNumber_26 : decode cX8_addNumber 26 = .ok (.iastore, 1) := by decide +kernel
theorem dX8_addNumber_27 : decode cX8_addNumber 27 = .ok (.aload_n 0, 1) := by decide +kernel
theorem dX8_addNumber_28 : decode cX8_addNumber 28 = .ok (.dup, 1) := by decide +kernel
theorem dX8_addNumber_29 : decode cX8_addNumber 29 = .ok (.getfield 61, 3) := by decide +kernel
theorem dX8_addNumber_32 : decode cX8_addNumber 32 = .ok (.iconst 1, 1) := by decide +kernel
theorem dX8_addNumber_33 : decode cX8_addNumber 33 = .ok (.iadd, 1) := by decide +kernel
theorem dX8_addNumber_34 : decode cX8_addNumber 34 = .ok (.putfield 61, 3) := by decide +kernel
theorem dX8_addNumber_37 : decode cX8_addNumber 37 = .ok (.aload_n 0, 1) := by decide +kernel
theorem dX8_addNumber_38 : decode cX8_addNumber 38 = .ok (.getfield 40, 3) := by decide +kernel
theorem dX8_addNumber_41 : decode cX8_addNumber 41 = .ok (.aload_n 0, 1) := by decide +kernel
theorem dX8_addNumber_42 : decode cX8_addNumber 42 = .ok (.getfield 58, 3) := by decide +kernel
theorem dX8_addNumber_45 : decode cX8_addNumber 45 = .ok (.iconst 1, 1) := by decide +kernel
theorem dX8_addNumber_46 : decode cX8_addNumber 46 = .ok (.isub, 1) := by decide +kernel
theorem dX8_addNumber_47 : decode cX8_addNumber 47 = .ok (.dup2, 1) := by decide +kernel
theorem dX8_addNumber_48 : decode cX8_addNumber 48 = .ok (.iaload, 1) := by decide +kernel
theorem dX8_addNumber_49 : decode cX8_addNumber 49 = .ok (.iconst 1, 1) := by decide +kernel
theorem dX8_addNumber_50 : decode cX8_addNumber 50 = .ok (.iadd, 1) := by decide +kernel
theorem dX8_addNumber_51 : decode cX8_addNumber 51 = .ok (.iastore, 1) := by decide +kernel
theorem dX8_addNumber_52 : decode cX8_addNumber 52 = .ok (.return_, 1) := by decide +kernel
theorem zm_X8_addNumber : ZMv "ClassOfMany$Told" yX8_addNumber cX8_addNumber 2 (none) 1 := ⟨kw_3_105, kw_3_103, kw_3_104, kw_1_2, by decide +kernel, by decide⟩
def zf_X8_addNumber_j52 (M25 : ZMem) : Option (ZMem) :=
  some M25
def zf_X8_addNumber (o0 : Nat) (a1 : Int32) (M : ZMem) : Option (ZMem) :=
  (if (M o0 11) ≤ 0 then (zf_X8_addNumber_j52 M) else (if (200 : Int32) ≤ (M o0 15) then (zf_X8_addNumber_j52 M) else zst M (o0 + 10) 200 (M o0 15) a1 (fun M26 => zput M26 o0 15 ((M26 o0 15) + (1 : Int32)) (fun M27 => zrd M27 (o0 + 9) 80 ((M27 o0 11) - (1 : Int32)) (fun v28 => zst M27 (o0 + 9) 80 ((M27 o0 11) - (1 : Int32)) (v28 + (1 : Int32)) (fun M29 => (zf_X8_addNumber_j52 M29)))))))
set_option maxHeartbeats 4000000 in
set_option maxRecDepth 100000 in
theorem zc_X8_addNumber {l : Launch} {D : va_G} {ad : Nat → Nat} {cA : Nat → ClassId} {o0 : Nat} {a1 : Int32} {M : ZMem} {M' : ZMem} (ho0 : zk o0 = (7, 17)) (hf : zf_X8_addNumber o0 a1 M = some M') : ZCt l D ad cA yX8_addNumber cX8_addNumber 2 (none) 1 [.ref (ad o0), .int a1] M none M' := by
  refine zct (by decide +kernel) (Nat.le_of_ble_eq_true rfl) (lv := [(0, .ref (ad o0)), (1, .int a1)]) rfl (fun E hl hD had hcA hN hC hR => ?_)
  subst hl; subst hD; subst had; subst hcA
  unfold zf_X8_addNumber at hf
  refine zw_aload_n hC dX8_addNumber_0 rfl 0 rfl ?_
  refine zw_geti hC zF_Told_lines ho0 dX8_addNumber_1 kw_1_79 ?_
  have hj52 : ∀ (M25 : ZMem), zf_X8_addNumber_j52 M25 = some M' → ZW E 52 [] [] M25 := by
    intro M25 hf
    unfold zf_X8_addNumber_j52 at hf
    have h1 := Option.some.inj hf
    subst h1
    exact zw_vret hC hR dX8_addNumber_52
  refine zw_if_le hC 52 hf dX8_addNumber_4 (by decide) (fun hf => ?_) (fun hf => ?_)
  · exact zw_sub [] rfl (hj52 M hf)
  · refine zw_aload_n hC dX8_addNumber_7 rfl 0 rfl ?_
    refine zw_geti hC zF_Told_used ho0 dX8_addNumber_8 kw_1_87 ?_
    refine zw_sipush hC (v := (200 : Int32)) dX8_addNumber_11 (by decide) ?_
    refine zw_icmp_ge hC 52 hf dX8_addNumber_14 (by decide) (fun hf => ?_) (fun hf => ?_)
    · exact zw_sub [] rfl (hj52 M hf)
    · refine zw_aload_n hC dX8_addNumber_17 rfl 0 rfl ?_
      refine zw_getr (k' := (o0 + 10)) hC zF_Told_numbers ho0 rfl dX8_addNumber_18 kw_1_88 ?_
      refine zw_aload_n hC dX8_addNumber_21 rfl 0 rfl ?_
      refine zw_geti hC zF_Told_used ho0 dX8_addNumber_22 kw_1_87 ?_
      refine zw_iload_n hC dX8_addNumber_25 rfl 1 rfl ?_
      refine zw_iast hC hf (zko_7_10 ho0) dX8_addNumber_26 (fun M26 hf => ?_)
      refine zw_aload_n hC dX8_addNumber_27 rfl 0 rfl ?_
      refine zw_dup hC dX8_addNumber_28 rfl ?_
      refine zw_geti hC zF_Told_used ho0 dX8_addNumber_29 kw_1_87 ?_
      refine zw_iconst hC (v := (1 : Int32)) dX8_addNumber_32 (by decide) ?_
      refine zw_iadd hC dX8_addNumber_33 ?_
      refine zw_puti hC hf zF_Told_used ho0 dX8_addNumber_34 kw_1_87 (fun M27 hf => ?_)
      refine zw_aload_n hC dX8_addNumber_37 rfl 0 rfl ?_
      refine zw_getr (k' := (o0 + 9)) hC zF_Told_sizes ho0 rfl dX8_addNumber_38 kw_1_85 ?_
      refine zw_aload_n hC dX8_addNumber_41 rfl 0 rfl ?_
      refine zw_geti hC zF_Told_lines ho0 dX8_addNumber_42 kw_1_79 ?_
      refine zw_iconst hC (v := (1 : Int32)) dX8_addNumber_45 (by decide) ?_
      refine zw_isub hC dX8_addNumber_46 ?_
      refine zw_dup2 hC dX8_addNumber_47 rfl rfl ?_
      refine zw_iald hC hf (zko_7_9 ho0) dX8_addNumber_48 (fun v28 hf => ?_)
      refine zw_iconst hC (v := (1 : Int32)) dX8_addNumber_49 (by decide) ?_
      refine zw_iadd hC dX8_addNumber_50 ?_
      refine zw_iast hC hf (zko_7_9 ho0) dX8_addNumber_51 (fun M29 hf => ?_)
      exact zw_sub [] rfl (hj52 M29 hf)
/-! Standing.clear()V -/
theorem dX7_clear_0 : decode cX7_clear 0 = .ok (.aload_n 0, 1) := by decide +kernel
theorem dX7_clear_1 : decode cX7_clear 1 = .ok (.iconst 0, 1) := by decide +kernel
theorem dX7_clear_2 : decode cX7_clear 2 = .ok (.putfield 22, 3) := by decide +kernel
theorem dX7_clear_5 : decode cX7_clear 5 = .ok (.aload_n 0, 1) := by decide +kernel
theorem dX7_clear_6 : decode cX7_clear 6 = .ok (.iconst 0, 1) := by decide +kernel
theorem dX7_clear_7 : decode cX7_clear 7 = .ok (.putfield 25, 3) := by decide +kernel
theorem dX7_clear_10 : decode cX7_clear 10 = .ok (.aload_n 0, 1) := by decide +kernel
theorem dX7_clear_11 : decode cX7_clear 11 = .ok (.bipush (-2), 2) := by decide +kernel
theorem dX7_clear_13 : decode cX7_clear 13 = .ok (.putfield 9, 3) := by decide +kernel
theorem dX7_clear_16 : decode cX7_clear 16 = .ok (.aload_n 0, 1) := by decide +kernel
theorem dX7_clear_17 : decode cX7_clear 17 = .ok (.iconst 0, 1) := by decide +kernel
theorem dX7_clear_18 : decode cX7_clear 18 = .ok (.putfield 28, 3) := by decide +kernel
theorem dX7_clear_21 : decode cX7_clear 21 = .ok (.aload_n 0, 1) := by decide +kernel
theorem dX7_clear_22 : decode cX7_clear 22 = .ok (.iconst 0, 1) := by decide +kernel
theorem dX7_clear_23 : decode cX7_clear 23 = .ok (.putfield 31, 3) := by decide +kernel
theorem dX7_clear_26 : decode cX7_clear 26 = .ok (.aload_n 0, 1) := by decide +kernel
theorem dX7_clear_27 : decode cX7_clear 27 = .ok (.iconst 0, 1) := by decide +kernel
theorem dX7_clear_28 : decode cX7_clear 28 = .ok (.putfield 34, 3) := by decide +kernel
theorem dX7_clear_31 : decode cX7_clear 31 = .ok (.aload_n 0, 1) := by decide +kernel
theorem dX7_clear_32 : decode cX7_clear 32 = .ok (.iconst 0, 1) := by decide +kernel
theorem dX7_clear_33 : decode cX7_clear 33 = .ok (.putfield 37, 3) := by decide +kernel
theorem dX7_clear_36 : decode cX7_clear 36 = .ok (.aload_n 0, 1) := by decide +kernel
theorem dX7_clear_37 : decode cX7_clear 37 = .ok (.iconst 0, 1) := by decide +kernel
theorem dX7_clear_38 : decode cX7_clear 38 = .ok (.putfield 40, 3) := by decide +kernel
theorem dX7_clear_41 : decode cX7_clear 41 = .ok (.aload_n 0, 1) := by decide +kernel
theorem dX7_clear_42 : decode cX7_clear 42 = .ok (.iconst 0, 1) := by decide +kernel
theorem dX7_clear_43 : decode cX7_clear 43 = .ok (.putfield 43, 3) := by decide +kernel
theorem dX7_clear_46 : decode cX7_clear 46 = .ok (.aload_n 0, 1) := by decide +kernel
theorem dX7_clear_47 : decode cX7_clear 47 = .ok (.iconst 0, 1) := by decide +kernel
theorem dX7_clear_48 : decode cX7_clear 48 = .ok (.putfield 46, 3) := by decide +kernel
theorem dX7_clear_51 : decode cX7_clear 51 = .ok (.aload_n 0, 1) := by decide +kernel
theorem dX7_clear_52 : decode cX7_clear 52 = .ok (.bipush 99, 2) := by decide +kernel
theorem dX7_clear_54 : decode cX7_clear 54 = .ok (.putfield 15, 3) := by decide +kernel
theorem dX7_clear_57 : decode cX7_clear 57 = .ok (.aload_n 0, 1) := by decide +kernel
theorem dX7_clear_58 : decode cX7_clear 58 = .ok (.getfield 18, 3) := by decide +kernel
theorem dX7_clear_61 : decode cX7_clear 61 = .ok (.iconst 0, 1) := by decide +kernel
theorem dX7_clear_62 : decode cX7_clear 62 = .ok (.invokestatic 49, 3) := by decide +kernel
theorem dX7_clear_65 : decode cX7_clear 65 = .ok (.return_, 1) := by decide +kernel
theorem zm_X7_clear : ZMv "ClassOfMany$Standing" yX7_clear cX7_clear 1 (none) 0 := ⟨kw_2_223, kw_2_221, kw_2_222, kw_1_3, by decide +kernel, by decide⟩
def zf_X7_clear (n : Nat) (o0 : Nat) (M : ZMem) : Option (ZMem) :=
  zput M o0 0 (0 : Int32) (fun M33 => zput M33 o0 1 (0 : Int32) (fun M34 => zput M34 o0 2 (-2 : Int32) (fun M35 => zput M35 o0 3 (0 : Int32) (fun M36 => zput M36 o0 4 (0 : Int32) (fun M37 => zput M37 o0 5 (0 : Int32) (fun M38 => zput M38 o0 6 (0 : Int32) (fun M39 => zput M39 o0 7 (0 : Int32) (fun M40 => zput M40 o0 8 (0 : Int32) (fun M41 => zput M41 o0 9 (0 : Int32) (fun M42 => zput M42 o0 10 (99 : Int32) (fun M43 => zb1 (zf_J7_fill_53178 n (o0 + 1) 10 (0 : Int32) M43) (fun M44 => some M44))))))))))))
set_option maxHeartbeats 4000000 in
set_option maxRecDepth 100000 in
theorem zc_X7_clear {l : Launch} {D : va_G} {ad : Nat → Nat} {cA : Nat → ClassId} {n : Nat} {o0 : Nat} {M : ZMem} {M' : ZMem} (ho0 : zk o0 = (6, 12)) (hf : zf_X7_clear n o0 M = some M') : ZCt l D ad cA yX7_clear cX7_clear 1 (none) 2 [.ref (ad o0)] M none M' := by
  refine zct (by decide +kernel) (Nat.le_of_ble_eq_true rfl) (lv := [(0, .ref (ad o0))]) rfl (fun E hl hD had hcA hN hC hR => ?_)
  subst hl; subst hD; subst had; subst hcA
  unfold zf_X7_clear at hf
  refine zw_aload_n hC dX7_clear_0 rfl 0 rfl ?_
  refine zw_iconst hC (v := (0 : Int32)) dX7_clear_1 (by decide) ?_
  refine zw_puti hC hf zF_Standing_today ho0 dX7_clear_2 kw_1_132 (fun M33 hf => ?_)
  refine zw_aload_n hC dX7_clear_5 rfl 0 rfl ?_
  refine zw_iconst hC (v := (0 : Int32)) dX7_clear_6 (by decide) ?_
  refine zw_puti hC hf zF_Standing_order ho0 dX7_clear_7 kw_1_134 (fun M34 hf => ?_)
  refine zw_aload_n hC dX7_clear_10 rfl 0 rfl ?_
  refine zw_bipush hC (v := (-2 : Int32)) dX7_clear_11 (by decide) ?_
  refine zw_puti hC hf zF_Standing_sentDay ho0 dX7_clear_13 kw_1_137 (fun M35 hf => ?_)
  refine zw_aload_n hC dX7_clear_16 rfl 0 rfl ?_
  refine zw_iconst hC (v := (0 : Int32)) dX7_clear_17 (by decide) ?_
  refine zw_puti hC hf zF_Standing_costs ho0 dX7_clear_18 kw_1_140 (fun M36 hf => ?_)
  refine zw_aload_n hC dX7_clear_21 rfl 0 rfl ?_
  refine zw_iconst hC (v := (0 : Int32)) dX7_clear_22 (by decide) ?_
  refine zw_puti hC hf zF_Standing_out ho0 dX7_clear_23 kw_1_143 (fun M37 hf => ?_)
  refine zw_aload_n hC dX7_clear_26 rfl 0 rfl ?_
  refine zw_iconst hC (v := (0 : Int32)) dX7_clear_27 (by decide) ?_
  refine zw_puti hC hf zF_Standing_filed ho0 dX7_clear_28 kw_1_147 (fun M38 hf => ?_)
  refine zw_aload_n hC dX7_clear_31 rfl 0 rfl ?_
  refine zw_iconst hC (v := (0 : Int32)) dX7_clear_32 (by decide) ?_
  refine zw_puti hC hf zF_Standing_lazy ho0 dX7_clear_33 kw_1_151 (fun M39 hf => ?_)
  refine zw_aload_n hC dX7_clear_36 rfl 0 rfl ?_
  refine zw_iconst hC (v := (0 : Int32)) dX7_clear_37 (by decide) ?_
  refine zw_puti hC hf zF_Standing_fund ho0 dX7_clear_38 kw_1_156 (fun M40 hf => ?_)
  refine zw_aload_n hC dX7_clear_41 rfl 0 rfl ?_
  refine zw_iconst hC (v := (0 : Int32)) dX7_clear_42 (by decide) ?_
  refine zw_puti hC hf zF_Standing_rule ho0 dX7_clear_43 kw_1_159 (fun M41 hf => ?_)
  refine zw_aload_n hC dX7_clear_46 rfl 0 rfl ?_
  refine zw_iconst hC (v := (0 : Int32)) dX7_clear_47 (by decide) ?_
  refine zw_puti hC hf zF_Standing_periodFrom ho0 dX7_clear_48 kw_1_162 (fun M42 hf => ?_)
  refine zw_aload_n hC dX7_clear_51 rfl 0 rfl ?_
  refine zw_bipush hC (v := (99 : Int32)) dX7_clear_52 (by decide) ?_
  refine zw_puti hC hf zF_Standing_periodTo ho0 dX7_clear_54 kw_1_165 (fun M43 hf => ?_)
  refine zw_aload_n hC dX7_clear_57 rfl 0 rfl ?_
  refine zw_getr (k' := (o0 + 1)) hC zF_Standing_foes ho0 rfl dX7_clear_58 kw_1_168 ?_
  refine zw_iconst hC (v := (0 : Int32)) dX7_clear_61 (by decide) ?_
  obtain ⟨M44, hcM44, hf⟩ := zb1_some hf
  refine zw_cS hC [.ref (zad E (o0 + 1)), .int (0 : Int32)] [] (st1 := []) zm_J7_fill_53178 (zc_J7_fill_53178 (zko_6_1 ho0) hcM44) kw_2_224 dX7_clear_62 rfl (by decide) (Nat.le_of_ble_eq_true rfl) rfl rfl ?_
  have h1 := Option.some.inj hf
  subst h1
  exact zw_vret hC hR dX7_clear_65
/-! Standing.copyFrom(LClassOfMany$Standing;)V -/
theorem dX7_copyFrom_0 : decode cX7_copyFrom 0 = .ok (.aload_n 0, 1) := by decide +kernel
theorem dX7_copyFrom_1 : decode cX7_copyFrom 1 = .ok (.aload_n 1, 1) := by decide +kernel
theorem dX7_copyFrom_2 : decode cX7_copyFrom 2 = .ok (.getfield 22, 3) := by decide +kernel
theorem dX7_copyFrom_5 : decode cX7_copyFrom 5 = .ok (.putfield 22, 3) := by decide +kernel
theorem dX7_copyFrom_8 : decode cX7_copyFrom 8 = .ok (.aload_n 0, 1) := by decide +kernel
theorem dX7_copyFrom_9 : decode cX7_copyFrom 9 = .ok (.aload_n 1, 1) := by decide +kernel
theorem dX7_copyFrom_10 : decode cX7_copyFrom 10 = .ok (.getfield 25, 3) := by decide +kernel
theorem dX7_copyFrom_13 : decode cX7_copyFrom 13 = .ok (.putfield 25, 3) := by decide +kernel
theorem dX7_copyFrom_16 : decode cX7_copyFrom 16 = .ok (.aload_n 0, 1) := by decide +kernel
theorem dX7_copyFrom_17 : decode cX7_copyFrom 17 = .ok (.aload_n 1, 1) := by decide +kernel
theorem dX7_copyFrom_18 : decode cX7_copyFrom 18 = .ok (.getfield 9, 3) := by decide +kernel
theorem dX7_copyFrom_21 : decode cX7_copyFrom 21 = .ok (.putfield 9, 3) := by decide +kernel
theorem dX7_copyFrom_24 : decode cX7_copyFrom 24 = .ok (.aload_n 0, 1) := by decide +kernel
theorem dX7_copyFrom_25 : decode cX7_copyFrom 25 = .ok (.aload_n 1, 1) := by decide +kernel
theorem dX7_copyFrom_26 : decode cX7_copyFrom 26 = .ok (.getfield 28, 3) := by decide +kernel
theorem dX7_copyFrom_29 : decode cX7_copyFrom 29 = .ok (.putfield 28, 3) := by decide +kernel
theorem dX7_copyFrom_32 : decode cX7_copyFrom 32 = .ok (.aload_n 0, 1) := by decide +kernel
theorem dX7_copyFrom_33 : decode cX7_copyFrom 33 = .ok (.aload_n 1, 1) := by decide +kernel
theorem dX7_copyFrom_34 : decode cX7_copyFrom 34 = .ok (.getfield 31, 3) := by decide +kernel
theorem dX7_copyFrom_37 : decode cX7_copyFrom 37 = .ok (.putfield 31, 3) := by decide +kernel
theorem dX7_copyFrom_40 : decode cX7_copyFrom 40 = .ok (.aload_n 0, 1) := by decide +kernel
theorem dX7_copyFrom_41 : decode cX7_copyFrom 41 = .ok (.aload_n 1, 1) := by decide +kernel
theorem dX7_copyFrom_42 : decode cX7_copyFrom 42 = .ok (.getfield 34, 3) := by decide +kernel
theorem dX7_copyFrom_45 : decode cX7_copyFrom 45 = .ok (.putfield 34, 3) := by decide +kernel
theorem dX7_copyFrom_48 : decode cX7_copyFrom 48 = .ok (.aload_n 0, 1) := by decide +kernel
theorem dX7_copyFrom_49 : decode cX7_copyFrom 49 = .ok (.aload_n 1, 1) := by decide +kernel
theorem dX7_copyFrom_50 : decode cX7_copyFrom 50 = .ok (.getfield 37, 3) := by decide +kernel
theorem dX7_copyFrom_53 : decode cX7_copyFrom 53 = .ok (.putfield 37, 3) := by decide +kernel
theorem dX7_copyFrom_56 : decode cX7_copyFrom 56 = .ok (.aload_n 0, 1) := by decide +kernel
theorem dX7_copyFrom_57 : decode cX7_copyFrom 57 = .ok (.aload_n 1, 1) := by decide +kernel
theorem dX7_copyFrom_58 : decode cX7_copyFrom 58 = .ok (.getfield 40, 3) := by decide +kernel
theorem dX7_copyFrom_61 : decode cX7_copyFrom 61 = .ok (.putfield 40, 3) := by decide +kernel
theorem dX7_copyFrom_64 : decode cX7_copyFrom 64 = .ok (.aload_n 0, 1) := by decide +kernel
theorem dX7_copyFrom_65 : decode cX7_copyFrom 65 = .ok (.aload_n 1, 1) := by decide +kernel
theorem dX7_copyFrom_66 : decode cX7_copyFrom 66 = .ok (.getfield 43, 3) := by decide +kernel
theorem dX7_copyFrom_69 : decode cX7_copyFrom 69 = .ok (.putfield 43, 3) := by decide +kernel
theorem dX7_copyFrom_72 : decode cX7_copyFrom 72 = .ok (.aload_n 0, 1) := by decide +kernel
theorem dX7_copyFrom_73 : decode cX7_copyFrom 73 = .ok (.aload_n 1, 1) := by decide +kernel
theorem dX7_copyFrom_74 : decode cX7_copyFrom 74 = .ok (.getfield 46, 3) := by decide +kernel
theorem dX7_copyFrom_77 : decode cX7_copyFrom 77 = .ok (.putfield 46, 3) := by decide +kernel
theorem dX7_copyFrom_80 : decode cX7_copyFrom 80 = .ok (.aload_n 0, 1) := by decide +kernel
theorem dX7_copyFrom_81 : decode cX7_copyFrom 81 = .ok (.aload_n 1, 1) := by decide +kernel
theorem dX7_copyFrom_82 : decode cX7_copyFrom 82 = .ok (.getfield 15, 3) := by decide +kernel
theorem dX7_copyFrom_85 : decode cX7_copyFrom 85 = .ok (.putfield 15, 3) := by decide +kernel
theorem dX7_copyFrom_88 : decode cX7_copyFrom 88 = .ok (.aload_n 1, 1) := by decide +kernel
theorem dX7_copyFrom_89 : decode cX7_copyFrom 89 = .ok (.getfield 18, 3) := by decide +kernel
theorem dX7_copyFrom_92 : decode cX7_copyFrom 92 = .ok (.iconst 0, 1) := by decide +kernel
theorem dX7_copyFrom_93 : decode cX7_copyFrom 93 = .ok (.aload_n 0, 1) := by decide +kernel
theorem dX7_copyFrom_94 : decode cX7_copyFrom 94 = .ok (.getfield 18, 3) := by decide +kernel
theorem dX7_copyFrom_97 : decode cX7_copyFrom 97 = .ok (.iconst 0, 1) := by decide +kernel
theorem dX7_copyFrom_98 : decode cX7_copyFrom 98 = .ok (.bipush 10, 2) := by decide +kernel
theorem dX7_copyFrom_100 : decode cX7_copyFrom 100 = .ok (.invokestatic 55, 3) := by decide +kernel
theorem dX7_copyFrom_103 : decode cX7_copyFrom 103 = .ok (.return_, 1) := by decide +kernel
theorem zm_X7_copyFrom : ZMv "ClassOfMany$Standing" yX7_copyFrom cX7_copyFrom 2 (none) 1 := ⟨kw_3_137, kw_3_135, kw_3_136, kw_1_3, by decide +kernel, by decide⟩
def zf_X7_copyFrom (o0 : Nat) (o1 : Nat) (M : ZMem) : Option (ZMem) :=
  zput M o0 0 (M o1 0) (fun M33 => zput M33 o0 1 (M33 o1 1) (fun M34 => zput M34 o0 2 (M34 o1 2) (fun M35 => zput M35 o0 3 (M35 o1 3) (fun M36 => zput M36 o0 4 (M36 o1 4) (fun M37 => zput M37 o0 5 (M37 o1 5) (fun M38 => zput M38 o0 6 (M38 o1 6) (fun M39 => zput M39 o0 7 (M39 o1 7) (fun M40 => zput M40 o0 8 (M40 o1 8) (fun M41 => zput M41 o0 9 (M41 o1 9) (fun M42 => zput M42 o0 10 (M42 o1 10) (fun M43 => zcp M43 (o1 + 1) (o0 + 1) 10 10 (0 : Int32) (0 : Int32) (10 : Int32) (fun M44 => some M44))))))))))))
set_option maxHeartbeats 4000000 in
set_option maxRecDepth 100000 in
theorem zc_X7_copyFrom {l : Launch} {D : va_G} {ad : Nat → Nat} {cA : Nat → ClassId} {o0 : Nat} {o1 : Nat} {M : ZMem} {M' : ZMem} (ho0 : zk o0 = (6, 12)) (ho1 : zk o1 = (6, 12)) (hf : zf_X7_copyFrom o0 o1 M = some M') : ZCt l D ad cA yX7_copyFrom cX7_copyFrom 2 (none) 1 [.ref (ad o0), .ref (ad o1)] M none M' := by
  refine zct (by decide +kernel) (Nat.le_of_ble_eq_true rfl) (lv := [(0, .ref (ad o0)), (1, .ref (ad o1))]) rfl (fun E hl hD had hcA hN hC hR => ?_)
  subst hl; subst hD; subst had; subst hcA
  unfold zf_X7_copyFrom at hf
  refine zw_aload_n hC dX7_copyFrom_0 rfl 0 rfl ?_
  refine zw_aload_n hC dX7_copyFrom_1 rfl 1 rfl ?_
  refine zw_geti hC zF_Standing_today ho1 dX7_copyFrom_2 kw_1_132 ?_
  refine zw_puti hC hf zF_Standing_today ho0 dX7_copyFrom_5 kw_1_132 (fun M33 hf => ?_)
  refine zw_aload_n hC dX7_copyFrom_8 rfl 0 rfl ?_
  refine zw_aload_n hC dX7_copyFrom_9 rfl 1 rfl ?_
  refine zw_geti hC zF_Standing_order ho1 dX7_copyFrom_10 kw_1_134 ?_
  refine zw_puti hC hf zF_Standing_order ho0 dX7_copyFrom_13 kw_1_134 (fun M34 hf => ?_)
  refine zw_aload_n hC dX7_copyFrom_16 rfl 0 rfl ?_
  refine zw_aload_n hC dX7_copyFrom_17 rfl 1 rfl ?_
  refine zw_geti hC zF_Standing_sentDay ho1 dX7_copyFrom_18 kw_1_137 ?_
  refine zw_puti hC hf zF_Standing_sentDay ho0 dX7_copyFrom_21 kw_1_137 (fun M35 hf => ?_)
  refine zw_aload_n hC dX7_copyFrom_24 rfl 0 rfl ?_
  refine zw_aload_n hC dX7_copyFrom_25 rfl 1 rfl ?_
  refine zw_geti hC zF_Standing_costs ho1 dX7_copyFrom_26 kw_1_140 ?_
  refine zw_puti hC hf zF_Standing_costs ho0 dX7_copyFrom_29 kw_1_140 (fun M36 hf => ?_)
  refine zw_aload_n hC dX7_copyFrom_32 rfl 0 rfl ?_
  refine zw_aload_n hC dX7_copyFrom_33 rfl 1 rfl ?_
  refine zw_geti hC zF_Standing_out ho1 dX7_copyFrom_34 kw_1_143 ?_
  refine zw_puti hC hf zF_Standing_out ho0 dX7_copyFrom_37 kw_1_143 (fun M37 hf => ?_)
  refine zw_aload_n hC dX7_copyFrom_40 rfl 0 rfl ?_
  refine zw_aload_n hC dX7_copyFrom_41 rfl 1 rfl ?_
  refine zw_geti hC zF_Standing_filed ho1 dX7_copyFrom_42 kw_1_147 ?_
  refine zw_puti hC hf zF_Standing_filed ho0 dX7_copyFrom_45 kw_1_147 (fun M38 hf => ?_)
  refine zw_aload_n hC dX7_copyFrom_48 rfl 0 rfl ?_
  refine zw_aload_n hC dX7_copyFrom_49 rfl 1 rfl ?_
  refine zw_geti hC zF_Standing_lazy ho1 dX7_copyFrom_50 kw_1_151 ?_
  refine zw_puti hC hf zF_Standing_lazy ho0 dX7_copyFrom_53 kw_1_151 (fun M39 hf => ?_)
  refine zw_aload_n hC dX7_copyFrom_56 rfl 0 rfl ?_
  refine zw_aload_n hC dX7_copyFrom_57 rfl 1 rfl ?_
  refine zw_geti hC zF_Standing_fund ho1 dX7_copyFrom_58 kw_1_156 ?_
  refine zw_puti hC hf zF_Standing_fund ho0 dX7_copyFrom_61 kw_1_156 (fun M40 hf => ?_)
  refine zw_aload_n hC dX7_copyFrom_64 rfl 0 rfl ?_
  refine zw_aload_n hC dX7_copyFrom_65 rfl 1 rfl ?_
  refine zw_geti hC zF_Standing_rule ho1 dX7_copyFrom_66 kw_1_159 ?_
  refine zw_puti hC hf zF_Standing_rule ho0 dX7_copyFrom_69 kw_1_159 (fun M41 hf => ?_)
  refine zw_aload_n hC dX7_copyFrom_72 rfl 0 rfl ?_
  refine zw_aload_n hC dX7_copyFrom_73 rfl 1 rfl ?_
  refine zw_geti hC zF_Standing_periodFrom ho1 dX7_copyFrom_74 kw_1_162 ?_
  refine zw_puti hC hf zF_Standing_periodFrom ho0 dX7_copyFrom_77 kw_1_162 (fun M42 hf => ?_)
  refine zw_aload_n hC dX7_copyFrom_80 rfl 0 rfl ?_
  refine zw_aload_n hC dX7_copyFrom_81 rfl 1 rfl ?_
  refine zw_geti hC zF_Standing_periodTo ho1 dX7_copyFrom_82 kw_1_165 ?_
  refine zw_puti hC hf zF_Standing_periodTo ho0 dX7_copyFrom_85 kw_1_165 (fun M43 hf => ?_)
  refine zw_aload_n hC dX7_copyFrom_88 rfl 1 rfl ?_
  refine zw_getr (k' := (o1 + 1)) hC zF_Standing_foes ho1 rfl dX7_copyFrom_89 kw_1_168 ?_
  refine zw_iconst hC (v := (0 : Int32)) dX7_copyFrom_92 (by decide) ?_
  refine zw_aload_n hC dX7_copyFrom_93 rfl 0 rfl ?_
  refine zw_getr (k' := (o0 + 1)) hC zF_Standing_foes ho0 rfl dX7_copyFrom_94 kw_1_168 ?_
  refine zw_iconst hC (v := (0 : Int32)) dX7_copyFrom_97 (by decide) ?_
  refine zw_bipush hC (v := (10 : Int32)) dX7_copyFrom_98 (by decide) ?_
  refine zw_copy hC (by decide) (Nat.le_of_ble_eq_true rfl) hf (zko_6_1 ho1) (zko_6_1 ho0) dX7_copyFrom_100 kw_3_138 kw_3_140 kw_3_139 kw_1_17 (fun M44 hf => ?_)
  have h1 := Option.some.inj hf
  subst h1
  exact zw_vret hC hR dX7_copyFrom_103
/-! Standing.isSent()Z -/
theorem dX7_isSent_0 : decode cX7_isSent 0 = .ok (.aload_n 0, 1) := by decide +kernel
theorem dX7_isSent_1 : decode cX7_isSent 1 = .ok (.getfield 9, 3) := by decide +kernel
theorem dX7_isSent_4 : decode cX7_isSent 4 = .ok (.bipush (-2), 2) := by decide +kernel
theorem dX7_isSent_6 : decode cX7_isSent 6 = .ok (.if_icmp .eq 7, 3) := by decide +kernel
theorem dX7_isSent_9 : decode cX7_isSent 9 = .ok (.iconst 1, 1) := by decide +kernel
theorem dX7_isSent_10 : decode cX7_isSent 10 = .ok (.goto 4, 3) := by decide +kernel
theorem dX7_isSent_13 : decode cX7_isSent 13 = .ok (.iconst 0, 1) := by decide +kernel
theorem dX7_isSent_14 : decode cX7_isSent 14 = .ok (.ireturn, 1) := by decide +kernel
theorem zm_X7_isSent : ZMv "ClassOfMany$Standing" yX7_isSent cX7_isSent 1 (some .boolean) 0 := ⟨kw_3_181, kw_3_179, kw_3_180, kw_1_3, by decide +kernel, by decide⟩
def zf_X7_isSent_j14 (v21 : Int32) : Option (Int32) :=
  zbz v21 (some v21)
def zf_X7_isSent (o0 : Nat) (M : ZMem) : Option (Int32) :=
  (if (M o0 2) = (-2 : Int32) then (zf_X7_isSent_j14 (0 : Int32)) else (zf_X7_isSent_j14 (1 : Int32)))
set_option maxHeartbeats 4000000 in
set_option maxRecDepth 100000 in
theorem zc_X7_isSent {l : Launch} {D : va_G} {ad : Nat → Nat} {cA : Nat → ClassId} {o0 : Nat} {M : ZMem} {r : Int32} (ho0 : zk o0 = (6, 12)) (hf : zf_X7_isSent o0 M = some r) : ZCt l D ad cA yX7_isSent cX7_isSent 1 (some .boolean) 1 [.ref (ad o0)] M (some (.int r)) M := by
  refine zct (by decide +kernel) (Nat.le_of_ble_eq_true rfl) (lv := [(0, .ref (ad o0))]) rfl (fun E hl hD had hcA hN hC hR => ?_)
  subst hl; subst hD; subst had; subst hcA
  unfold zf_X7_isSent at hf
  refine zw_aload_n hC dX7_isSent_0 rfl 0 rfl ?_
  refine zw_geti hC zF_Standing_sentDay ho0 dX7_isSent_1 kw_1_137 ?_
  refine zw_bipush hC (v := (-2 : Int32)) dX7_isSent_4 (by decide) ?_
  have hj14 : ∀ (v21 : Int32), zf_X7_isSent_j14 v21 = some r → ZW E 14 [] [.int v21] M := by
    intro v21 hf
    unfold zf_X7_isSent_j14 at hf
    obtain ⟨hz, hf⟩ := zbz_some hf
    have h1 := Option.some.inj hf
    subst h1
    exact zw_zret hC hR hz dX7_isSent_14
  refine zw_icmp_eq hC 13 hf dX7_isSent_6 (by decide) (fun hf => ?_) (fun hf => ?_)
  · refine zw_iconst hC (v := (0 : Int32)) dX7_isSent_13 (by decide) ?_
    exact zw_sub [] rfl (hj14 (0 : Int32) hf)
  · refine zw_iconst hC (v := (1 : Int32)) dX7_isSent_9 (by decide) ?_
    refine zw_goto hC 14 dX7_isSent_10 (by decide) ?_
    exact zw_sub [] rfl (hj14 (1 : Int32) hf)
/-! Standing.toggleConflict(II)V -/
theorem dX7_toggleConflict_0 : decode cX7_toggleConflict 0 = .ok (.aload_n 0, 1) := by decide +kernel
theorem dX7_toggleConflict_1 : decode cX7_toggleConflict 1 = .ok (.getfield 18, 3) := by decide +kernel
theorem dX7_toggleConflict_4 : decode cX7_toggleConflict 4 = .ok (.iload_n 1, 1) := by decide +kernel
theorem dX7_toggleConflict_5 : decode cX7_toggleConflict 5 = .ok (.dup2, 1) := by decide +kernel
theorem dX7_toggleConflict_6 : decode cX7_toggleConflict 6 = .ok (.iaload, 1) := by decide +kernel
theorem dX7_toggleConflict_7 : decode cX7_toggleConflict 7 = .ok (.iconst 1, 1) := by decide +kernel
theorem dX7_toggleConflict_8 : decode cX7_toggleConflict 8 = .ok (.iload_n 2, 1) := by decide +kernel
theorem dX7_toggleConflict_9 : decode cX7_toggleConflict 9 = .ok (.ishl, 1) := by decide +kernel
theorem dX7_toggleConflict_10 : decode cX7_toggleConflict 10 = .ok (.ixor, 1) := by decide +kernel
theorem dX7_toggleConflict_11 : decode cX7_toggleConflict 11 = .ok (.iastore, 1) := by decide +kernel
theorem dX7_toggleConflict_12 : decode cX7_toggleConflict 12 = .ok (.aload_n 0, 1) := by decide +kernel
theorem dX7_toggleConflict_13 : decode cX7_toggleConflict 13 = .ok (.getfield 18, 3) := by decide +kernel
theorem dX7_toggleConflict_16 : decode cX7_toggleConflict 16 = .ok (.iload_n 2, 1) := by decide +kernel
theorem dX7_toggleConflict_17 : decode cX7_toggleConflict 17 = .ok (.dup2, 1) := by decide +kernel
theorem dX7_toggleConflict_18 : decode cX7_toggleConflict 18 = .ok (.iaload, 1) := by decide +kernel
theorem dX7_toggleConflict_19 : decode cX7_toggleConflict 19 = .ok (.iconst 1, 1) := by decide +kernel
theorem dX7_toggleConflict_20 : decode cX7_toggleConflict 20 = .ok (.iload_n 1, 1) := by decide +kernel
theorem dX7_toggleConflict_21 : decode cX7_toggleConflict 21 = .ok (.ishl, 1) := by decide +kernel
theorem dX7_toggleConflict_22 : decode cX7_toggleConflict 22 = .ok (.ixor, 1) := by decide +kernel
theorem dX7_toggleConflict_23 : decode cX7_toggleConflict 23 = .ok (.iastore, 1) := by decide +kernel
theorem dX7_toggleConflict_24 : decode cX7_toggleConflict 24 = .ok (.return_, 1) := by decide +kernel
theorem zm_X7_toggleConflict : ZMv "ClassOfMany$Standing" yX7_toggleConflict cX7_toggleConflict 3 (none) 2 := ⟨kw_3_126, kw_3_124, kw_3_125, kw_1_3, by decide +kernel, by decide⟩
def zf_X7_toggleConflict (o0 : Nat) (a1 : Int32) (a2 : Int32) (M : ZMem) : Option (ZMem) :=
  zrd M (o0 + 1) 10 a1 (fun v25 => zst M (o0 + 1) 10 a1 (v25 ^^^ ((1 : Int32) <<< (a2 &&& 31))) (fun M26 => zrd M26 (o0 + 1) 10 a2 (fun v27 => zst M26 (o0 + 1) 10 a2 (v27 ^^^ ((1 : Int32) <<< (a1 &&& 31))) (fun M28 => some M28))))
set_option maxHeartbeats 4000000 in
set_option maxRecDepth 100000 in
theorem zc_X7_toggleConflict {l : Launch} {D : va_G} {ad : Nat → Nat} {cA : Nat → ClassId} {o0 : Nat} {a1 : Int32} {a2 : Int32} {M : ZMem} {M' : ZMem} (ho0 : zk o0 = (6, 12)) (hf : zf_X7_toggleConflict o0 a1 a2 M = some M') : ZCt l D ad cA yX7_toggleConflict cX7_toggleConflict 3 (none) 1 [.ref (ad o0), .int a1, .int a2] M none M' := by
  refine zct (by decide +kernel) (Nat.le_of_ble_eq_true rfl) (lv := [(0, .ref (ad o0)), (1, .int a1), (2, .int a2)]) rfl (fun E hl hD had hcA hN hC hR => ?_)
  subst hl; subst hD; subst had; subst hcA
  unfold zf_X7_toggleConflict at hf
  refine zw_aload_n hC dX7_toggleConflict_0 rfl 0 rfl ?_
  refine zw_getr (k' := (o0 + 1)) hC zF_Standing_foes ho0 rfl dX7_toggleConflict_1 kw_1_168 ?_
  refine zw_iload_n hC dX7_toggleConflict_4 rfl 1 rfl ?_
  refine zw_dup2 hC dX7_toggleConflict_5 rfl rfl ?_
  refine zw_iald hC hf (zko_6_1 ho0) dX7_toggleConflict_6 (fun v25 hf => ?_)
  refine zw_iconst hC (v := (1 : Int32)) dX7_toggleConflict_7 (by decide) ?_
  refine zw_iload_n hC dX7_toggleConflict_8 rfl 2 rfl ?_
  refine zw_ishl hC dX7_toggleConflict_9 ?_
  refine zw_ixor hC dX7_toggleConflict_10 ?_
  refine zw_iast hC hf (zko_6_1 ho0) dX7_toggleConflict_11 (fun M26 hf => ?_)
  refine zw_aload_n hC dX7_toggleConflict_12 rfl 0 rfl ?_
  refine zw_getr (k' := (o0 + 1)) hC zF_Standing_foes ho0 rfl dX7_toggleConflict_13 kw_1_168 ?_
  refine zw_iload_n hC dX7_toggleConflict_16 rfl 2 rfl ?_
  refine zw_dup2 hC dX7_toggleConflict_17 rfl rfl ?_
  refine zw_iald hC hf (zko_6_1 ho0) dX7_toggleConflict_18 (fun v27 hf => ?_)
  refine zw_iconst hC (v := (1 : Int32)) dX7_toggleConflict_19 (by decide) ?_
  refine zw_iload_n hC dX7_toggleConflict_20 rfl 1 rfl ?_
  refine zw_ishl hC dX7_toggleConflict_21 ?_
  refine zw_ixor hC dX7_toggleConflict_22 ?_
  refine zw_iast hC hf (zko_6_1 ho0) dX7_toggleConflict_23 (fun M28 hf => ?_)
  have h1 := Option.some.inj hf
  subst h1
  exact zw_vret hC hR dX7_toggleConflict_24
/-! Standing.claimOf(LClassOfMany$Told;I)I -/
theorem dX7_claimOf_0 : decode cX7_claimOf 0 = .ok (.aload_n 0, 1) := by decide +kernel
theorem dX7_claimOf_1 : decode cX7_claimOf 1 = .ok (.getfield 46, 3) := by decide +kernel
theorem dX7_claimOf_4 : decode cX7_claimOf 4 = .ok (.aload_n 1, 1) := by decide +kernel
theorem dX7_claimOf_5 : decode cX7_claimOf 5 = .ok (.getfield 61, 3) := by decide +kernel
theorem dX7_claimOf_8 : decode cX7_claimOf 8 = .ok (.iload_n 2, 1) := by decide +kernel
theorem dX7_claimOf_9 : decode cX7_claimOf 9 = .ok (.iaload, 1) := by decide +kernel
theorem dX7_claimOf_10 : decode cX7_claimOf 10 = .ok (.invokestatic 66, 3) := by decide +kernel
theorem dX7_claimOf_13 : decode cX7_claimOf 13 = .ok (.istore_n 3, 1) := by decide +kernel
theorem dX7_claimOf_14 : decode cX7_claimOf 14 = .ok (.aload_n 0, 1) := by decide +kernel
theorem dX7_claimOf_15 : decode cX7_claimOf 15 = .ok (.getfield 15, 3) := by decide +kernel
theorem dX7_claimOf_18 : decode cX7_claimOf 18 = .ok (.aload_n 1, 1) := by decide +kernel
theorem dX7_claimOf_19 : decode cX7_claimOf 19 = .ok (.getfield 72, 3) := by decide +kernel
theorem dX7_claimOf_22 : decode cX7_claimOf 22 = .ok (.iload_n 2, 1) := by decide +kernel
theorem dX7_claimOf_23 : decode cX7_claimOf 23 = .ok (.iaload, 1) := by decide +kernel
theorem dX7_claimOf_24 : decode cX7_claimOf 24 = .ok (.invokestatic 75, 3) := by decide +kernel
theorem dX7_claimOf_27 : decode cX7_claimOf 27 = .ok (.istore 4, 2) := by decide +kernel
theorem dX7_claimOf_29 : decode cX7_claimOf 29 = .ok (.aload_n 1, 1) := by decide +kernel
theorem dX7_claimOf_30 : decode cX7_claimOf 30 = .ok (.getfield 78, 3) := by decide +kernel
theorem dX7_claimOf_33 : decode cX7_claimOf 33 = .ok (.iload_n 2, 1) := by decide +kernel
theorem dX7_claimOf_34 : decode cX7_claimOf 34 = .ok (.iaload, 1) := by decide +kernel
theorem dX7_claimOf_35 : decode cX7_claimOf 35 = .ok (.iconst 0, 1) := by decide +kernel
theorem dX7_claimOf_36 : decode cX7_claimOf 36 = .ok (.iload 4, 2) := by decide +kernel
theorem dX7_claimOf_38 : decode cX7_claimOf 38 = .ok (.iload_n 3, 1) := by decide +kernel
theorem dX7_claimOf_39 : decode cX7_claimOf 39 = .ok (.isub, 1) := by decide +kernel
theorem dX7_claimOf_40 : decode cX7_claimOf 40 = .ok (.iconst 1, 1) := by decide +kernel
theorem dX7_claimOf_41 : decode cX7_claimOf 41 = .ok (.iadd, 1) := by decide +kernel
theorem dX7_claimOf_42 : decode cX7_claimOf 42 = .ok (.invokestatic 66, 3) := by decide +kernel
theorem dX7_claimOf_45 : decode cX7_claimOf 45 = .ok (.imul, 1) := by decide +kernel
theorem dX7_claimOf_46 : decode cX7_claimOf 46 = .ok (.ireturn, 1) := by decide +kernel
theorem zm_X7_claimOf : ZMv "ClassOfMany$Standing" yX7_claimOf cX7_claimOf 5 (some .int) 2 := ⟨kw_4_17, kw_4_15, kw_4_16, kw_1_3, by decide +kernel, by decide⟩
def zf_X7_claimOf (o0 : Nat) (o1 : Nat) (a2 : Int32) (M : ZMem) : Option (Int32) :=
  zrd M (o1 + 1) 10 a2 (fun v24 => zrd M (o1 + 2) 10 a2 (fun v25 => zrd M (o1 + 3) 10 a2 (fun v26 => some (v26 * (zmax (0 : Int32) (((zmin (M o0 10) v25) - (zmax (M o0 9) v24)) + (1 : Int32)))))))
set_option maxHeartbeats 4000000 in
set_option maxRecDepth 100000 in
theorem zc_X7_claimOf {l : Launch} {D : va_G} {ad : Nat → Nat} {cA : Nat → ClassId} {o0 : Nat} {o1 : Nat} {a2 : Int32} {M : ZMem} {r : Int32} (ho0 : zk o0 = (6, 12)) (ho1 : zk o1 = (7, 17)) (hf : zf_X7_claimOf o0 o1 a2 M = some r) : ZCt l D ad cA yX7_claimOf cX7_claimOf 5 (some .int) 1 [.ref (ad o0), .ref (ad o1), .int a2] M (some (.int r)) M := by
  refine zct (by decide +kernel) (Nat.le_of_ble_eq_true rfl) (lv := [(0, .ref (ad o0)), (1, .ref (ad o1)), (2, .int a2)]) rfl (fun E hl hD had hcA hN hC hR => ?_)
  subst hl; subst hD; subst had; subst hcA
  unfold zf_X7_claimOf at hf
  refine zw_aload_n hC dX7_claimOf_0 rfl 0 rfl ?_
  refine zw_geti hC zF_Standing_periodFrom ho0 dX7_claimOf_1 kw_1_162 ?_
  refine zw_aload_n hC dX7_claimOf_4 rfl 1 rfl ?_
  refine zw_getr (k' := (o1 + 1)) hC zF_Told_from ho1 rfl dX7_claimOf_5 kw_1_46 ?_
  refine zw_iload_n hC dX7_claimOf_8 rfl 2 rfl ?_
  refine zw_iald hC hf (zko_7_1 ho1) dX7_claimOf_9 (fun v24 hf => ?_)
  refine zw_mmax hC (by decide) (Nat.le_of_ble_eq_true rfl) dX7_claimOf_10 kw_4_18 kw_4_19 kw_1_18 kw_4_20 ?_
  refine zw_istore_n hC (lv' := [(3, .int (zmax (M o0 9) v24)), (0, .ref (zad E o0)), (1, .ref (zad E o1)), (2, .int a2)]) dX7_claimOf_13 rfl hN (by decide) rfl ?_
  refine zw_aload_n hC dX7_claimOf_14 rfl 1 rfl ?_
  refine zw_geti hC zF_Standing_periodTo ho0 dX7_claimOf_15 kw_1_165 ?_
  refine zw_aload_n hC dX7_claimOf_18 rfl 2 rfl ?_
  refine zw_getr (k' := (o1 + 2)) hC zF_Told_to ho1 rfl dX7_claimOf_19 kw_1_50 ?_
  refine zw_iload_n hC dX7_claimOf_22 rfl 3 rfl ?_
  refine zw_iald hC hf (zko_7_2 ho1) dX7_claimOf_23 (fun v25 hf => ?_)
  refine zw_mmin hC (by decide) (Nat.le_of_ble_eq_true rfl) dX7_claimOf_24 kw_4_21 kw_3_163 kw_1_18 kw_3_164 ?_
  refine zw_istore hC (lv' := [(4, .int (zmin (M o0 10) v25)), (3, .int (zmax (M o0 9) v24)), (0, .ref (zad E o0)), (1, .ref (zad E o1)), (2, .int a2)]) dX7_claimOf_27 hN (by decide) rfl ?_
  refine zw_aload_n hC dX7_claimOf_29 rfl 3 rfl ?_
  refine zw_getr (k' := (o1 + 3)) hC zF_Told_rate ho1 rfl dX7_claimOf_30 kw_1_54 ?_
  refine zw_iload_n hC dX7_claimOf_33 rfl 4 rfl ?_
  refine zw_iald hC hf (zko_7_3 ho1) dX7_claimOf_34 (fun v26 hf => ?_)
  refine zw_iconst hC (v := (0 : Int32)) dX7_claimOf_35 (by decide) ?_
  refine zw_iload hC dX7_claimOf_36 0 rfl ?_
  refine zw_iload_n hC dX7_claimOf_38 rfl 1 rfl ?_
  refine zw_isub hC dX7_claimOf_39 ?_
  refine zw_iconst hC (v := (1 : Int32)) dX7_claimOf_40 (by decide) ?_
  refine zw_iadd hC dX7_claimOf_41 ?_
  refine zw_mmax hC (by decide) (Nat.le_of_ble_eq_true rfl) dX7_claimOf_42 kw_4_18 kw_4_19 kw_1_18 kw_4_20 ?_
  refine zw_imul hC dX7_claimOf_45 ?_
  have h1 := Option.some.inj hf
  subst h1
  exact zw_iret hC hR dX7_claimOf_46
/-! Journal.keep(LClassOfMany$Standing;)V -/
theorem dX0_keep_0 : decode cX0_keep 0 = .ok (.aload_n 0, 1) := by decide +kernel
theorem dX0_keep_1 : decode cX0_keep 1 = .ok (.getfield 11, 3) := by decide +kernel
theorem dX0_keep_4 : decode cX0_keep 4 = .ok (.aload_n 0, 1) := by decide +kernel
theorem dX0_keep_5 : decode cX0_keep 5 = .ok (.getfield 18, 3) := by decide +kernel
theorem dX0_keep_8 : decode cX0_keep 8 = .ok (.aaload, 1) := by decide +kernel
theorem dX0_keep_9 : decode cX0_keep 9 = .ok (.aload_n 1, 1) := by decide +kernel
theorem dX0_keep_10 : decode cX0_keep 10 = .ok (.invokevirtual 22, 3) := by decide +kernel
theorem dX0_keep_13 : decode cX0_keep 13 = .ok (.aload_n 0, 1) := by decide +kernel
theorem dX0_keep_14 : decode cX0_keep 14 = .ok (.aload_n 0, 1) := by decide +kernel
theorem dX0_keep_15 : decode cX0_keep 15 = .ok (.getfield 18, 3) := by decide +kernel
theorem dX0_keep_18 : decode cX0_keep 18 = .ok (.iconst 1, 1) := by decide +kernel
theorem dX0_keep_19 : decode cX0_keep 19 = .ok (.iadd, 1) := by decide +kernel
theorem dX0_keep_20 : decode cX0_keep 20 = .ok (.bipush 12, 2) := by decide +kernel
theorem dX0_keep_22 : decode cX0_keep 22 = .ok (.irem, 1) := by decide +kernel
theorem dX0_keep_23 : decode cX0_keep 23 = .ok (.putfield 18, 3) := by decide +kernel
theorem dX0_keep_26 : decode cX0_keep 26 = .ok (.aload_n 0, 1) := by decide +kernel
theorem dX0_keep_27 : decode cX0_keep 27 = .ok (.aload_n 0, 1) := by decide +kernel
theorem dX0_keep_28 : decode cX0_keep 28 = .ok (.getfield 26, 3) := by decide +kernel
theorem dX0_keep_31 : decode cX0_keep 31 = .ok (.iconst 1, 1) := by decide +kernel
theorem dX0_keep_32 : decode cX0_keep 32 = .ok (.iadd, 1) := by decide +kernel
theorem dX0_keep_33 : decode cX0_keep 33 = .ok (.bipush 12, 2) := by decide +kernel
theorem dX0_keep_35 : decode cX0_keep 35 = .ok (.invokestatic 29, 3) := by decide +kernel
theorem dX0_keep_38 : decode cX0_keep 38 = .ok (.putfield 26, 3) := by decide +kernel
theorem dX0_keep_41 : decode cX0_keep 41 = .ok (.return_, 1) := by decide +kernel
theorem zm_X0_keep : ZMv "ClassOfMany$Journal" yX0_keep cX0_keep 2 (none) 1 := ⟨kw_3_160, kw_3_158, kw_3_159, kw_1_4, by decide +kernel, by decide⟩
def zf_X0_keep (o1 : Nat) (M : ZMem) : Option (ZMem) :=
  zkp 17 12 (M 16 1) (fun o25 => zb1 (zf_X7_copyFrom o25 o1 M) (fun M26 => zput M26 16 1 (((M26 16 1) + (1 : Int32)) - ((M26 16 1) + (1 : Int32)) / (12 : Int32) * (12 : Int32)) (fun M27 => zput M27 16 2 (zmin ((M27 16 2) + (1 : Int32)) (12 : Int32)) (fun M28 => some M28))))
set_option maxHeartbeats 4000000 in
set_option maxRecDepth 100000 in
theorem zc_X0_keep {l : Launch} {D : va_G} {ad : Nat → Nat} {cA : Nat → ClassId} {o1 : Nat} {M : ZMem} {M' : ZMem} (ho1 : zk o1 = (6, 12)) (hf : zf_X0_keep o1 M = some M') : ZCt l D ad cA yX0_keep cX0_keep 2 (none) 2 [.ref (ad 16), .ref (ad o1)] M none M' := by
  refine zct (by decide +kernel) (Nat.le_of_ble_eq_true rfl) (lv := [(0, .ref (ad 16)), (1, .ref (ad o1))]) rfl (fun E hl hD had hcA hN hC hR => ?_)
  subst hl; subst hD; subst had; subst hcA
  unfold zf_X0_keep at hf
  refine zw_aload_n hC dX0_keep_0 rfl 0 rfl ?_
  refine zw_getr (k' := 17) hC zF_Journal_kept zk_16 rfl dX0_keep_1 kw_1_206 ?_
  refine zw_aload_n hC dX0_keep_4 rfl 0 rfl ?_
  refine zw_geti hC zF_Journal_next zk_16 dX0_keep_5 kw_1_207 ?_
  refine zw_aald hC hf dX0_keep_8 (fun o25 ho25 hf => ?_)
  refine zw_aload_n hC dX0_keep_9 rfl 1 rfl ?_
  obtain ⟨M26, hcM26, hf⟩ := zb1_some hf
  refine zw_cV hC [.ref (zad E o1)] [] (st1 := []) zm_X7_copyFrom (zc_X7_copyFrom ho25 ho1 hcM26) ho25 rfl kw_3_161 dX0_keep_10 rfl (by decide) (Nat.le_of_ble_eq_true rfl) rfl rfl ?_
  refine zw_aload_n hC dX0_keep_13 rfl 0 rfl ?_
  refine zw_aload_n hC dX0_keep_14 rfl 0 rfl ?_
  refine zw_geti hC zF_Journal_next zk_16 dX0_keep_15 kw_1_207 ?_
  refine zw_iconst hC (v := (1 : Int32)) dX0_keep_18 (by decide) ?_
  refine zw_iadd hC dX0_keep_19 ?_
  refine zw_bipush hC (v := (12 : Int32)) dX0_keep_20 (by decide) ?_
  refine zw_iremc hC dX0_keep_22 (by decide) ?_
  refine zw_puti hC hf zF_Journal_next zk_16 dX0_keep_23 kw_1_207 (fun M27 hf => ?_)
  refine zw_aload_n hC dX0_keep_26 rfl 0 rfl ?_
  refine zw_aload_n hC dX0_keep_27 rfl 0 rfl ?_
  refine zw_geti hC zF_Journal_size zk_16 dX0_keep_28 kw_1_208 ?_
  refine zw_iconst hC (v := (1 : Int32)) dX0_keep_31 (by decide) ?_
  refine zw_iadd hC dX0_keep_32 ?_
  refine zw_bipush hC (v := (12 : Int32)) dX0_keep_33 (by decide) ?_
  refine zw_mmin hC (by decide) (Nat.le_of_ble_eq_true rfl) dX0_keep_35 kw_3_162 kw_3_163 kw_1_18 kw_3_164 ?_
  refine zw_puti hC hf zF_Journal_size zk_16 dX0_keep_38 kw_1_208 (fun M28 hf => ?_)
  have h1 := Option.some.inj hf
  subst h1
  exact zw_vret hC hR dX0_keep_41
/-! Journal.restore(LClassOfMany$Standing;)V -/
theorem dX0_restore_0 : decode cX0_restore 0 = .ok (.aload_n 0, 1) := by decide +kernel
theorem dX0_restore_1 : decode cX0_restore 1 = .ok (.getfield 26, 3) := by decide +kernel
theorem dX0_restore_4 : decode cX0_restore 4 = .ok (.ifCond .le 42, 3) := by decide +kernel
theorem dX0_restore_7 : decode cX0_restore 7 = .ok (.aload_n 0, 1) := by decide +kernel
theorem dX0_restore_8 : decode cX0_restore 8 = .ok (.aload_n 0, 1) := by decide +kernel
theorem dX0_restore_9 : decode cX0_restore 9 = .ok (.getfield 18, 3) := by decide +kernel
theorem dX0_restore_12 : decode cX0_restore 12 = .ok (.bipush 12, 2) := by decide +kernel
theorem dX0_restore_14 : decode cX0_restore 14 = .ok (.iadd, 1) := by decide +kernel
theorem dX0_restore_15 : decode cX0_restore 15 = .ok (.iconst 1, 1) := by decide +kernel
theorem dX0_restore_16 : decode cX0_restore 16 = .ok (.isub, 1) := by decide +kernel
theorem dX0_restore_17 : decode cX0_restore 17 = .ok (.bipush 12, 2) := by decide +kernel
theorem dX0_restore_19 : decode cX0_restore 19 = .ok (.irem, 1) := by decide +kernel
theorem dX0_restore_20 : decode cX0_restore 20 = .ok (.putfield 18, 3) := by decide +kernel
theorem dX0_restore_23 : decode cX0_restore 23 = .ok (.aload_n 0, 1) := by decide +kernel
theorem dX0_restore_24 : decode cX0_restore 24 = .ok (.dup, 1) := by decide +kernel
theorem dX0_restore_25 : decode cX0_restore 25 = .ok (.getfield 26, 3) := by decide +kernel
theorem dX0_restore_28 : decode cX0_restore 28 = .ok (.iconst 1, 1) := by decide +kernel
theorem dX0_restore_29 : decode cX0_restore 29 = .ok (.isub, 1) := by decide +kernel
theorem dX0_restore_30 : decode cX0_restore 30 = .ok (.putfield 26, 3) := by decide +kernel
theorem dX0_restore_33 : decode cX0_restore 33 = .ok (.aload_n 1, 1) := by decide +kernel
theorem dX0_restore_34 : decode cX0_restore 34 = .ok (.aload_n 0, 1) := by decide +kernel
theorem dX0_restore_35 : decode cX0_restore 35 = .ok (.getfield 11, 3) := by decide +kernel
theorem dX0_restore_38 : decode cX0_restore 38 = .ok (.aload_n 0, 1) := by decide +kernel
theorem dX0_restore_39 : decode cX0_restore 39 = .ok (.getfield 18, 3) := by decide +kernel
theorem dX0_restore_42 : decode cX0_restore 42 = .ok (.aaload, 1) := by decide +kernel
theorem dX0_restore_43 : decode cX0_restore 43 = .ok (.invokevirtual 22, 3) := by decide +kernel
theorem dX0_restore_46 : decode cX0_restore 46 = .ok (.return_, 1) := by decide +kernel
theorem zm_X0_restore : ZMv "ClassOfMany$Journal" yX0_restore cX0_restore 2 (none) 1 := ⟨kw_4_38, kw_4_36, kw_4_37, kw_1_4, by decide +kernel, by decide⟩
def zf_X0_restore_j46 (M25 : ZMem) : Option (ZMem) :=
  some M25
def zf_X0_restore (o1 : Nat) (M : ZMem) : Option (ZMem) :=
  (if (M 16 2) ≤ 0 then (zf_X0_restore_j46 M) else zput M 16 1 ((((M 16 1) + (12 : Int32)) - (1 : Int32)) - (((M 16 1) + (12 : Int32)) - (1 : Int32)) / (12 : Int32) * (12 : Int32)) (fun M26 => zput M26 16 2 ((M26 16 2) - (1 : Int32)) (fun M27 => zkp 17 12 (M27 16 1) (fun o28 => zb1 (zf_X7_copyFrom o1 o28 M27) (fun M29 => (zf_X0_restore_j46 M29))))))
set_option maxHeartbeats 4000000 in
set_option maxRecDepth 100000 in
theorem zc_X0_restore {l : Launch} {D : va_G} {ad : Nat → Nat} {cA : Nat → ClassId} {o1 : Nat} {M : ZMem} {M' : ZMem} (ho1 : zk o1 = (6, 12)) (hf : zf_X0_restore o1 M = some M') : ZCt l D ad cA yX0_restore cX0_restore 2 (none) 2 [.ref (ad 16), .ref (ad o1)] M none M' := by
  refine zct (by decide +kernel) (Nat.le_of_ble_eq_true rfl) (lv := [(0, .ref (ad 16)), (1, .ref (ad o1))]) rfl (fun E hl hD had hcA hN hC hR => ?_)
  subst hl; subst hD; subst had; subst hcA
  unfold zf_X0_restore at hf
  refine zw_aload_n hC dX0_restore_0 rfl 0 rfl ?_
  refine zw_geti hC zF_Journal_size zk_16 dX0_restore_1 kw_1_208 ?_
  have hj46 : ∀ (M25 : ZMem), zf_X0_restore_j46 M25 = some M' → ZW E 46 [] [] M25 := by
    intro M25 hf
    unfold zf_X0_restore_j46 at hf
    have h1 := Option.some.inj hf
    subst h1
    exact zw_vret hC hR dX0_restore_46
  refine zw_if_le hC 46 hf dX0_restore_4 (by decide) (fun hf => ?_) (fun hf => ?_)
  · exact zw_sub [] rfl (hj46 M hf)
  · refine zw_aload_n hC dX0_restore_7 rfl 0 rfl ?_
    refine zw_aload_n hC dX0_restore_8 rfl 0 rfl ?_
    refine zw_geti hC zF_Journal_next zk_16 dX0_restore_9 kw_1_207 ?_
    refine zw_bipush hC (v := (12 : Int32)) dX0_restore_12 (by decide) ?_
    refine zw_iadd hC dX0_restore_14 ?_
    refine zw_iconst hC (v := (1 : Int32)) dX0_restore_15 (by decide) ?_
    refine zw_isub hC dX0_restore_16 ?_
    refine zw_bipush hC (v := (12 : Int32)) dX0_restore_17 (by decide) ?_
    refine zw_iremc hC dX0_restore_19 (by decide) ?_
    refine zw_puti hC hf zF_Journal_next zk_16 dX0_restore_20 kw_1_207 (fun M26 hf => ?_)
    refine zw_aload_n hC dX0_restore_23 rfl 0 rfl ?_
    refine zw_dup hC dX0_restore_24 rfl ?_
    refine zw_geti hC zF_Journal_size zk_16 dX0_restore_25 kw_1_208 ?_
    refine zw_iconst hC (v := (1 : Int32)) dX0_restore_28 (by decide) ?_
    refine zw_isub hC dX0_restore_29 ?_
    refine zw_puti hC hf zF_Journal_size zk_16 dX0_restore_30 kw_1_208 (fun M27 hf => ?_)
    refine zw_aload_n hC dX0_restore_33 rfl 1 rfl ?_
    refine zw_aload_n hC dX0_restore_34 rfl 0 rfl ?_
    refine zw_getr (k' := 17) hC zF_Journal_kept zk_16 rfl dX0_restore_35 kw_1_206 ?_
    refine zw_aload_n hC dX0_restore_38 rfl 0 rfl ?_
    refine zw_geti hC zF_Journal_next zk_16 dX0_restore_39 kw_1_207 ?_
    refine zw_aald hC hf dX0_restore_42 (fun o28 ho28 hf => ?_)
    obtain ⟨M29, hcM29, hf⟩ := zb1_some hf
    refine zw_cV hC [.ref (zad E o28)] [] (st1 := []) zm_X7_copyFrom (zc_X7_copyFrom ho1 ho28 hcM29) ho1 rfl kw_3_161 dX0_restore_43 rfl (by decide) (Nat.le_of_ble_eq_true rfl) rfl rfl ?_
    exact zw_sub [] rfl (hj46 M29 hf)
/-! Journal.forget()V -/
theorem dX0_forget_0 : decode cX0_forget 0 = .ok (.aload_n 0, 1) := by decide +kernel
theorem dX0_forget_1 : decode cX0_forget 1 = .ok (.iconst 0, 1) := by decide +kernel
theorem dX0_forget_2 : decode cX0_forget 2 = .ok (.putfield 26, 3) := by decide +kernel
theorem dX0_forget_5 : decode cX0_forget 5 = .ok (.return_, 1) := by decide +kernel
theorem zm_X0_forget : ZMv "ClassOfMany$Journal" yX0_forget cX0_forget 1 (none) 0 := ⟨kw_3_144, kw_3_142, kw_3_143, kw_1_4, by decide +kernel, by decide⟩
def zf_X0_forget (M : ZMem) : Option (ZMem) :=
  zput M 16 2 (0 : Int32) (fun M22 => some M22)
set_option maxHeartbeats 4000000 in
set_option maxRecDepth 100000 in
theorem zc_X0_forget {l : Launch} {D : va_G} {ad : Nat → Nat} {cA : Nat → ClassId} {M : ZMem} {M' : ZMem} (hf : zf_X0_forget M = some M') : ZCt l D ad cA yX0_forget cX0_forget 1 (none) 1 [.ref (ad 16)] M none M' := by
  refine zct (by decide +kernel) (Nat.le_of_ble_eq_true rfl) (lv := [(0, .ref (ad 16))]) rfl (fun E hl hD had hcA hN hC hR => ?_)
  subst hl; subst hD; subst had; subst hcA
  unfold zf_X0_forget at hf
  refine zw_aload_n hC dX0_forget_0 rfl 0 rfl ?_
  refine zw_iconst hC (v := (0 : Int32)) dX0_forget_1 (by decide) ?_
  refine zw_puti hC hf zF_Journal_size zk_16 dX0_forget_2 kw_1_208 (fun M22 hf => ?_)
  have h1 := Option.some.inj hf
  subst h1
  exact zw_vret hC hR dX0_forget_5
/-! Mail.numbersOf(I)I -/
theorem dX1_numbersOf_0 : decode cX1_numbersOf 0 = .ok (.iconst 1, 1) := by decide +kernel
theorem dX1_numbersOf_1 : decode cX1_numbersOf 1 = .ok (.iconst 2, 1) := by decide +kernel
theorem dX1_numbersOf_2 : decode cX1_numbersOf 2 = .ok (.iload_n 0, 1) := by decide +kernel
theorem dX1_numbersOf_3 : decode cX1_numbersOf 3 = .ok (.imul, 1) := by decide +kernel
theorem dX1_numbersOf_4 : decode cX1_numbersOf 4 = .ok (.ishl, 1) := by decide +kernel
theorem dX1_numbersOf_5 : decode cX1_numbersOf 5 = .ok (.ireturn, 1) := by decide +kernel
theorem zm_X1_numbersOf : ZMs yX1_numbersOf cX1_numbersOf 1 (some .int) 1 := ⟨kw_3_174, kw_3_173, kw_1_16, by decide +kernel, by decide⟩
def zf_X1_numbersOf (a0 : Int32) : Option (Int32) :=
  some ((1 : Int32) <<< (((2 : Int32) * a0) &&& 31))
set_option maxHeartbeats 4000000 in
set_option maxRecDepth 100000 in
theorem zc_X1_numbersOf {l : Launch} {D : va_G} {ad : Nat → Nat} {cA : Nat → ClassId} {a0 : Int32} {M : ZMem} {r : Int32} (hf : zf_X1_numbersOf a0 = some r) : ZCt l D ad cA yX1_numbersOf cX1_numbersOf 1 (some .int) 1 [.int a0] M (some (.int r)) M := by
  refine zct (by decide +kernel) (Nat.le_of_ble_eq_true rfl) (lv := [(0, .int a0)]) rfl (fun E hl hD had hcA hN hC hR => ?_)
  subst hl; subst hD; subst had; subst hcA
  unfold zf_X1_numbersOf at hf
  refine zw_iconst hC (v := (1 : Int32)) dX1_numbersOf_0 (by decide) ?_
  refine zw_iconst hC (v := (2 : Int32)) dX1_numbersOf_1 (by decide) ?_
  refine zw_iload_n hC dX1_numbersOf_2 rfl 0 rfl ?_
  refine zw_imul hC dX1_numbersOf_3 ?_
  refine zw_ishl hC dX1_numbersOf_4 ?_
  have h1 := Option.some.inj hf
  subst h1
  exact zw_iret hC hR dX1_numbersOf_5
/-! Mail.orderAsTold(I)I -/
theorem dX1_orderAsTold_0 : decode cX1_orderAsTold 0 = .ok (.iconst 0, 1) := by decide +kernel
theorem dX1_orderAsTold_1 : decode cX1_orderAsTold 1 = .ok (.istore_n 1, 1) := by decide +kernel
theorem dX1_orderAsTold_2 : decode cX1_orderAsTold 2 = .ok (.iconst 0, 1) := by decide +kernel
theorem dX1_orderAsTold_3 : decode cX1_orderAsTold 3 = .ok (.istore_n 2, 1) := by decide +kernel
theorem dX1_orderAsTold_4 : decode cX1_orderAsTold 4 = .ok (.iload_n 2, 1) := by decide +kernel
theorem dX1_orderAsTold_5 : decode cX1_orderAsTold 5 = .ok (.iload_n 0, 1) := by decide +kernel
theorem dX1_orderAsTold_6 : decode cX1_orderAsTold 6 = .ok (.if_icmp .ge 15, 3) := by decide +kernel
theorem dX1_orderAsTold_9 : decode cX1_orderAsTold 9 = .ok (.iload_n 1, 1) := by decide +kernel
theorem dX1_orderAsTold_10 : decode cX1_orderAsTold 10 = .ok (.iconst 4, 1) := by decide +kernel
theorem dX1_orderAsTold_11 : decode cX1_orderAsTold 11 = .ok (.imul, 1) := by decide +kernel
theorem dX1_orderAsTold_12 : decode cX1_orderAsTold 12 = .ok (.iload_n 2, 1) := by decide +kernel
theorem dX1_orderAsTold_13 : decode cX1_orderAsTold 13 = .ok (.iadd, 1) := by decide +kernel
theorem dX1_orderAsTold_14 : decode cX1_orderAsTold 14 = .ok (.istore_n 1, 1) := by decide +kernel
theorem dX1_orderAsTold_15 : decode cX1_orderAsTold 15 = .ok (.iinc 2 1, 3) := by decide +kernel
theorem dX1_orderAsTold_18 : decode cX1_orderAsTold 18 = .ok (.goto (-14), 3) := by decide +kernel
theorem dX1_orderAsTold_21 : decode cX1_orderAsTold 21 = .ok (.iload_n 1, 1) := by decide +kernel
theorem dX1_orderAsTold_22 : decode cX1_orderAsTold 22 = .ok (.ireturn, 1) := by decide +kernel
theorem zm_X1_orderAsTold : ZMs yX1_orderAsTold cX1_orderAsTold 3 (some .int) 1 := ⟨kw_3_133, kw_3_132, kw_1_16, by decide +kernel, by decide⟩
def zf_X1_orderAsTold_L4 (a0 : Int32) (K21 : Int32 → Option (Int32)) : Nat → Int32 → Int32 → Option (Int32)
  | 0, _, _ => none
  | n4 + 1, v21, v22 =>
  (if a0 ≤ v22 then (K21 v21) else (zf_X1_orderAsTold_L4 a0 K21 n4 ((v21 * (4 : Int32)) + v22) (v22 + (1 : Int32))))
def zf_X1_orderAsTold (n : Nat) (a0 : Int32) : Option (Int32) :=
  (zf_X1_orderAsTold_L4 a0 (fun v24 => some v24) n (0 : Int32) (0 : Int32))
set_option maxHeartbeats 4000000 in
set_option maxRecDepth 100000 in
theorem zc_X1_orderAsTold {l : Launch} {D : va_G} {ad : Nat → Nat} {cA : Nat → ClassId} {n : Nat} {a0 : Int32} {M : ZMem} {r : Int32} (hf : zf_X1_orderAsTold n a0 = some r) : ZCt l D ad cA yX1_orderAsTold cX1_orderAsTold 3 (some .int) 1 [.int a0] M (some (.int r)) M := by
  refine zct (by decide +kernel) (Nat.le_of_ble_eq_true rfl) (lv := [(0, .int a0)]) rfl (fun E hl hD had hcA hN hC hR => ?_)
  subst hl; subst hD; subst had; subst hcA
  unfold zf_X1_orderAsTold at hf
  refine zw_iconst hC (v := (0 : Int32)) dX1_orderAsTold_0 (by decide) ?_
  refine zw_istore_n hC (lv' := [(1, .int (0 : Int32)), (0, .int a0)]) dX1_orderAsTold_1 rfl hN (by decide) rfl ?_
  refine zw_iconst hC (v := (0 : Int32)) dX1_orderAsTold_2 (by decide) ?_
  refine zw_istore_n hC (lv' := [(2, .int (0 : Int32)), (1, .int (0 : Int32)), (0, .int a0)]) dX1_orderAsTold_3 rfl hN (by decide) rfl ?_
  have hL4 : ∀ (K21 : Int32 → Option (Int32)), (∀ (v23 : Int32), K21 v23 = some r → ZW E 21 [(1, .int v23)] [] M) → ∀ (n4 : Nat), ∀ (v21 : Int32), ∀ (v22 : Int32), zf_X1_orderAsTold_L4 a0 K21 n4 v21 v22 = some r → ZW E 4 [(0, .int a0), (1, .int v21), (2, .int v22)] [] M := by
    intro K21 hK21
    intro n4
    induction n4 with
    | zero => intro v21 v22 hf; rw [zf_X1_orderAsTold_L4] at hf; cases hf
    | succ n4 ih4 =>
      intro v21 v22 hf
      rw [zf_X1_orderAsTold_L4] at hf
      refine zw_iload_n hC dX1_orderAsTold_4 rfl 2 rfl ?_
      refine zw_iload_n hC dX1_orderAsTold_5 rfl 0 rfl ?_
      refine zw_icmp_ge hC 21 hf dX1_orderAsTold_6 (by decide) (fun hf => ?_) (fun hf => ?_)
      · exact zw_sub [1] rfl (hK21 v21 hf)
      · refine zw_iload_n hC dX1_orderAsTold_9 rfl 1 rfl ?_
        refine zw_iconst hC (v := (4 : Int32)) dX1_orderAsTold_10 (by decide) ?_
        refine zw_imul hC dX1_orderAsTold_11 ?_
        refine zw_iload_n hC dX1_orderAsTold_12 rfl 2 rfl ?_
        refine zw_iadd hC dX1_orderAsTold_13 ?_
        refine zw_istore_n hC (lv' := [(1, .int ((v21 * (4 : Int32)) + v22)), (0, .int a0), (2, .int v22)]) dX1_orderAsTold_14 rfl hN (by decide) rfl ?_
        refine zw_iinc hC (v := (1 : Int32)) (lv' := [(2, .int (v22 + (1 : Int32))), (1, .int ((v21 * (4 : Int32)) + v22)), (0, .int a0)]) dX1_orderAsTold_15 2 rfl (by decide) hN (by decide) rfl ?_
        refine zw_goto hC 4 dX1_orderAsTold_18 (by decide) ?_
        exact zw_sub [2, 1, 0] rfl (ih4 ((v21 * (4 : Int32)) + v22) (v22 + (1 : Int32)) hf)
  refine zw_sub [2, 1, 0] rfl (hL4 _ ?_ n (0 : Int32) (0 : Int32) hf)
  · intro v24 hf
    refine zw_iload_n hC dX1_orderAsTold_21 rfl 0 rfl ?_
    have h1 := Option.some.inj hf
    subst h1
    exact zw_iret hC hR dX1_orderAsTold_22
/-! Mail.channelAt(LClassOfMany$Told;II)I -/
theorem dX1_channelAt_0 : decode cX1_channelAt 0 = .ok (.iload_n 1, 1) := by decide +kernel
theorem dX1_channelAt_1 : decode cX1_channelAt 1 = .ok (.iconst 2, 1) := by decide +kernel
theorem dX1_channelAt_2 : decode cX1_channelAt 2 = .ok (.aload_n 0, 1) := by decide +kernel
theorem dX1_channelAt_3 : decode cX1_channelAt 3 = .ok (.getfield 9, 3) := by decide +kernel
theorem dX1_channelAt_6 : decode cX1_channelAt 6 = .ok (.iconst 1, 1) := by decide +kernel
theorem dX1_channelAt_7 : decode cX1_channelAt 7 = .ok (.isub, 1) := by decide +kernel
theorem dX1_channelAt_8 : decode cX1_channelAt 8 = .ok (.iload_n 2, 1) := by decide +kernel
theorem dX1_channelAt_9 : decode cX1_channelAt 9 = .ok (.isub, 1) := by decide +kernel
theorem dX1_channelAt_10 : decode cX1_channelAt 10 = .ok (.imul, 1) := by decide +kernel
theorem dX1_channelAt_11 : decode cX1_channelAt 11 = .ok (.ishr, 1) := by decide +kernel
theorem dX1_channelAt_12 : decode cX1_channelAt 12 = .ok (.iconst 3, 1) := by decide +kernel
theorem dX1_channelAt_13 : decode cX1_channelAt 13 = .ok (.iand, 1) := by decide +kernel
theorem dX1_channelAt_14 : decode cX1_channelAt 14 = .ok (.ireturn, 1) := by decide +kernel
theorem zm_X1_channelAt : ZMs yX1_channelAt cX1_channelAt 3 (some .int) 3 := ⟨kw_3_177, kw_3_176, kw_1_16, by decide +kernel, by decide⟩
def zf_X1_channelAt (o0 : Nat) (a1 : Int32) (a2 : Int32) (M : ZMem) : Option (Int32) :=
  some ((a1 >>> (((2 : Int32) * (((M o0 1) - (1 : Int32)) - a2)) &&& 31)) &&& (3 : Int32))
set_option maxHeartbeats 4000000 in
set_option maxRecDepth 100000 in
theorem zc_X1_channelAt {l : Launch} {D : va_G} {ad : Nat → Nat} {cA : Nat → ClassId} {o0 : Nat} {a1 : Int32} {a2 : Int32} {M : ZMem} {r : Int32} (ho0 : zk o0 = (7, 17)) (hf : zf_X1_channelAt o0 a1 a2 M = some r) : ZCt l D ad cA yX1_channelAt cX1_channelAt 3 (some .int) 1 [.ref (ad o0), .int a1, .int a2] M (some (.int r)) M := by
  refine zct (by decide +kernel) (Nat.le_of_ble_eq_true rfl) (lv := [(0, .ref (ad o0)), (1, .int a1), (2, .int a2)]) rfl (fun E hl hD had hcA hN hC hR => ?_)
  subst hl; subst hD; subst had; subst hcA
  unfold zf_X1_channelAt at hf
  refine zw_iload_n hC dX1_channelAt_0 rfl 1 rfl ?_
  refine zw_iconst hC (v := (2 : Int32)) dX1_channelAt_1 (by decide) ?_
  refine zw_aload_n hC dX1_channelAt_2 rfl 0 rfl ?_
  refine zw_geti hC zF_Told_channels ho0 dX1_channelAt_3 kw_1_43 ?_
  refine zw_iconst hC (v := (1 : Int32)) dX1_channelAt_6 (by decide) ?_
  refine zw_isub hC dX1_channelAt_7 ?_
  refine zw_iload_n hC dX1_channelAt_8 rfl 2 rfl ?_
  refine zw_isub hC dX1_channelAt_9 ?_
  refine zw_imul hC dX1_channelAt_10 ?_
  refine zw_ishr hC dX1_channelAt_11 ?_
  refine zw_iconst hC (v := (3 : Int32)) dX1_channelAt_12 (by decide) ?_
  refine zw_iand hC dX1_channelAt_13 ?_
  have h1 := Option.some.inj hf
  subst h1
  exact zw_iret hC hR dX1_channelAt_14
/-! Mail.isOrder(LClassOfMany$Told;I)Z -/
theorem dX1_isOrder_0 : decode cX1_isOrder 0 = .ok (.iload_n 1, 1) := by decide +kernel
theorem dX1_isOrder_1 : decode cX1_isOrder 1 = .ok (.ifCond .lt 14, 3) := by decide +kernel
theorem dX1_isOrder_4 : decode cX1_isOrder 4 = .ok (.iload_n 1, 1) := by decide +kernel
theorem dX1_isOrder_5 : decode cX1_isOrder 5 = .ok (.aload_n 0, 1) := by decide +kernel
theorem dX1_isOrder_6 : decode cX1_isOrder 6 = .ok (.getfield 9, 3) := by decide +kernel
theorem dX1_isOrder_9 : decode cX1_isOrder 9 = .ok (.invokestatic 15, 3) := by decide +kernel
theorem dX1_isOrder_12 : decode cX1_isOrder 12 = .ok (.if_icmp .lt 5, 3) := by decide +kernel
theorem dX1_isOrder_15 : decode cX1_isOrder 15 = .ok (.iconst 0, 1) := by decide +kernel
theorem dX1_isOrder_16 : decode cX1_isOrder 16 = .ok (.ireturn, 1) := by decide +kernel
theorem dX1_isOrder_17 : decode cX1_isOrder 17 = .ok (.iconst 0, 1) := by decide +kernel
theorem dX1_isOrder_18 : decode cX1_isOrder 18 = .ok (.istore_n 2, 1) := by decide +kernel
theorem dX1_isOrder_19 : decode cX1_isOrder 19 = .ok (.iconst 0, 1) := by decide +kernel
theorem dX1_isOrder_20 : decode cX1_isOrder 20 = .ok (.istore_n 3, 1) := by decide +kernel
theorem dX1_isOrder_21 : decode cX1_isOrder 21 = .ok (.iload_n 3, 1) := by decide +kernel
theorem dX1_isOrder_22 : decode cX1_isOrder 22 = .ok (.aload_n 0, 1) := by decide +kernel
theorem dX1_isOrder_23 : decode cX1_isOrder 23 = .ok (.getfield 9, 3) := by decide +kernel
theorem dX1_isOrder_26 : decode cX1_isOrder 26 = .ok (.if_icmp .ge 20, 3) := by decide +kernel
theorem dX1_isOrder_29 : decode cX1_isOrder 29 = .ok (.iload_n 2, 1) := by decide +kernel
theorem dX1_isOrder_30 : decode cX1_isOrder 30 = .ok (.iconst 1, 1) := by decide +kernel
theorem dX1_isOrder_31 : decode cX1_isOrder 31 = .ok (.aload_n 0, 1) := by decide +kernel
theorem dX1_isOrder_32 : decode cX1_isOrder 32 = .ok (.iload_n 1, 1) := by decide +kernel
theorem dX1_isOrder_33 : decode cX1_isOrder 33 = .ok (.iload_n 3, 1) := by decide +kernel
theorem dX1_isOrder_34 : decode cX1_isOrder 34 = .ok (.invokestatic 21, 3) := by decide +kernel
theorem dX1_isOrder_37 : decode cX1_isOrder 37 = .ok (.ishl, 1) := by decide +kernel
theorem dX1_isOrder_38 : decode cX1_isOrder 38 = .ok (.ior, 1) := by decide +kernel
theorem dX1_isOrder_39 : decode cX1_isOrder 39 = .ok (.istore_n 2, 1) := by decide +kernel
theorem dX1_isOrder_40 : decode cX1_isOrder 40 = .ok (.iinc 3 1, 3) := by decide +kernel
theorem dX1_isOrder_43 : decode cX1_isOrder 43 = .ok (.goto (-22), 3) := by decide +kernel
theorem dX1_isOrder_46 : decode cX1_isOrder 46 = .ok (.iload_n 2, 1) := by decide +kernel
theorem dX1_isOrder_47 : decode cX1_isOrder 47 = .ok (.iconst 1, 1) := by decide +kernel
theorem dX1_isOrder_48 : decode cX1_isOrder 48 = .ok (.aload_n 0, 1) := by decide +kernel
theorem dX1_isOrder_49 : decode cX1_isOrder 49 = .ok (.getfield 9, 3) := by decide +kernel
theorem dX1_isOrder_52 : decode cX1_isOrder 52 = .ok (.ishl, 1) := by decide +kernel
theorem dX1_isOrder_53 : decode cX1_isOrder 53 = .ok (.iconst 1, 1) := by decide +kernel
theorem dX1_isOrder_54 : decode cX1_isOrder 54 = .ok (.isub, 1) := by decide +kernel
theorem dX1_isOrder_55 : decode cX1_isOrder 55 = .ok (.if_icmp .ne 7, 3) := by decide +kernel
theorem dX1_isOrder_58 : decode cX1_isOrder 58 = .ok (.iconst 1, 1) := by decide +kernel
theorem dX1_isOrder_59 : decode cX1_isOrder 59 = .ok (.goto 4, 3) := by decide +kernel
theorem dX1_isOrder_62 : decode cX1_isOrder 62 = .ok (.iconst 0, 1) := by decide +kernel
theorem dX1_isOrder_63 : decode cX1_isOrder 63 = .ok (.ireturn, 1) := by decide +kernel
theorem zm_X1_isOrder : ZMs yX1_isOrder cX1_isOrder 4 (some .boolean) 2 := ⟨kw_3_171, kw_3_170, kw_1_16, by decide +kernel, by decide⟩
def zf_X1_isOrder_j15 : Option (Int32) :=
  some (0 : Int32)
def zf_X1_isOrder_L21 (M : ZMem) (o0 : Nat) (a1 : Int32) (K46 : Int32 → Option (Int32)) : Nat → Int32 → Int32 → Option (Int32)
  | 0, _, _ => none
  | n21 + 1, v24, v25 =>
  (if (M o0 1) ≤ v25 then (K46 v24) else zb1 (zf_X1_channelAt o0 a1 v25 M) (fun v27 => (zf_X1_isOrder_L21 M o0 a1 K46 n21 (v24 ||| ((1 : Int32) <<< (v27 &&& 31))) (v25 + (1 : Int32)))))
def zf_X1_isOrder_j63 (v29 : Int32) : Option (Int32) :=
  zbz v29 (some v29)
def zf_X1_isOrder (n : Nat) (o0 : Nat) (a1 : Int32) (M : ZMem) : Option (Int32) :=
  (if a1 < 0 then (zf_X1_isOrder_j15) else zb1 (zf_X1_numbersOf (M o0 1)) (fun v23 => (if a1 < v23 then (zf_X1_isOrder_L21 M o0 a1 (fun v28 => (if v28 = (((1 : Int32) <<< ((M o0 1) &&& 31)) - (1 : Int32)) then (zf_X1_isOrder_j63 (1 : Int32)) else (zf_X1_isOrder_j63 (0 : Int32)))) n (0 : Int32) (0 : Int32)) else (zf_X1_isOrder_j15))))
set_option maxHeartbeats 4000000 in
set_option maxRecDepth 100000 in
theorem zc_X1_isOrder {l : Launch} {D : va_G} {ad : Nat → Nat} {cA : Nat → ClassId} {n : Nat} {o0 : Nat} {a1 : Int32} {M : ZMem} {r : Int32} (ho0 : zk o0 = (7, 17)) (hf : zf_X1_isOrder n o0 a1 M = some r) : ZCt l D ad cA yX1_isOrder cX1_isOrder 4 (some .boolean) 2 [.ref (ad o0), .int a1] M (some (.int r)) M := by
  refine zct (by decide +kernel) (Nat.le_of_ble_eq_true rfl) (lv := [(0, .ref (ad o0)), (1, .int a1)]) rfl (fun E hl hD had hcA hN hC hR => ?_)
  subst hl; subst hD; subst had; subst hcA
  unfold zf_X1_isOrder at hf
  refine zw_iload_n hC dX1_isOrder_0 rfl 1 rfl ?_
  have hj15 : zf_X1_isOrder_j15 = some r → ZW E 15 [] [] M := by
    intro  hf
    unfold zf_X1_isOrder_j15 at hf
    refine zw_iconst hC (v := (0 : Int32)) dX1_isOrder_15 (by decide) ?_
    have h1 := Option.some.inj hf
    subst h1
    exact zw_zret hC hR rfl dX1_isOrder_16
  refine zw_if_lt hC 15 hf dX1_isOrder_1 (by decide) (fun hf => ?_) (fun hf => ?_)
  · exact zw_sub [] rfl (hj15 hf)
  · refine zw_iload_n hC dX1_isOrder_4 rfl 1 rfl ?_
    refine zw_aload_n hC dX1_isOrder_5 rfl 0 rfl ?_
    refine zw_geti hC zF_Told_channels ho0 dX1_isOrder_6 kw_1_43 ?_
    obtain ⟨v23, hc23, hf⟩ := zb1_some hf
    refine zw_cS hC [.int (M o0 1)] [.int a1] (st1 := [.int v23, .int a1]) zm_X1_numbersOf (zc_X1_numbersOf hc23) kw_3_172 dX1_isOrder_9 rfl (by decide) (Nat.le_of_ble_eq_true rfl) rfl rfl ?_
    refine zw_icmp_lt hC 17 hf dX1_isOrder_12 (by decide) (fun hf => ?_) (fun hf => ?_)
    · refine zw_iconst hC (v := (0 : Int32)) dX1_isOrder_17 (by decide) ?_
      refine zw_istore_n hC (lv' := [(2, .int (0 : Int32)), (0, .ref (zad E o0)), (1, .int a1)]) dX1_isOrder_18 rfl hN (by decide) rfl ?_
      refine zw_iconst hC (v := (0 : Int32)) dX1_isOrder_19 (by decide) ?_
      refine zw_istore_n hC (lv' := [(3, .int (0 : Int32)), (2, .int (0 : Int32)), (0, .ref (zad E o0)), (1, .int a1)]) dX1_isOrder_20 rfl hN (by decide) rfl ?_
      have hL21 : ∀ (K46 : Int32 → Option (Int32)), (∀ (v26 : Int32), K46 v26 = some r → ZW E 46 [(0, .ref (zad E o0)), (2, .int v26)] [] M) → ∀ (n21 : Nat), ∀ (v24 : Int32), ∀ (v25 : Int32), zf_X1_isOrder_L21 M o0 a1 K46 n21 v24 v25 = some r → ZW E 21 [(0, .ref (zad E o0)), (1, .int a1), (2, .int v24), (3, .int v25)] [] M := by
        intro K46 hK46
        intro n21
        induction n21 with
        | zero => intro v24 v25 hf; rw [zf_X1_isOrder_L21] at hf; cases hf
        | succ n21 ih21 =>
          intro v24 v25 hf
          rw [zf_X1_isOrder_L21] at hf
          refine zw_iload_n hC dX1_isOrder_21 rfl 3 rfl ?_
          refine zw_aload_n hC dX1_isOrder_22 rfl 0 rfl ?_
          refine zw_geti hC zF_Told_channels ho0 dX1_isOrder_23 kw_1_43 ?_
          refine zw_icmp_ge hC 46 hf dX1_isOrder_26 (by decide) (fun hf => ?_) (fun hf => ?_)
          · exact zw_sub [0, 2] rfl (hK46 v24 hf)
          · refine zw_iload_n hC dX1_isOrder_29 rfl 2 rfl ?_
            refine zw_iconst hC (v := (1 : Int32)) dX1_isOrder_30 (by decide) ?_
            refine zw_aload_n hC dX1_isOrder_31 rfl 0 rfl ?_
            refine zw_iload_n hC dX1_isOrder_32 rfl 1 rfl ?_
            refine zw_iload_n hC dX1_isOrder_33 rfl 3 rfl ?_
            obtain ⟨v27, hc27, hf⟩ := zb1_some hf
            refine zw_cS hC [.ref (zad E o0), .int a1, .int v25] [.int (1 : Int32), .int v24] (st1 := [.int v27, .int (1 : Int32), .int v24]) zm_X1_channelAt (zc_X1_channelAt ho0 hc27) kw_3_175 dX1_isOrder_34 rfl (by decide) (Nat.le_of_ble_eq_true rfl) rfl rfl ?_
            refine zw_ishl hC dX1_isOrder_37 ?_
            refine zw_ior hC dX1_isOrder_38 ?_
            refine zw_istore_n hC (lv' := [(2, .int (v24 ||| ((1 : Int32) <<< (v27 &&& 31)))), (0, .ref (zad E o0)), (1, .int a1), (3, .int v25)]) dX1_isOrder_39 rfl hN (by decide) rfl ?_
            refine zw_iinc hC (v := (1 : Int32)) (lv' := [(3, .int (v25 + (1 : Int32))), (2, .int (v24 ||| ((1 : Int32) <<< (v27 &&& 31)))), (0, .ref (zad E o0)), (1, .int a1)]) dX1_isOrder_40 3 rfl (by decide) hN (by decide) rfl ?_
            refine zw_goto hC 21 dX1_isOrder_43 (by decide) ?_
            exact zw_sub [2, 3, 1, 0] rfl (ih21 (v24 ||| ((1 : Int32) <<< (v27 &&& 31))) (v25 + (1 : Int32)) hf)
      refine zw_sub [2, 3, 1, 0] rfl (hL21 _ ?_ n (0 : Int32) (0 : Int32) hf)
      · intro v28 hf
        refine zw_iload_n hC dX1_isOrder_46 rfl 1 rfl ?_
        refine zw_iconst hC (v := (1 : Int32)) dX1_isOrder_47 (by decide) ?_
        refine zw_aload_n hC dX1_isOrder_48 rfl 0 rfl ?_
        refine zw_geti hC zF_Told_channels ho0 dX1_isOrder_49 kw_1_43 ?_
        refine zw_ishl hC dX1_isOrder_52 ?_
        refine zw_iconst hC (v := (1 : Int32)) dX1_isOrder_53 (by decide) ?_
        refine zw_isub hC dX1_isOrder_54 ?_
        have hj63 : ∀ (v29 : Int32), zf_X1_isOrder_j63 v29 = some r → ZW E 63 [] [.int v29] M := by
          intro v29 hf
          unfold zf_X1_isOrder_j63 at hf
          obtain ⟨hz, hf⟩ := zbz_some hf
          have h1 := Option.some.inj hf
          subst h1
          exact zw_zret hC hR hz dX1_isOrder_63
        refine zw_icmp_ne hC 62 hf dX1_isOrder_55 (by decide) (fun hf => ?_) (fun hf => ?_)
        · refine zw_iconst hC (v := (0 : Int32)) dX1_isOrder_62 (by decide) ?_
          exact zw_sub [] rfl (hj63 (0 : Int32) hf)
        · refine zw_iconst hC (v := (1 : Int32)) dX1_isOrder_58 (by decide) ?_
          refine zw_goto hC 63 dX1_isOrder_59 (by decide) ?_
          exact zw_sub [] rfl (hj63 (1 : Int32) hf)
    · exact zw_sub [] rfl (hj15 hf)
/-! ClassOfMany.has(II)Z -/
theorem dX9_has_0 : decode cX9_has 0 = .ok (.iload_n 0, 1) := by decide +kernel
theorem dX9_has_1 : decode cX9_has 1 = .ok (.iload_n 1, 1) := by decide +kernel
theorem dX9_has_2 : decode cX9_has 2 = .ok (.ishr, 1) := by decide +kernel
theorem dX9_has_3 : decode cX9_has 3 = .ok (.iconst 1, 1) := by decide +kernel
theorem dX9_has_4 : decode cX9_has 4 = .ok (.iand, 1) := by decide +kernel
theorem dX9_has_5 : decode cX9_has 5 = .ok (.ifCond .eq 7, 3) := by decide +kernel
theorem dX9_has_8 : decode cX9_has 8 = .ok (.iconst 1, 1) := by decide +kernel
theorem dX9_has_9 : decode cX9_has 9 = .ok (.goto 4, 3) := by decide +kernel
theorem dX9_has_12 : decode cX9_has 12 = .ok (.iconst 0, 1) := by decide +kernel
theorem dX9_has_13 : decode cX9_has 13 = .ok (.ireturn, 1) := by decide +kernel
theorem zm_X9_has : ZMs yX9_has cX9_has 2 (some .boolean) 2 := ⟨kw_3_80, kw_3_79, kw_1_1, by decide +kernel, by decide⟩
def zf_X9_has_j13 (v21 : Int32) : Option (Int32) :=
  zbz v21 (some v21)
def zf_X9_has (a0 : Int32) (a1 : Int32) : Option (Int32) :=
  (if ((a0 >>> (a1 &&& 31)) &&& (1 : Int32)) = 0 then (zf_X9_has_j13 (0 : Int32)) else (zf_X9_has_j13 (1 : Int32)))
set_option maxHeartbeats 4000000 in
set_option maxRecDepth 100000 in
theorem zc_X9_has {l : Launch} {D : va_G} {ad : Nat → Nat} {cA : Nat → ClassId} {a0 : Int32} {a1 : Int32} {M : ZMem} {r : Int32} (hf : zf_X9_has a0 a1 = some r) : ZCt l D ad cA yX9_has cX9_has 2 (some .boolean) 1 [.int a0, .int a1] M (some (.int r)) M := by
  refine zct (by decide +kernel) (Nat.le_of_ble_eq_true rfl) (lv := [(0, .int a0), (1, .int a1)]) rfl (fun E hl hD had hcA hN hC hR => ?_)
  subst hl; subst hD; subst had; subst hcA
  unfold zf_X9_has at hf
  refine zw_iload_n hC dX9_has_0 rfl 0 rfl ?_
  refine zw_iload_n hC dX9_has_1 rfl 1 rfl ?_
  refine zw_ishr hC dX9_has_2 ?_
  refine zw_iconst hC (v := (1 : Int32)) dX9_has_3 (by decide) ?_
  refine zw_iand hC dX9_has_4 ?_
  have hj13 : ∀ (v21 : Int32), zf_X9_has_j13 v21 = some r → ZW E 13 [] [.int v21] M := by
    intro v21 hf
    unfold zf_X9_has_j13 at hf
    obtain ⟨hz, hf⟩ := zbz_some hf
    have h1 := Option.some.inj hf
    subst h1
    exact zw_zret hC hR hz dX9_has_13
  refine zw_if_eq hC 12 hf dX9_has_5 (by decide) (fun hf => ?_) (fun hf => ?_)
  · refine zw_iconst hC (v := (0 : Int32)) dX9_has_12 (by decide) ?_
    exact zw_sub [] rfl (hj13 (0 : Int32) hf)
  · refine zw_iconst hC (v := (1 : Int32)) dX9_has_8 (by decide) ?_
    refine zw_goto hC 13 dX9_has_9 (by decide) ?_
    exact zw_sub [] rfl (hj13 (1 : Int32) hf)
/-! Mail.costTo(LClassOfMany$Told;II)I -/
theorem dX1_costTo_0 : decode cX1_costTo 0 = .ok (.iconst 0, 1) := by decide +kernel
theorem dX1_costTo_1 : decode cX1_costTo 1 = .ok (.istore_n 3, 1) := by decide +kernel
theorem dX1_costTo_2 : decode cX1_costTo 2 = .ok (.iconst 0, 1) := by decide +kernel
theorem dX1_costTo_3 : decode cX1_costTo 3 = .ok (.istore 4, 2) := by decide +kernel
theorem dX1_costTo_5 : decode cX1_costTo 5 = .ok (.iload 4, 2) := by decide +kernel
theorem dX1_costTo_7 : decode cX1_costTo 7 = .ok (.aload_n 0, 1) := by decide +kernel
theorem dX1_costTo_8 : decode cX1_costTo 8 = .ok (.getfield 9, 3) := by decide +kernel
theorem dX1_costTo_11 : decode cX1_costTo 11 = .ok (.if_icmp .ge 44, 3) := by decide +kernel
theorem dX1_costTo_14 : decode cX1_costTo 14 = .ok (.aload_n 0, 1) := by decide +kernel
theorem dX1_costTo_15 : decode cX1_costTo 15 = .ok (.iload_n 1, 1) := by decide +kernel
theorem dX1_costTo_16 : decode cX1_costTo 16 = .ok (.iload 4, 2) := by decide +kernel
theorem dX1_costTo_18 : decode cX1_costTo 18 = .ok (.invokestatic 21, 3) := by decide +kernel
theorem dX1_costTo_21 : decode cX1_costTo 21 = .ok (.istore 5, 2) := by decide +kernel
theorem dX1_costTo_23 : decode cX1_costTo 23 = .ok (.iload_n 3, 1) := by decide +kernel
theorem dX1_costTo_24 : decode cX1_costTo 24 = .ok (.aload_n 0, 1) := by decide +kernel
theorem dX1_costTo_25 : decode cX1_costTo 25 = .ok (.getfield 31, 3) := by decide +kernel
theorem dX1_costTo_28 : decode cX1_costTo 28 = .ok (.iload 5, 2) := by decide +kernel
theorem dX1_costTo_30 : decode cX1_costTo 30 = .ok (.iaload, 1) := by decide +kernel
theorem dX1_costTo_31 : decode cX1_costTo 31 = .ok (.iadd, 1) := by decide +kernel
theorem dX1_costTo_32 : decode cX1_costTo 32 = .ok (.istore_n 3, 1) := by decide +kernel
theorem dX1_costTo_33 : decode cX1_costTo 33 = .ok (.aload_n 0, 1) := by decide +kernel
theorem dX1_costTo_34 : decode cX1_costTo 34 = .ok (.getfield 35, 3) := by decide +kernel
theorem dX1_costTo_37 : decode cX1_costTo 37 = .ok (.iload_n 2, 1) := by decide +kernel
theorem dX1_costTo_38 : decode cX1_costTo 38 = .ok (.iaload, 1) := by decide +kernel
theorem dX1_costTo_39 : decode cX1_costTo 39 = .ok (.iload 5, 2) := by decide +kernel
theorem dX1_costTo_41 : decode cX1_costTo 41 = .ok (.invokestatic 38, 3) := by decide +kernel
theorem dX1_costTo_44 : decode cX1_costTo 44 = .ok (.ifCond .eq 5, 3) := by decide +kernel
theorem dX1_costTo_47 : decode cX1_costTo 47 = .ok (.iload_n 3, 1) := by decide +kernel
theorem dX1_costTo_48 : decode cX1_costTo 48 = .ok (.ireturn, 1) := by decide +kernel
theorem dX1_costTo_49 : decode cX1_costTo 49 = .ok (.iinc 4 1, 3) := by decide +kernel
theorem dX1_costTo_52 : decode cX1_costTo 52 = .ok (.goto (-47), 3) := by decide +kernel
theorem dX1_costTo_55 : decode cX1_costTo 55 = .ok (.iload_n 3, 1) := by decide +kernel
theorem dX1_costTo_56 : decode cX1_costTo 56 = .ok (.ireturn, 1) := by decide +kernel
theorem zm_X1_costTo : ZMs yX1_costTo cX1_costTo 6 (some .int) 3 := ⟨kw_3_191, kw_3_190, kw_1_16, by decide +kernel, by decide⟩
def zf_X1_costTo_L5 (M : ZMem) (o0 : Nat) (a1 : Int32) (a2 : Int32) (K55 : Int32 → Option (Int32)) : Nat → Int32 → Int32 → Option (Int32)
  | 0, _, _ => none
  | n5 + 1, v25, v26 =>
  (if (M o0 1) ≤ v26 then (K55 v25) else zb1 (zf_X1_channelAt o0 a1 v26 M) (fun v28 => zrd M (o0 + 5) 4 v28 (fun v29 => zrd M (o0 + 4) 10 a2 (fun v30 => zb1 (zf_X9_has v30 v28) (fun v31 => (if v31 = 0 then (zf_X1_costTo_L5 M o0 a1 a2 K55 n5 (v25 + v29) (v26 + (1 : Int32))) else some (v25 + v29)))))))
def zf_X1_costTo (n : Nat) (o0 : Nat) (a1 : Int32) (a2 : Int32) (M : ZMem) : Option (Int32) :=
  (zf_X1_costTo_L5 M o0 a1 a2 (fun v32 => some v32) n (0 : Int32) (0 : Int32))
set_option maxHeartbeats 4000000 in
set_option maxRecDepth 100000 in
theorem zc_X1_costTo {l : Launch} {D : va_G} {ad : Nat → Nat} {cA : Nat → ClassId} {n : Nat} {o0 : Nat} {a1 : Int32} {a2 : Int32} {M : ZMem} {r : Int32} (ho0 : zk o0 = (7, 17)) (hf : zf_X1_costTo n o0 a1 a2 M = some r) : ZCt l D ad cA yX1_costTo cX1_costTo 6 (some .int) 2 [.ref (ad o0), .int a1, .int a2] M (some (.int r)) M := by
  refine zct (by decide +kernel) (Nat.le_of_ble_eq_true rfl) (lv := [(0, .ref (ad o0)), (1, .int a1), (2, .int a2)]) rfl (fun E hl hD had hcA hN hC hR => ?_)
  subst hl; subst hD; subst had; subst hcA
  unfold zf_X1_costTo at hf
  refine zw_iconst hC (v := (0 : Int32)) dX1_costTo_0 (by decide) ?_
  refine zw_istore_n hC (lv' := [(3, .int (0 : Int32)), (0, .ref (zad E o0)), (1, .int a1), (2, .int a2)]) dX1_costTo_1 rfl hN (by decide) rfl ?_
  refine zw_iconst hC (v := (0 : Int32)) dX1_costTo_2 (by decide) ?_
  refine zw_istore hC (lv' := [(4, .int (0 : Int32)), (3, .int (0 : Int32)), (0, .ref (zad E o0)), (1, .int a1), (2, .int a2)]) dX1_costTo_3 hN (by decide) rfl ?_
  have hL5 : ∀ (K55 : Int32 → Option (Int32)), (∀ (v27 : Int32), K55 v27 = some r → ZW E 55 [(3, .int v27)] [] M) → ∀ (n5 : Nat), ∀ (v25 : Int32), ∀ (v26 : Int32), zf_X1_costTo_L5 M o0 a1 a2 K55 n5 v25 v26 = some r → ZW E 5 [(0, .ref (zad E o0)), (1, .int a1), (2, .int a2), (3, .int v25), (4, .int v26)] [] M := by
    intro K55 hK55
    intro n5
    induction n5 with
    | zero => intro v25 v26 hf; rw [zf_X1_costTo_L5] at hf; cases hf
    | succ n5 ih5 =>
      intro v25 v26 hf
      rw [zf_X1_costTo_L5] at hf
      refine zw_iload hC dX1_costTo_5 4 rfl ?_
      refine zw_aload_n hC dX1_costTo_7 rfl 0 rfl ?_
      refine zw_geti hC zF_Told_channels ho0 dX1_costTo_8 kw_1_43 ?_
      refine zw_icmp_ge hC 55 hf dX1_costTo_11 (by decide) (fun hf => ?_) (fun hf => ?_)
      · exact zw_sub [3] rfl (hK55 v25 hf)
      · refine zw_aload_n hC dX1_costTo_14 rfl 0 rfl ?_
        refine zw_iload_n hC dX1_costTo_15 rfl 1 rfl ?_
        refine zw_iload hC dX1_costTo_16 4 rfl ?_
        obtain ⟨v28, hc28, hf⟩ := zb1_some hf
        refine zw_cS hC [.ref (zad E o0), .int a1, .int v26] [] (st1 := [.int v28]) zm_X1_channelAt (zc_X1_channelAt ho0 hc28) kw_3_175 dX1_costTo_18 rfl (by decide) (Nat.le_of_ble_eq_true rfl) rfl rfl ?_
        refine zw_istore hC (lv' := [(5, .int v28), (0, .ref (zad E o0)), (1, .int a1), (2, .int a2), (3, .int v25), (4, .int v26)]) dX1_costTo_21 hN (by decide) rfl ?_
        refine zw_iload_n hC dX1_costTo_23 rfl 4 rfl ?_
        refine zw_aload_n hC dX1_costTo_24 rfl 1 rfl ?_
        refine zw_getr (k' := (o0 + 5)) hC zF_Told_cost ho0 rfl dX1_costTo_25 kw_1_62 ?_
        refine zw_iload hC dX1_costTo_28 0 rfl ?_
        refine zw_iald hC hf (zko_7_5 ho0) dX1_costTo_30 (fun v29 hf => ?_)
        refine zw_iadd hC dX1_costTo_31 ?_
        refine zw_istore_n hC (lv' := [(3, .int (v25 + v29)), (5, .int v28), (0, .ref (zad E o0)), (1, .int a1), (2, .int a2), (4, .int v26)]) dX1_costTo_32 rfl hN (by decide) rfl ?_
        refine zw_aload_n hC dX1_costTo_33 rfl 2 rfl ?_
        refine zw_getr (k' := (o0 + 4)) hC zF_Told_reach ho0 rfl dX1_costTo_34 kw_1_58 ?_
        refine zw_iload_n hC dX1_costTo_37 rfl 4 rfl ?_
        refine zw_iald hC hf (zko_7_4 ho0) dX1_costTo_38 (fun v30 hf => ?_)
        refine zw_iload hC dX1_costTo_39 1 rfl ?_
        obtain ⟨v31, hc31, hf⟩ := zb1_some hf
        refine zw_cN hC [.int v30, .int v28] [] (st1 := [.int v31]) zm_X9_has (zc_X9_has hc31) (by decide +kernel) dX1_costTo_41 rfl (by decide) (Nat.le_of_ble_eq_true rfl) rfl rfl ?_
        refine zw_if_eq hC 49 hf dX1_costTo_44 (by decide) (fun hf => ?_) (fun hf => ?_)
        · refine zw_iinc hC (v := (1 : Int32)) (lv' := [(4, .int (v26 + (1 : Int32))), (3, .int (v25 + v29)), (5, .int v28), (0, .ref (zad E o0)), (1, .int a1), (2, .int a2)]) dX1_costTo_49 5 rfl (by decide) hN (by decide) rfl ?_
          refine zw_goto hC 5 dX1_costTo_52 (by decide) ?_
          exact zw_sub [3, 4, 5, 1, 0] rfl (ih5 (v25 + v29) (v26 + (1 : Int32)) hf)
        · refine zw_iload_n hC dX1_costTo_47 rfl 0 rfl ?_
          have h1 := Option.some.inj hf
          subst h1
          exact zw_iret hC hR dX1_costTo_48
  refine zw_sub [2, 3, 4, 1, 0] rfl (hL5 _ ?_ n (0 : Int32) (0 : Int32) hf)
  · intro v32 hf
    refine zw_iload_n hC dX1_costTo_55 rfl 0 rfl ?_
    have h1 := Option.some.inj hf
    subst h1
    exact zw_iret hC hR dX1_costTo_56
/-! Mail.costsBy(LClassOfMany$Told;I)I -/
theorem dX1_costsBy_0 : decode cX1_costsBy 0 = .ok (.iconst 0, 1) := by decide +kernel
theorem dX1_costsBy_1 : decode cX1_costsBy 1 = .ok (.istore_n 2, 1) := by decide +kernel
theorem dX1_costsBy_2 : decode cX1_costsBy 2 = .ok (.iconst 0, 1) := by decide +kernel
theorem dX1_costsBy_3 : decode cX1_costsBy 3 = .ok (.istore_n 3, 1) := by decide +kernel
theorem dX1_costsBy_4 : decode cX1_costsBy 4 = .ok (.iload_n 3, 1) := by decide +kernel
theorem dX1_costsBy_5 : decode cX1_costsBy 5 = .ok (.aload_n 0, 1) := by decide +kernel
theorem dX1_costsBy_6 : decode cX1_costsBy 6 = .ok (.getfield 25, 3) := by decide +kernel
theorem dX1_costsBy_9 : decode cX1_costsBy 9 = .ok (.if_icmp .ge 18, 3) := by decide +kernel
theorem dX1_costsBy_12 : decode cX1_costsBy 12 = .ok (.iload_n 2, 1) := by decide +kernel
theorem dX1_costsBy_13 : decode cX1_costsBy 13 = .ok (.aload_n 0, 1) := by decide +kernel
theorem dX1_costsBy_14 : decode cX1_costsBy 14 = .ok (.iload_n 1, 1) := by decide +kernel
theorem dX1_costsBy_15 : decode cX1_costsBy 15 = .ok (.iload_n 3, 1) := by decide +kernel
theorem dX1_costsBy_16 : decode cX1_costsBy 16 = .ok (.invokestatic 28, 3) := by decide +kernel
theorem dX1_costsBy_19 : decode cX1_costsBy 19 = .ok (.iadd, 1) := by decide +kernel
theorem dX1_costsBy_20 : decode cX1_costsBy 20 = .ok (.istore_n 2, 1) := by decide +kernel
theorem dX1_costsBy_21 : decode cX1_costsBy 21 = .ok (.iinc 3 1, 3) := by decide +kernel
theorem dX1_costsBy_24 : decode cX1_costsBy 24 = .ok (.goto (-20), 3) := by decide +kernel
theorem dX1_costsBy_27 : decode cX1_costsBy 27 = .ok (.iload_n 2, 1) := by decide +kernel
theorem dX1_costsBy_28 : decode cX1_costsBy 28 = .ok (.ireturn, 1) := by decide +kernel
theorem zm_X1_costsBy : ZMs yX1_costsBy cX1_costsBy 4 (some .int) 2 := ⟨kw_3_188, kw_3_187, kw_1_16, by decide +kernel, by decide⟩
def zf_X1_costsBy_L4 (M : ZMem) (o0 : Nat) (n : Nat) (a1 : Int32) (K27 : Int32 → Option (Int32)) : Nat → Int32 → Int32 → Option (Int32)
  | 0, _, _ => none
  | n4 + 1, v22, v23 =>
  (if (M o0 0) ≤ v23 then (K27 v22) else zb1 (zf_X1_costTo n o0 a1 v23 M) (fun v25 => (zf_X1_costsBy_L4 M o0 n a1 K27 n4 (v22 + v25) (v23 + (1 : Int32)))))
def zf_X1_costsBy (n : Nat) (o0 : Nat) (a1 : Int32) (M : ZMem) : Option (Int32) :=
  (zf_X1_costsBy_L4 M o0 n a1 (fun v26 => some v26) n (0 : Int32) (0 : Int32))
set_option maxHeartbeats 4000000 in
set_option maxRecDepth 100000 in
theorem zc_X1_costsBy {l : Launch} {D : va_G} {ad : Nat → Nat} {cA : Nat → ClassId} {n : Nat} {o0 : Nat} {a1 : Int32} {M : ZMem} {r : Int32} (ho0 : zk o0 = (7, 17)) (hf : zf_X1_costsBy n o0 a1 M = some r) : ZCt l D ad cA yX1_costsBy cX1_costsBy 4 (some .int) 3 [.ref (ad o0), .int a1] M (some (.int r)) M := by
  refine zct (by decide +kernel) (Nat.le_of_ble_eq_true rfl) (lv := [(0, .ref (ad o0)), (1, .int a1)]) rfl (fun E hl hD had hcA hN hC hR => ?_)
  subst hl; subst hD; subst had; subst hcA
  unfold zf_X1_costsBy at hf
  refine zw_iconst hC (v := (0 : Int32)) dX1_costsBy_0 (by decide) ?_
  refine zw_istore_n hC (lv' := [(2, .int (0 : Int32)), (0, .ref (zad E o0)), (1, .int a1)]) dX1_costsBy_1 rfl hN (by decide) rfl ?_
  refine zw_iconst hC (v := (0 : Int32)) dX1_costsBy_2 (by decide) ?_
  refine zw_istore_n hC (lv' := [(3, .int (0 : Int32)), (2, .int (0 : Int32)), (0, .ref (zad E o0)), (1, .int a1)]) dX1_costsBy_3 rfl hN (by decide) rfl ?_
  have hL4 : ∀ (K27 : Int32 → Option (Int32)), (∀ (v24 : Int32), K27 v24 = some r → ZW E 27 [(2, .int v24)] [] M) → ∀ (n4 : Nat), ∀ (v22 : Int32), ∀ (v23 : Int32), zf_X1_costsBy_L4 M o0 n a1 K27 n4 v22 v23 = some r → ZW E 4 [(0, .ref (zad E o0)), (1, .int a1), (2, .int v22), (3, .int v23)] [] M := by
    intro K27 hK27
    intro n4
    induction n4 with
    | zero => intro v22 v23 hf; rw [zf_X1_costsBy_L4] at hf; cases hf
    | succ n4 ih4 =>
      intro v22 v23 hf
      rw [zf_X1_costsBy_L4] at hf
      refine zw_iload_n hC dX1_costsBy_4 rfl 3 rfl ?_
      refine zw_aload_n hC dX1_costsBy_5 rfl 0 rfl ?_
      refine zw_geti hC zF_Told_members ho0 dX1_costsBy_6 kw_1_39 ?_
      refine zw_icmp_ge hC 27 hf dX1_costsBy_9 (by decide) (fun hf => ?_) (fun hf => ?_)
      · exact zw_sub [2] rfl (hK27 v22 hf)
      · refine zw_iload_n hC dX1_costsBy_12 rfl 2 rfl ?_
        refine zw_aload_n hC dX1_costsBy_13 rfl 0 rfl ?_
        refine zw_iload_n hC dX1_costsBy_14 rfl 1 rfl ?_
        refine zw_iload_n hC dX1_costsBy_15 rfl 3 rfl ?_
        obtain ⟨v25, hc25, hf⟩ := zb1_some hf
        refine zw_cS hC [.ref (zad E o0), .int a1, .int v23] [.int v22] (st1 := [.int v25, .int v22]) zm_X1_costTo (zc_X1_costTo ho0 hc25) kw_3_189 dX1_costsBy_16 rfl (by decide) (Nat.le_of_ble_eq_true rfl) rfl rfl ?_
        refine zw_iadd hC dX1_costsBy_19 ?_
        refine zw_istore_n hC (lv' := [(2, .int (v22 + v25)), (0, .ref (zad E o0)), (1, .int a1), (3, .int v23)]) dX1_costsBy_20 rfl hN (by decide) rfl ?_
        refine zw_iinc hC (v := (1 : Int32)) (lv' := [(3, .int (v23 + (1 : Int32))), (2, .int (v22 + v25)), (0, .ref (zad E o0)), (1, .int a1)]) dX1_costsBy_21 3 rfl (by decide) hN (by decide) rfl ?_
        refine zw_goto hC 4 dX1_costsBy_24 (by decide) ?_
        exact zw_sub [2, 3, 1, 0] rfl (ih4 (v22 + v25) (v23 + (1 : Int32)) hf)
  refine zw_sub [2, 3, 1, 0] rfl (hL4 _ ?_ n (0 : Int32) (0 : Int32) hf)
  · intro v26 hf
    refine zw_iload_n hC dX1_costsBy_27 rfl 0 rfl ?_
    have h1 := Option.some.inj hf
    subst h1
    exact zw_iret hC hR dX1_costsBy_28
/-! Mail.daysTo(LClassOfMany$Told;II)I -/
theorem dX1_daysTo_0 : decode cX1_daysTo 0 = .ok (.iconst 0, 1) := by decide +kernel
theorem dX1_daysTo_1 : decode cX1_daysTo 1 = .ok (.istore_n 3, 1) := by decide +kernel
theorem dX1_daysTo_2 : decode cX1_daysTo 2 = .ok (.iconst 0, 1) := by decide +kernel
theorem dX1_daysTo_3 : decode cX1_daysTo 3 = .ok (.istore 4, 2) := by decide +kernel
theorem dX1_daysTo_5 : decode cX1_daysTo 5 = .ok (.iload 4, 2) := by decide +kernel
theorem dX1_daysTo_7 : decode cX1_daysTo 7 = .ok (.aload_n 0, 1) := by decide +kernel
theorem dX1_daysTo_8 : decode cX1_daysTo 8 = .ok (.getfield 9, 3) := by decide +kernel
theorem dX1_daysTo_11 : decode cX1_daysTo 11 = .ok (.if_icmp .ge 44, 3) := by decide +kernel
theorem dX1_daysTo_14 : decode cX1_daysTo 14 = .ok (.aload_n 0, 1) := by decide +kernel
theorem dX1_daysTo_15 : decode cX1_daysTo 15 = .ok (.iload_n 1, 1) := by decide +kernel
theorem dX1_daysTo_16 : decode cX1_daysTo 16 = .ok (.iload 4, 2) := by decide +kernel
theorem dX1_daysTo_18 : decode cX1_daysTo 18 = .ok (.invokestatic 21, 3) := by decide +kernel
theorem dX1_daysTo_21 : decode cX1_daysTo 21 = .ok (.istore 5, 2) := by decide +kernel
theorem dX1_daysTo_23 : decode cX1_daysTo 23 = .ok (.iload_n 3, 1) := by decide +kernel
theorem dX1_daysTo_24 : decode cX1_daysTo 24 = .ok (.aload_n 0, 1) := by decide +kernel
theorem dX1_daysTo_25 : decode cX1_daysTo 25 = .ok (.getfield 42, 3) := by decide +kernel
theorem dX1_daysTo_28 : decode cX1_daysTo 28 = .ok (.iload 5, 2) := by decide +kernel
theorem dX1_daysTo_30 : decode cX1_daysTo 30 = .ok (.iaload, 1) := by decide +kernel
theorem dX1_daysTo_31 : decode cX1_daysTo 31 = .ok (.iadd, 1) := by decide +kernel
theorem dX1_daysTo_32 : decode cX1_daysTo 32 = .ok (.istore_n 3, 1) := by decide +kernel
theorem dX1_daysTo_33 : decode cX1_daysTo 33 = .ok (.aload_n 0, 1) := by decide +kernel
theorem dX1_daysTo_34 : decode cX1_daysTo 34 = .ok (.getfield 35, 3) := by decide +kernel
theorem dX1_daysTo_37 : decode cX1_daysTo 37 = .ok (.iload_n 2, 1) := by decide +kernel
theorem dX1_daysTo_38 : decode cX1_daysTo 38 = .ok (.iaload, 1) := by decide +kernel
theorem dX1_daysTo_39 : decode cX1_daysTo 39 = .ok (.iload 5, 2) := by decide +kernel
theorem dX1_daysTo_41 : decode cX1_daysTo 41 = .ok (.invokestatic 38, 3) := by decide +kernel
theorem dX1_daysTo_44 : decode cX1_daysTo 44 = .ok (.ifCond .eq 5, 3) := by decide +kernel
theorem dX1_daysTo_47 : decode cX1_daysTo 47 = .ok (.iload_n 3, 1) := by decide +kernel
theorem dX1_daysTo_48 : decode cX1_daysTo 48 = .ok (.ireturn, 1) := by decide +kernel
theorem dX1_daysTo_49 : decode cX1_daysTo 49 = .ok (.iinc 4 1, 3) := by decide +kernel
theorem dX1_daysTo_52 : decode cX1_daysTo 52 = .ok (.goto (-47), 3) := by decide +kernel
theorem dX1_daysTo_55 : decode cX1_daysTo 55 = .ok (.bipush (-2), 2) := by decide +kernel
theorem dX1_daysTo_57 : decode cX1_daysTo 57 = .ok (.ireturn, 1) := by decide +kernel
theorem zm_X1_daysTo : ZMs yX1_daysTo cX1_daysTo 6 (some .int) 3 := ⟨kw_3_212, kw_3_211, kw_1_16, by decide +kernel, by decide⟩
def zf_X1_daysTo_L5 (M : ZMem) (o0 : Nat) (a1 : Int32) (a2 : Int32) (K55 : Option (Int32)) : Nat → Int32 → Int32 → Option (Int32)
  | 0, _, _ => none
  | n5 + 1, v25, v26 =>
  (if (M o0 1) ≤ v26 then K55 else zb1 (zf_X1_channelAt o0 a1 v26 M) (fun v27 => zrd M (o0 + 6) 4 v27 (fun v28 => zrd M (o0 + 4) 10 a2 (fun v29 => zb1 (zf_X9_has v29 v27) (fun v30 => (if v30 = 0 then (zf_X1_daysTo_L5 M o0 a1 a2 K55 n5 (v25 + v28) (v26 + (1 : Int32))) else some (v25 + v28)))))))
def zf_X1_daysTo (n : Nat) (o0 : Nat) (a1 : Int32) (a2 : Int32) (M : ZMem) : Option (Int32) :=
  (zf_X1_daysTo_L5 M o0 a1 a2 (some (-2 : Int32)) n (0 : Int32) (0 : Int32))
set_option maxHeartbeats 4000000 in
set_option maxRecDepth 100000 in
theorem zc_X1_daysTo {l : Launch} {D : va_G} {ad : Nat → Nat} {cA : Nat → ClassId} {n : Nat} {o0 : Nat} {a1 : Int32} {a2 : Int32} {M : ZMem} {r : Int32} (ho0 : zk o0 = (7, 17)) (hf : zf_X1_daysTo n o0 a1 a2 M = some r) : ZCt l D ad cA yX1_daysTo cX1_daysTo 6 (some .int) 2 [.ref (ad o0), .int a1, .int a2] M (some (.int r)) M := by
  refine zct (by decide +kernel) (Nat.le_of_ble_eq_true rfl) (lv := [(0, .ref (ad o0)), (1, .int a1), (2, .int a2)]) rfl (fun E hl hD had hcA hN hC hR => ?_)
  subst hl; subst hD; subst had; subst hcA
  unfold zf_X1_daysTo at hf
  refine zw_iconst hC (v := (0 : Int32)) dX1_daysTo_0 (by decide) ?_
  refine zw_istore_n hC (lv' := [(3, .int (0 : Int32)), (0, .ref (zad E o0)), (1, .int a1), (2, .int a2)]) dX1_daysTo_1 rfl hN (by decide) rfl ?_
  refine zw_iconst hC (v := (0 : Int32)) dX1_daysTo_2 (by decide) ?_
  refine zw_istore hC (lv' := [(4, .int (0 : Int32)), (3, .int (0 : Int32)), (0, .ref (zad E o0)), (1, .int a1), (2, .int a2)]) dX1_daysTo_3 hN (by decide) rfl ?_
  have hL5 : ∀ (K55 : Option (Int32)), (K55 = some r → ZW E 55 [] [] M) → ∀ (n5 : Nat), ∀ (v25 : Int32), ∀ (v26 : Int32), zf_X1_daysTo_L5 M o0 a1 a2 K55 n5 v25 v26 = some r → ZW E 5 [(0, .ref (zad E o0)), (1, .int a1), (2, .int a2), (3, .int v25), (4, .int v26)] [] M := by
    intro K55 hK55
    intro n5
    induction n5 with
    | zero => intro v25 v26 hf; rw [zf_X1_daysTo_L5] at hf; cases hf
    | succ n5 ih5 =>
      intro v25 v26 hf
      rw [zf_X1_daysTo_L5] at hf
      refine zw_iload hC dX1_daysTo_5 4 rfl ?_
      refine zw_aload_n hC dX1_daysTo_7 rfl 0 rfl ?_
      refine zw_geti hC zF_Told_channels ho0 dX1_daysTo_8 kw_1_43 ?_
      refine zw_icmp_ge hC 55 hf dX1_daysTo_11 (by decide) (fun hf => ?_) (fun hf => ?_)
      · exact zw_sub [] rfl (hK55 hf)
      · refine zw_aload_n hC dX1_daysTo_14 rfl 0 rfl ?_
        refine zw_iload_n hC dX1_daysTo_15 rfl 1 rfl ?_
        refine zw_iload hC dX1_daysTo_16 4 rfl ?_
        obtain ⟨v27, hc27, hf⟩ := zb1_some hf
        refine zw_cS hC [.ref (zad E o0), .int a1, .int v26] [] (st1 := [.int v27]) zm_X1_channelAt (zc_X1_channelAt ho0 hc27) kw_3_175 dX1_daysTo_18 rfl (by decide) (Nat.le_of_ble_eq_true rfl) rfl rfl ?_
        refine zw_istore hC (lv' := [(5, .int v27), (0, .ref (zad E o0)), (1, .int a1), (2, .int a2), (3, .int v25), (4, .int v26)]) dX1_daysTo_21 hN (by decide) rfl ?_
        refine zw_iload_n hC dX1_daysTo_23 rfl 4 rfl ?_
        refine zw_aload_n hC dX1_daysTo_24 rfl 1 rfl ?_
        refine zw_getr (k' := (o0 + 6)) hC zF_Told_wait ho0 rfl dX1_daysTo_25 kw_1_66 ?_
        refine zw_iload hC dX1_daysTo_28 0 rfl ?_
        refine zw_iald hC hf (zko_7_6 ho0) dX1_daysTo_30 (fun v28 hf => ?_)
        refine zw_iadd hC dX1_daysTo_31 ?_
        refine zw_istore_n hC (lv' := [(3, .int (v25 + v28)), (5, .int v27), (0, .ref (zad E o0)), (1, .int a1), (2, .int a2), (4, .int v26)]) dX1_daysTo_32 rfl hN (by decide) rfl ?_
        refine zw_aload_n hC dX1_daysTo_33 rfl 2 rfl ?_
        refine zw_getr (k' := (o0 + 4)) hC zF_Told_reach ho0 rfl dX1_daysTo_34 kw_1_58 ?_
        refine zw_iload_n hC dX1_daysTo_37 rfl 4 rfl ?_
        refine zw_iald hC hf (zko_7_4 ho0) dX1_daysTo_38 (fun v29 hf => ?_)
        refine zw_iload hC dX1_daysTo_39 1 rfl ?_
        obtain ⟨v30, hc30, hf⟩ := zb1_some hf
        refine zw_cN hC [.int v29, .int v27] [] (st1 := [.int v30]) zm_X9_has (zc_X9_has hc30) (by decide +kernel) dX1_daysTo_41 rfl (by decide) (Nat.le_of_ble_eq_true rfl) rfl rfl ?_
        refine zw_if_eq hC 49 hf dX1_daysTo_44 (by decide) (fun hf => ?_) (fun hf => ?_)
        · refine zw_iinc hC (v := (1 : Int32)) (lv' := [(4, .int (v26 + (1 : Int32))), (3, .int (v25 + v28)), (5, .int v27), (0, .ref (zad E o0)), (1, .int a1), (2, .int a2)]) dX1_daysTo_49 5 rfl (by decide) hN (by decide) rfl ?_
          refine zw_goto hC 5 dX1_daysTo_52 (by decide) ?_
          exact zw_sub [3, 4, 5, 1, 0] rfl (ih5 (v25 + v28) (v26 + (1 : Int32)) hf)
        · refine zw_iload_n hC dX1_daysTo_47 rfl 0 rfl ?_
          have h1 := Option.some.inj hf
          subst h1
          exact zw_iret hC hR dX1_daysTo_48
  refine zw_sub [2, 3, 4, 1, 0] rfl (hL5 _ ?_ n (0 : Int32) (0 : Int32) hf)
  · intro  hf
    refine zw_bipush hC (v := (-2 : Int32)) dX1_daysTo_55 (by decide) ?_
    have h1 := Option.some.inj hf
    subst h1
    exact zw_iret hC hR dX1_daysTo_57
/-! Mail.isInTime(LClassOfMany$Told;II)Z -/
theorem dX1_isInTime_0 : decode cX1_isInTime 0 = .ok (.iconst 0, 1) := by decide +kernel
theorem dX1_isInTime_1 : decode cX1_isInTime 1 = .ok (.istore_n 3, 1) := by decide +kernel
theorem dX1_isInTime_2 : decode cX1_isInTime 2 = .ok (.iload_n 3, 1) := by decide +kernel
theorem dX1_isInTime_3 : decode cX1_isInTime 3 = .ok (.aload_n 0, 1) := by decide +kernel
theorem dX1_isInTime_4 : decode cX1_isInTime 4 = .ok (.getfield 25, 3) := by decide +kernel
theorem dX1_isInTime_7 : decode cX1_isInTime 7 = .ok (.if_icmp .ge 21, 3) := by decide +kernel
theorem dX1_isInTime_10 : decode cX1_isInTime 10 = .ok (.aload_n 0, 1) := by decide +kernel
theorem dX1_isInTime_11 : decode cX1_isInTime 11 = .ok (.iload_n 1, 1) := by decide +kernel
theorem dX1_isInTime_12 : decode cX1_isInTime 12 = .ok (.iload_n 3, 1) := by decide +kernel
theorem dX1_isInTime_13 : decode cX1_isInTime 13 = .ok (.invokestatic 45, 3) := by decide +kernel
theorem dX1_isInTime_16 : decode cX1_isInTime 16 = .ok (.iload_n 2, 1) := by decide +kernel
theorem dX1_isInTime_17 : decode cX1_isInTime 17 = .ok (.if_icmp .le 5, 3) := by decide +kernel
theorem dX1_isInTime_20 : decode cX1_isInTime 20 = .ok (.iconst 0, 1) := by decide +kernel
theorem dX1_isInTime_21 : decode cX1_isInTime 21 = .ok (.ireturn, 1) := by decide +kernel
theorem dX1_isInTime_22 : decode cX1_isInTime 22 = .ok (.iinc 3 1, 3) := by decide +kernel
theorem dX1_isInTime_25 : decode cX1_isInTime 25 = .ok (.goto (-23), 3) := by decide +kernel
theorem dX1_isInTime_28 : decode cX1_isInTime 28 = .ok (.iconst 1, 1) := by decide +kernel
theorem dX1_isInTime_29 : decode cX1_isInTime 29 = .ok (.ireturn, 1) := by decide +kernel
theorem zm_X1_isInTime : ZMs yX1_isInTime cX1_isInTime 4 (some .boolean) 3 := ⟨kw_4_181, kw_4_180, kw_1_16, by decide +kernel, by decide⟩
def zf_X1_isInTime_L2 (M : ZMem) (o0 : Nat) (n : Nat) (a1 : Int32) (a2 : Int32) (K28 : Option (Int32)) : Nat → Int32 → Option (Int32)
  | 0, _ => none
  | n2 + 1, v22 =>
  (if (M o0 0) ≤ v22 then K28 else zb1 (zf_X1_daysTo n o0 a1 v22 M) (fun v23 => (if v23 ≤ a2 then (zf_X1_isInTime_L2 M o0 n a1 a2 K28 n2 (v22 + (1 : Int32))) else some (0 : Int32))))
def zf_X1_isInTime (n : Nat) (o0 : Nat) (a1 : Int32) (a2 : Int32) (M : ZMem) : Option (Int32) :=
  (zf_X1_isInTime_L2 M o0 n a1 a2 (some (1 : Int32)) n (0 : Int32))
set_option maxHeartbeats 4000000 in
set_option maxRecDepth 100000 in
theorem zc_X1_isInTime {l : Launch} {D : va_G} {ad : Nat → Nat} {cA : Nat → ClassId} {n : Nat} {o0 : Nat} {a1 : Int32} {a2 : Int32} {M : ZMem} {r : Int32} (ho0 : zk o0 = (7, 17)) (hf : zf_X1_isInTime n o0 a1 a2 M = some r) : ZCt l D ad cA yX1_isInTime cX1_isInTime 4 (some .boolean) 3 [.ref (ad o0), .int a1, .int a2] M (some (.int r)) M := by
  refine zct (by decide +kernel) (Nat.le_of_ble_eq_true rfl) (lv := [(0, .ref (ad o0)), (1, .int a1), (2, .int a2)]) rfl (fun E hl hD had hcA hN hC hR => ?_)
  subst hl; subst hD; subst had; subst hcA
  unfold zf_X1_isInTime at hf
  refine zw_iconst hC (v := (0 : Int32)) dX1_isInTime_0 (by decide) ?_
  refine zw_istore_n hC (lv' := [(3, .int (0 : Int32)), (0, .ref (zad E o0)), (1, .int a1), (2, .int a2)]) dX1_isInTime_1 rfl hN (by decide) rfl ?_
  have hL2 : ∀ (K28 : Option (Int32)), (K28 = some r → ZW E 28 [] [] M) → ∀ (n2 : Nat), ∀ (v22 : Int32), zf_X1_isInTime_L2 M o0 n a1 a2 K28 n2 v22 = some r → ZW E 2 [(0, .ref (zad E o0)), (1, .int a1), (2, .int a2), (3, .int v22)] [] M := by
    intro K28 hK28
    intro n2
    induction n2 with
    | zero => intro v22 hf; rw [zf_X1_isInTime_L2] at hf; cases hf
    | succ n2 ih2 =>
      intro v22 hf
      rw [zf_X1_isInTime_L2] at hf
      refine zw_iload_n hC dX1_isInTime_2 rfl 3 rfl ?_
      refine zw_aload_n hC dX1_isInTime_3 rfl 0 rfl ?_
      refine zw_geti hC zF_Told_members ho0 dX1_isInTime_4 kw_1_39 ?_
      refine zw_icmp_ge hC 28 hf dX1_isInTime_7 (by decide) (fun hf => ?_) (fun hf => ?_)
      · exact zw_sub [] rfl (hK28 hf)
      · refine zw_aload_n hC dX1_isInTime_10 rfl 0 rfl ?_
        refine zw_iload_n hC dX1_isInTime_11 rfl 1 rfl ?_
        refine zw_iload_n hC dX1_isInTime_12 rfl 3 rfl ?_
        obtain ⟨v23, hc23, hf⟩ := zb1_some hf
        refine zw_cS hC [.ref (zad E o0), .int a1, .int v22] [] (st1 := [.int v23]) zm_X1_daysTo (zc_X1_daysTo ho0 hc23) kw_4_182 dX1_isInTime_13 rfl (by decide) (Nat.le_of_ble_eq_true rfl) rfl rfl ?_
        refine zw_iload_n hC dX1_isInTime_16 rfl 2 rfl ?_
        refine zw_icmp_le hC 22 hf dX1_isInTime_17 (by decide) (fun hf => ?_) (fun hf => ?_)
        · refine zw_iinc hC (v := (1 : Int32)) (lv' := [(3, .int (v22 + (1 : Int32))), (0, .ref (zad E o0)), (1, .int a1), (2, .int a2)]) dX1_isInTime_22 3 rfl (by decide) hN (by decide) rfl ?_
          refine zw_goto hC 2 dX1_isInTime_25 (by decide) ?_
          exact zw_sub [1, 2, 3, 0] rfl (ih2 (v22 + (1 : Int32)) hf)
        · refine zw_iconst hC (v := (0 : Int32)) dX1_isInTime_20 (by decide) ?_
          have h1 := Option.some.inj hf
          subst h1
          exact zw_zret hC hR rfl dX1_isInTime_21
  refine zw_sub [1, 2, 3, 0] rfl (hL2 _ ?_ n (0 : Int32) hf)
  · intro  hf
    refine zw_iconst hC (v := (1 : Int32)) dX1_isInTime_28 (by decide) ?_
    have h1 := Option.some.inj hf
    subst h1
    exact zw_zret hC hR rfl dX1_isInTime_29
/-! Splitter.take(LClassOfMany$Told;LClassOfMany$Standing;)V -/
theorem dX6_take_0 : decode cX6_take 0 = .ok (.aload_n 0, 1) := by decide +kernel
theorem dX6_take_1 : decode cX6_take 1 = .ok (.aload_n 1, 1) := by decide +kernel
theorem dX6_take_2 : decode cX6_take 2 = .ok (.getfield 28, 3) := by decide +kernel
theorem dX6_take_5 : decode cX6_take 5 = .ok (.putfield 34, 3) := by decide +kernel
theorem dX6_take_8 : decode cX6_take 8 = .ok (.aload_n 0, 1) := by decide +kernel
theorem dX6_take_9 : decode cX6_take 9 = .ok (.iconst 1, 1) := by decide +kernel
theorem dX6_take_10 : decode cX6_take 10 = .ok (.aload_n 0, 1) := by decide +kernel
theorem dX6_take_11 : decode cX6_take 11 = .ok (.getfield 34, 3) := by decide +kernel
theorem dX6_take_14 : decode cX6_take 14 = .ok (.ishl, 1) := by decide +kernel
theorem dX6_take_15 : decode cX6_take 15 = .ok (.iconst 1, 1) := by decide +kernel
theorem dX6_take_16 : decode cX6_take 16 = .ok (.isub, 1) := by decide +kernel
theorem dX6_take_17 : decode cX6_take 17 = .ok (.aload_n 2, 1) := by decide +kernel
theorem dX6_take_18 : decode cX6_take 18 = .ok (.getfield 35, 3) := by decide +kernel
theorem dX6_take_21 : decode cX6_take 21 = .ok (.iconst (-1), 1) := by decide +kernel
theorem dX6_take_22 : decode cX6_take 22 = .ok (.ixor, 1) := by decide +kernel
theorem dX6_take_23 : decode cX6_take 23 = .ok (.iand, 1) := by decide +kernel
theorem dX6_take_24 : decode cX6_take 24 = .ok (.putfield 40, 3) := by decide +kernel
theorem dX6_take_27 : decode cX6_take 27 = .ok (.aload_n 0, 1) := by decide +kernel
theorem dX6_take_28 : decode cX6_take 28 = .ok (.iconst 0, 1) := by decide +kernel
theorem dX6_take_29 : decode cX6_take 29 = .ok (.putfield 43, 3) := by decide +kernel
theorem dX6_take_32 : decode cX6_take 32 = .ok (.aload_n 2, 1) := by decide +kernel
theorem dX6_take_33 : decode cX6_take 33 = .ok (.getfield 46, 3) := by decide +kernel
theorem dX6_take_36 : decode cX6_take 36 = .ok (.iconst 0, 1) := by decide +kernel
theorem dX6_take_37 : decode cX6_take 37 = .ok (.aload_n 0, 1) := by decide +kernel
theorem dX6_take_38 : decode cX6_take 38 = .ok (.getfield 9, 3) := by decide +kernel
theorem dX6_take_41 : decode cX6_take 41 = .ok (.iconst 0, 1) := by decide +kernel
theorem dX6_take_42 : decode cX6_take 42 = .ok (.bipush 10, 2) := by decide +kernel
theorem dX6_take_44 : decode cX6_take 44 = .ok (.invokestatic 47, 3) := by decide +kernel
theorem dX6_take_47 : decode cX6_take 47 = .ok (.return_, 1) := by decide +kernel
theorem zm_X6_take : ZMv "ClassOfMany$Splitter" yX6_take cX6_take 3 (none) 2 := ⟨kw_4_95, kw_4_93, kw_4_94, kw_1_6, by decide +kernel, by decide⟩
def zf_X6_take (o1 : Nat) (o2 : Nat) (M : ZMem) : Option (ZMem) :=
  zput M 57 0 (M o1 0) (fun M25 => zput M25 57 1 ((((1 : Int32) <<< ((M25 57 0) &&& 31)) - (1 : Int32)) &&& ((M25 o2 4) ^^^ (-1 : Int32))) (fun M26 => zput M26 57 5 (0 : Int32) (fun M27 => zcp M27 (o2 + 1) 58 10 10 (0 : Int32) (0 : Int32) (10 : Int32) (fun M28 => some M28))))
set_option maxHeartbeats 4000000 in
set_option maxRecDepth 100000 in
theorem zc_X6_take {l : Launch} {D : va_G} {ad : Nat → Nat} {cA : Nat → ClassId} {o1 : Nat} {o2 : Nat} {M : ZMem} {M' : ZMem} (ho1 : zk o1 = (7, 17)) (ho2 : zk o2 = (6, 12)) (hf : zf_X6_take o1 o2 M = some M') : ZCt l D ad cA yX6_take cX6_take 3 (none) 1 [.ref (ad 57), .ref (ad o1), .ref (ad o2)] M none M' := by
  refine zct (by decide +kernel) (Nat.le_of_ble_eq_true rfl) (lv := [(0, .ref (ad 57)), (1, .ref (ad o1)), (2, .ref (ad o2))]) rfl (fun E hl hD had hcA hN hC hR => ?_)
  subst hl; subst hD; subst had; subst hcA
  unfold zf_X6_take at hf
  refine zw_aload_n hC dX6_take_0 rfl 0 rfl ?_
  refine zw_aload_n hC dX6_take_1 rfl 1 rfl ?_
  refine zw_geti hC zF_Told_members ho1 dX6_take_2 kw_1_35 ?_
  refine zw_puti hC hf zF_Splitter_members zk_57 dX6_take_5 kw_2_21 (fun M25 hf => ?_)
  refine zw_aload_n hC dX6_take_8 rfl 0 rfl ?_
  refine zw_iconst hC (v := (1 : Int32)) dX6_take_9 (by decide) ?_
  refine zw_aload_n hC dX6_take_10 rfl 0 rfl ?_
  refine zw_geti hC zF_Splitter_members zk_57 dX6_take_11 kw_2_21 ?_
  refine zw_ishl hC dX6_take_14 ?_
  refine zw_iconst hC (v := (1 : Int32)) dX6_take_15 (by decide) ?_
  refine zw_isub hC dX6_take_16 ?_
  refine zw_aload_n hC dX6_take_17 rfl 2 rfl ?_
  refine zw_geti hC zF_Standing_out ho2 dX6_take_18 kw_1_142 ?_
  refine zw_iconst hC (v := (-1 : Int32)) dX6_take_21 (by decide) ?_
  refine zw_ixor hC dX6_take_22 ?_
  refine zw_iand hC dX6_take_23 ?_
  refine zw_puti hC hf zF_Splitter_in zk_57 dX6_take_24 kw_2_22 (fun M26 hf => ?_)
  refine zw_aload_n hC dX6_take_27 rfl 0 rfl ?_
  refine zw_iconst hC (v := (0 : Int32)) dX6_take_28 (by decide) ?_
  refine zw_puti hC hf zF_Splitter_size zk_57 dX6_take_29 kw_2_27 (fun M27 hf => ?_)
  refine zw_aload_n hC dX6_take_32 rfl 2 rfl ?_
  refine zw_getr (k' := (o2 + 1)) hC zF_Standing_foes ho2 rfl dX6_take_33 kw_1_169 ?_
  refine zw_iconst hC (v := (0 : Int32)) dX6_take_36 (by decide) ?_
  refine zw_aload_n hC dX6_take_37 rfl 0 rfl ?_
  refine zw_getr (k' := 58) hC zF_Splitter_foes zk_57 rfl dX6_take_38 kw_2_24 ?_
  refine zw_iconst hC (v := (0 : Int32)) dX6_take_41 (by decide) ?_
  refine zw_bipush hC (v := (10 : Int32)) dX6_take_42 (by decide) ?_
  refine zw_copy hC (by decide) (Nat.le_of_ble_eq_true rfl) hf (zko_6_1 ho2) zk_58 dX6_take_44 kw_4_96 kw_3_140 kw_3_139 kw_1_17 (fun M28 hf => ?_)
  have h1 := Option.some.inj hf
  subst h1
  exact zw_vret hC hR dX6_take_47
/-! Splitter.place(LClassOfMany$Splitter;II)Z -/
theorem dX6_place_0 : decode cX6_place 0 = .ok (.iload_n 1, 1) := by decide +kernel
theorem dX6_place_1 : decode cX6_place 1 = .ok (.aload_n 0, 1) := by decide +kernel
theorem dX6_place_2 : decode cX6_place 2 = .ok (.getfield 34, 3) := by decide +kernel
theorem dX6_place_5 : decode cX6_place 5 = .ok (.if_icmp .lt 5, 3) := by decide +kernel
theorem dX6_place_8 : decode cX6_place 8 = .ok (.iconst 1, 1) := by decide +kernel
theorem dX6_place_9 : decode cX6_place 9 = .ok (.ireturn, 1) := by decide +kernel
theorem dX6_place_10 : decode cX6_place 10 = .ok (.aload_n 0, 1) := by decide +kernel
theorem dX6_place_11 : decode cX6_place 11 = .ok (.getfield 40, 3) := by decide +kernel
theorem dX6_place_14 : decode cX6_place 14 = .ok (.iload_n 1, 1) := by decide +kernel
theorem dX6_place_15 : decode cX6_place 15 = .ok (.invokestatic 74, 3) := by decide +kernel
theorem dX6_place_18 : decode cX6_place 18 = .ok (.ifCond .ne 12, 3) := by decide +kernel
theorem dX6_place_21 : decode cX6_place 21 = .ok (.aload_n 0, 1) := by decide +kernel
theorem dX6_place_22 : decode cX6_place 22 = .ok (.iload_n 1, 1) := by decide +kernel
theorem dX6_place_23 : decode cX6_place 23 = .ok (.iconst 1, 1) := by decide +kernel
theorem dX6_place_24 : decode cX6_place 24 = .ok (.iadd, 1) := by decide +kernel
theorem dX6_place_25 : decode cX6_place 25 = .ok (.iload_n 2, 1) := by decide +kernel
theorem dX6_place_26 : decode cX6_place 26 = .ok (.invokestatic 70, 3) := by decide +kernel
theorem dX6_place_29 : decode cX6_place 29 = .ok (.ireturn, 1) := by decide +kernel
theorem dX6_place_30 : decode cX6_place 30 = .ok (.iload_n 2, 1) := by decide +kernel
theorem dX6_place_31 : decode cX6_place 31 = .ok (.aload_n 0, 1) := by decide +kernel
theorem dX6_place_32 : decode cX6_place 32 = .ok (.getfield 61, 3) := by decide +kernel
theorem dX6_place_35 : decode cX6_place 35 = .ok (.iconst 1, 1) := by decide +kernel
theorem dX6_place_36 : decode cX6_place 36 = .ok (.isub, 1) := by decide +kernel
theorem dX6_place_37 : decode cX6_place 37 = .ok (.invokestatic 78, 3) := by decide +kernel
theorem dX6_place_40 : decode cX6_place 40 = .ok (.istore_n 3, 1) := by decide +kernel
theorem dX6_place_41 : decode cX6_place 41 = .ok (.iconst 0, 1) := by decide +kernel
theorem dX6_place_42 : decode cX6_place 42 = .ok (.istore 4, 2) := by decide +kernel
theorem dX6_place_44 : decode cX6_place 44 = .ok (.iload 4, 2) := by decide +kernel
theorem dX6_place_46 : decode cX6_place 46 = .ok (.iload_n 3, 1) := by decide +kernel
theorem dX6_place_47 : decode cX6_place 47 = .ok (.if_icmp .gt 72, 3) := by decide +kernel
theorem dX6_place_50 : decode cX6_place 50 = .ok (.aload_n 0, 1) := by decide +kernel
theorem dX6_place_51 : decode cX6_place 51 = .ok (.getfield 15, 3) := by decide +kernel
theorem dX6_place_54 : decode cX6_place 54 = .ok (.iload 4, 2) := by decide +kernel
theorem dX6_place_56 : decode cX6_place 56 = .ok (.iaload, 1) := by decide +kernel
theorem dX6_place_57 : decode cX6_place 57 = .ok (.aload_n 0, 1) := by decide +kernel
theorem dX6_place_58 : decode cX6_place 58 = .ok (.getfield 9, 3) := by decide +kernel
theorem dX6_place_61 : decode cX6_place 61 = .ok (.iload_n 1, 1) := by decide +kernel
theorem dX6_place_62 : decode cX6_place 62 = .ok (.iaload, 1) := by decide +kernel
theorem dX6_place_63 : decode cX6_place 63 = .ok (.iand, 1) := by decide +kernel
theorem dX6_place_64 : decode cX6_place 64 = .ok (.ifCond .ne 49, 3) := by decide +kernel
theorem dX6_place_67 : decode cX6_place 67 = .ok (.aload_n 0, 1) := by decide +kernel
theorem dX6_place_68 : decode cX6_place 68 = .ok (.getfield 15, 3) := by decide +kernel
theorem dX6_place_71 : decode cX6_place 71 = .ok (.iload 4, 2) := by decide +kernel
theorem dX6_place_73 : decode cX6_place 73 = .ok (.dup2, 1) := by decide +kernel
theorem dX6_place_74 : decode cX6_place 74 = .ok (.iaload, 1) := by decide +kernel
theorem dX6_place_75 : decode cX6_place 75 = .ok (.iconst 1, 1) := by decide +kernel
theorem dX6_place_76 : decode cX6_place 76 = .ok (.iload_n 1, 1) := by decide +kernel
theorem dX6_place_77 : decode cX6_place 77 = .ok (.ishl, 1) := by decide +kernel
theorem dX6_place_78 : decode cX6_place 78 = .ok (.ior, 1) := by decide +kernel
theorem dX6_place_79 : decode cX6_place 79 = .ok (.iastore, 1) := by decide +kernel
theorem dX6_place_80 : decode cX6_place 80 = .ok (.aload_n 0, 1) := by decide +kernel
theorem dX6_place_81 : decode cX6_place 81 = .ok (.iload_n 1, 1) := by decide +kernel
theorem dX6_place_82 : decode cX6_place 82 = .ok (.iconst 1, 1) := by decide +kernel
theorem dX6_place_83 : decode cX6_place 83 = .ok (.iadd, 1) := by decide +kernel
theorem dX6_place_84 : decode cX6_place 84 = .ok (.iload_n 2, 1) := by decide +kernel
theorem dX6_place_85 : decode cX6_place 85 = .ok (.iload 4, 2) := by decide +kernel
theorem dX6_place_87 : decode cX6_place 87 = .ok (.iconst 1, 1) := by decide +kernel
theorem dX6_place_88 : decode cX6_place 88 = .ok (.iadd, 1) := by decide +kernel
theorem dX6_place_89 : decode cX6_place 89 = .ok (.invokestatic 84, 3) := by decide +kernel
theorem dX6_place_92 : decode cX6_place 92 = .ok (.invokestatic 70, 3) := by decide +kernel
theorem dX6_place_95 : decode cX6_place 95 = .ok (.ifCond .eq 5, 3) := by decide +kernel
theorem dX6_place_98 : decode cX6_place 98 = .ok (.iconst 1, 1) := by decide +kernel
theorem dX6_place_99 : decode cX6_place 99 = .ok (.ireturn, 1) := by decide +kernel
theorem dX6_place_100 : decode cX6_place 100 = .ok (.aload_n 0, 1) := by decide +kernel
theorem dX6_place_101 : decode cX6_place 101 = .ok (.getfield 15, 3) := by decide +kernel
theorem dX6_place_104 : decode cX6_place 104 = .ok (.iload 4, 2) := by decide +kernel
theorem dX6_place_106 : decode cX6_place 106 = .ok (.dup2, 1) := by decide +kernel
theorem dX6_place_107 : decode cX6_place 107 = .ok (.iaload, 1) := by decide +kernel
theorem dX6_place_108 : decode cX6_place 108 = .ok (.iconst 1, 1) := by decide +kernel
theorem dX6_place_109 : decode cX6_place 109 = .ok (.iload_n 1, 1) := by decide +kernel
theorem dX6_place_110 : decode cX6_place 110 = .ok (.ishl, 1) := by decide +kernel
theorem dX6_place_111 : decode cX6_place 111 = .ok (.ixor, 1) := by decide +kernel
theorem dX6_place_112 : decode cX6_place 112 = .ok (.iastore, 1) := by decide +kernel
theorem dX6_place_113 : decode cX6_place 113 = .ok (.iinc 4 1, 3) := by decide +kernel
theorem dX6_place_116 : decode cX6_place 116 = .ok (.goto (-72), 3) := by decide +kernel
theorem dX6_place_119 : decode cX6_place 119 = .ok (.iconst 0, 1) := by decide +kernel
theorem dX6_place_120 : decode cX6_place 120 = .ok (.ireturn, 1) := by decide +kernel
theorem zm_X6_place : ZMs yX6_place cX6_place 5 (some .boolean) 3 := ⟨kw_4_104, kw_4_103, kw_1_6, by decide +kernel, by decide⟩
def zf_X6_place_j113 (R44 : Int32 → ZMem → Option (Int32 × ZMem)) (v33 : Int32) (M38 : ZMem) : Option (Int32 × ZMem) :=
  (R44 (v33 + (1 : Int32)) M38)
def zf_X6_place_L44 (a2 : Int32) (M : ZMem) (a1 : Int32) (P : Int32 → Int32 → ZMem → Option (Int32 × ZMem)) (K119 : ZMem → Option (Int32 × ZMem)) : Nat → Int32 → ZMem → Option (Int32 × ZMem)
  | 0, _, _ => none
  | n44 + 1, v33, M34 =>
  (if (zmin a2 ((M 57 2) - (1 : Int32))) < v33 then (K119 M34) else zrd M34 59 10 v33 (fun v36 => zrd M34 58 10 a1 (fun v37 => (if (v36 &&& v37) = 0 then zrd M34 59 10 v33 (fun v39 => zst M34 59 10 v33 (v39 ||| ((1 : Int32) <<< (a1 &&& 31))) (fun M40 => zb2 (P (a1 + (1 : Int32)) (zmax a2 (v33 + (1 : Int32))) M40) (fun v41 M42 => (if v41 = 0 then zrd M42 59 10 v33 (fun v43 => zst M42 59 10 v33 (v43 ^^^ ((1 : Int32) <<< (a1 &&& 31))) (fun M44 => (zf_X6_place_j113 (fun x0 x1 => zf_X6_place_L44 a2 M a1 P K119 n44 x0 x1) v33 M44))) else some ((1 : Int32), M42))))) else (zf_X6_place_j113 (fun x0 x1 => zf_X6_place_L44 a2 M a1 P K119 n44 x0 x1) v33 M34)))))
def zf_X6_place_body (n : Nat) (P : Int32 → Int32 → ZMem → Option (Int32 × ZMem)) (a1 : Int32) (a2 : Int32) (M : ZMem) : Option (Int32 × ZMem) :=
  (if a1 < (M 57 0) then zb1 (zf_X9_has (M 57 1) a1) (fun v32 => (if v32 = 0 then zb2 (P (a1 + (1 : Int32)) a2 M) (fun v46 M47 => zbz v46 (some (v46, M47))) else (zf_X6_place_L44 a2 M a1 P (fun M45 => some ((0 : Int32), M45)) n (0 : Int32) M))) else some ((1 : Int32), M))
def zf_X6_place (n : Nat) : Nat → Int32 → Int32 → ZMem → Option (Int32 × ZMem)
  | 0, _, _, _ => none
  | dp + 1, a1, a2, M => zf_X6_place_body n (fun x0 x1 x2 => zf_X6_place n dp x0 x1 x2) a1 a2 M
set_option maxHeartbeats 4000000 in
set_option maxRecDepth 100000 in
theorem zc_X6_place_body {l : Launch} {D : va_G} {ad : Nat → Nat} {cA : Nat → ClassId} {n dp : Nat} {P : Int32 → Int32 → ZMem → Option (Int32 × ZMem)} (ihP : ∀ {a1 : Int32} {a2 : Int32} {M : ZMem} {r : Int32} {M' : ZMem}, P a1 a2 M = some (r, M') → ZCt l D ad cA yX6_place cX6_place 5 (some .boolean) (dp + 2) [.ref (ad 57), .int a1, .int a2] M (some (.int r)) M') {a1 : Int32} {a2 : Int32} {M : ZMem} {r : Int32} {M' : ZMem} (hf : zf_X6_place_body n P a1 a2 M = some (r, M')) : ZCt l D ad cA yX6_place cX6_place 5 (some .boolean) (dp + 3) [.ref (ad 57), .int a1, .int a2] M (some (.int r)) M' := by
  refine zct (by decide +kernel) (Nat.le_of_ble_eq_true rfl) (lv := [(0, .ref (ad 57)), (1, .int a1), (2, .int a2)]) rfl (fun E hl hD had hcA hN hC hR => ?_)
  subst hl; subst hD; subst had; subst hcA
  unfold zf_X6_place_body at hf
  refine zw_iload_n hC dX6_place_0 rfl 1 rfl ?_
  refine zw_aload_n hC dX6_place_1 rfl 0 rfl ?_
  refine zw_geti hC zF_Splitter_members zk_57 dX6_place_2 kw_2_21 ?_
  refine zw_icmp_lt hC 10 hf dX6_place_5 (by decide) (fun hf => ?_) (fun hf => ?_)
  · refine zw_aload_n hC dX6_place_10 rfl 0 rfl ?_
    refine zw_geti hC zF_Splitter_in zk_57 dX6_place_11 kw_2_22 ?_
    refine zw_iload_n hC dX6_place_14 rfl 1 rfl ?_
    obtain ⟨v32, hc32, hf⟩ := zb1_some hf
    refine zw_cN hC [.int (M 57 1), .int a1] [] (st1 := [.int v32]) zm_X9_has (zc_X9_has hc32) (by decide +kernel) dX6_place_15 rfl (by omega) (Nat.le_of_ble_eq_true rfl) rfl rfl ?_
    refine zw_if_ne hC 30 hf dX6_place_18 (by decide) (fun hf => ?_) (fun hf => ?_)
    · refine zw_iload_n hC dX6_place_30 rfl 2 rfl ?_
      refine zw_aload_n hC dX6_place_31 rfl 0 rfl ?_
      refine zw_geti hC zF_Splitter_limit zk_57 dX6_place_32 kw_2_23 ?_
      refine zw_iconst hC (v := (1 : Int32)) dX6_place_35 (by decide) ?_
      refine zw_isub hC dX6_place_36 ?_
      refine zw_mmin hC (by omega) (Nat.le_of_ble_eq_true rfl) dX6_place_37 kw_4_106 kw_3_163 kw_1_18 kw_3_164 ?_
      refine zw_istore_n hC (lv' := [(3, .int (zmin a2 ((M 57 2) - (1 : Int32)))), (0, .ref (zad E 57)), (1, .int a1), (2, .int a2)]) dX6_place_40 rfl hN (by decide) rfl ?_
      refine zw_iconst hC (v := (0 : Int32)) dX6_place_41 (by decide) ?_
      refine zw_istore hC (lv' := [(4, .int (0 : Int32)), (3, .int (zmin a2 ((M 57 2) - (1 : Int32)))), (0, .ref (zad E 57)), (1, .int a1), (2, .int a2)]) dX6_place_42 hN (by decide) rfl ?_
      have hL44 : ∀ (K119 : ZMem → Option (Int32 × ZMem)), (∀ (M35 : ZMem), K119 M35 = some (r, M') → ZW E 119 [] [] M35) → ∀ (n44 : Nat), ∀ (v33 : Int32), ∀ (M34 : ZMem), zf_X6_place_L44 a2 M a1 P K119 n44 v33 M34 = some (r, M') → ZW E 44 [(0, .ref (zad E 57)), (1, .int a1), (2, .int a2), (3, .int (zmin a2 ((M 57 2) - (1 : Int32)))), (4, .int v33)] [] M34 := by
        intro K119 hK119
        intro n44
        induction n44 with
        | zero => intro v33 M34 hf; rw [zf_X6_place_L44] at hf; cases hf
        | succ n44 ih44 =>
          intro v33 M34 hf
          rw [zf_X6_place_L44] at hf
          refine zw_iload hC dX6_place_44 4 rfl ?_
          refine zw_iload_n hC dX6_place_46 rfl 3 rfl ?_
          refine zw_icmp_gt hC 119 hf dX6_place_47 (by decide) (fun hf => ?_) (fun hf => ?_)
          · exact zw_sub [] rfl (hK119 M34 hf)
          · refine zw_aload_n hC dX6_place_50 rfl 0 rfl ?_
            refine zw_getr (k' := 59) hC zF_Splitter_groups zk_57 rfl dX6_place_51 kw_2_25 ?_
            refine zw_iload hC dX6_place_54 4 rfl ?_
            refine zw_iald hC hf zk_59 dX6_place_56 (fun v36 hf => ?_)
            refine zw_aload_n hC dX6_place_57 rfl 0 rfl ?_
            refine zw_getr (k' := 58) hC zF_Splitter_foes zk_57 rfl dX6_place_58 kw_2_24 ?_
            refine zw_iload_n hC dX6_place_61 rfl 1 rfl ?_
            refine zw_iald hC hf zk_58 dX6_place_62 (fun v37 hf => ?_)
            refine zw_iand hC dX6_place_63 ?_
            have hj113 : ∀ (M38 : ZMem), zf_X6_place_j113 (fun x0 x1 => zf_X6_place_L44 a2 M a1 P K119 n44 x0 x1) v33 M38 = some (r, M') → ZW E 113 [(0, .ref (zad E 57)), (1, .int a1), (2, .int a2), (3, .int (zmin a2 ((M 57 2) - (1 : Int32)))), (4, .int v33)] [] M38 := by
              intro M38 hf
              unfold zf_X6_place_j113 at hf
              refine zw_iinc hC (v := (1 : Int32)) (lv' := [(4, .int (v33 + (1 : Int32))), (0, .ref (zad E 57)), (1, .int a1), (2, .int a2), (3, .int (zmin a2 ((M 57 2) - (1 : Int32))))]) dX6_place_113 4 rfl (by decide) hN (by decide) rfl ?_
              refine zw_goto hC 44 dX6_place_116 (by decide) ?_
              exact zw_sub [1, 2, 3, 4, 0] rfl (ih44 (v33 + (1 : Int32)) M38 hf)
            refine zw_if_ne hC 113 hf dX6_place_64 (by decide) (fun hf => ?_) (fun hf => ?_)
            · exact hj113 M34 hf
            · refine zw_aload_n hC dX6_place_67 rfl 0 rfl ?_
              refine zw_getr (k' := 59) hC zF_Splitter_groups zk_57 rfl dX6_place_68 kw_2_25 ?_
              refine zw_iload hC dX6_place_71 4 rfl ?_
              refine zw_dup2 hC dX6_place_73 rfl rfl ?_
              refine zw_iald hC hf zk_59 dX6_place_74 (fun v39 hf => ?_)
              refine zw_iconst hC (v := (1 : Int32)) dX6_place_75 (by decide) ?_
              refine zw_iload_n hC dX6_place_76 rfl 1 rfl ?_
              refine zw_ishl hC dX6_place_77 ?_
              refine zw_ior hC dX6_place_78 ?_
              refine zw_iast hC hf zk_59 dX6_place_79 (fun M40 hf => ?_)
              refine zw_aload_n hC dX6_place_80 rfl 0 rfl ?_
              refine zw_iload_n hC dX6_place_81 rfl 1 rfl ?_
              refine zw_iconst hC (v := (1 : Int32)) dX6_place_82 (by decide) ?_
              refine zw_iadd hC dX6_place_83 ?_
              refine zw_iload_n hC dX6_place_84 rfl 2 rfl ?_
              refine zw_iload hC dX6_place_85 4 rfl ?_
              refine zw_iconst hC (v := (1 : Int32)) dX6_place_87 (by decide) ?_
              refine zw_iadd hC dX6_place_88 ?_
              refine zw_mmax hC (by omega) (Nat.le_of_ble_eq_true rfl) dX6_place_89 kw_4_107 kw_4_19 kw_1_18 kw_4_20 ?_
              obtain ⟨v41, M42, hcM42, hf⟩ := zb2_some hf
              refine zw_cS hC [.ref (zad E 57), .int (a1 + (1 : Int32)), .int (zmax a2 (v33 + (1 : Int32)))] [] (st1 := [.int v41]) zm_X6_place (ihP hcM42) kw_4_102 dX6_place_92 rfl (by omega) (Nat.le_of_ble_eq_true rfl) rfl rfl ?_
              refine zw_if_eq hC 100 hf dX6_place_95 (by decide) (fun hf => ?_) (fun hf => ?_)
              · refine zw_aload_n hC dX6_place_100 rfl 0 rfl ?_
                refine zw_getr (k' := 59) hC zF_Splitter_groups zk_57 rfl dX6_place_101 kw_2_25 ?_
                refine zw_iload hC dX6_place_104 4 rfl ?_
                refine zw_dup2 hC dX6_place_106 rfl rfl ?_
                refine zw_iald hC hf zk_59 dX6_place_107 (fun v43 hf => ?_)
                refine zw_iconst hC (v := (1 : Int32)) dX6_place_108 (by decide) ?_
                refine zw_iload_n hC dX6_place_109 rfl 1 rfl ?_
                refine zw_ishl hC dX6_place_110 ?_
                refine zw_ixor hC dX6_place_111 ?_
                refine zw_iast hC hf zk_59 dX6_place_112 (fun M44 hf => ?_)
                exact hj113 M44 hf
              · refine zw_iconst hC (v := (1 : Int32)) dX6_place_98 (by decide) ?_
                obtain ⟨h1, h2⟩ := Prod.mk.inj (Option.some.inj hf)
                subst h1; subst h2
                exact zw_zret hC hR rfl dX6_place_99
      refine zw_sub [2, 3, 4, 1, 0] rfl (hL44 _ ?_ n (0 : Int32) M hf)
      · intro M45 hf
        refine zw_iconst hC (v := (0 : Int32)) dX6_place_119 (by decide) ?_
        obtain ⟨h1, h2⟩ := Prod.mk.inj (Option.some.inj hf)
        subst h1; subst h2
        exact zw_zret hC hR rfl dX6_place_120
    · refine zw_aload_n hC dX6_place_21 rfl 0 rfl ?_
      refine zw_iload_n hC dX6_place_22 rfl 1 rfl ?_
      refine zw_iconst hC (v := (1 : Int32)) dX6_place_23 (by decide) ?_
      refine zw_iadd hC dX6_place_24 ?_
      refine zw_iload_n hC dX6_place_25 rfl 2 rfl ?_
      obtain ⟨v46, M47, hcM47, hf⟩ := zb2_some hf
      refine zw_cS hC [.ref (zad E 57), .int (a1 + (1 : Int32)), .int a2] [] (st1 := [.int v46]) zm_X6_place (ihP hcM47) kw_4_102 dX6_place_26 rfl (by omega) (Nat.le_of_ble_eq_true rfl) rfl rfl ?_
      obtain ⟨hz, hf⟩ := zbz_some hf
      obtain ⟨h1, h2⟩ := Prod.mk.inj (Option.some.inj hf)
      subst h1; subst h2
      exact zw_zret hC hR hz dX6_place_29
  · refine zw_iconst hC (v := (1 : Int32)) dX6_place_8 (by decide) ?_
    obtain ⟨h1, h2⟩ := Prod.mk.inj (Option.some.inj hf)
    subst h1; subst h2
    exact zw_zret hC hR rfl dX6_place_9
theorem zc_X6_place_all {l : Launch} {D : va_G} {ad : Nat → Nat} {cA : Nat → ClassId} {n : Nat} : ∀ (dp : Nat) {a1 : Int32} {a2 : Int32} {M : ZMem} {r : Int32} {M' : ZMem}, zf_X6_place n dp a1 a2 M = some (r, M') → ZCt l D ad cA yX6_place cX6_place 5 (some .boolean) (dp + 2) [.ref (ad 57), .int a1, .int a2] M (some (.int r)) M'
  | 0, a1, a2, M, r, M', hf => by rw [zf_X6_place] at hf; cases hf
  | dp + 1, a1, a2, M, r, M', hf => by
    rw [zf_X6_place] at hf
    exact zc_X6_place_body (fun h => zc_X6_place_all dp h) hf
theorem zc_X6_place {l : Launch} {D : va_G} {ad : Nat → Nat} {cA : Nat → ClassId} {n : Nat} {a1 : Int32} {a2 : Int32} {M : ZMem} {r : Int32} {M' : ZMem} (hf : zf_X6_place n 12 a1 a2 M = some (r, M')) : ZCt l D ad cA yX6_place cX6_place 5 (some .boolean) 14 [.ref (ad 57), .int a1, .int a2] M (some (.int r)) M' := zc_X6_place_all 12 hf
/-! Splitter.fitsInto(I)Z -/
theorem dX6_fitsInto_0 : decode cX6_fitsInto 0 = .ok (.aload_n 0, 1) := by decide +kernel
theorem dX6_fitsInto_1 : decode cX6_fitsInto 1 = .ok (.iload_n 1, 1) := by decide +kernel
theorem dX6_fitsInto_2 : decode cX6_fitsInto 2 = .ok (.putfield 61, 3) := by decide +kernel
theorem dX6_fitsInto_5 : decode cX6_fitsInto 5 = .ok (.aload_n 0, 1) := by decide +kernel
theorem dX6_fitsInto_6 : decode cX6_fitsInto 6 = .ok (.getfield 15, 3) := by decide +kernel
theorem dX6_fitsInto_9 : decode cX6_fitsInto 9 = .ok (.iconst 0, 1) := by decide +kernel
theorem dX6_fitsInto_10 : decode cX6_fitsInto 10 = .ok (.invokestatic 64, 3) := by decide +kernel
theorem dX6_fitsInto_13 : decode cX6_fitsInto 13 = .ok (.aload_n 0, 1) := by decide +kernel
theorem dX6_fitsInto_14 : decode cX6_fitsInto 14 = .ok (.iconst 0, 1) := by decide +kernel
theorem dX6_fitsInto_15 : decode cX6_fitsInto 15 = .ok (.iconst 0, 1) := by decide +kernel
theorem dX6_fitsInto_16 : decode cX6_fitsInto 16 = .ok (.invokestatic 70, 3) := by decide +kernel
theorem dX6_fitsInto_19 : decode cX6_fitsInto 19 = .ok (.ireturn, 1) := by decide +kernel
theorem zm_X6_fitsInto : ZMv "ClassOfMany$Splitter" yX6_fitsInto cX6_fitsInto 2 (some .boolean) 1 := ⟨kw_4_100, kw_4_99, kp_28, kw_1_6, by decide +kernel, by decide⟩
def zf_X6_fitsInto (n : Nat) (a1 : Int32) (M : ZMem) : Option (Int32 × ZMem) :=
  zput M 57 2 a1 (fun M25 => zb1 (zf_J7_fill_53178 n 59 10 (0 : Int32) M25) (fun M26 => zb2 (zf_X6_place n 12 (0 : Int32) (0 : Int32) M26) (fun v27 M28 => zbz v27 (some (v27, M28)))))
set_option maxHeartbeats 4000000 in
set_option maxRecDepth 100000 in
theorem zc_X6_fitsInto {l : Launch} {D : va_G} {ad : Nat → Nat} {cA : Nat → ClassId} {n : Nat} {a1 : Int32} {M : ZMem} {r : Int32} {M' : ZMem} (hf : zf_X6_fitsInto n a1 M = some (r, M')) : ZCt l D ad cA yX6_fitsInto cX6_fitsInto 2 (some .boolean) 15 [.ref (ad 57), .int a1] M (some (.int r)) M' := by
  refine zct (by decide +kernel) (Nat.le_of_ble_eq_true rfl) (lv := [(0, .ref (ad 57)), (1, .int a1)]) rfl (fun E hl hD had hcA hN hC hR => ?_)
  subst hl; subst hD; subst had; subst hcA
  unfold zf_X6_fitsInto at hf
  refine zw_aload_n hC dX6_fitsInto_0 rfl 0 rfl ?_
  refine zw_iload_n hC dX6_fitsInto_1 rfl 1 rfl ?_
  refine zw_puti hC hf zF_Splitter_limit zk_57 dX6_fitsInto_2 kw_2_23 (fun M25 hf => ?_)
  refine zw_aload_n hC dX6_fitsInto_5 rfl 0 rfl ?_
  refine zw_getr (k' := 59) hC zF_Splitter_groups zk_57 rfl dX6_fitsInto_6 kw_2_25 ?_
  refine zw_iconst hC (v := (0 : Int32)) dX6_fitsInto_9 (by decide) ?_
  obtain ⟨M26, hcM26, hf⟩ := zb1_some hf
  refine zw_cS hC [.ref (zad E 59), .int (0 : Int32)] [] (st1 := []) zm_J7_fill_53178 (zc_J7_fill_53178 zk_59 hcM26) kw_4_101 dX6_fitsInto_10 rfl (by decide) (Nat.le_of_ble_eq_true rfl) rfl rfl ?_
  refine zw_aload_n hC dX6_fitsInto_13 rfl 0 rfl ?_
  refine zw_iconst hC (v := (0 : Int32)) dX6_fitsInto_14 (by decide) ?_
  refine zw_iconst hC (v := (0 : Int32)) dX6_fitsInto_15 (by decide) ?_
  obtain ⟨v27, M28, hcM28, hf⟩ := zb2_some hf
  refine zw_cS hC [.ref (zad E 57), .int (0 : Int32), .int (0 : Int32)] [] (st1 := [.int v27]) zm_X6_place (zc_X6_place hcM28) kw_4_102 dX6_fitsInto_16 rfl (by decide) (Nat.le_of_ble_eq_true rfl) rfl rfl ?_
  obtain ⟨hz, hf⟩ := zbz_some hf
  obtain ⟨h1, h2⟩ := Prod.mk.inj (Option.some.inj hf)
  subst h1; subst h2
  exact zw_zret hC hR hz dX6_fitsInto_19
/-! Splitter.split(LClassOfMany$Told;LClassOfMany$Standing;)V -/
theorem dX6_split_0 : decode cX6_split 0 = .ok (.aload_n 0, 1) := by decide +kernel
theorem dX6_split_1 : decode cX6_split 1 = .ok (.aload_n 1, 1) := by decide +kernel
theorem dX6_split_2 : decode cX6_split 2 = .ok (.aload_n 2, 1) := by decide +kernel
theorem dX6_split_3 : decode cX6_split 3 = .ok (.invokevirtual 53, 3) := by decide +kernel
theorem dX6_split_6 : decode cX6_split 6 = .ok (.iconst 0, 1) := by decide +kernel
theorem dX6_split_7 : decode cX6_split 7 = .ok (.istore_n 3, 1) := by decide +kernel
theorem dX6_split_8 : decode cX6_split 8 = .ok (.iload_n 3, 1) := by decide +kernel
theorem dX6_split_9 : decode cX6_split 9 = .ok (.aload_n 0, 1) := by decide +kernel
theorem dX6_split_10 : decode cX6_split 10 = .ok (.getfield 34, 3) := by decide +kernel
theorem dX6_split_13 : decode cX6_split 13 = .ok (.if_icmp .gt 23, 3) := by decide +kernel
theorem dX6_split_16 : decode cX6_split 16 = .ok (.aload_n 0, 1) := by decide +kernel
theorem dX6_split_17 : decode cX6_split 17 = .ok (.iload_n 3, 1) := by decide +kernel
theorem dX6_split_18 : decode cX6_split 18 = .ok (.invokevirtual 57, 3) := by decide +kernel
theorem dX6_split_21 : decode cX6_split 21 = .ok (.ifCond .eq 9, 3) := by decide +kernel
theorem dX6_split_24 : decode cX6_split 24 = .ok (.aload_n 0, 1) := by decide +kernel
theorem dX6_split_25 : decode cX6_split 25 = .ok (.iload_n 3, 1) := by decide +kernel
theorem dX6_split_26 : decode cX6_split 26 = .ok (.putfield 43, 3) := by decide +kernel
theorem dX6_split_29 : decode cX6_split 29 = .ok (.return_, 1) := by decide +kernel
theorem dX6_split_30 : decode cX6_split 30 = .ok (.iinc 3 1, 3) := by decide +kernel
theorem dX6_split_33 : decode cX6_split 33 = .ok (.goto (-25), 3) := by decide +kernel
theorem dX6_split_36 : decode cX6_split 36 = .ok (.return_, 1) := by decide +kernel
theorem zm_X6_split : ZMv "ClassOfMany$Splitter" yX6_split cX6_split 4 (none) 2 := ⟨kw_4_91, kw_4_89, kw_4_90, kw_1_6, by decide +kernel, by decide⟩
def zf_X6_split_L8 (n : Nat) (K36 : ZMem → Option (ZMem)) : Nat → Int32 → ZMem → Option (ZMem)
  | 0, _, _ => none
  | n8 + 1, v26, M27 =>
  (if (M27 57 0) < v26 then (K36 M27) else zb2 (zf_X6_fitsInto n v26 M27) (fun v29 M30 => (if v29 = 0 then (zf_X6_split_L8 n K36 n8 (v26 + (1 : Int32)) M30) else zput M30 57 5 v26 (fun M31 => some M31))))
def zf_X6_split (n : Nat) (o1 : Nat) (o2 : Nat) (M : ZMem) : Option (ZMem) :=
  zb1 (zf_X6_take o1 o2 M) (fun M25 => (zf_X6_split_L8 n (fun M32 => some M32) n (0 : Int32) M25))
set_option maxHeartbeats 4000000 in
set_option maxRecDepth 100000 in
theorem zc_X6_split {l : Launch} {D : va_G} {ad : Nat → Nat} {cA : Nat → ClassId} {n : Nat} {o1 : Nat} {o2 : Nat} {M : ZMem} {M' : ZMem} (ho1 : zk o1 = (7, 17)) (ho2 : zk o2 = (6, 12)) (hf : zf_X6_split n o1 o2 M = some M') : ZCt l D ad cA yX6_split cX6_split 4 (none) 16 [.ref (ad 57), .ref (ad o1), .ref (ad o2)] M none M' := by
  refine zct (by decide +kernel) (Nat.le_of_ble_eq_true rfl) (lv := [(0, .ref (ad 57)), (1, .ref (ad o1)), (2, .ref (ad o2))]) rfl (fun E hl hD had hcA hN hC hR => ?_)
  subst hl; subst hD; subst had; subst hcA
  unfold zf_X6_split at hf
  refine zw_aload_n hC dX6_split_0 rfl 0 rfl ?_
  refine zw_aload_n hC dX6_split_1 rfl 1 rfl ?_
  refine zw_aload_n hC dX6_split_2 rfl 2 rfl ?_
  obtain ⟨M25, hcM25, hf⟩ := zb1_some hf
  refine zw_cV hC [.ref (zad E o1), .ref (zad E o2)] [] (st1 := []) zm_X6_take (zc_X6_take ho1 ho2 hcM25) zk_57 rfl kw_4_92 dX6_split_3 rfl (by decide) (Nat.le_of_ble_eq_true rfl) rfl rfl ?_
  refine zw_iconst hC (v := (0 : Int32)) dX6_split_6 (by decide) ?_
  refine zw_istore_n hC (lv' := [(3, .int (0 : Int32)), (0, .ref (zad E 57)), (1, .ref (zad E o1)), (2, .ref (zad E o2))]) dX6_split_7 rfl hN (by decide) rfl ?_
  have hL8 : ∀ (K36 : ZMem → Option (ZMem)), (∀ (M28 : ZMem), K36 M28 = some M' → ZW E 36 [] [] M28) → ∀ (n8 : Nat), ∀ (v26 : Int32), ∀ (M27 : ZMem), zf_X6_split_L8 n K36 n8 v26 M27 = some M' → ZW E 8 [(0, .ref (zad E 57)), (3, .int v26)] [] M27 := by
    intro K36 hK36
    intro n8
    induction n8 with
    | zero => intro v26 M27 hf; rw [zf_X6_split_L8] at hf; cases hf
    | succ n8 ih8 =>
      intro v26 M27 hf
      rw [zf_X6_split_L8] at hf
      refine zw_iload_n hC dX6_split_8 rfl 1 rfl ?_
      refine zw_aload_n hC dX6_split_9 rfl 0 rfl ?_
      refine zw_geti hC zF_Splitter_members zk_57 dX6_split_10 kw_2_21 ?_
      refine zw_icmp_gt hC 36 hf dX6_split_13 (by decide) (fun hf => ?_) (fun hf => ?_)
      · exact zw_sub [] rfl (hK36 M27 hf)
      · refine zw_aload_n hC dX6_split_16 rfl 0 rfl ?_
        refine zw_iload_n hC dX6_split_17 rfl 1 rfl ?_
        obtain ⟨v29, M30, hcM30, hf⟩ := zb2_some hf
        refine zw_cV hC [.int v26] [] (st1 := [.int v29]) zm_X6_fitsInto (zc_X6_fitsInto hcM30) zk_57 rfl kw_4_97 dX6_split_18 rfl (by decide) (Nat.le_of_ble_eq_true rfl) rfl rfl ?_
        refine zw_if_eq hC 30 hf dX6_split_21 (by decide) (fun hf => ?_) (fun hf => ?_)
        · refine zw_iinc hC (v := (1 : Int32)) (lv' := [(3, .int (v26 + (1 : Int32))), (0, .ref (zad E 57))]) dX6_split_30 1 rfl (by decide) hN (by decide) rfl ?_
          refine zw_goto hC 8 dX6_split_33 (by decide) ?_
          exact zw_sub [1, 0] rfl (ih8 (v26 + (1 : Int32)) M30 hf)
        · refine zw_aload_n hC dX6_split_24 rfl 0 rfl ?_
          refine zw_iload_n hC dX6_split_25 rfl 1 rfl ?_
          refine zw_puti hC hf zF_Splitter_size zk_57 dX6_split_26 kw_2_27 (fun M31 hf => ?_)
          have h1 := Option.some.inj hf
          subst h1
          exact zw_vret hC hR dX6_split_29
  refine zw_sub [1, 0] rfl (hL8 _ ?_ n (0 : Int32) M25 hf)
  · intro M32 hf
    have h1 := Option.some.inj hf
    subst h1
    exact zw_vret hC hR dX6_split_36
/-! Splitter.isGroup(I)Z -/
theorem dX6_isGroup_0 : decode cX6_isGroup 0 = .ok (.iload_n 1, 1) := by decide +kernel
theorem dX6_isGroup_1 : decode cX6_isGroup 1 = .ok (.ifCond .lt 15, 3) := by decide +kernel
theorem dX6_isGroup_4 : decode cX6_isGroup 4 = .ok (.iload_n 1, 1) := by decide +kernel
theorem dX6_isGroup_5 : decode cX6_isGroup 5 = .ok (.aload_n 0, 1) := by decide +kernel
theorem dX6_isGroup_6 : decode cX6_isGroup 6 = .ok (.getfield 43, 3) := by decide +kernel
theorem dX6_isGroup_9 : decode cX6_isGroup 9 = .ok (.if_icmp .ge 7, 3) := by decide +kernel
theorem dX6_isGroup_12 : decode cX6_isGroup 12 = .ok (.iconst 1, 1) := by decide +kernel
theorem dX6_isGroup_13 : decode cX6_isGroup 13 = .ok (.goto 4, 3) := by decide +kernel
theorem dX6_isGroup_16 : decode cX6_isGroup 16 = .ok (.iconst 0, 1) := by decide +kernel
theorem dX6_isGroup_17 : decode cX6_isGroup 17 = .ok (.ireturn, 1) := by decide +kernel
theorem zm_X6_isGroup : ZMv "ClassOfMany$Splitter" yX6_isGroup cX6_isGroup 2 (some .boolean) 1 := ⟨kw_4_123, kw_4_121, kw_4_122, kw_1_6, by decide +kernel, by decide⟩
def zf_X6_isGroup_j17 (v21 : Int32) : Option (Int32) :=
  zbz v21 (some v21)
def zf_X6_isGroup_j16 : Option (Int32) :=
  (zf_X6_isGroup_j17 (0 : Int32))
def zf_X6_isGroup (a1 : Int32) (M : ZMem) : Option (Int32) :=
  (if a1 < 0 then (zf_X6_isGroup_j16) else (if (M 57 5) ≤ a1 then (zf_X6_isGroup_j16) else (zf_X6_isGroup_j17 (1 : Int32))))
set_option maxHeartbeats 4000000 in
set_option maxRecDepth 100000 in
theorem zc_X6_isGroup {l : Launch} {D : va_G} {ad : Nat → Nat} {cA : Nat → ClassId} {a1 : Int32} {M : ZMem} {r : Int32} (hf : zf_X6_isGroup a1 M = some r) : ZCt l D ad cA yX6_isGroup cX6_isGroup 2 (some .boolean) 1 [.ref (ad 57), .int a1] M (some (.int r)) M := by
  refine zct (by decide +kernel) (Nat.le_of_ble_eq_true rfl) (lv := [(0, .ref (ad 57)), (1, .int a1)]) rfl (fun E hl hD had hcA hN hC hR => ?_)
  subst hl; subst hD; subst had; subst hcA
  unfold zf_X6_isGroup at hf
  refine zw_iload_n hC dX6_isGroup_0 rfl 1 rfl ?_
  have hj17 : ∀ (v21 : Int32), zf_X6_isGroup_j17 v21 = some r → ZW E 17 [] [.int v21] M := by
    intro v21 hf
    unfold zf_X6_isGroup_j17 at hf
    obtain ⟨hz, hf⟩ := zbz_some hf
    have h1 := Option.some.inj hf
    subst h1
    exact zw_zret hC hR hz dX6_isGroup_17
  have hj16 : zf_X6_isGroup_j16 = some r → ZW E 16 [] [] M := by
    intro  hf
    unfold zf_X6_isGroup_j16 at hf
    refine zw_iconst hC (v := (0 : Int32)) dX6_isGroup_16 (by decide) ?_
    exact hj17 (0 : Int32) hf
  refine zw_if_lt hC 16 hf dX6_isGroup_1 (by decide) (fun hf => ?_) (fun hf => ?_)
  · exact zw_sub [] rfl (hj16 hf)
  · refine zw_iload_n hC dX6_isGroup_4 rfl 1 rfl ?_
    refine zw_aload_n hC dX6_isGroup_5 rfl 0 rfl ?_
    refine zw_geti hC zF_Splitter_size zk_57 dX6_isGroup_6 kw_2_27 ?_
    refine zw_icmp_ge hC 16 hf dX6_isGroup_9 (by decide) (fun hf => ?_) (fun hf => ?_)
    · exact zw_sub [] rfl (hj16 hf)
    · refine zw_iconst hC (v := (1 : Int32)) dX6_isGroup_12 (by decide) ?_
      refine zw_goto hC 17 dX6_isGroup_13 (by decide) ?_
      exact zw_sub [] rfl (hj17 (1 : Int32) hf)
/-! Splitter.groupOf(I)I -/
theorem dX6_groupOf_0 : decode cX6_groupOf 0 = .ok (.iconst 0, 1) := by decide +kernel
theorem dX6_groupOf_1 : decode cX6_groupOf 1 = .ok (.istore_n 2, 1) := by decide +kernel
theorem dX6_groupOf_2 : decode cX6_groupOf 2 = .ok (.iload_n 2, 1) := by decide +kernel
theorem dX6_groupOf_3 : decode cX6_groupOf 3 = .ok (.aload_n 0, 1) := by decide +kernel
theorem dX6_groupOf_4 : decode cX6_groupOf 4 = .ok (.getfield 43, 3) := by decide +kernel
theorem dX6_groupOf_7 : decode cX6_groupOf 7 = .ok (.if_icmp .ge 24, 3) := by decide +kernel
theorem dX6_groupOf_10 : decode cX6_groupOf 10 = .ok (.aload_n 0, 1) := by decide +kernel
theorem dX6_groupOf_11 : decode cX6_groupOf 11 = .ok (.getfield 15, 3) := by decide +kernel
theorem dX6_groupOf_14 : decode cX6_groupOf 14 = .ok (.iload_n 2, 1) := by decide +kernel
theorem dX6_groupOf_15 : decode cX6_groupOf 15 = .ok (.iaload, 1) := by decide +kernel
theorem dX6_groupOf_16 : decode cX6_groupOf 16 = .ok (.iload_n 1, 1) := by decide +kernel
theorem dX6_groupOf_17 : decode cX6_groupOf 17 = .ok (.invokestatic 74, 3) := by decide +kernel
theorem dX6_groupOf_20 : decode cX6_groupOf 20 = .ok (.ifCond .eq 5, 3) := by decide +kernel
theorem dX6_groupOf_23 : decode cX6_groupOf 23 = .ok (.iload_n 2, 1) := by decide +kernel
theorem dX6_groupOf_24 : decode cX6_groupOf 24 = .ok (.ireturn, 1) := by decide +kernel
theorem dX6_groupOf_25 : decode cX6_groupOf 25 = .ok (.iinc 2 1, 3) := by decide +kernel
theorem dX6_groupOf_28 : decode cX6_groupOf 28 = .ok (.goto (-26), 3) := by decide +kernel
theorem dX6_groupOf_31 : decode cX6_groupOf 31 = .ok (.bipush (-2), 2) := by decide +kernel
theorem dX6_groupOf_33 : decode cX6_groupOf 33 = .ok (.ireturn, 1) := by decide +kernel
theorem zm_X6_groupOf : ZMv "ClassOfMany$Splitter" yX6_groupOf cX6_groupOf 3 (some .int) 1 := ⟨kw_4_115, kw_4_113, kw_4_114, kw_1_6, by decide +kernel, by decide⟩
def zf_X6_groupOf_L2 (M : ZMem) (a1 : Int32) (K31 : Option (Int32)) : Nat → Int32 → Option (Int32)
  | 0, _ => none
  | n2 + 1, v23 =>
  (if (M 57 5) ≤ v23 then K31 else zrd M 59 10 v23 (fun v24 => zb1 (zf_X9_has v24 a1) (fun v25 => (if v25 = 0 then (zf_X6_groupOf_L2 M a1 K31 n2 (v23 + (1 : Int32))) else some v23))))
def zf_X6_groupOf (n : Nat) (a1 : Int32) (M : ZMem) : Option (Int32) :=
  (zf_X6_groupOf_L2 M a1 (some (-2 : Int32)) n (0 : Int32))
set_option maxHeartbeats 4000000 in
set_option maxRecDepth 100000 in
theorem zc_X6_groupOf {l : Launch} {D : va_G} {ad : Nat → Nat} {cA : Nat → ClassId} {n : Nat} {a1 : Int32} {M : ZMem} {r : Int32} (hf : zf_X6_groupOf n a1 M = some r) : ZCt l D ad cA yX6_groupOf cX6_groupOf 3 (some .int) 2 [.ref (ad 57), .int a1] M (some (.int r)) M := by
  refine zct (by decide +kernel) (Nat.le_of_ble_eq_true rfl) (lv := [(0, .ref (ad 57)), (1, .int a1)]) rfl (fun E hl hD had hcA hN hC hR => ?_)
  subst hl; subst hD; subst had; subst hcA
  unfold zf_X6_groupOf at hf
  refine zw_iconst hC (v := (0 : Int32)) dX6_groupOf_0 (by decide) ?_
  refine zw_istore_n hC (lv' := [(2, .int (0 : Int32)), (0, .ref (zad E 57)), (1, .int a1)]) dX6_groupOf_1 rfl hN (by decide) rfl ?_
  have hL2 : ∀ (K31 : Option (Int32)), (K31 = some r → ZW E 31 [] [] M) → ∀ (n2 : Nat), ∀ (v23 : Int32), zf_X6_groupOf_L2 M a1 K31 n2 v23 = some r → ZW E 2 [(0, .ref (zad E 57)), (1, .int a1), (2, .int v23)] [] M := by
    intro K31 hK31
    intro n2
    induction n2 with
    | zero => intro v23 hf; rw [zf_X6_groupOf_L2] at hf; cases hf
    | succ n2 ih2 =>
      intro v23 hf
      rw [zf_X6_groupOf_L2] at hf
      refine zw_iload_n hC dX6_groupOf_2 rfl 2 rfl ?_
      refine zw_aload_n hC dX6_groupOf_3 rfl 0 rfl ?_
      refine zw_geti hC zF_Splitter_size zk_57 dX6_groupOf_4 kw_2_27 ?_
      refine zw_icmp_ge hC 31 hf dX6_groupOf_7 (by decide) (fun hf => ?_) (fun hf => ?_)
      · exact zw_sub [] rfl (hK31 hf)
      · refine zw_aload_n hC dX6_groupOf_10 rfl 0 rfl ?_
        refine zw_getr (k' := 59) hC zF_Splitter_groups zk_57 rfl dX6_groupOf_11 kw_2_25 ?_
        refine zw_iload_n hC dX6_groupOf_14 rfl 2 rfl ?_
        refine zw_iald hC hf zk_59 dX6_groupOf_15 (fun v24 hf => ?_)
        refine zw_iload_n hC dX6_groupOf_16 rfl 1 rfl ?_
        obtain ⟨v25, hc25, hf⟩ := zb1_some hf
        refine zw_cN hC [.int v24, .int a1] [] (st1 := [.int v25]) zm_X9_has (zc_X9_has hc25) (by decide +kernel) dX6_groupOf_17 rfl (by decide) (Nat.le_of_ble_eq_true rfl) rfl rfl ?_
        refine zw_if_eq hC 25 hf dX6_groupOf_20 (by decide) (fun hf => ?_) (fun hf => ?_)
        · refine zw_iinc hC (v := (1 : Int32)) (lv' := [(2, .int (v23 + (1 : Int32))), (0, .ref (zad E 57)), (1, .int a1)]) dX6_groupOf_25 2 rfl (by decide) hN (by decide) rfl ?_
          refine zw_goto hC 2 dX6_groupOf_28 (by decide) ?_
          exact zw_sub [1, 2, 0] rfl (ih2 (v23 + (1 : Int32)) hf)
        · refine zw_iload_n hC dX6_groupOf_23 rfl 2 rfl ?_
          have h1 := Option.some.inj hf
          subst h1
          exact zw_iret hC hR dX6_groupOf_24
  refine zw_sub [1, 2, 0] rfl (hL2 _ ?_ n (0 : Int32) hf)
  · intro  hf
    refine zw_bipush hC (v := (-2 : Int32)) dX6_groupOf_31 (by decide) ?_
    have h1 := Option.some.inj hf
    subst h1
    exact zw_iret hC hR dX6_groupOf_33
/-! Splitter.isFewerWithout(III)Z -/
theorem dX6_isFewerWithout_0 : decode cX6_isFewerWithout 0 = .ok (.aload_n 0, 1) := by decide +kernel
theorem dX6_isFewerWithout_1 : decode cX6_isFewerWithout 1 = .ok (.getfield 40, 3) := by decide +kernel
theorem dX6_isFewerWithout_4 : decode cX6_isFewerWithout 4 = .ok (.iload_n 1, 1) := by decide +kernel
theorem dX6_isFewerWithout_5 : decode cX6_isFewerWithout 5 = .ok (.invokestatic 74, 3) := by decide +kernel
theorem dX6_isFewerWithout_8 : decode cX6_isFewerWithout 8 = .ok (.ifCond .eq 14, 3) := by decide +kernel
theorem dX6_isFewerWithout_11 : decode cX6_isFewerWithout 11 = .ok (.aload_n 0, 1) := by decide +kernel
theorem dX6_isFewerWithout_12 : decode cX6_isFewerWithout 12 = .ok (.getfield 40, 3) := by decide +kernel
theorem dX6_isFewerWithout_15 : decode cX6_isFewerWithout 15 = .ok (.iload_n 2, 1) := by decide +kernel
theorem dX6_isFewerWithout_16 : decode cX6_isFewerWithout 16 = .ok (.invokestatic 74, 3) := by decide +kernel
theorem dX6_isFewerWithout_19 : decode cX6_isFewerWithout 19 = .ok (.ifCond .ne 5, 3) := by decide +kernel
theorem dX6_isFewerWithout_22 : decode cX6_isFewerWithout 22 = .ok (.iconst 0, 1) := by decide +kernel
theorem dX6_isFewerWithout_23 : decode cX6_isFewerWithout 23 = .ok (.ireturn, 1) := by decide +kernel
theorem dX6_isFewerWithout_24 : decode cX6_isFewerWithout 24 = .ok (.aload_n 0, 1) := by decide +kernel
theorem dX6_isFewerWithout_25 : decode cX6_isFewerWithout 25 = .ok (.getfield 9, 3) := by decide +kernel
theorem dX6_isFewerWithout_28 : decode cX6_isFewerWithout 28 = .ok (.iload_n 1, 1) := by decide +kernel
theorem dX6_isFewerWithout_29 : decode cX6_isFewerWithout 29 = .ok (.dup2, 1) := by decide +kernel
theorem dX6_isFewerWithout_30 : decode cX6_isFewerWithout 30 = .ok (.iaload, 1) := by decide +kernel
theorem dX6_isFewerWithout_31 : decode cX6_isFewerWithout 31 = .ok (.iconst 1, 1) := by decide +kernel
theorem dX6_isFewerWithout_32 : decode cX6_isFewerWithout 32 = .ok (.iload_n 2, 1) := by decide +kernel
theorem dX6_isFewerWithout_33 : decode cX6_isFewerWithout 33 = .ok (.ishl, 1) := by decide +kernel
theorem dX6_isFewerWithout_34 : decode cX6_isFewerWithout 34 = .ok (.ixor, 1) := by decide +kernel
theorem dX6_isFewerWithout_35 : decode cX6_isFewerWithout 35 = .ok (.iastore, 1) := by decide +kernel
theorem dX6_isFewerWithout_36 : decode cX6_isFewerWithout 36 = .ok (.aload_n 0, 1) := by decide +kernel
theorem dX6_isFewerWithout_37 : decode cX6_isFewerWithout 37 = .ok (.getfield 9, 3) := by decide +kernel
theorem dX6_isFewerWithout_40 : decode cX6_isFewerWithout 40 = .ok (.iload_n 2, 1) := by decide +kernel
theorem dX6_isFewerWithout_41 : decode cX6_isFewerWithout 41 = .ok (.dup2, 1) := by decide +kernel
theorem dX6_isFewerWithout_42 : decode cX6_isFewerWithout 42 = .ok (.iaload, 1) := by decide +kernel
theorem dX6_isFewerWithout_43 : decode cX6_isFewerWithout 43 = .ok (.iconst 1, 1) := by decide +kernel
theorem dX6_isFewerWithout_44 : decode cX6_isFewerWithout 44 = .ok (.iload_n 1, 1) := by decide +kernel
theorem dX6_isFewerWithout_45 : decode cX6_isFewerWithout 45 = .ok (.ishl, 1) := by decide +kernel
theorem dX6_isFewerWithout_46 : decode cX6_isFewerWithout 46 = .ok (.ixor, 1) := by decide +kernel
theorem dX6_isFewerWithout_47 : decode cX6_isFewerWithout 47 = .ok (.iastore, 1) := by decide +kernel
theorem dX6_isFewerWithout_48 : decode cX6_isFewerWithout 48 = .ok (.aload_n 0, 1) := by decide +kernel
theorem dX6_isFewerWithout_49 : decode cX6_isFewerWithout 49 = .ok (.iload_n 3, 1) := by decide +kernel
theorem dX6_isFewerWithout_50 : decode cX6_isFewerWithout 50 = .ok (.iconst 1, 1) := by decide +kernel
theorem dX6_isFewerWithout_51 : decode cX6_isFewerWithout 51 = .ok (.isub, 1) := by decide +kernel
theorem dX6_isFewerWithout_52 : decode cX6_isFewerWithout 52 = .ok (.invokevirtual 57, 3) := by decide +kernel
theorem dX6_isFewerWithout_55 : decode cX6_isFewerWithout 55 = .ok (.istore 4, 2) := by decide +kernel
theorem dX6_isFewerWithout_57 : decode cX6_isFewerWithout 57 = .ok (.aload_n 0, 1) := by decide +kernel
theorem dX6_isFewerWithout_58 : decode cX6_isFewerWithout 58 = .ok (.getfield 9, 3) := by decide +kernel
theorem dX6_isFewerWithout_61 : decode cX6_isFewerWithout 61 = .ok (.iload_n 1, 1) := by decide +kernel
theorem dX6_isFewerWithout_62 : decode cX6_isFewerWithout 62 = .ok (.dup2, 1) := by decide +kernel
theorem dX6_isFewerWithout_63 : decode cX6_isFewerWithout 63 = .ok (.iaload, 1) := by decide +kernel
theorem dX6_isFewerWithout_64 : decode cX6_isFewerWithout 64 = .ok (.iconst 1, 1) := by decide +kernel
theorem dX6_isFewerWithout_65 : decode cX6_isFewerWithout 65 = .ok (.iload_n 2, 1) := by decide +kernel
theorem dX6_isFewerWithout_66 : decode cX6_isFewerWithout 66 = .ok (.ishl, 1) := by decide +kernel
theorem dX6_isFewerWithout_67 : decode cX6_isFewerWithout 67 = .ok (.ixor, 1) := by decide +kernel
theorem dX6_isFewerWithout_68 : decode cX6_isFewerWithout 68 = .ok (.iastore, 1) := by decide +kernel
theorem dX6_isFewerWithout_69 : decode cX6_isFewerWithout 69 = .ok (.aload_n 0, 1) := by decide +kernel
theorem dX6_isFewerWithout_70 : decode cX6_isFewerWithout 70 = .ok (.getfield 9, 3) := by decide +kernel
theorem dX6_isFewerWithout_73 : decode cX6_isFewerWithout 73 = .ok (.iload_n 2, 1) := by decide +kernel
theorem dX6_isFewerWithout_74 : decode cX6_isFewerWithout 74 = .ok (.dup2, 1) := by decide +kernel
theorem dX6_isFewerWithout_75 : decode cX6_isFewerWithout 75 = .ok (.iaload, 1) := by decide +kernel
theorem dX6_isFewerWithout_76 : decode cX6_isFewerWithout 76 = .ok (.iconst 1, 1) := by decide +kernel
theorem dX6_isFewerWithout_77 : decode cX6_isFewerWithout 77 = .ok (.iload_n 1, 1) := by decide +kernel
theorem dX6_isFewerWithout_78 : decode cX6_isFewerWithout 78 = .ok (.ishl, 1) := by decide +kernel
theorem dX6_isFewerWithout_79 : decode cX6_isFewerWithout 79 = .ok (.ixor, 1) := by decide +kernel
theorem dX6_isFewerWithout_80 : decode cX6_isFewerWithout 80 = .ok (.iastore, 1) := by decide +kernel
theorem dX6_isFewerWithout_81 : decode cX6_isFewerWithout 81 = .ok (.iload 4, 2) := by decide +kernel
theorem dX6_isFewerWithout_83 : decode cX6_isFewerWithout 83 = .ok (.ireturn, 1) := by decide +kernel
theorem zm_X6_isFewerWithout : ZMv "ClassOfMany$Splitter" yX6_isFewerWithout cX6_isFewerWithout 5 (some .boolean) 3 := ⟨kw_4_161, kw_4_159, kw_4_160, kw_1_6, by decide +kernel, by decide⟩
def zf_X6_isFewerWithout_j22 (M : ZMem) : Option (Int32 × ZMem) :=
  some ((0 : Int32), M)
def zf_X6_isFewerWithout (n : Nat) (a1 : Int32) (a2 : Int32) (a3 : Int32) (M : ZMem) : Option (Int32 × ZMem) :=
  zb1 (zf_X9_has (M 57 1) a1) (fun v33 => (if v33 = 0 then (zf_X6_isFewerWithout_j22 M) else zb1 (zf_X9_has (M 57 1) a2) (fun v34 => (if v34 = 0 then (zf_X6_isFewerWithout_j22 M) else zrd M 58 10 a1 (fun v35 => zst M 58 10 a1 (v35 ^^^ ((1 : Int32) <<< (a2 &&& 31))) (fun M36 => zrd M36 58 10 a2 (fun v37 => zst M36 58 10 a2 (v37 ^^^ ((1 : Int32) <<< (a1 &&& 31))) (fun M38 => zb2 (zf_X6_fitsInto n (a3 - (1 : Int32)) M38) (fun v39 M40 => zrd M40 58 10 a1 (fun v41 => zst M40 58 10 a1 (v41 ^^^ ((1 : Int32) <<< (a2 &&& 31))) (fun M42 => zrd M42 58 10 a2 (fun v43 => zst M42 58 10 a2 (v43 ^^^ ((1 : Int32) <<< (a1 &&& 31))) (fun M44 => zbz v39 (some (v39, M44)))))))))))))))
set_option maxHeartbeats 4000000 in
set_option maxRecDepth 100000 in
theorem zc_X6_isFewerWithout {l : Launch} {D : va_G} {ad : Nat → Nat} {cA : Nat → ClassId} {n : Nat} {a1 : Int32} {a2 : Int32} {a3 : Int32} {M : ZMem} {r : Int32} {M' : ZMem} (hf : zf_X6_isFewerWithout n a1 a2 a3 M = some (r, M')) : ZCt l D ad cA yX6_isFewerWithout cX6_isFewerWithout 5 (some .boolean) 16 [.ref (ad 57), .int a1, .int a2, .int a3] M (some (.int r)) M' := by
  refine zct (by decide +kernel) (Nat.le_of_ble_eq_true rfl) (lv := [(0, .ref (ad 57)), (1, .int a1), (2, .int a2), (3, .int a3)]) rfl (fun E hl hD had hcA hN hC hR => ?_)
  subst hl; subst hD; subst had; subst hcA
  unfold zf_X6_isFewerWithout at hf
  refine zw_aload_n hC dX6_isFewerWithout_0 rfl 0 rfl ?_
  refine zw_geti hC zF_Splitter_in zk_57 dX6_isFewerWithout_1 kw_2_22 ?_
  refine zw_iload_n hC dX6_isFewerWithout_4 rfl 1 rfl ?_
  obtain ⟨v33, hc33, hf⟩ := zb1_some hf
  refine zw_cN hC [.int (M 57 1), .int a1] [] (st1 := [.int v33]) zm_X9_has (zc_X9_has hc33) (by decide +kernel) dX6_isFewerWithout_5 rfl (by decide) (Nat.le_of_ble_eq_true rfl) rfl rfl ?_
  have hj22 : zf_X6_isFewerWithout_j22 M = some (r, M') → ZW E 22 [] [] M := by
    intro  hf
    unfold zf_X6_isFewerWithout_j22 at hf
    refine zw_iconst hC (v := (0 : Int32)) dX6_isFewerWithout_22 (by decide) ?_
    obtain ⟨h1, h2⟩ := Prod.mk.inj (Option.some.inj hf)
    subst h1; subst h2
    exact zw_zret hC hR rfl dX6_isFewerWithout_23
  refine zw_if_eq hC 22 hf dX6_isFewerWithout_8 (by decide) (fun hf => ?_) (fun hf => ?_)
  · exact zw_sub [] rfl (hj22 hf)
  · refine zw_aload_n hC dX6_isFewerWithout_11 rfl 0 rfl ?_
    refine zw_geti hC zF_Splitter_in zk_57 dX6_isFewerWithout_12 kw_2_22 ?_
    refine zw_iload_n hC dX6_isFewerWithout_15 rfl 2 rfl ?_
    obtain ⟨v34, hc34, hf⟩ := zb1_some hf
    refine zw_cN hC [.int (M 57 1), .int a2] [] (st1 := [.int v34]) zm_X9_has (zc_X9_has hc34) (by decide +kernel) dX6_isFewerWithout_16 rfl (by decide) (Nat.le_of_ble_eq_true rfl) rfl rfl ?_
    refine zw_if_ne hC 24 hf dX6_isFewerWithout_19 (by decide) (fun hf => ?_) (fun hf => ?_)
    · refine zw_aload_n hC dX6_isFewerWithout_24 rfl 0 rfl ?_
      refine zw_getr (k' := 58) hC zF_Splitter_foes zk_57 rfl dX6_isFewerWithout_25 kw_2_24 ?_
      refine zw_iload_n hC dX6_isFewerWithout_28 rfl 1 rfl ?_
      refine zw_dup2 hC dX6_isFewerWithout_29 rfl rfl ?_
      refine zw_iald hC hf zk_58 dX6_isFewerWithout_30 (fun v35 hf => ?_)
      refine zw_iconst hC (v := (1 : Int32)) dX6_isFewerWithout_31 (by decide) ?_
      refine zw_iload_n hC dX6_isFewerWithout_32 rfl 2 rfl ?_
      refine zw_ishl hC dX6_isFewerWithout_33 ?_
      refine zw_ixor hC dX6_isFewerWithout_34 ?_
      refine zw_iast hC hf zk_58 dX6_isFewerWithout_35 (fun M36 hf => ?_)
      refine zw_aload_n hC dX6_isFewerWithout_36 rfl 0 rfl ?_
      refine zw_getr (k' := 58) hC zF_Splitter_foes zk_57 rfl dX6_isFewerWithout_37 kw_2_24 ?_
      refine zw_iload_n hC dX6_isFewerWithout_40 rfl 2 rfl ?_
      refine zw_dup2 hC dX6_isFewerWithout_41 rfl rfl ?_
      refine zw_iald hC hf zk_58 dX6_isFewerWithout_42 (fun v37 hf => ?_)
      refine zw_iconst hC (v := (1 : Int32)) dX6_isFewerWithout_43 (by decide) ?_
      refine zw_iload_n hC dX6_isFewerWithout_44 rfl 1 rfl ?_
      refine zw_ishl hC dX6_isFewerWithout_45 ?_
      refine zw_ixor hC dX6_isFewerWithout_46 ?_
      refine zw_iast hC hf zk_58 dX6_isFewerWithout_47 (fun M38 hf => ?_)
      refine zw_aload_n hC dX6_isFewerWithout_48 rfl 0 rfl ?_
      refine zw_iload_n hC dX6_isFewerWithout_49 rfl 3 rfl ?_
      refine zw_iconst hC (v := (1 : Int32)) dX6_isFewerWithout_50 (by decide) ?_
      refine zw_isub hC dX6_isFewerWithout_51 ?_
      obtain ⟨v39, M40, hcM40, hf⟩ := zb2_some hf
      refine zw_cV hC [.int (a3 - (1 : Int32))] [] (st1 := [.int v39]) zm_X6_fitsInto (zc_X6_fitsInto hcM40) zk_57 rfl kw_4_97 dX6_isFewerWithout_52 rfl (by decide) (Nat.le_of_ble_eq_true rfl) rfl rfl ?_
      refine zw_istore hC (lv' := [(4, .int v39), (0, .ref (zad E 57)), (1, .int a1), (2, .int a2), (3, .int a3)]) dX6_isFewerWithout_55 hN (by decide) rfl ?_
      refine zw_aload_n hC dX6_isFewerWithout_57 rfl 1 rfl ?_
      refine zw_getr (k' := 58) hC zF_Splitter_foes zk_57 rfl dX6_isFewerWithout_58 kw_2_24 ?_
      refine zw_iload_n hC dX6_isFewerWithout_61 rfl 2 rfl ?_
      refine zw_dup2 hC dX6_isFewerWithout_62 rfl rfl ?_
      refine zw_iald hC hf zk_58 dX6_isFewerWithout_63 (fun v41 hf => ?_)
      refine zw_iconst hC (v := (1 : Int32)) dX6_isFewerWithout_64 (by decide) ?_
      refine zw_iload_n hC dX6_isFewerWithout_65 rfl 3 rfl ?_
      refine zw_ishl hC dX6_isFewerWithout_66 ?_
      refine zw_ixor hC dX6_isFewerWithout_67 ?_
      refine zw_iast hC hf zk_58 dX6_isFewerWithout_68 (fun M42 hf => ?_)
      refine zw_aload_n hC dX6_isFewerWithout_69 rfl 1 rfl ?_
      refine zw_getr (k' := 58) hC zF_Splitter_foes zk_57 rfl dX6_isFewerWithout_70 kw_2_24 ?_
      refine zw_iload_n hC dX6_isFewerWithout_73 rfl 3 rfl ?_
      refine zw_dup2 hC dX6_isFewerWithout_74 rfl rfl ?_
      refine zw_iald hC hf zk_58 dX6_isFewerWithout_75 (fun v43 hf => ?_)
      refine zw_iconst hC (v := (1 : Int32)) dX6_isFewerWithout_76 (by decide) ?_
      refine zw_iload_n hC dX6_isFewerWithout_77 rfl 2 rfl ?_
      refine zw_ishl hC dX6_isFewerWithout_78 ?_
      refine zw_ixor hC dX6_isFewerWithout_79 ?_
      refine zw_iast hC hf zk_58 dX6_isFewerWithout_80 (fun M44 hf => ?_)
      refine zw_iload hC dX6_isFewerWithout_81 0 rfl ?_
      obtain ⟨hz, hf⟩ := zbz_some hf
      obtain ⟨h1, h2⟩ := Prod.mk.inj (Option.some.inj hf)
      subst h1; subst h2
      exact zw_zret hC hR hz dX6_isFewerWithout_83
    · exact zw_sub [] rfl (hj22 hf)
/-! Splitter.markPeaceful()V -/
theorem dX6_markPeaceful_0 : decode cX6_markPeaceful 0 = .ok (.aload_n 0, 1) := by decide +kernel
theorem dX6_markPeaceful_1 : decode cX6_markPeaceful 1 = .ok (.getfield 18, 3) := by decide +kernel
theorem dX6_markPeaceful_4 : decode cX6_markPeaceful 4 = .ok (.iconst 0, 1) := by decide +kernel
theorem dX6_markPeaceful_5 : decode cX6_markPeaceful 5 = .ok (.iconst 1, 1) := by decide +kernel
theorem dX6_markPeaceful_6 : decode cX6_markPeaceful 6 = .ok (.bastore, 1) := by decide +kernel
theorem dX6_markPeaceful_7 : decode cX6_markPeaceful 7 = .ok (.iconst 0, 1) := by decide +kernel
theorem dX6_markPeaceful_8 : decode cX6_markPeaceful 8 = .ok (.istore_n 1, 1) := by decide +kernel
theorem dX6_markPeaceful_9 : decode cX6_markPeaceful 9 = .ok (.iload_n 1, 1) := by decide +kernel
theorem dX6_markPeaceful_10 : decode cX6_markPeaceful 10 = .ok (.aload_n 0, 1) := by decide +kernel
theorem dX6_markPeaceful_11 : decode cX6_markPeaceful 11 = .ok (.getfield 34, 3) := by decide +kernel
theorem dX6_markPeaceful_14 : decode cX6_markPeaceful 14 = .ok (.if_icmp .ge 59, 3) := by decide +kernel
theorem dX6_markPeaceful_17 : decode cX6_markPeaceful 17 = .ok (.iconst 1, 1) := by decide +kernel
theorem dX6_markPeaceful_18 : decode cX6_markPeaceful 18 = .ok (.iload_n 1, 1) := by decide +kernel
theorem dX6_markPeaceful_19 : decode cX6_markPeaceful 19 = .ok (.ishl, 1) := by decide +kernel
theorem dX6_markPeaceful_20 : decode cX6_markPeaceful 20 = .ok (.istore_n 2, 1) := by decide +kernel
theorem dX6_markPeaceful_21 : decode cX6_markPeaceful 21 = .ok (.iconst 0, 1) := by decide +kernel
theorem dX6_markPeaceful_22 : decode cX6_markPeaceful 22 = .ok (.istore_n 3, 1) := by decide +kernel
theorem dX6_markPeaceful_23 : decode cX6_markPeaceful 23 = .ok (.iload_n 3, 1) := by decide +kernel
theorem dX6_markPeaceful_24 : decode cX6_markPeaceful 24 = .ok (.iload_n 2, 1) := by decide +kernel
theorem dX6_markPeaceful_25 : decode cX6_markPeaceful 25 = .ok (.if_icmp .ge 42, 3) := by decide +kernel
theorem dX6_markPeaceful_28 : decode cX6_markPeaceful 28 = .ok (.aload_n 0, 1) := by decide +kernel
theorem dX6_markPeaceful_29 : decode cX6_markPeaceful 29 = .ok (.getfield 18, 3) := by decide +kernel
theorem dX6_markPeaceful_32 : decode cX6_markPeaceful 32 = .ok (.iload_n 2, 1) := by decide +kernel
theorem dX6_markPeaceful_33 : decode cX6_markPeaceful 33 = .ok (.iload_n 3, 1) := by decide +kernel
theorem dX6_markPeaceful_34 : decode cX6_markPeaceful 34 = .ok (.ior, 1) := by decide +kernel
theorem dX6_markPeaceful_35 : decode cX6_markPeaceful 35 = .ok (.aload_n 0, 1) := by decide +kernel
theorem dX6_markPeaceful_36 : decode cX6_markPeaceful 36 = .ok (.getfield 18, 3) := by decide +kernel
theorem dX6_markPeaceful_39 : decode cX6_markPeaceful 39 = .ok (.iload_n 3, 1) := by decide +kernel
theorem dX6_markPeaceful_40 : decode cX6_markPeaceful 40 = .ok (.baload, 1) := by decide +kernel
theorem dX6_markPeaceful_41 : decode cX6_markPeaceful 41 = .ok (.ifCond .eq 18, 3) := by decide +kernel
theorem dX6_markPeaceful_44 : decode cX6_markPeaceful 44 = .ok (.aload_n 0, 1) := by decide +kernel
theorem dX6_markPeaceful_45 : decode cX6_markPeaceful 45 = .ok (.getfield 9, 3) := by decide +kernel
theorem dX6_markPeaceful_48 : decode cX6_markPeaceful 48 = .ok (.iload_n 1, 1) := by decide +kernel
theorem dX6_markPeaceful_49 : decode cX6_markPeaceful 49 = .ok (.iaload, 1) := by decide +kernel
theorem dX6_markPeaceful_50 : decode cX6_markPeaceful 50 = .ok (.iload_n 3, 1) := by decide +kernel
theorem dX6_markPeaceful_51 : decode cX6_markPeaceful 51 = .ok (.iand, 1) := by decide +kernel
theorem dX6_markPeaceful_52 : decode cX6_markPeaceful 52 = .ok (.ifCond .ne 7, 3) := by decide +kernel
theorem dX6_markPeaceful_55 : decode cX6_markPeaceful 55 = .ok (.iconst 1, 1) := by decide +kernel
theorem dX6_markPeaceful_56 : decode cX6_markPeaceful 56 = .ok (.goto 4, 3) := by decide +kernel
theorem dX6_markPeaceful_59 : decode cX6_markPeaceful 59 = .ok (.iconst 0, 1) := by decide +kernel
theorem dX6_markPeaceful_60 : decode cX6_markPeaceful 60 = .ok (.bastore, 1) := by decide +kernel
theorem dX6_markPeaceful_61 : decode cX6_markPeaceful 61 = .ok (.iinc 3 1, 3) := by decide +kernel
theorem dX6_markPeaceful_64 : decode cX6_markPeaceful 64 = .ok (.goto (-41), 3) := by decide +kernel
theorem dX6_markPeaceful_67 : decode cX6_markPeaceful 67 = .ok (.iinc 1 1, 3) := by decide +kernel
theorem dX6_markPeaceful_70 : decode cX6_markPeaceful 70 = .ok (.goto (-61), 3) := by decide +kernel
theorem dX6_markPeaceful_73 : decode cX6_markPeaceful 73 = .ok (.return_, 1) := by decide +kernel
theorem zm_X6_markPeaceful : ZMv "ClassOfMany$Splitter" yX6_markPeaceful cX6_markPeaceful 4 (none) 0 := ⟨kw_4_136, kw_4_135, kp_29, kw_1_6, by decide +kernel, by decide⟩
def zf_X6_markPeaceful_j60 (M30 : ZMem) (v26 : Int32) (v29 : Int32) (R23 : Int32 → ZMem → Option (ZMem)) (v33 : Int32) : Option (ZMem) :=
  zst M30 60 1024 (((1 : Int32) <<< (v26 &&& 31)) ||| v29) (vp_nar .boolean v33) (fun M34 => (R23 (v29 + (1 : Int32)) M34))
def zf_X6_markPeaceful_j59 (M30 : ZMem) (v26 : Int32) (v29 : Int32) (R23 : Int32 → ZMem → Option (ZMem)) : Option (ZMem) :=
  (zf_X6_markPeaceful_j60 M30 v26 v29 R23 (0 : Int32))
def zf_X6_markPeaceful_L23 (v26 : Int32) (K67 : ZMem → Option (ZMem)) : Nat → Int32 → ZMem → Option (ZMem)
  | 0, _, _ => none
  | n23 + 1, v29, M30 =>
  (if ((1 : Int32) <<< (v26 &&& 31)) ≤ v29 then (K67 M30) else zrd M30 60 1024 v29 (fun v32 => (if v32 = 0 then (zf_X6_markPeaceful_j59 M30 v26 v29 (fun x0 x1 => zf_X6_markPeaceful_L23 v26 K67 n23 x0 x1)) else zrd M30 58 10 v26 (fun v35 => (if (v35 &&& v29) = 0 then (zf_X6_markPeaceful_j60 M30 v26 v29 (fun x0 x1 => zf_X6_markPeaceful_L23 v26 K67 n23 x0 x1) (1 : Int32)) else (zf_X6_markPeaceful_j59 M30 v26 v29 (fun x0 x1 => zf_X6_markPeaceful_L23 v26 K67 n23 x0 x1)))))))
def zf_X6_markPeaceful_L9 (n : Nat) (K73 : ZMem → Option (ZMem)) : Nat → Int32 → ZMem → Option (ZMem)
  | 0, _, _ => none
  | n9 + 1, v26, M27 =>
  (if (M27 57 0) ≤ v26 then (K73 M27) else (zf_X6_markPeaceful_L23 v26 (fun M36 => (zf_X6_markPeaceful_L9 n K73 n9 (v26 + (1 : Int32)) M36)) n (0 : Int32) M27))
def zf_X6_markPeaceful (n : Nat) (M : ZMem) : Option (ZMem) :=
  zst M 60 1024 (0 : Int32) (vp_nar .boolean (1 : Int32)) (fun M25 => (zf_X6_markPeaceful_L9 n (fun M37 => some M37) n (0 : Int32) M25))
set_option maxHeartbeats 4000000 in
set_option maxRecDepth 100000 in
theorem zc_X6_markPeaceful {l : Launch} {D : va_G} {ad : Nat → Nat} {cA : Nat → ClassId} {n : Nat} {M : ZMem} {M' : ZMem} (hf : zf_X6_markPeaceful n M = some M') : ZCt l D ad cA yX6_markPeaceful cX6_markPeaceful 4 (none) 1 [.ref (ad 57)] M none M' := by
  refine zct (by decide +kernel) (Nat.le_of_ble_eq_true rfl) (lv := [(0, .ref (ad 57))]) rfl (fun E hl hD had hcA hN hC hR => ?_)
  subst hl; subst hD; subst had; subst hcA
  unfold zf_X6_markPeaceful at hf
  refine zw_aload_n hC dX6_markPeaceful_0 rfl 0 rfl ?_
  refine zw_getr (k' := 60) hC zF_Splitter_peaceful zk_57 rfl dX6_markPeaceful_1 kw_2_29 ?_
  refine zw_iconst hC (v := (0 : Int32)) dX6_markPeaceful_4 (by decide) ?_
  refine zw_iconst hC (v := (1 : Int32)) dX6_markPeaceful_5 (by decide) ?_
  refine zw_zast hC hf zk_60 dX6_markPeaceful_6 (fun M25 hf => ?_)
  refine zw_iconst hC (v := (0 : Int32)) dX6_markPeaceful_7 (by decide) ?_
  refine zw_istore_n hC (lv' := [(1, .int (0 : Int32)), (0, .ref (zad E 57))]) dX6_markPeaceful_8 rfl hN (by decide) rfl ?_
  have hL9 : ∀ (K73 : ZMem → Option (ZMem)), (∀ (M28 : ZMem), K73 M28 = some M' → ZW E 73 [] [] M28) → ∀ (n9 : Nat), ∀ (v26 : Int32), ∀ (M27 : ZMem), zf_X6_markPeaceful_L9 n K73 n9 v26 M27 = some M' → ZW E 9 [(0, .ref (zad E 57)), (1, .int v26)] [] M27 := by
    intro K73 hK73
    intro n9
    induction n9 with
    | zero => intro v26 M27 hf; rw [zf_X6_markPeaceful_L9] at hf; cases hf
    | succ n9 ih9 =>
      intro v26 M27 hf
      rw [zf_X6_markPeaceful_L9] at hf
      refine zw_iload_n hC dX6_markPeaceful_9 rfl 1 rfl ?_
      refine zw_aload_n hC dX6_markPeaceful_10 rfl 0 rfl ?_
      refine zw_geti hC zF_Splitter_members zk_57 dX6_markPeaceful_11 kw_2_21 ?_
      refine zw_icmp_ge hC 73 hf dX6_markPeaceful_14 (by decide) (fun hf => ?_) (fun hf => ?_)
      · exact zw_sub [] rfl (hK73 M27 hf)
      · refine zw_iconst hC (v := (1 : Int32)) dX6_markPeaceful_17 (by decide) ?_
        refine zw_iload_n hC dX6_markPeaceful_18 rfl 1 rfl ?_
        refine zw_ishl hC dX6_markPeaceful_19 ?_
        refine zw_istore_n hC (lv' := [(2, .int ((1 : Int32) <<< (v26 &&& 31))), (0, .ref (zad E 57)), (1, .int v26)]) dX6_markPeaceful_20 rfl hN (by decide) rfl ?_
        refine zw_iconst hC (v := (0 : Int32)) dX6_markPeaceful_21 (by decide) ?_
        refine zw_istore_n hC (lv' := [(3, .int (0 : Int32)), (2, .int ((1 : Int32) <<< (v26 &&& 31))), (0, .ref (zad E 57)), (1, .int v26)]) dX6_markPeaceful_22 rfl hN (by decide) rfl ?_
        have hL23 : ∀ (K67 : ZMem → Option (ZMem)), (∀ (M31 : ZMem), K67 M31 = some M' → ZW E 67 [(0, .ref (zad E 57)), (1, .int v26)] [] M31) → ∀ (n23 : Nat), ∀ (v29 : Int32), ∀ (M30 : ZMem), zf_X6_markPeaceful_L23 v26 K67 n23 v29 M30 = some M' → ZW E 23 [(0, .ref (zad E 57)), (1, .int v26), (2, .int ((1 : Int32) <<< (v26 &&& 31))), (3, .int v29)] [] M30 := by
          intro K67 hK67
          intro n23
          induction n23 with
          | zero => intro v29 M30 hf; rw [zf_X6_markPeaceful_L23] at hf; cases hf
          | succ n23 ih23 =>
            intro v29 M30 hf
            rw [zf_X6_markPeaceful_L23] at hf
            refine zw_iload_n hC dX6_markPeaceful_23 rfl 3 rfl ?_
            refine zw_iload_n hC dX6_markPeaceful_24 rfl 2 rfl ?_
            refine zw_icmp_ge hC 67 hf dX6_markPeaceful_25 (by decide) (fun hf => ?_) (fun hf => ?_)
            · exact zw_sub [0, 1] rfl (hK67 M30 hf)
            · refine zw_aload_n hC dX6_markPeaceful_28 rfl 0 rfl ?_
              refine zw_getr (k' := 60) hC zF_Splitter_peaceful zk_57 rfl dX6_markPeaceful_29 kw_2_29 ?_
              refine zw_iload_n hC dX6_markPeaceful_32 rfl 2 rfl ?_
              refine zw_iload_n hC dX6_markPeaceful_33 rfl 3 rfl ?_
              refine zw_ior hC dX6_markPeaceful_34 ?_
              refine zw_aload_n hC dX6_markPeaceful_35 rfl 0 rfl ?_
              refine zw_getr (k' := 60) hC zF_Splitter_peaceful zk_57 rfl dX6_markPeaceful_36 kw_2_29 ?_
              refine zw_iload_n hC dX6_markPeaceful_39 rfl 3 rfl ?_
              refine zw_zald hC hf zk_60 dX6_markPeaceful_40 (fun v32 hf => ?_)
              have hj60 : ∀ (v33 : Int32), zf_X6_markPeaceful_j60 M30 v26 v29 (fun x0 x1 => zf_X6_markPeaceful_L23 v26 K67 n23 x0 x1) v33 = some M' → ZW E 60 [(0, .ref (zad E 57)), (1, .int v26), (2, .int ((1 : Int32) <<< (v26 &&& 31))), (3, .int v29)] [.int v33, .int (((1 : Int32) <<< (v26 &&& 31)) ||| v29), .ref (zad E 60)] M30 := by
                intro v33 hf
                unfold zf_X6_markPeaceful_j60 at hf
                refine zw_zast hC hf zk_60 dX6_markPeaceful_60 (fun M34 hf => ?_)
                refine zw_iinc hC (v := (1 : Int32)) (lv' := [(3, .int (v29 + (1 : Int32))), (0, .ref (zad E 57)), (1, .int v26), (2, .int ((1 : Int32) <<< (v26 &&& 31)))]) dX6_markPeaceful_61 3 rfl (by decide) hN (by decide) rfl ?_
                refine zw_goto hC 23 dX6_markPeaceful_64 (by decide) ?_
                exact zw_sub [1, 2, 3, 0] rfl (ih23 (v29 + (1 : Int32)) M34 hf)
              have hj59 : zf_X6_markPeaceful_j59 M30 v26 v29 (fun x0 x1 => zf_X6_markPeaceful_L23 v26 K67 n23 x0 x1) = some M' → ZW E 59 [(0, .ref (zad E 57)), (1, .int v26), (2, .int ((1 : Int32) <<< (v26 &&& 31))), (3, .int v29)] [.int (((1 : Int32) <<< (v26 &&& 31)) ||| v29), .ref (zad E 60)] M30 := by
                intro  hf
                unfold zf_X6_markPeaceful_j59 at hf
                refine zw_iconst hC (v := (0 : Int32)) dX6_markPeaceful_59 (by decide) ?_
                exact hj60 (0 : Int32) hf
              refine zw_if_eq hC 59 hf dX6_markPeaceful_41 (by decide) (fun hf => ?_) (fun hf => ?_)
              · exact hj59 hf
              · refine zw_aload_n hC dX6_markPeaceful_44 rfl 0 rfl ?_
                refine zw_getr (k' := 58) hC zF_Splitter_foes zk_57 rfl dX6_markPeaceful_45 kw_2_24 ?_
                refine zw_iload_n hC dX6_markPeaceful_48 rfl 1 rfl ?_
                refine zw_iald hC hf zk_58 dX6_markPeaceful_49 (fun v35 hf => ?_)
                refine zw_iload_n hC dX6_markPeaceful_50 rfl 3 rfl ?_
                refine zw_iand hC dX6_markPeaceful_51 ?_
                refine zw_if_ne hC 59 hf dX6_markPeaceful_52 (by decide) (fun hf => ?_) (fun hf => ?_)
                · exact hj59 hf
                · refine zw_iconst hC (v := (1 : Int32)) dX6_markPeaceful_55 (by decide) ?_
                  refine zw_goto hC 60 dX6_markPeaceful_56 (by decide) ?_
                  exact hj60 (1 : Int32) hf
        refine zw_sub [2, 3, 1, 0] rfl (hL23 _ ?_ n (0 : Int32) M27 hf)
        · intro M36 hf
          refine zw_iinc hC (v := (1 : Int32)) (lv' := [(1, .int (v26 + (1 : Int32))), (0, .ref (zad E 57))]) dX6_markPeaceful_67 1 rfl (by decide) hN (by decide) rfl ?_
          refine zw_goto hC 9 dX6_markPeaceful_70 (by decide) ?_
          exact zw_sub [1, 0] rfl (ih9 (v26 + (1 : Int32)) M36 hf)
  refine zw_sub [1, 0] rfl (hL9 _ ?_ n (0 : Int32) M25 hf)
  · intro M37 hf
    have h1 := Option.some.inj hf
    subst h1
    exact zw_vret hC hR dX6_markPeaceful_73
/-! Splitter.waysOf(I[I)I -/
theorem dX6_waysOf_0 : decode cX6_waysOf 0 = .ok (.iload_n 1, 1) := by decide +kernel
theorem dX6_waysOf_1 : decode cX6_waysOf 1 = .ok (.iload_n 1, 1) := by decide +kernel
theorem dX6_waysOf_2 : decode cX6_waysOf 2 = .ok (.iconst 1, 1) := by decide +kernel
theorem dX6_waysOf_3 : decode cX6_waysOf 3 = .ok (.isub, 1) := by decide +kernel
theorem dX6_waysOf_4 : decode cX6_waysOf 4 = .ok (.iand, 1) := by decide +kernel
theorem dX6_waysOf_5 : decode cX6_waysOf 5 = .ok (.istore_n 3, 1) := by decide +kernel
theorem dX6_waysOf_6 : decode cX6_waysOf 6 = .ok (.iload_n 1, 1) := by decide +kernel
theorem dX6_waysOf_7 : decode cX6_waysOf 7 = .ok (.iload_n 3, 1) := by decide +kernel
theorem dX6_waysOf_8 : decode cX6_waysOf 8 = .ok (.ixor, 1) := by decide +kernel
theorem dX6_waysOf_9 : decode cX6_waysOf 9 = .ok (.istore 4, 2) := by decide +kernel
theorem dX6_waysOf_11 : decode cX6_waysOf 11 = .ok (.iload 4, 2) := by decide +kernel
theorem dX6_waysOf_13 : decode cX6_waysOf 13 = .ok (.ifCond .ne 5, 3) := by decide +kernel
theorem dX6_waysOf_16 : decode cX6_waysOf 16 = .ok (.iconst 0, 1) := by decide +kernel
theorem dX6_waysOf_17 : decode cX6_waysOf 17 = .ok (.ireturn, 1) := by decide +kernel
theorem dX6_waysOf_18 : decode cX6_waysOf 18 = .ok (.iconst 0, 1) := by decide +kernel
theorem dX6_waysOf_19 : decode cX6_waysOf 19 = .ok (.istore 5, 2) := by decide +kernel
theorem dX6_waysOf_21 : decode cX6_waysOf 21 = .ok (.iload_n 3, 1) := by decide +kernel
theorem dX6_waysOf_22 : decode cX6_waysOf 22 = .ok (.istore 6, 2) := by decide +kernel
theorem dX6_waysOf_24 : decode cX6_waysOf 24 = .ok (.iconst 0, 1) := by decide +kernel
theorem dX6_waysOf_25 : decode cX6_waysOf 25 = .ok (.istore 7, 2) := by decide +kernel
theorem dX6_waysOf_27 : decode cX6_waysOf 27 = .ok (.iload 7, 2) := by decide +kernel
theorem dX6_waysOf_29 : decode cX6_waysOf 29 = .ok (.sipush 1024, 3) := by decide +kernel
theorem dX6_waysOf_32 : decode cX6_waysOf 32 = .ok (.if_icmp .ge 49, 3) := by decide +kernel
theorem dX6_waysOf_35 : decode cX6_waysOf 35 = .ok (.aload_n 0, 1) := by decide +kernel
theorem dX6_waysOf_36 : decode cX6_waysOf 36 = .ok (.getfield 18, 3) := by decide +kernel
theorem dX6_waysOf_39 : decode cX6_waysOf 39 = .ok (.iload 4, 2) := by decide +kernel
theorem dX6_waysOf_41 : decode cX6_waysOf 41 = .ok (.iload 6, 2) := by decide +kernel
theorem dX6_waysOf_43 : decode cX6_waysOf 43 = .ok (.ior, 1) := by decide +kernel
theorem dX6_waysOf_44 : decode cX6_waysOf 44 = .ok (.baload, 1) := by decide +kernel
theorem dX6_waysOf_45 : decode cX6_waysOf 45 = .ok (.ifCond .eq 14, 3) := by decide +kernel
theorem dX6_waysOf_48 : decode cX6_waysOf 48 = .ok (.iload 5, 2) := by decide +kernel
theorem dX6_waysOf_50 : decode cX6_waysOf 50 = .ok (.aload_n 2, 1) := by decide +kernel
theorem dX6_waysOf_51 : decode cX6_waysOf 51 = .ok (.iload_n 3, 1) := by decide +kernel
theorem dX6_waysOf_52 : decode cX6_waysOf 52 = .ok (.iload 6, 2) := by decide +kernel
theorem dX6_waysOf_54 : decode cX6_waysOf 54 = .ok (.ixor, 1) := by decide +kernel
theorem dX6_waysOf_55 : decode cX6_waysOf 55 = .ok (.iaload, 1) := by decide +kernel
theorem dX6_waysOf_56 : decode cX6_waysOf 56 = .ok (.iadd, 1) := by decide +kernel
theorem dX6_waysOf_57 : decode cX6_waysOf 57 = .ok (.istore 5, 2) := by decide +kernel
theorem dX6_waysOf_59 : decode cX6_waysOf 59 = .ok (.iload 6, 2) := by decide +kernel
theorem dX6_waysOf_61 : decode cX6_waysOf 61 = .ok (.ifCond .ne 6, 3) := by decide +kernel
theorem dX6_waysOf_64 : decode cX6_waysOf 64 = .ok (.goto 17, 3) := by decide +kernel
theorem dX6_waysOf_67 : decode cX6_waysOf 67 = .ok (.iload 6, 2) := by decide +kernel
theorem dX6_waysOf_69 : decode cX6_waysOf 69 = .ok (.iconst 1, 1) := by decide +kernel
theorem dX6_waysOf_70 : decode cX6_waysOf 70 = .ok (.isub, 1) := by decide +kernel
theorem dX6_waysOf_71 : decode cX6_waysOf 71 = .ok (.iload_n 3, 1) := by decide +kernel
theorem dX6_waysOf_72 : decode cX6_waysOf 72 = .ok (.iand, 1) := by decide +kernel
theorem dX6_waysOf_73 : decode cX6_waysOf 73 = .ok (.istore 6, 2) := by decide +kernel
theorem dX6_waysOf_75 : decode cX6_waysOf 75 = .ok (.iinc 7 1, 3) := by decide +kernel
theorem dX6_waysOf_78 : decode cX6_waysOf 78 = .ok (.goto (-51), 3) := by decide +kernel
theorem dX6_waysOf_81 : decode cX6_waysOf 81 = .ok (.iload 5, 2) := by decide +kernel
theorem dX6_waysOf_83 : decode cX6_waysOf 83 = .ok (.ireturn, 1) := by decide +kernel
theorem zm_X6_waysOf : ZMv "ClassOfMany$Splitter" yX6_waysOf cX6_waysOf 8 (some .int) 2 := ⟨kw_4_140, kw_4_139, kp_30, kw_1_6, by decide +kernel, by decide⟩
def zf_X6_waysOf_j81 (v23 : Int32) : Option (Int32) :=
  some v23
def zf_X6_waysOf_j59 (v25 : Int32) (K64 : Int32 → Option (Int32)) (R27 : Int32 → Int32 → Int32 → Option (Int32)) (a1 : Int32) (v26 : Int32) (v30 : Int32) : Option (Int32) :=
  (if v25 = 0 then (K64 v30) else (R27 v30 ((v25 - (1 : Int32)) &&& (a1 &&& (a1 - (1 : Int32)))) (v26 + (1 : Int32))))
def zf_X6_waysOf_L27 (M : ZMem) (a1 : Int32) (o2 : Nat) (l2 : Nat) (K81 : Int32 → Option (Int32)) (K64 : Int32 → Option (Int32)) : Nat → Int32 → Int32 → Int32 → Option (Int32)
  | 0, _, _, _ => none
  | n27 + 1, v24, v25, v26 =>
  (if (1024 : Int32) ≤ v26 then (K81 v24) else zrd M 60 1024 ((a1 ^^^ (a1 &&& (a1 - (1 : Int32)))) ||| v25) (fun v29 => (if v29 = 0 then (zf_X6_waysOf_j59 v25 K64 (fun x0 x1 x2 => zf_X6_waysOf_L27 M a1 o2 l2 K81 K64 n27 x0 x1 x2) a1 v26 v24) else zrd M o2 l2 ((a1 &&& (a1 - (1 : Int32))) ^^^ v25) (fun v31 => (zf_X6_waysOf_j59 v25 K64 (fun x0 x1 x2 => zf_X6_waysOf_L27 M a1 o2 l2 K81 K64 n27 x0 x1 x2) a1 v26 (v24 + v31))))))
def zf_X6_waysOf (n : Nat) (a1 : Int32) (o2 : Nat) (l2 : Nat) (M : ZMem) : Option (Int32) :=
  (if (a1 ^^^ (a1 &&& (a1 - (1 : Int32)))) = 0 then some (0 : Int32) else (zf_X6_waysOf_L27 M a1 o2 l2 (fun v32 => (zf_X6_waysOf_j81 v32)) (fun v33 => (zf_X6_waysOf_j81 v33)) n (0 : Int32) (a1 &&& (a1 - (1 : Int32))) (0 : Int32)))
set_option maxHeartbeats 4000000 in
set_option maxRecDepth 100000 in
theorem zc_X6_waysOf {l : Launch} {D : va_G} {ad : Nat → Nat} {cA : Nat → ClassId} {n : Nat} {a1 : Int32} {o2 : Nat} {l2 : Nat} {M : ZMem} {r : Int32} (ho2 : zk o2 = (10, l2)) (hf : zf_X6_waysOf n a1 o2 l2 M = some r) : ZCt l D ad cA yX6_waysOf cX6_waysOf 8 (some .int) 1 [.ref (ad 57), .int a1, .ref (ad o2)] M (some (.int r)) M := by
  refine zct (by decide +kernel) (Nat.le_of_ble_eq_true rfl) (lv := [(0, .ref (ad 57)), (1, .int a1), (2, .ref (ad o2))]) rfl (fun E hl hD had hcA hN hC hR => ?_)
  subst hl; subst hD; subst had; subst hcA
  unfold zf_X6_waysOf at hf
  refine zw_iload_n hC dX6_waysOf_0 rfl 1 rfl ?_
  refine zw_iload_n hC dX6_waysOf_1 rfl 1 rfl ?_
  refine zw_iconst hC (v := (1 : Int32)) dX6_waysOf_2 (by decide) ?_
  refine zw_isub hC dX6_waysOf_3 ?_
  refine zw_iand hC dX6_waysOf_4 ?_
  refine zw_istore_n hC (lv' := [(3, .int (a1 &&& (a1 - (1 : Int32)))), (0, .ref (zad E 57)), (1, .int a1), (2, .ref (zad E o2))]) dX6_waysOf_5 rfl hN (by decide) rfl ?_
  refine zw_iload_n hC dX6_waysOf_6 rfl 2 rfl ?_
  refine zw_iload_n hC dX6_waysOf_7 rfl 0 rfl ?_
  refine zw_ixor hC dX6_waysOf_8 ?_
  refine zw_istore hC (lv' := [(4, .int (a1 ^^^ (a1 &&& (a1 - (1 : Int32))))), (3, .int (a1 &&& (a1 - (1 : Int32)))), (0, .ref (zad E 57)), (1, .int a1), (2, .ref (zad E o2))]) dX6_waysOf_9 hN (by decide) rfl ?_
  refine zw_iload hC dX6_waysOf_11 0 rfl ?_
  refine zw_if_ne hC 18 hf dX6_waysOf_13 (by decide) (fun hf => ?_) (fun hf => ?_)
  · refine zw_iconst hC (v := (0 : Int32)) dX6_waysOf_18 (by decide) ?_
    refine zw_istore hC (lv' := [(5, .int (0 : Int32)), (4, .int (a1 ^^^ (a1 &&& (a1 - (1 : Int32))))), (3, .int (a1 &&& (a1 - (1 : Int32)))), (0, .ref (zad E 57)), (1, .int a1), (2, .ref (zad E o2))]) dX6_waysOf_19 hN (by decide) rfl ?_
    refine zw_iload_n hC dX6_waysOf_21 rfl 2 rfl ?_
    refine zw_istore hC (lv' := [(6, .int (a1 &&& (a1 - (1 : Int32)))), (5, .int (0 : Int32)), (4, .int (a1 ^^^ (a1 &&& (a1 - (1 : Int32))))), (3, .int (a1 &&& (a1 - (1 : Int32)))), (0, .ref (zad E 57)), (1, .int a1), (2, .ref (zad E o2))]) dX6_waysOf_22 hN (by decide) rfl ?_
    refine zw_iconst hC (v := (0 : Int32)) dX6_waysOf_24 (by decide) ?_
    refine zw_istore hC (lv' := [(7, .int (0 : Int32)), (6, .int (a1 &&& (a1 - (1 : Int32)))), (5, .int (0 : Int32)), (4, .int (a1 ^^^ (a1 &&& (a1 - (1 : Int32))))), (3, .int (a1 &&& (a1 - (1 : Int32)))), (0, .ref (zad E 57)), (1, .int a1), (2, .ref (zad E o2))]) dX6_waysOf_25 hN (by decide) rfl ?_
    have hj81 : ∀ (v23 : Int32), zf_X6_waysOf_j81 v23 = some r → ZW E 81 [(5, .int v23)] [] M := by
      intro v23 hf
      unfold zf_X6_waysOf_j81 at hf
      refine zw_iload hC dX6_waysOf_81 0 rfl ?_
      have h1 := Option.some.inj hf
      subst h1
      exact zw_iret hC hR dX6_waysOf_83
    have hL27 : ∀ (K81 : Int32 → Option (Int32)), (∀ (v27 : Int32), K81 v27 = some r → ZW E 81 [(5, .int v27)] [] M) → ∀ (K64 : Int32 → Option (Int32)), (∀ (v28 : Int32), K64 v28 = some r → ZW E 64 [(5, .int v28)] [] M) → ∀ (n27 : Nat), ∀ (v24 : Int32), ∀ (v25 : Int32), ∀ (v26 : Int32), zf_X6_waysOf_L27 M a1 o2 l2 K81 K64 n27 v24 v25 v26 = some r → ZW E 27 [(0, .ref (zad E 57)), (2, .ref (zad E o2)), (3, .int (a1 &&& (a1 - (1 : Int32)))), (4, .int (a1 ^^^ (a1 &&& (a1 - (1 : Int32))))), (5, .int v24), (6, .int v25), (7, .int v26)] [] M := by
      intro K81 hK81 K64 hK64
      intro n27
      induction n27 with
      | zero => intro v24 v25 v26 hf; rw [zf_X6_waysOf_L27] at hf; cases hf
      | succ n27 ih27 =>
        intro v24 v25 v26 hf
        rw [zf_X6_waysOf_L27] at hf
        refine zw_iload hC dX6_waysOf_27 6 rfl ?_
        refine zw_sipush hC (v := (1024 : Int32)) dX6_waysOf_29 (by decide) ?_
        refine zw_icmp_ge hC 81 hf dX6_waysOf_32 (by decide) (fun hf => ?_) (fun hf => ?_)
        · exact zw_sub [4] rfl (hK81 v24 hf)
        · refine zw_aload_n hC dX6_waysOf_35 rfl 0 rfl ?_
          refine zw_getr (k' := 60) hC zF_Splitter_peaceful zk_57 rfl dX6_waysOf_36 kw_2_29 ?_
          refine zw_iload hC dX6_waysOf_39 3 rfl ?_
          refine zw_iload hC dX6_waysOf_41 5 rfl ?_
          refine zw_ior hC dX6_waysOf_43 ?_
          refine zw_zald hC hf zk_60 dX6_waysOf_44 (fun v29 hf => ?_)
          have hj59 : ∀ (v30 : Int32), zf_X6_waysOf_j59 v25 K64 (fun x0 x1 x2 => zf_X6_waysOf_L27 M a1 o2 l2 K81 K64 n27 x0 x1 x2) a1 v26 v30 = some r → ZW E 59 [(0, .ref (zad E 57)), (2, .ref (zad E o2)), (3, .int (a1 &&& (a1 - (1 : Int32)))), (4, .int (a1 ^^^ (a1 &&& (a1 - (1 : Int32))))), (5, .int v30), (6, .int v25), (7, .int v26)] [] M := by
            intro v30 hf
            unfold zf_X6_waysOf_j59 at hf
            refine zw_iload hC dX6_waysOf_59 5 rfl ?_
            refine zw_if_ne hC 67 hf dX6_waysOf_61 (by decide) (fun hf => ?_) (fun hf => ?_)
            · refine zw_iload hC dX6_waysOf_67 5 rfl ?_
              refine zw_iconst hC (v := (1 : Int32)) dX6_waysOf_69 (by decide) ?_
              refine zw_isub hC dX6_waysOf_70 ?_
              refine zw_iload_n hC dX6_waysOf_71 rfl 2 rfl ?_
              refine zw_iand hC dX6_waysOf_72 ?_
              refine zw_istore hC (lv' := [(6, .int ((v25 - (1 : Int32)) &&& (a1 &&& (a1 - (1 : Int32))))), (0, .ref (zad E 57)), (2, .ref (zad E o2)), (3, .int (a1 &&& (a1 - (1 : Int32)))), (4, .int (a1 ^^^ (a1 &&& (a1 - (1 : Int32))))), (5, .int v30), (7, .int v26)]) dX6_waysOf_73 hN (by decide) rfl ?_
              refine zw_iinc hC (v := (1 : Int32)) (lv' := [(7, .int (v26 + (1 : Int32))), (6, .int ((v25 - (1 : Int32)) &&& (a1 &&& (a1 - (1 : Int32))))), (0, .ref (zad E 57)), (2, .ref (zad E o2)), (3, .int (a1 &&& (a1 - (1 : Int32)))), (4, .int (a1 ^^^ (a1 &&& (a1 - (1 : Int32))))), (5, .int v30)]) dX6_waysOf_75 6 rfl (by decide) hN (by decide) rfl ?_
              refine zw_goto hC 27 dX6_waysOf_78 (by decide) ?_
              exact zw_sub [2, 3, 4, 5, 6, 1, 0] rfl (ih27 v30 ((v25 - (1 : Int32)) &&& (a1 &&& (a1 - (1 : Int32)))) (v26 + (1 : Int32)) hf)
            · exact zw_sub [4] rfl (hK64 v30 hf)
          refine zw_if_eq hC 59 hf dX6_waysOf_45 (by decide) (fun hf => ?_) (fun hf => ?_)
          · exact hj59 v24 hf
          · refine zw_iload hC dX6_waysOf_48 4 rfl ?_
            refine zw_aload_n hC dX6_waysOf_50 rfl 1 rfl ?_
            refine zw_iload_n hC dX6_waysOf_51 rfl 2 rfl ?_
            refine zw_iload hC dX6_waysOf_52 5 rfl ?_
            refine zw_ixor hC dX6_waysOf_54 ?_
            refine zw_iald hC hf ho2 dX6_waysOf_55 (fun v31 hf => ?_)
            refine zw_iadd hC dX6_waysOf_56 ?_
            refine zw_istore hC (lv' := [(5, .int (v24 + v31)), (0, .ref (zad E 57)), (2, .ref (zad E o2)), (3, .int (a1 &&& (a1 - (1 : Int32)))), (4, .int (a1 ^^^ (a1 &&& (a1 - (1 : Int32))))), (6, .int v25), (7, .int v26)]) dX6_waysOf_57 hN (by decide) rfl ?_
            exact zw_sub [1, 2, 3, 4, 0, 5, 6] rfl (hj59 (v24 + v31) hf)
    refine zw_sub [5, 7, 4, 3, 2, 1, 0] rfl (hL27 _ ?_ _ ?_ n (0 : Int32) (a1 &&& (a1 - (1 : Int32))) (0 : Int32) hf)
    · intro v32 hf
      exact hj81 v32 hf
    · intro v33 hf
      refine zw_goto hC 81 dX6_waysOf_64 (by decide) ?_
      exact hj81 v33 hf
  · refine zw_iconst hC (v := (0 : Int32)) dX6_waysOf_16 (by decide) ?_
    have h1 := Option.some.inj hf
    subst h1
    exact zw_iret hC hR dX6_waysOf_17
/-! Splitter.waysInto(I)I -/
theorem dX6_waysInto_0 : decode cX6_waysInto 0 = .ok (.iload_n 1, 1) := by decide +kernel
theorem dX6_waysInto_1 : decode cX6_waysInto 1 = .ok (.aload_n 0, 1) := by decide +kernel
theorem dX6_waysInto_2 : decode cX6_waysInto 2 = .ok (.getfield 34, 3) := by decide +kernel
theorem dX6_waysInto_5 : decode cX6_waysInto 5 = .ok (.if_icmp .le 5, 3) := by decide +kernel
theorem dX6_waysInto_8 : decode cX6_waysInto 8 = .ok (.iconst 0, 1) := by decide +kernel
theorem dX6_waysInto_9 : decode cX6_waysInto 9 = .ok (.ireturn, 1) := by decide +kernel
theorem dX6_waysInto_10 : decode cX6_waysInto 10 = .ok (.iload_n 1, 1) := by decide +kernel
theorem dX6_waysInto_11 : decode cX6_waysInto 11 = .ok (.ifCond .eq 10, 3) := by decide +kernel
theorem dX6_waysInto_14 : decode cX6_waysInto 14 = .ok (.aload_n 0, 1) := by decide +kernel
theorem dX6_waysInto_15 : decode cX6_waysInto 15 = .ok (.getfield 40, 3) := by decide +kernel
theorem dX6_waysInto_18 : decode cX6_waysInto 18 = .ok (.ifCond .ne 20, 3) := by decide +kernel
theorem dX6_waysInto_21 : decode cX6_waysInto 21 = .ok (.iload_n 1, 1) := by decide +kernel
theorem dX6_waysInto_22 : decode cX6_waysInto 22 = .ok (.ifCond .ne 14, 3) := by decide +kernel
theorem dX6_waysInto_25 : decode cX6_waysInto 25 = .ok (.aload_n 0, 1) := by decide +kernel
theorem dX6_waysInto_26 : decode cX6_waysInto 26 = .ok (.getfield 40, 3) := by decide +kernel
theorem dX6_waysInto_29 : decode cX6_waysInto 29 = .ok (.ifCond .ne 7, 3) := by decide +kernel
theorem dX6_waysInto_32 : decode cX6_waysInto 32 = .ok (.iconst 1, 1) := by decide +kernel
theorem dX6_waysInto_33 : decode cX6_waysInto 33 = .ok (.goto 4, 3) := by decide +kernel
theorem dX6_waysInto_36 : decode cX6_waysInto 36 = .ok (.iconst 0, 1) := by decide +kernel
theorem dX6_waysInto_37 : decode cX6_waysInto 37 = .ok (.ireturn, 1) := by decide +kernel
theorem dX6_waysInto_38 : decode cX6_waysInto 38 = .ok (.aload_n 0, 1) := by decide +kernel
theorem dX6_waysInto_39 : decode cX6_waysInto 39 = .ok (.invokevirtual 87, 3) := by decide +kernel
theorem dX6_waysInto_42 : decode cX6_waysInto 42 = .ok (.aload_n 0, 1) := by decide +kernel
theorem dX6_waysInto_43 : decode cX6_waysInto 43 = .ok (.getfield 40, 3) := by decide +kernel
theorem dX6_waysInto_46 : decode cX6_waysInto 46 = .ok (.aload_n 0, 1) := by decide +kernel
theorem dX6_waysInto_47 : decode cX6_waysInto 47 = .ok (.getfield 40, 3) := by decide +kernel
theorem dX6_waysInto_50 : decode cX6_waysInto 50 = .ok (.iconst 1, 1) := by decide +kernel
theorem dX6_waysInto_51 : decode cX6_waysInto 51 = .ok (.isub, 1) := by decide +kernel
theorem dX6_waysInto_52 : decode cX6_waysInto 52 = .ok (.iand, 1) := by decide +kernel
theorem dX6_waysInto_53 : decode cX6_waysInto 53 = .ok (.istore_n 2, 1) := by decide +kernel
theorem dX6_waysInto_54 : decode cX6_waysInto 54 = .ok (.aload_n 0, 1) := by decide +kernel
theorem dX6_waysInto_55 : decode cX6_waysInto 55 = .ok (.getfield 22, 3) := by decide +kernel
theorem dX6_waysInto_58 : decode cX6_waysInto 58 = .ok (.iconst 0, 1) := by decide +kernel
theorem dX6_waysInto_59 : decode cX6_waysInto 59 = .ok (.invokestatic 64, 3) := by decide +kernel
theorem dX6_waysInto_62 : decode cX6_waysInto 62 = .ok (.aload_n 0, 1) := by decide +kernel
theorem dX6_waysInto_63 : decode cX6_waysInto 63 = .ok (.getfield 22, 3) := by decide +kernel
theorem dX6_waysInto_66 : decode cX6_waysInto 66 = .ok (.iconst 0, 1) := by decide +kernel
theorem dX6_waysInto_67 : decode cX6_waysInto 67 = .ok (.iconst 1, 1) := by decide +kernel
theorem dX6_waysInto_68 : decode cX6_waysInto 68 = .ok (.iastore, 1) := by decide +kernel
theorem dX6_waysInto_69 : decode cX6_waysInto 69 = .ok (.iconst 1, 1) := by decide +kernel
theorem dX6_waysInto_70 : decode cX6_waysInto 70 = .ok (.istore_n 3, 1) := by decide +kernel
theorem dX6_waysInto_71 : decode cX6_waysInto 71 = .ok (.iload_n 3, 1) := by decide +kernel
theorem dX6_waysInto_72 : decode cX6_waysInto 72 = .ok (.iload_n 1, 1) := by decide +kernel
theorem dX6_waysInto_73 : decode cX6_waysInto 73 = .ok (.if_icmp .ge 76, 3) := by decide +kernel
theorem dX6_waysInto_76 : decode cX6_waysInto 76 = .ok (.aload_n 0, 1) := by decide +kernel
theorem dX6_waysInto_77 : decode cX6_waysInto 77 = .ok (.getfield 25, 3) := by decide +kernel
theorem dX6_waysInto_80 : decode cX6_waysInto 80 = .ok (.astore 4, 2) := by decide +kernel
theorem dX6_waysInto_82 : decode cX6_waysInto 82 = .ok (.aload_n 0, 1) := by decide +kernel
theorem dX6_waysInto_83 : decode cX6_waysInto 83 = .ok (.aload_n 0, 1) := by decide +kernel
theorem dX6_waysInto_84 : decode cX6_waysInto 84 = .ok (.getfield 22, 3) := by decide +kernel
theorem dX6_waysInto_87 : decode cX6_waysInto 87 = .ok (.putfield 25, 3) := by decide +kernel
theorem dX6_waysInto_90 : decode cX6_waysInto 90 = .ok (.aload_n 0, 1) := by decide +kernel
theorem dX6_waysInto_91 : decode cX6_waysInto 91 = .ok (.aload 4, 2) := by decide +kernel
theorem dX6_waysInto_93 : decode cX6_waysInto 93 = .ok (.putfield 22, 3) := by decide +kernel
theorem dX6_waysInto_96 : decode cX6_waysInto 96 = .ok (.iconst 0, 1) := by decide +kernel
theorem dX6_waysInto_97 : decode cX6_waysInto 97 = .ok (.istore 5, 2) := by decide +kernel
theorem dX6_waysInto_99 : decode cX6_waysInto 99 = .ok (.iload 5, 2) := by decide +kernel
theorem dX6_waysInto_101 : decode cX6_waysInto 101 = .ok (.sipush 1024, 3) := by decide +kernel
theorem dX6_waysInto_104 : decode cX6_waysInto 104 = .ok (.if_icmp .ge 39, 3) := by decide +kernel
theorem dX6_waysInto_107 : decode cX6_waysInto 107 = .ok (.aload_n 0, 1) := by decide +kernel
theorem dX6_waysInto_108 : decode cX6_waysInto 108 = .ok (.getfield 22, 3) := by decide +kernel
theorem dX6_waysInto_111 : decode cX6_waysInto 111 = .ok (.iload 5, 2) := by decide +kernel
theorem dX6_waysInto_113 : decode cX6_waysInto 113 = .ok (.iload 5, 2) := by decide +kernel
theorem dX6_waysInto_115 : decode cX6_waysInto 115 = .ok (.iload_n 2, 1) := by decide +kernel
theorem dX6_waysInto_116 : decode cX6_waysInto 116 = .ok (.iconst (-1), 1) := by decide +kernel
theorem dX6_waysInto_117 : decode cX6_waysInto 117 = .ok (.ixor, 1) := by decide +kernel
theorem dX6_waysInto_118 : decode cX6_waysInto 118 = .ok (.iand, 1) := by decide +kernel
theorem dX6_waysInto_119 : decode cX6_waysInto 119 = .ok (.ifCond .ne 16, 3) := by decide +kernel
theorem dX6_waysInto_122 : decode cX6_waysInto 122 = .ok (.aload_n 0, 1) := by decide +kernel
theorem dX6_waysInto_123 : decode cX6_waysInto 123 = .ok (.iload 5, 2) := by decide +kernel
theorem dX6_waysInto_125 : decode cX6_waysInto 125 = .ok (.aload_n 0, 1) := by decide +kernel
theorem dX6_waysInto_126 : decode cX6_waysInto 126 = .ok (.getfield 25, 3) := by decide +kernel
theorem dX6_waysInto_129 : decode cX6_waysInto 129 = .ok (.invokevirtual 90, 3) := by decide +kernel
theorem dX6_waysInto_132 : decode cX6_waysInto 132 = .ok (.goto 4, 3) := by decide +kernel
theorem dX6_waysInto_135 : decode cX6_waysInto 135 = .ok (.iconst 0, 1) := by decide +kernel
theorem dX6_waysInto_136 : decode cX6_waysInto 136 = .ok (.iastore, 1) := by decide +kernel
theorem dX6_waysInto_137 : decode cX6_waysInto 137 = .ok (.iinc 5 1, 3) := by decide +kernel
theorem dX6_waysInto_140 : decode cX6_waysInto 140 = .ok (.goto (-41), 3) := by decide +kernel
theorem dX6_waysInto_143 : decode cX6_waysInto 143 = .ok (.iinc 3 1, 3) := by decide +kernel
theorem dX6_waysInto_146 : decode cX6_waysInto 146 = .ok (.goto (-75), 3) := by decide +kernel
theorem dX6_waysInto_149 : decode cX6_waysInto 149 = .ok (.aload_n 0, 1) := by decide +kernel
theorem dX6_waysInto_150 : decode cX6_waysInto 150 = .ok (.aload_n 0, 1) := by decide +kernel
theorem dX6_waysInto_151 : decode cX6_waysInto 151 = .ok (.getfield 40, 3) := by decide +kernel
theorem dX6_waysInto_154 : decode cX6_waysInto 154 = .ok (.aload_n 0, 1) := by decide +kernel
theorem dX6_waysInto_155 : decode cX6_waysInto 155 = .ok (.getfield 22, 3) := by decide +kernel
theorem dX6_waysInto_158 : decode cX6_waysInto 158 = .ok (.invokevirtual 90, 3) := by decide +kernel
theorem dX6_waysInto_161 : decode cX6_waysInto 161 = .ok (.ireturn, 1) := by decide +kernel
theorem zm_X6_waysInto : ZMv "ClassOfMany$Splitter" yX6_waysInto cX6_waysInto 6 (some .int) 1 := ⟨kw_4_132, kw_4_130, kw_4_131, kw_1_6, by decide +kernel, by decide⟩
def zf_X6_waysInto_j37 (M : ZMem) (v36 : Int32) : Option (Int32 × ZMem) :=
  some (v36, M)
def zf_X6_waysInto_j36 (M : ZMem) : Option (Int32 × ZMem) :=
  (zf_X6_waysInto_j37 M (0 : Int32))
def zf_X6_waysInto_j21 (a1 : Int32) (M : ZMem) : Option (Int32 × ZMem) :=
  (if a1 = 0 then (if (M 57 1) = 0 then (zf_X6_waysInto_j37 M (1 : Int32)) else (zf_X6_waysInto_j36 M)) else (zf_X6_waysInto_j36 M))
def zf_X6_waysInto_j136 (M50 : ZMem) (o52 : Nat) (v49 : Int32) (R99 : Int32 → ZMem → Option (Int32 × ZMem)) (v53 : Int32) : Option (Int32 × ZMem) :=
  zst M50 o52 1024 v49 v53 (fun M54 => (R99 (v49 + (1 : Int32)) M54))
def zf_X6_waysInto_L99 (M37 : ZMem) (n : Nat) (K143 : ZMem → Option (Int32 × ZMem)) : Nat → Int32 → ZMem → Option (Int32 × ZMem)
  | 0, _, _ => none
  | n99 + 1, v49, M50 =>
  (if (1024 : Int32) ≤ v49 then (K143 M50) else zdy M50 57 7 (10, 1024) (fun o52 => (if (v49 &&& (((M37 57 1) &&& ((M37 57 1) - (1 : Int32))) ^^^ (-1 : Int32))) = 0 then zdy M50 57 8 (10, 1024) (fun o55 => zb1 (zf_X6_waysOf n v49 o55 1024 M50) (fun v56 => (zf_X6_waysInto_j136 M50 o52 v49 (fun x0 x1 => zf_X6_waysInto_L99 M37 n K143 n99 x0 x1) v56))) else (zf_X6_waysInto_j136 M50 o52 v49 (fun x0 x1 => zf_X6_waysInto_L99 M37 n K143 n99 x0 x1) (0 : Int32)))))
def zf_X6_waysInto_L71 (a1 : Int32) (M37 : ZMem) (n : Nat) (K149 : ZMem → Option (Int32 × ZMem)) : Nat → Int32 → ZMem → Option (Int32 × ZMem)
  | 0, _, _ => none
  | n71 + 1, v42, M43 =>
  (if a1 ≤ v42 then (K149 M43) else zdy M43 57 8 (10, 1024) (fun o45 => zdy M43 57 7 (10, 1024) (fun o46 => zput M43 57 8 (nI o46) (fun M47 => zput M47 57 7 (nI o45) (fun M48 => (zf_X6_waysInto_L99 M37 n (fun M57 => (zf_X6_waysInto_L71 a1 M37 n K149 n71 (v42 + (1 : Int32)) M57)) n (0 : Int32) M48))))))
def zf_X6_waysInto (n : Nat) (a1 : Int32) (M : ZMem) : Option (Int32 × ZMem) :=
  (if a1 ≤ (M 57 0) then (if a1 = 0 then (zf_X6_waysInto_j21 a1 M) else (if (M 57 1) = 0 then (zf_X6_waysInto_j21 a1 M) else zb1 (zf_X6_markPeaceful n M) (fun M37 => zdy M37 57 7 (10, 1024) (fun o38 => zb1 (zf_J7_fill_53178 n o38 1024 (0 : Int32) M37) (fun M39 => zdy M39 57 7 (10, 1024) (fun o40 => zst M39 o40 1024 (0 : Int32) (1 : Int32) (fun M41 => (zf_X6_waysInto_L71 a1 M37 n (fun M58 => zdy M58 57 7 (10, 1024) (fun o59 => zb1 (zf_X6_waysOf n (M58 57 1) o59 1024 M58) (fun v60 => some (v60, M58)))) n (1 : Int32) M41)))))))) else some ((0 : Int32), M))
set_option maxHeartbeats 4000000 in
set_option maxRecDepth 100000 in
theorem zc_X6_waysInto {l : Launch} {D : va_G} {ad : Nat → Nat} {cA : Nat → ClassId} {n : Nat} {a1 : Int32} {M : ZMem} {r : Int32} {M' : ZMem} (hf : zf_X6_waysInto n a1 M = some (r, M')) : ZCt l D ad cA yX6_waysInto cX6_waysInto 6 (some .int) 2 [.ref (ad 57), .int a1] M (some (.int r)) M' := by
  refine zct (by decide +kernel) (Nat.le_of_ble_eq_true rfl) (lv := [(0, .ref (ad 57)), (1, .int a1)]) rfl (fun E hl hD had hcA hN hC hR => ?_)
  subst hl; subst hD; subst had; subst hcA
  unfold zf_X6_waysInto at hf
  refine zw_iload_n hC dX6_waysInto_0 rfl 1 rfl ?_
  refine zw_aload_n hC dX6_waysInto_1 rfl 0 rfl ?_
  refine zw_geti hC zF_Splitter_members zk_57 dX6_waysInto_2 kw_2_21 ?_
  refine zw_icmp_le hC 10 hf dX6_waysInto_5 (by decide) (fun hf => ?_) (fun hf => ?_)
  · refine zw_iload_n hC dX6_waysInto_10 rfl 1 rfl ?_
    have hj21 : zf_X6_waysInto_j21 a1 M = some (r, M') → ZW E 21 [(0, .ref (zad E 57)), (1, .int a1)] [] M := by
      intro  hf
      unfold zf_X6_waysInto_j21 at hf
      refine zw_iload_n hC dX6_waysInto_21 rfl 1 rfl ?_
      have hj37 : ∀ (v36 : Int32), zf_X6_waysInto_j37 M v36 = some (r, M') → ZW E 37 [] [.int v36] M := by
        intro v36 hf
        unfold zf_X6_waysInto_j37 at hf
        obtain ⟨h1, h2⟩ := Prod.mk.inj (Option.some.inj hf)
        subst h1; subst h2
        exact zw_iret hC hR dX6_waysInto_37
      have hj36 : zf_X6_waysInto_j36 M = some (r, M') → ZW E 36 [] [] M := by
        intro  hf
        unfold zf_X6_waysInto_j36 at hf
        refine zw_iconst hC (v := (0 : Int32)) dX6_waysInto_36 (by decide) ?_
        exact hj37 (0 : Int32) hf
      refine zw_if_ne hC 36 hf dX6_waysInto_22 (by decide) (fun hf => ?_) (fun hf => ?_)
      · exact zw_sub [] rfl (hj36 hf)
      · refine zw_aload_n hC dX6_waysInto_25 rfl 0 rfl ?_
        refine zw_geti hC zF_Splitter_in zk_57 dX6_waysInto_26 kw_2_22 ?_
        refine zw_if_ne hC 36 hf dX6_waysInto_29 (by decide) (fun hf => ?_) (fun hf => ?_)
        · exact zw_sub [] rfl (hj36 hf)
        · refine zw_iconst hC (v := (1 : Int32)) dX6_waysInto_32 (by decide) ?_
          refine zw_goto hC 37 dX6_waysInto_33 (by decide) ?_
          exact zw_sub [] rfl (hj37 (1 : Int32) hf)
    refine zw_if_eq hC 21 hf dX6_waysInto_11 (by decide) (fun hf => ?_) (fun hf => ?_)
    · exact hj21 hf
    · refine zw_aload_n hC dX6_waysInto_14 rfl 0 rfl ?_
      refine zw_geti hC zF_Splitter_in zk_57 dX6_waysInto_15 kw_2_22 ?_
      refine zw_if_ne hC 38 hf dX6_waysInto_18 (by decide) (fun hf => ?_) (fun hf => ?_)
      · refine zw_aload_n hC dX6_waysInto_38 rfl 0 rfl ?_
        obtain ⟨M37, hcM37, hf⟩ := zb1_some hf
        refine zw_cV hC [] [] (st1 := []) zm_X6_markPeaceful (zc_X6_markPeaceful hcM37) zk_57 rfl kw_4_133 dX6_waysInto_39 rfl (by decide) (Nat.le_of_ble_eq_true rfl) rfl rfl ?_
        refine zw_aload_n hC dX6_waysInto_42 rfl 0 rfl ?_
        refine zw_geti hC zF_Splitter_in zk_57 dX6_waysInto_43 kw_2_22 ?_
        refine zw_aload_n hC dX6_waysInto_46 rfl 0 rfl ?_
        refine zw_geti hC zF_Splitter_in zk_57 dX6_waysInto_47 kw_2_22 ?_
        refine zw_iconst hC (v := (1 : Int32)) dX6_waysInto_50 (by decide) ?_
        refine zw_isub hC dX6_waysInto_51 ?_
        refine zw_iand hC dX6_waysInto_52 ?_
        refine zw_istore_n hC (lv' := [(2, .int ((M37 57 1) &&& ((M37 57 1) - (1 : Int32)))), (0, .ref (zad E 57)), (1, .int a1)]) dX6_waysInto_53 rfl hN (by decide) rfl ?_
        refine zw_aload_n hC dX6_waysInto_54 rfl 1 rfl ?_
        refine zw_getd hC hf zF_Splitter_ways zk_57 dX6_waysInto_55 kw_2_30 (fun o38 ho38 hf => ?_)
        refine zw_iconst hC (v := (0 : Int32)) dX6_waysInto_58 (by decide) ?_
        obtain ⟨M39, hcM39, hf⟩ := zb1_some hf
        refine zw_cS hC [.ref (zad E o38), .int (0 : Int32)] [] (st1 := []) zm_J7_fill_53178 (zc_J7_fill_53178 ho38 hcM39) kw_4_101 dX6_waysInto_59 rfl (by decide) (Nat.le_of_ble_eq_true rfl) rfl rfl ?_
        refine zw_aload_n hC dX6_waysInto_62 rfl 1 rfl ?_
        refine zw_getd hC hf zF_Splitter_ways zk_57 dX6_waysInto_63 kw_2_30 (fun o40 ho40 hf => ?_)
        refine zw_iconst hC (v := (0 : Int32)) dX6_waysInto_66 (by decide) ?_
        refine zw_iconst hC (v := (1 : Int32)) dX6_waysInto_67 (by decide) ?_
        refine zw_iast hC hf ho40 dX6_waysInto_68 (fun M41 hf => ?_)
        refine zw_iconst hC (v := (1 : Int32)) dX6_waysInto_69 (by decide) ?_
        refine zw_istore_n hC (lv' := [(3, .int (1 : Int32)), (2, .int ((M37 57 1) &&& ((M37 57 1) - (1 : Int32)))), (0, .ref (zad E 57)), (1, .int a1)]) dX6_waysInto_70 rfl hN (by decide) rfl ?_
        have hL71 : ∀ (K149 : ZMem → Option (Int32 × ZMem)), (∀ (M44 : ZMem), K149 M44 = some (r, M') → ZW E 149 [(0, .ref (zad E 57))] [] M44) → ∀ (n71 : Nat), ∀ (v42 : Int32), ∀ (M43 : ZMem), zf_X6_waysInto_L71 a1 M37 n K149 n71 v42 M43 = some (r, M') → ZW E 71 [(0, .ref (zad E 57)), (1, .int a1), (2, .int ((M37 57 1) &&& ((M37 57 1) - (1 : Int32)))), (3, .int v42)] [] M43 := by
          intro K149 hK149
          intro n71
          induction n71 with
          | zero => intro v42 M43 hf; rw [zf_X6_waysInto_L71] at hf; cases hf
          | succ n71 ih71 =>
            intro v42 M43 hf
            rw [zf_X6_waysInto_L71] at hf
            refine zw_iload_n hC dX6_waysInto_71 rfl 3 rfl ?_
            refine zw_iload_n hC dX6_waysInto_72 rfl 1 rfl ?_
            refine zw_icmp_ge hC 149 hf dX6_waysInto_73 (by decide) (fun hf => ?_) (fun hf => ?_)
            · exact zw_sub [0] rfl (hK149 M43 hf)
            · refine zw_aload_n hC dX6_waysInto_76 rfl 0 rfl ?_
              refine zw_getd hC hf zF_Splitter_fewerWays zk_57 dX6_waysInto_77 kw_2_31 (fun o45 ho45 hf => ?_)
              refine zw_astore hC (lv' := [(4, .ref (zad E o45)), (0, .ref (zad E 57)), (1, .int a1), (2, .int ((M37 57 1) &&& ((M37 57 1) - (1 : Int32)))), (3, .int v42)]) dX6_waysInto_80 hN (by decide) rfl ?_
              refine zw_aload_n hC dX6_waysInto_82 rfl 1 rfl ?_
              refine zw_aload_n hC dX6_waysInto_83 rfl 1 rfl ?_
              refine zw_getd hC hf zF_Splitter_ways zk_57 dX6_waysInto_84 kw_2_30 (fun o46 ho46 hf => ?_)
              refine zw_putd hC (ty := .array .int) hf zF_Splitter_fewerWays (by decide +kernel) (fun _ => rfl) (fun _ => rfl) ho46 (by decide) zk_57 dX6_waysInto_87 kw_2_31 (fun M47 hf => ?_)
              refine zw_aload_n hC dX6_waysInto_90 rfl 1 rfl ?_
              refine zw_aload hC dX6_waysInto_91 0 rfl ?_
              refine zw_putd hC (ty := .array .int) hf zF_Splitter_ways (by decide +kernel) (fun _ => rfl) (fun _ => rfl) ho45 (by decide) zk_57 dX6_waysInto_93 kw_2_30 (fun M48 hf => ?_)
              refine zw_iconst hC (v := (0 : Int32)) dX6_waysInto_96 (by decide) ?_
              refine zw_istore hC (lv' := [(5, .int (0 : Int32)), (4, .ref (zad E o45)), (0, .ref (zad E 57)), (1, .int a1), (2, .int ((M37 57 1) &&& ((M37 57 1) - (1 : Int32)))), (3, .int v42)]) dX6_waysInto_97 hN (by decide) rfl ?_
              have hL99 : ∀ (K143 : ZMem → Option (Int32 × ZMem)), (∀ (M51 : ZMem), K143 M51 = some (r, M') → ZW E 143 [(0, .ref (zad E 57)), (1, .int a1), (2, .int ((M37 57 1) &&& ((M37 57 1) - (1 : Int32)))), (3, .int v42)] [] M51) → ∀ (n99 : Nat), ∀ (v49 : Int32), ∀ (M50 : ZMem), zf_X6_waysInto_L99 M37 n K143 n99 v49 M50 = some (r, M') → ZW E 99 [(0, .ref (zad E 57)), (1, .int a1), (2, .int ((M37 57 1) &&& ((M37 57 1) - (1 : Int32)))), (3, .int v42), (5, .int v49)] [] M50 := by
                intro K143 hK143
                intro n99
                induction n99 with
                | zero => intro v49 M50 hf; rw [zf_X6_waysInto_L99] at hf; cases hf
                | succ n99 ih99 =>
                  intro v49 M50 hf
                  rw [zf_X6_waysInto_L99] at hf
                  refine zw_iload hC dX6_waysInto_99 4 rfl ?_
                  refine zw_sipush hC (v := (1024 : Int32)) dX6_waysInto_101 (by decide) ?_
                  refine zw_icmp_ge hC 143 hf dX6_waysInto_104 (by decide) (fun hf => ?_) (fun hf => ?_)
                  · exact zw_sub [0, 1, 2, 3] rfl (hK143 M50 hf)
                  · refine zw_aload_n hC dX6_waysInto_107 rfl 0 rfl ?_
                    refine zw_getd hC hf zF_Splitter_ways zk_57 dX6_waysInto_108 kw_2_30 (fun o52 ho52 hf => ?_)
                    refine zw_iload hC dX6_waysInto_111 4 rfl ?_
                    refine zw_iload hC dX6_waysInto_113 4 rfl ?_
                    refine zw_iload_n hC dX6_waysInto_115 rfl 2 rfl ?_
                    refine zw_iconst hC (v := (-1 : Int32)) dX6_waysInto_116 (by decide) ?_
                    refine zw_ixor hC dX6_waysInto_117 ?_
                    refine zw_iand hC dX6_waysInto_118 ?_
                    have hj136 : ∀ (v53 : Int32), zf_X6_waysInto_j136 M50 o52 v49 (fun x0 x1 => zf_X6_waysInto_L99 M37 n K143 n99 x0 x1) v53 = some (r, M') → ZW E 136 [(0, .ref (zad E 57)), (1, .int a1), (2, .int ((M37 57 1) &&& ((M37 57 1) - (1 : Int32)))), (3, .int v42), (5, .int v49)] [.int v53, .int v49, .ref (zad E o52)] M50 := by
                      intro v53 hf
                      unfold zf_X6_waysInto_j136 at hf
                      refine zw_iast hC hf ho52 dX6_waysInto_136 (fun M54 hf => ?_)
                      refine zw_iinc hC (v := (1 : Int32)) (lv' := [(5, .int (v49 + (1 : Int32))), (0, .ref (zad E 57)), (1, .int a1), (2, .int ((M37 57 1) &&& ((M37 57 1) - (1 : Int32)))), (3, .int v42)]) dX6_waysInto_137 4 rfl (by decide) hN (by decide) rfl ?_
                      refine zw_goto hC 99 dX6_waysInto_140 (by decide) ?_
                      exact zw_sub [1, 2, 3, 4, 0] rfl (ih99 (v49 + (1 : Int32)) M54 hf)
                    refine zw_if_ne hC 135 hf dX6_waysInto_119 (by decide) (fun hf => ?_) (fun hf => ?_)
                    · refine zw_iconst hC (v := (0 : Int32)) dX6_waysInto_135 (by decide) ?_
                      exact hj136 (0 : Int32) hf
                    · refine zw_aload_n hC dX6_waysInto_122 rfl 0 rfl ?_
                      refine zw_iload hC dX6_waysInto_123 4 rfl ?_
                      refine zw_aload_n hC dX6_waysInto_125 rfl 0 rfl ?_
                      refine zw_getd hC hf zF_Splitter_fewerWays zk_57 dX6_waysInto_126 kw_2_31 (fun o55 ho55 hf => ?_)
                      obtain ⟨v56, hc56, hf⟩ := zb1_some hf
                      refine zw_cV hC [.int v49, .ref (zad E o55)] [.int v49, .ref (zad E o52)] (st1 := [.int v56, .int v49, .ref (zad E o52)]) zm_X6_waysOf (zc_X6_waysOf ho55 hc56) zk_57 rfl kw_4_137 dX6_waysInto_129 rfl (by decide) (Nat.le_of_ble_eq_true rfl) rfl rfl ?_
                      refine zw_goto hC 136 dX6_waysInto_132 (by decide) ?_
                      exact hj136 v56 hf
              refine zw_sub [2, 3, 4, 5, 0] rfl (hL99 _ ?_ n (0 : Int32) M48 hf)
              · intro M57 hf
                refine zw_iinc hC (v := (1 : Int32)) (lv' := [(3, .int (v42 + (1 : Int32))), (0, .ref (zad E 57)), (1, .int a1), (2, .int ((M37 57 1) &&& ((M37 57 1) - (1 : Int32))))]) dX6_waysInto_143 3 rfl (by decide) hN (by decide) rfl ?_
                refine zw_goto hC 71 dX6_waysInto_146 (by decide) ?_
                exact zw_sub [1, 2, 3, 0] rfl (ih71 (v42 + (1 : Int32)) M57 hf)
        refine zw_sub [2, 3, 1, 0] rfl (hL71 _ ?_ n (1 : Int32) M41 hf)
        · intro M58 hf
          refine zw_aload_n hC dX6_waysInto_149 rfl 0 rfl ?_
          refine zw_aload_n hC dX6_waysInto_150 rfl 0 rfl ?_
          refine zw_geti hC zF_Splitter_in zk_57 dX6_waysInto_151 kw_2_22 ?_
          refine zw_aload_n hC dX6_waysInto_154 rfl 0 rfl ?_
          refine zw_getd hC hf zF_Splitter_ways zk_57 dX6_waysInto_155 kw_2_30 (fun o59 ho59 hf => ?_)
          obtain ⟨v60, hc60, hf⟩ := zb1_some hf
          refine zw_cV hC [.int (M58 57 1), .ref (zad E o59)] [] (st1 := [.int v60]) zm_X6_waysOf (zc_X6_waysOf ho59 hc60) zk_57 rfl kw_4_137 dX6_waysInto_158 rfl (by decide) (Nat.le_of_ble_eq_true rfl) rfl rfl ?_
          obtain ⟨h1, h2⟩ := Prod.mk.inj (Option.some.inj hf)
          subst h1; subst h2
          exact zw_iret hC hR dX6_waysInto_161
      · exact hj21 hf
  · refine zw_iconst hC (v := (0 : Int32)) dX6_waysInto_8 (by decide) ?_
    obtain ⟨h1, h2⟩ := Prod.mk.inj (Option.some.inj hf)
    subst h1; subst h2
    exact zw_iret hC hR dX6_waysInto_9
