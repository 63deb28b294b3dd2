/-! Splitter.isFeud(I)Z -/
theorem dX6_isFeud_0 : decode cX6_isFeud 0 = .ok (.iconst 0, 1) := by decide +kernel
theorem dX6_isFeud_1 : decode cX6_isFeud 1 = .ok (.istore_n 2, 1) := by decide +kernel
theorem dX6_isFeud_2 : decode cX6_isFeud 2 = .ok (.iload_n 2, 1) := by decide +kernel
theorem dX6_isFeud_3 : decode cX6_isFeud 3 = .ok (.aload_n 0, 1) := by decide +kernel
theorem dX6_isFeud_4 : decode cX6_isFeud 4 = .ok (.getfield 34, 3) := by decide +kernel
theorem dX6_isFeud_7 : decode cX6_isFeud 7 = .ok (.if_icmp .ge 35, 3) := by decide +kernel
theorem dX6_isFeud_10 : decode cX6_isFeud 10 = .ok (.iload_n 1, 1) := by decide +kernel
theorem dX6_isFeud_11 : decode cX6_isFeud 11 = .ok (.iload_n 2, 1) := by decide +kernel
theorem dX6_isFeud_12 : decode cX6_isFeud 12 = .ok (.invokestatic 74, 3) := by decide +kernel
theorem dX6_isFeud_15 : decode cX6_isFeud 15 = .ok (.ifCond .eq 21, 3) := by decide +kernel
theorem dX6_isFeud_18 : decode cX6_isFeud 18 = .ok (.iload_n 1, 1) := by decide +kernel
theorem dX6_isFeud_19 : decode cX6_isFeud 19 = .ok (.aload_n 0, 1) := by decide +kernel
theorem dX6_isFeud_20 : decode cX6_isFeud 20 = .ok (.getfield 9, 3) := by decide +kernel
theorem dX6_isFeud_23 : decode cX6_isFeud 23 = .ok (.iload_n 2, 1) := by decide +kernel
theorem dX6_isFeud_24 : decode cX6_isFeud 24 = .ok (.iaload, 1) := by decide +kernel
theorem dX6_isFeud_25 : decode cX6_isFeud 25 = .ok (.iconst (-1), 1) := by decide +kernel
theorem dX6_isFeud_26 : decode cX6_isFeud 26 = .ok (.ixor, 1) := by decide +kernel
theorem dX6_isFeud_27 : decode cX6_isFeud 27 = .ok (.iand, 1) := by decide +kernel
theorem dX6_isFeud_28 : decode cX6_isFeud 28 = .ok (.iconst 1, 1) := by decide +kernel
theorem dX6_isFeud_29 : decode cX6_isFeud 29 = .ok (.iload_n 2, 1) := by decide +kernel
theorem dX6_isFeud_30 : decode cX6_isFeud 30 = .ok (.ishl, 1) := by decide +kernel
theorem dX6_isFeud_31 : decode cX6_isFeud 31 = .ok (.if_icmp .eq 5, 3) := by decide +kernel
theorem dX6_isFeud_34 : decode cX6_isFeud 34 = .ok (.iconst 0, 1) := by decide +kernel
theorem dX6_isFeud_35 : decode cX6_isFeud 35 = .ok (.ireturn, 1) := by decide +kernel
theorem dX6_isFeud_36 : decode cX6_isFeud 36 = .ok (.iinc 2 1, 3) := by decide +kernel
theorem dX6_isFeud_39 : decode cX6_isFeud 39 = .ok (.goto (-37), 3) := by decide +kernel
theorem dX6_isFeud_42 : decode cX6_isFeud 42 = .ok (.iconst 1, 1) := by decide +kernel
theorem dX6_isFeud_43 : decode cX6_isFeud 43 = .ok (.ireturn, 1) := by decide +kernel
theorem zm_X6_isFeud : ZMv "ClassOfMany$Splitter" yX6_isFeud cX6_isFeud 3 (some .boolean) 1 := ⟨kw_4_153, kw_4_152, kp_31, kw_1_6, by decide +kernel, by decide⟩
def zf_X6_isFeud_j36 (R2 : Int32 → Option (Int32)) (v23 : Int32) : Option (Int32) :=
  (R2 (v23 + (1 : Int32)))
def zf_X6_isFeud_L2 (M : ZMem) (a1 : Int32) (K42 : Option (Int32)) : Nat → Int32 → Option (Int32)
  | 0, _ => none
  | n2 + 1, v23 =>
  (if (M 57 0) ≤ v23 then K42 else zb1 (zf_X9_has a1 v23) (fun v24 => (if v24 = 0 then (zf_X6_isFeud_j36 (fun x0 => zf_X6_isFeud_L2 M a1 K42 n2 x0) v23) else zrd M 58 10 v23 (fun v25 => (if (a1 &&& (v25 ^^^ (-1 : Int32))) = ((1 : Int32) <<< (v23 &&& 31)) then (zf_X6_isFeud_j36 (fun x0 => zf_X6_isFeud_L2 M a1 K42 n2 x0) v23) else some (0 : Int32))))))
def zf_X6_isFeud (n : Nat) (a1 : Int32) (M : ZMem) : Option (Int32) :=
  (zf_X6_isFeud_L2 M a1 (some (1 : Int32)) n (0 : Int32))
set_option maxHeartbeats 4000000 in
set_option maxRecDepth 100000 in
theorem zc_X6_isFeud {l : Launch} {D : va_G} {ad : Nat → Nat} {cA : Nat → ClassId} {n : Nat} {a1 : Int32} {M : ZMem} {r : Int32} (hf : zf_X6_isFeud n a1 M = some r) : ZCt l D ad cA yX6_isFeud cX6_isFeud 3 (some .boolean) 2 [.ref (ad 57), .int a1] M (some (.int r)) M := by
  refine zct (by decide +kernel) (Nat.le_of_ble_eq_true rfl) (lv := [(0, .ref (ad 57)), (1, .int a1)]) rfl (fun E hl hD had hcA hN hC hR => ?_)
  subst hl; subst hD; subst had; subst hcA
  unfold zf_X6_isFeud at hf
  refine zw_iconst hC (v := (0 : Int32)) dX6_isFeud_0 (by decide) ?_
  refine zw_istore_n hC (lv' := [(2, .int (0 : Int32)), (0, .ref (zad E 57)), (1, .int a1)]) dX6_isFeud_1 rfl hN (by decide) rfl ?_
  have hL2 : ∀ (K42 : Option (Int32)), (K42 = some r → ZW E 42 [] [] M) → ∀ (n2 : Nat), ∀ (v23 : Int32), zf_X6_isFeud_L2 M a1 K42 n2 v23 = some r → ZW E 2 [(0, .ref (zad E 57)), (1, .int a1), (2, .int v23)] [] M := by
    intro K42 hK42
    intro n2
    induction n2 with
    | zero => intro v23 hf; rw [zf_X6_isFeud_L2] at hf; cases hf
    | succ n2 ih2 =>
      intro v23 hf
      rw [zf_X6_isFeud_L2] at hf
      refine zw_iload_n hC dX6_isFeud_2 rfl 2 rfl ?_
      refine zw_aload_n hC dX6_isFeud_3 rfl 0 rfl ?_
      refine zw_geti hC zF_Splitter_members zk_57 dX6_isFeud_4 kw_2_21 ?_
      refine zw_icmp_ge hC 42 hf dX6_isFeud_7 (by decide) (fun hf => ?_) (fun hf => ?_)
      · exact zw_sub [] rfl (hK42 hf)
      · refine zw_iload_n hC dX6_isFeud_10 rfl 1 rfl ?_
        refine zw_iload_n hC dX6_isFeud_11 rfl 2 rfl ?_
        obtain ⟨v24, hc24, hf⟩ := zb1_some hf
        refine zw_cN hC [.int a1, .int v23] [] (st1 := [.int v24]) zm_X9_has (zc_X9_has hc24) (by decide +kernel) dX6_isFeud_12 rfl (by decide) (Nat.le_of_ble_eq_true rfl) rfl rfl ?_
        have hj36 : zf_X6_isFeud_j36 (fun x0 => zf_X6_isFeud_L2 M a1 K42 n2 x0) v23 = some r → ZW E 36 [(0, .ref (zad E 57)), (1, .int a1), (2, .int v23)] [] M := by
          intro  hf
          unfold zf_X6_isFeud_j36 at hf
          refine zw_iinc hC (v := (1 : Int32)) (lv' := [(2, .int (v23 + (1 : Int32))), (0, .ref (zad E 57)), (1, .int a1)]) dX6_isFeud_36 2 rfl (by decide) hN (by decide) rfl ?_
          refine zw_goto hC 2 dX6_isFeud_39 (by decide) ?_
          exact zw_sub [1, 2, 0] rfl (ih2 (v23 + (1 : Int32)) hf)
        refine zw_if_eq hC 36 hf dX6_isFeud_15 (by decide) (fun hf => ?_) (fun hf => ?_)
        · exact hj36 hf
        · refine zw_iload_n hC dX6_isFeud_18 rfl 1 rfl ?_
          refine zw_aload_n hC dX6_isFeud_19 rfl 0 rfl ?_
          refine zw_getr (k' := 58) hC zF_Splitter_foes zk_57 rfl dX6_isFeud_20 kw_2_24 ?_
          refine zw_iload_n hC dX6_isFeud_23 rfl 2 rfl ?_
          refine zw_iald hC hf zk_58 dX6_isFeud_24 (fun v25 hf => ?_)
          refine zw_iconst hC (v := (-1 : Int32)) dX6_isFeud_25 (by decide) ?_
          refine zw_ixor hC dX6_isFeud_26 ?_
          refine zw_iand hC dX6_isFeud_27 ?_
          refine zw_iconst hC (v := (1 : Int32)) dX6_isFeud_28 (by decide) ?_
          refine zw_iload_n hC dX6_isFeud_29 rfl 2 rfl ?_
          refine zw_ishl hC dX6_isFeud_30 ?_
          refine zw_icmp_eq hC 36 hf dX6_isFeud_31 (by decide) (fun hf => ?_) (fun hf => ?_)
          · exact hj36 hf
          · refine zw_iconst hC (v := (0 : Int32)) dX6_isFeud_34 (by decide) ?_
            have h1 := Option.some.inj hf
            subst h1
            exact zw_zret hC hR rfl dX6_isFeud_35
  refine zw_sub [1, 2, 0] rfl (hL2 _ ?_ n (0 : Int32) hf)
  · intro  hf
    refine zw_iconst hC (v := (1 : Int32)) dX6_isFeud_42 (by decide) ?_
    have h1 := Option.some.inj hf
    subst h1
    exact zw_zret hC hR rfl dX6_isFeud_43
/-! Splitter.greatestFeud()I -/
theorem dX6_greatestFeud_0 : decode cX6_greatestFeud 0 = .ok (.iconst 0, 1) := by decide +kernel
theorem dX6_greatestFeud_1 : decode cX6_greatestFeud 1 = .ok (.istore_n 1, 1) := by decide +kernel
theorem dX6_greatestFeud_2 : decode cX6_greatestFeud 2 = .ok (.iconst 0, 1) := by decide +kernel
theorem dX6_greatestFeud_3 : decode cX6_greatestFeud 3 = .ok (.istore_n 2, 1) := by decide +kernel
theorem dX6_greatestFeud_4 : decode cX6_greatestFeud 4 = .ok (.iconst 1, 1) := by decide +kernel
theorem dX6_greatestFeud_5 : decode cX6_greatestFeud 5 = .ok (.istore_n 3, 1) := by decide +kernel
theorem dX6_greatestFeud_6 : decode cX6_greatestFeud 6 = .ok (.iload_n 3, 1) := by decide +kernel
theorem dX6_greatestFeud_7 : decode cX6_greatestFeud 7 = .ok (.iconst 1, 1) := by decide +kernel
theorem dX6_greatestFeud_8 : decode cX6_greatestFeud 8 = .ok (.aload_n 0, 1) := by decide +kernel
theorem dX6_greatestFeud_9 : decode cX6_greatestFeud 9 = .ok (.getfield 34, 3) := by decide +kernel
theorem dX6_greatestFeud_12 : decode cX6_greatestFeud 12 = .ok (.ishl, 1) := by decide +kernel
theorem dX6_greatestFeud_13 : decode cX6_greatestFeud 13 = .ok (.if_icmp .ge 45, 3) := by decide +kernel
theorem dX6_greatestFeud_16 : decode cX6_greatestFeud 16 = .ok (.iload_n 3, 1) := by decide +kernel
theorem dX6_greatestFeud_17 : decode cX6_greatestFeud 17 = .ok (.invokestatic 94, 3) := by decide +kernel
theorem dX6_greatestFeud_20 : decode cX6_greatestFeud 20 = .ok (.istore 4, 2) := by decide +kernel
theorem dX6_greatestFeud_22 : decode cX6_greatestFeud 22 = .ok (.iload 4, 2) := by decide +kernel
theorem dX6_greatestFeud_24 : decode cX6_greatestFeud 24 = .ok (.iload_n 1, 1) := by decide +kernel
theorem dX6_greatestFeud_25 : decode cX6_greatestFeud 25 = .ok (.if_icmp .le 27, 3) := by decide +kernel
theorem dX6_greatestFeud_28 : decode cX6_greatestFeud 28 = .ok (.iload_n 3, 1) := by decide +kernel
theorem dX6_greatestFeud_29 : decode cX6_greatestFeud 29 = .ok (.aload_n 0, 1) := by decide +kernel
theorem dX6_greatestFeud_30 : decode cX6_greatestFeud 30 = .ok (.getfield 40, 3) := by decide +kernel
theorem dX6_greatestFeud_33 : decode cX6_greatestFeud 33 = .ok (.iconst (-1), 1) := by decide +kernel
theorem dX6_greatestFeud_34 : decode cX6_greatestFeud 34 = .ok (.ixor, 1) := by decide +kernel
theorem dX6_greatestFeud_35 : decode cX6_greatestFeud 35 = .ok (.iand, 1) := by decide +kernel
theorem dX6_greatestFeud_36 : decode cX6_greatestFeud 36 = .ok (.ifCond .ne 16, 3) := by decide +kernel
theorem dX6_greatestFeud_39 : decode cX6_greatestFeud 39 = .ok (.aload_n 0, 1) := by decide +kernel
theorem dX6_greatestFeud_40 : decode cX6_greatestFeud 40 = .ok (.iload_n 3, 1) := by decide +kernel
theorem dX6_greatestFeud_41 : decode cX6_greatestFeud 41 = .ok (.invokevirtual 100, 3) := by decide +kernel
theorem dX6_greatestFeud_44 : decode cX6_greatestFeud 44 = .ok (.ifCond .eq 8, 3) := by decide +kernel
theorem dX6_greatestFeud_47 : decode cX6_greatestFeud 47 = .ok (.iload 4, 2) := by decide +kernel
theorem dX6_greatestFeud_49 : decode cX6_greatestFeud 49 = .ok (.istore_n 1, 1) := by decide +kernel
theorem dX6_greatestFeud_50 : decode cX6_greatestFeud 50 = .ok (.iload_n 3, 1) := by decide +kernel
theorem dX6_greatestFeud_51 : decode cX6_greatestFeud 51 = .ok (.istore_n 2, 1) := by decide +kernel
theorem dX6_greatestFeud_52 : decode cX6_greatestFeud 52 = .ok (.iinc 3 1, 3) := by decide +kernel
theorem dX6_greatestFeud_55 : decode cX6_greatestFeud 55 = .ok (.goto (-49), 3) := by decide +kernel
theorem dX6_greatestFeud_58 : decode cX6_greatestFeud 58 = .ok (.iload_n 2, 1) := by decide +kernel
theorem dX6_greatestFeud_59 : decode cX6_greatestFeud 59 = .ok (.ireturn, 1) := by decide +kernel
theorem zm_X6_greatestFeud : ZMv "ClassOfMany$Splitter" yX6_greatestFeud cX6_greatestFeud 5 (some .int) 0 := ⟨kw_4_148, kw_4_146, kw_4_147, kw_1_6, by decide +kernel, by decide⟩
def zf_X6_greatestFeud_j52 (R6 : Int32 → Int32 → Int32 → Option (Int32)) (v25 : Int32) (v28 : Int32) (v29 : Int32) : Option (Int32) :=
  (R6 v28 v29 (v25 + (1 : Int32)))
def zf_X6_greatestFeud_L6 (M : ZMem) (n : Nat) (K58 : Int32 → Option (Int32)) : Nat → Int32 → Int32 → Int32 → Option (Int32)
  | 0, _, _, _ => none
  | n6 + 1, v23, v24, v25 =>
  (if ((1 : Int32) <<< ((M 57 0) &&& 31)) ≤ v25 then (K58 v24) else zb1 (zf_J6_bitCount_0f7a4 v25) (fun v27 => (if v27 ≤ v23 then (zf_X6_greatestFeud_j52 (fun x0 x1 x2 => zf_X6_greatestFeud_L6 M n K58 n6 x0 x1 x2) v25 v23 v24) else (if (v25 &&& ((M 57 1) ^^^ (-1 : Int32))) = 0 then zb1 (zf_X6_isFeud n v25 M) (fun v30 => (if v30 = 0 then (zf_X6_greatestFeud_j52 (fun x0 x1 x2 => zf_X6_greatestFeud_L6 M n K58 n6 x0 x1 x2) v25 v23 v24) else (zf_X6_greatestFeud_j52 (fun x0 x1 x2 => zf_X6_greatestFeud_L6 M n K58 n6 x0 x1 x2) v25 v27 v25))) else (zf_X6_greatestFeud_j52 (fun x0 x1 x2 => zf_X6_greatestFeud_L6 M n K58 n6 x0 x1 x2) v25 v23 v24)))))
def zf_X6_greatestFeud (n : Nat) (M : ZMem) : Option (Int32) :=
  (zf_X6_greatestFeud_L6 M n (fun v31 => some v31) n (0 : Int32) (0 : Int32) (1 : Int32))
set_option maxHeartbeats 4000000 in
set_option maxRecDepth 100000 in
theorem zc_X6_greatestFeud {l : Launch} {D : va_G} {ad : Nat → Nat} {cA : Nat → ClassId} {n : Nat} {M : ZMem} {r : Int32} (hf : zf_X6_greatestFeud n M = some r) : ZCt l D ad cA yX6_greatestFeud cX6_greatestFeud 5 (some .int) 3 [.ref (ad 57)] M (some (.int r)) M := by
  refine zct (by decide +kernel) (Nat.le_of_ble_eq_true rfl) (lv := [(0, .ref (ad 57))]) rfl (fun E hl hD had hcA hN hC hR => ?_)
  subst hl; subst hD; subst had; subst hcA
  unfold zf_X6_greatestFeud at hf
  refine zw_iconst hC (v := (0 : Int32)) dX6_greatestFeud_0 (by decide) ?_
  refine zw_istore_n hC (lv' := [(1, .int (0 : Int32)), (0, .ref (zad E 57))]) dX6_greatestFeud_1 rfl hN (by decide) rfl ?_
  refine zw_iconst hC (v := (0 : Int32)) dX6_greatestFeud_2 (by decide) ?_
  refine zw_istore_n hC (lv' := [(2, .int (0 : Int32)), (1, .int (0 : Int32)), (0, .ref (zad E 57))]) dX6_greatestFeud_3 rfl hN (by decide) rfl ?_
  refine zw_iconst hC (v := (1 : Int32)) dX6_greatestFeud_4 (by decide) ?_
  refine zw_istore_n hC (lv' := [(3, .int (1 : Int32)), (2, .int (0 : Int32)), (1, .int (0 : Int32)), (0, .ref (zad E 57))]) dX6_greatestFeud_5 rfl hN (by decide) rfl ?_
  have hL6 : ∀ (K58 : Int32 → Option (Int32)), (∀ (v26 : Int32), K58 v26 = some r → ZW E 58 [(2, .int v26)] [] M) → ∀ (n6 : Nat), ∀ (v23 : Int32), ∀ (v24 : Int32), ∀ (v25 : Int32), zf_X6_greatestFeud_L6 M n K58 n6 v23 v24 v25 = some r → ZW E 6 [(0, .ref (zad E 57)), (1, .int v23), (2, .int v24), (3, .int v25)] [] M := by
    intro K58 hK58
    intro n6
    induction n6 with
    | zero => intro v23 v24 v25 hf; rw [zf_X6_greatestFeud_L6] at hf; cases hf
    | succ n6 ih6 =>
      intro v23 v24 v25 hf
      rw [zf_X6_greatestFeud_L6] at hf
      refine zw_iload_n hC dX6_greatestFeud_6 rfl 3 rfl ?_
      refine zw_iconst hC (v := (1 : Int32)) dX6_greatestFeud_7 (by decide) ?_
      refine zw_aload_n hC dX6_greatestFeud_8 rfl 0 rfl ?_
      refine zw_geti hC zF_Splitter_members zk_57 dX6_greatestFeud_9 kw_2_21 ?_
      refine zw_ishl hC dX6_greatestFeud_12 ?_
      refine zw_icmp_ge hC 58 hf dX6_greatestFeud_13 (by decide) (fun hf => ?_) (fun hf => ?_)
      · exact zw_sub [2] rfl (hK58 v24 hf)
      · refine zw_iload_n hC dX6_greatestFeud_16 rfl 3 rfl ?_
        obtain ⟨v27, hc27, hf⟩ := zb1_some hf
        refine zw_cS hC [.int v25] [] (st1 := [.int v27]) zm_J6_bitCount_0f7a4 (zc_J6_bitCount_0f7a4 hc27) kw_4_149 dX6_greatestFeud_17 rfl (by decide) (Nat.le_of_ble_eq_true rfl) rfl rfl ?_
        refine zw_istore hC (lv' := [(4, .int v27), (0, .ref (zad E 57)), (1, .int v23), (2, .int v24), (3, .int v25)]) dX6_greatestFeud_20 hN (by decide) rfl ?_
        refine zw_iload hC dX6_greatestFeud_22 0 rfl ?_
        refine zw_iload_n hC dX6_greatestFeud_24 rfl 2 rfl ?_
        have hj52 : ∀ (v28 : Int32), ∀ (v29 : Int32), zf_X6_greatestFeud_j52 (fun x0 x1 x2 => zf_X6_greatestFeud_L6 M n K58 n6 x0 x1 x2) v25 v28 v29 = some r → ZW E 52 [(0, .ref (zad E 57)), (1, .int v28), (2, .int v29), (3, .int v25)] [] M := by
          intro v28 v29 hf
          unfold zf_X6_greatestFeud_j52 at hf
          refine zw_iinc hC (v := (1 : Int32)) (lv' := [(3, .int (v25 + (1 : Int32))), (0, .ref (zad E 57)), (1, .int v28), (2, .int v29)]) dX6_greatestFeud_52 3 rfl (by decide) hN (by decide) rfl ?_
          refine zw_goto hC 6 dX6_greatestFeud_55 (by decide) ?_
          exact zw_sub [1, 2, 3, 0] rfl (ih6 v28 v29 (v25 + (1 : Int32)) hf)
        refine zw_icmp_le hC 52 hf dX6_greatestFeud_25 (by decide) (fun hf => ?_) (fun hf => ?_)
        · exact zw_sub [1, 2, 3, 4] rfl (hj52 v23 v24 hf)
        · refine zw_iload_n hC dX6_greatestFeud_28 rfl 4 rfl ?_
          refine zw_aload_n hC dX6_greatestFeud_29 rfl 1 rfl ?_
          refine zw_geti hC zF_Splitter_in zk_57 dX6_greatestFeud_30 kw_2_22 ?_
          refine zw_iconst hC (v := (-1 : Int32)) dX6_greatestFeud_33 (by decide) ?_
          refine zw_ixor hC dX6_greatestFeud_34 ?_
          refine zw_iand hC dX6_greatestFeud_35 ?_
          refine zw_if_ne hC 52 hf dX6_greatestFeud_36 (by decide) (fun hf => ?_) (fun hf => ?_)
          · exact zw_sub [1, 2, 3, 4] rfl (hj52 v23 v24 hf)
          · refine zw_aload_n hC dX6_greatestFeud_39 rfl 1 rfl ?_
            refine zw_iload_n hC dX6_greatestFeud_40 rfl 4 rfl ?_
            obtain ⟨v30, hc30, hf⟩ := zb1_some hf
            refine zw_cV hC [.int v25] [] (st1 := [.int v30]) zm_X6_isFeud (zc_X6_isFeud hc30) zk_57 rfl kw_4_150 dX6_greatestFeud_41 rfl (by decide) (Nat.le_of_ble_eq_true rfl) rfl rfl ?_
            refine zw_if_eq hC 52 hf dX6_greatestFeud_44 (by decide) (fun hf => ?_) (fun hf => ?_)
            · exact zw_sub [1, 2, 3, 4] rfl (hj52 v23 v24 hf)
            · refine zw_iload hC dX6_greatestFeud_47 0 rfl ?_
              refine zw_istore_n hC (lv' := [(1, .int v27), (4, .int v27), (0, .ref (zad E 57)), (2, .int v24), (3, .int v25)]) dX6_greatestFeud_49 rfl hN (by decide) rfl ?_
              refine zw_iload_n hC dX6_greatestFeud_50 rfl 4 rfl ?_
              refine zw_istore_n hC (lv' := [(2, .int v25), (1, .int v27), (4, .int v27), (0, .ref (zad E 57)), (3, .int v25)]) dX6_greatestFeud_51 rfl hN (by decide) rfl ?_
              exact zw_sub [3, 1, 0, 4] rfl (hj52 v27 v25 hf)
  refine zw_sub [3, 2, 1, 0] rfl (hL6 _ ?_ n (0 : Int32) (0 : Int32) (1 : Int32) hf)
  · intro v31 hf
    refine zw_iload_n hC dX6_greatestFeud_58 rfl 0 rfl ?_
    have h1 := Option.some.inj hf
    subst h1
    exact zw_iret hC hR dX6_greatestFeud_59
/-! Payer, method 4 -/
theorem dX3_admit_0 : decode cX3_admit 0 = .ok (.iload_n 2, 1) := by decide +kernel
theorem dX3_admit_1 : decode cX3_admit 1 = .ok (.ifCond .lt 9, 3) := by decide +kernel
theorem dX3_admit_4 : decode cX3_admit 4 = .ok (.iload_n 2, 1) := by decide +kernel
theorem dX3_admit_5 : decode cX3_admit 5 = .ok (.bipush 10, 2) := by decide +kernel
theorem dX3_admit_7 : decode cX3_admit 7 = .ok (.if_icmp .lt 4, 3) := by decide +kernel
theorem dX3_admit_10 : decode cX3_admit 10 = .ok (.return_, 1) := by decide +kernel
theorem dX3_admit_11 : decode cX3_admit 11 = .ok (.aload_n 0, 1) := by decide +kernel
theorem dX3_admit_12 : decode cX3_admit 12 = .ok (.getfield 21, 3) := by decide +kernel
theorem dX3_admit_15 : decode cX3_admit 15 = .ok (.iload_n 2, 1) := by decide +kernel
theorem dX3_admit_16 : decode cX3_admit 16 = .ok (.iaload, 1) := by decide +kernel
theorem dX3_admit_17 : decode cX3_admit 17 = .ok (.ifCond .ne 13, 3) := by decide +kernel
theorem dX3_admit_20 : decode cX3_admit 20 = .ok (.aload_n 0, 1) := by decide +kernel
theorem dX3_admit_21 : decode cX3_admit 21 = .ok (.dup, 1) := by decide +kernel
theorem dX3_admit_22 : decode cX3_admit 22 = .ok (.getfield 106, 3) := by decide +kernel
theorem dX3_admit_25 : decode cX3_admit 25 = .ok (.iconst 1, 1) := by decide +kernel
theorem dX3_admit_26 : decode cX3_admit 26 = .ok (.iadd, 1) := by decide +kernel
theorem dX3_admit_27 : decode cX3_admit 27 = .ok (.putfield 106, 3) := by decide +kernel
theorem dX3_admit_30 : decode cX3_admit 30 = .ok (.aload_n 0, 1) := by decide +kernel
theorem dX3_admit_31 : decode cX3_admit 31 = .ok (.dup, 1) := by decide +kernel
theorem dX3_admit_32 : decode cX3_admit 32 = .ok (.getfield 97, 3) := by decide +kernel
theorem dX3_admit_35 : decode cX3_admit 35 = .ok (.iconst 1, 1) := by decide +kernel
theorem dX3_admit_36 : decode cX3_admit 36 = .ok (.iload_n 1, 1) := by decide +kernel
theorem dX3_admit_37 : decode cX3_admit 37 = .ok (.ishl, 1) := by decide +kernel
theorem dX3_admit_38 : decode cX3_admit 38 = .ok (.ior, 1) := by decide +kernel
theorem dX3_admit_39 : decode cX3_admit 39 = .ok (.putfield 97, 3) := by decide +kernel
theorem dX3_admit_42 : decode cX3_admit 42 = .ok (.aload_n 0, 1) := by decide +kernel
theorem dX3_admit_43 : decode cX3_admit 43 = .ok (.getfield 15, 3) := by decide +kernel
theorem dX3_admit_46 : decode cX3_admit 46 = .ok (.iload_n 1, 1) := by decide +kernel
theorem dX3_admit_47 : decode cX3_admit 47 = .ok (.iload_n 2, 1) := by decide +kernel
theorem dX3_admit_48 : decode cX3_admit 48 = .ok (.iastore, 1) := by decide +kernel
theorem dX3_admit_49 : decode cX3_admit 49 = .ok (.aload_n 0, 1) := by decide +kernel
theorem dX3_admit_50 : decode cX3_admit 50 = .ok (.getfield 18, 3) := by decide +kernel
theorem dX3_admit_53 : decode cX3_admit 53 = .ok (.iload_n 2, 1) := by decide +kernel
theorem dX3_admit_54 : decode cX3_admit 54 = .ok (.dup2, 1) := by decide +kernel
theorem dX3_admit_55 : decode cX3_admit 55 = .ok (.iaload, 1) := by decide +kernel
theorem dX3_admit_56 : decode cX3_admit 56 = .ok (.aload_n 0, 1) := by decide +kernel
theorem dX3_admit_57 : decode cX3_admit 57 = .ok (.getfield 9, 3) := by decide +kernel
theorem dX3_admit_60 : decode cX3_admit 60 = .ok (.iload_n 1, 1) := by decide +kernel
theorem dX3_admit_61 : decode cX3_admit 61 = .ok (.iaload, 1) := by decide +kernel
theorem dX3_admit_62 : decode cX3_admit 62 = .ok (.iadd, 1) := by decide +kernel
theorem dX3_admit_63 : decode cX3_admit 63 = .ok (.iastore, 1) := by decide +kernel
theorem dX3_admit_64 : decode cX3_admit 64 = .ok (.aload_n 0, 1) := by decide +kernel
theorem dX3_admit_65 : decode cX3_admit 65 = .ok (.getfield 21, 3) := by decide +kernel
theorem dX3_admit_68 : decode cX3_admit 68 = .ok (.iload_n 2, 1) := by decide +kernel
theorem dX3_admit_69 : decode cX3_admit 69 = .ok (.dup2, 1) := by decide +kernel
theorem dX3_admit_70 : decode cX3_admit 70 = .ok (.iaload, 1) := by decide +kernel
theorem dX3_admit_71 : decode cX3_admit 71 = .ok (.iconst 1, 1) := by decide +kernel
theorem dX3_admit_72 : decode cX3_admit 72 = .ok (.iadd, 1) := by decide +kernel
theorem dX3_admit_73 : decode cX3_admit 73 = .ok (.iastore, 1) := by decide +kernel
theorem dX3_admit_74 : decode cX3_admit 74 = .ok (.aload_n 0, 1) := by decide +kernel
theorem dX3_admit_75 : decode cX3_admit 75 = .ok (.dup, 1) := by decide +kernel
theorem dX3_admit_76 : decode cX3_admit 76 = .ok (.getfield 103, 3) := by decide +kernel
theorem dX3_admit_79 : decode cX3_admit 79 = .ok (.aload_n 0, 1) := by decide +kernel
theorem dX3_admit_80 : decode cX3_admit 80 = .ok (.getfield 9, 3) := by decide +kernel
theorem dX3_admit_83 : decode cX3_admit 83 = .ok (.iload_n 1, 1) := by decide +kernel
theorem dX3_admit_84 : decode cX3_admit 84 = .ok (.iaload, 1) := by decide +kernel
theorem dX3_admit_85 : decode cX3_admit 85 = .ok (.iadd, 1) := by decide +kernel
theorem dX3_admit_86 : decode cX3_admit 86 = .ok (.putfield 103, 3) := by decide +kernel
theorem dX3_admit_89 : decode cX3_admit 89 = .ok (.aload_n 0, 1) := by decide +kernel
theorem dX3_admit_90 : decode cX3_admit 90 = .ok (.dup, 1) := by decide +kernel
theorem dX3_admit_91 : decode cX3_admit 91 = .ok (.getfield 100, 3) := by decide +kernel
theorem dX3_admit_94 : decode cX3_admit 94 = .ok (.iconst 1, 1) := by decide +kernel
theorem dX3_admit_95 : decode cX3_admit 95 = .ok (.iadd, 1) := by decide +kernel
theorem dX3_admit_96 : decode cX3_admit 96 = .ok (.putfield 100, 3) := by decide +kernel
theorem dX3_admit_99 : decode cX3_admit 99 = .ok (.return_, 1) := by decide +kernel
theorem zm_X3_admit : ZMv "ClassOfMany$Payer" yX3_admit cX3_admit 3 (none) 2 := ⟨kw_4_211, kw_4_210, kp_34, kw_1_7, by decide +kernel, by decide⟩
def zf_X3_admit_j10 (M : ZMem) : Option (ZMem) :=
  some M
def zf_X3_admit_j30 (a1 : Int32) (a2 : Int32) (M34 : ZMem) : Option (ZMem) :=
  zput M34 63 10 ((M34 63 10) ||| ((1 : Int32) <<< (a1 &&& 31))) (fun M35 => zst M35 65 10 a1 a2 (fun M36 => zrd M36 66 10 a2 (fun v37 => zrd M36 64 10 a1 (fun v38 => zst M36 66 10 a2 (v37 + v38) (fun M39 => zrd M39 67 10 a2 (fun v40 => zst M39 67 10 a2 (v40 + (1 : Int32)) (fun M41 => zrd M41 64 10 a1 (fun v42 => zput M41 63 12 ((M41 63 12) + v42) (fun M43 => zput M43 63 13 ((M43 63 13) + (1 : Int32)) (fun M44 => some M44))))))))))
def zf_X3_admit (a1 : Int32) (a2 : Int32) (M : ZMem) : Option (ZMem) :=
  (if a2 < 0 then (zf_X3_admit_j10 M) else (if a2 < (10 : Int32) then zrd M 67 10 a2 (fun v33 => (if v33 = 0 then zput M 63 14 ((M 63 14) + (1 : Int32)) (fun M45 => (zf_X3_admit_j30 a1 a2 M45)) else (zf_X3_admit_j30 a1 a2 M))) else (zf_X3_admit_j10 M)))
set_option maxHeartbeats 4000000 in
set_option maxRecDepth 100000 in
theorem zc_X3_admit {l : Launch} {D : va_G} {ad : Nat → Nat} {cA : Nat → ClassId} {a1 : Int32} {a2 : Int32} {M : ZMem} {M' : ZMem} (hf : zf_X3_admit a1 a2 M = some M') : ZCt l D ad cA yX3_admit cX3_admit 3 (none) 1 [.ref (ad 63), .int a1, .int a2] M none M' := by
  refine zct (by decide +kernel) (Nat.le_of_ble_eq_true rfl) (lv := [(0, .ref (ad 63)), (1, .int a1), (2, .int a2)]) rfl (fun E hl hD had hcA hN hC hR => ?_)
  subst hl; subst hD; subst had; subst hcA
  unfold zf_X3_admit at hf
  refine zw_iload_n hC dX3_admit_0 rfl 2 rfl ?_
  have hj10 : zf_X3_admit_j10 M = some M' → ZW E 10 [] [] M := by
    intro  hf
    unfold zf_X3_admit_j10 at hf
    have h1 := Option.some.inj hf
    subst h1
    exact zw_vret hC hR dX3_admit_10
  refine zw_if_lt hC 10 hf dX3_admit_1 (by decide) (fun hf => ?_) (fun hf => ?_)
  · exact zw_sub [] rfl (hj10 hf)
  · refine zw_iload_n hC dX3_admit_4 rfl 2 rfl ?_
    refine zw_bipush hC (v := (10 : Int32)) dX3_admit_5 (by decide) ?_
    refine zw_icmp_lt hC 11 hf dX3_admit_7 (by decide) (fun hf => ?_) (fun hf => ?_)
    · refine zw_aload_n hC dX3_admit_11 rfl 0 rfl ?_
      refine zw_getr (k' := 67) hC zF_Payer_groupHeads zk_63 rfl dX3_admit_12 kw_2_62 ?_
      refine zw_iload_n hC dX3_admit_15 rfl 2 rfl ?_
      refine zw_iald hC hf zk_67 dX3_admit_16 (fun v33 hf => ?_)
      have hj30 : ∀ (M34 : ZMem), zf_X3_admit_j30 a1 a2 M34 = some M' → ZW E 30 [(0, .ref (zad E 63)), (1, .int a1), (2, .int a2)] [] M34 := by
        intro M34 hf
        unfold zf_X3_admit_j30 at hf
        refine zw_aload_n hC dX3_admit_30 rfl 0 rfl ?_
        refine zw_dup hC dX3_admit_31 rfl ?_
        refine zw_geti hC zF_Payer_counted zk_63 dX3_admit_32 kw_2_73 ?_
        refine zw_iconst hC (v := (1 : Int32)) dX3_admit_35 (by decide) ?_
        refine zw_iload_n hC dX3_admit_36 rfl 1 rfl ?_
        refine zw_ishl hC dX3_admit_37 ?_
        refine zw_ior hC dX3_admit_38 ?_
        refine zw_puti hC hf zF_Payer_counted zk_63 dX3_admit_39 kw_2_73 (fun M35 hf => ?_)
        refine zw_aload_n hC dX3_admit_42 rfl 0 rfl ?_
        refine zw_getr (k' := 65) hC zF_Payer_groupOf zk_63 rfl dX3_admit_43 kw_2_60 ?_
        refine zw_iload_n hC dX3_admit_46 rfl 1 rfl ?_
        refine zw_iload_n hC dX3_admit_47 rfl 2 rfl ?_
        refine zw_iast hC hf zk_65 dX3_admit_48 (fun M36 hf => ?_)
        refine zw_aload_n hC dX3_admit_49 rfl 0 rfl ?_
        refine zw_getr (k' := 66) hC zF_Payer_groupClaims zk_63 rfl dX3_admit_50 kw_2_61 ?_
        refine zw_iload_n hC dX3_admit_53 rfl 2 rfl ?_
        refine zw_dup2 hC dX3_admit_54 rfl rfl ?_
        refine zw_iald hC hf zk_66 dX3_admit_55 (fun v37 hf => ?_)
        refine zw_aload_n hC dX3_admit_56 rfl 0 rfl ?_
        refine zw_getr (k' := 64) hC zF_Payer_claims zk_63 rfl dX3_admit_57 kw_2_58 ?_
        refine zw_iload_n hC dX3_admit_60 rfl 1 rfl ?_
        refine zw_iald hC hf zk_64 dX3_admit_61 (fun v38 hf => ?_)
        refine zw_iadd hC dX3_admit_62 ?_
        refine zw_iast hC hf zk_66 dX3_admit_63 (fun M39 hf => ?_)
        refine zw_aload_n hC dX3_admit_64 rfl 0 rfl ?_
        refine zw_getr (k' := 67) hC zF_Payer_groupHeads zk_63 rfl dX3_admit_65 kw_2_62 ?_
        refine zw_iload_n hC dX3_admit_68 rfl 2 rfl ?_
        refine zw_dup2 hC dX3_admit_69 rfl rfl ?_
        refine zw_iald hC hf zk_67 dX3_admit_70 (fun v40 hf => ?_)
        refine zw_iconst hC (v := (1 : Int32)) dX3_admit_71 (by decide) ?_
        refine zw_iadd hC dX3_admit_72 ?_
        refine zw_iast hC hf zk_67 dX3_admit_73 (fun M41 hf => ?_)
        refine zw_aload_n hC dX3_admit_74 rfl 0 rfl ?_
        refine zw_dup hC dX3_admit_75 rfl ?_
        refine zw_geti hC zF_Payer_claimsInAll zk_63 dX3_admit_76 kw_2_76 ?_
        refine zw_aload_n hC dX3_admit_79 rfl 0 rfl ?_
        refine zw_getr (k' := 64) hC zF_Payer_claims zk_63 rfl dX3_admit_80 kw_2_58 ?_
        refine zw_iload_n hC dX3_admit_83 rfl 1 rfl ?_
        refine zw_iald hC hf zk_64 dX3_admit_84 (fun v42 hf => ?_)
        refine zw_iadd hC dX3_admit_85 ?_
        refine zw_puti hC hf zF_Payer_claimsInAll zk_63 dX3_admit_86 kw_2_76 (fun M43 hf => ?_)
        refine zw_aload_n hC dX3_admit_89 rfl 0 rfl ?_
        refine zw_dup hC dX3_admit_90 rfl ?_
        refine zw_geti hC zF_Payer_heads zk_63 dX3_admit_91 kw_2_78 ?_
        refine zw_iconst hC (v := (1 : Int32)) dX3_admit_94 (by decide) ?_
        refine zw_iadd hC dX3_admit_95 ?_
        refine zw_puti hC hf zF_Payer_heads zk_63 dX3_admit_96 kw_2_78 (fun M44 hf => ?_)
        have h1 := Option.some.inj hf
        subst h1
        exact zw_vret hC hR dX3_admit_99
      refine zw_if_ne hC 30 hf dX3_admit_17 (by decide) (fun hf => ?_) (fun hf => ?_)
      · exact hj30 M hf
      · refine zw_aload_n hC dX3_admit_20 rfl 0 rfl ?_
        refine zw_dup hC dX3_admit_21 rfl ?_
        refine zw_geti hC zF_Payer_groupsPaid zk_63 dX3_admit_22 kw_2_80 ?_
        refine zw_iconst hC (v := (1 : Int32)) dX3_admit_25 (by decide) ?_
        refine zw_iadd hC dX3_admit_26 ?_
        refine zw_puti hC hf zF_Payer_groupsPaid zk_63 dX3_admit_27 kw_2_80 (fun M45 hf => ?_)
        exact hj30 M45 hf
    · exact zw_sub [] rfl (hj10 hf)
/-! Payer.gather(LClassOfMany$Splitter;LClassOfMany$Told;LClassOfMany$Standing;)V -/
theorem dX3_gather_0 : decode cX3_gather 0 = .ok (.aload_n 0, 1) := by decide +kernel
theorem dX3_gather_1 : decode cX3_gather 1 = .ok (.aload_n 2, 1) := by decide +kernel
theorem dX3_gather_2 : decode cX3_gather 2 = .ok (.getfield 83, 3) := by decide +kernel
theorem dX3_gather_5 : decode cX3_gather 5 = .ok (.putfield 88, 3) := by decide +kernel
theorem dX3_gather_8 : decode cX3_gather 8 = .ok (.aload_n 0, 1) := by decide +kernel
theorem dX3_gather_9 : decode cX3_gather 9 = .ok (.aload_n 2, 1) := by decide +kernel
theorem dX3_gather_10 : decode cX3_gather 10 = .ok (.getfield 89, 3) := by decide +kernel
theorem dX3_gather_13 : decode cX3_gather 13 = .ok (.putfield 92, 3) := by decide +kernel
theorem dX3_gather_16 : decode cX3_gather 16 = .ok (.aload_n 0, 1) := by decide +kernel
theorem dX3_gather_17 : decode cX3_gather 17 = .ok (.aload_n 3, 1) := by decide +kernel
theorem dX3_gather_18 : decode cX3_gather 18 = .ok (.getfield 93, 3) := by decide +kernel
theorem dX3_gather_21 : decode cX3_gather 21 = .ok (.putfield 96, 3) := by decide +kernel
theorem dX3_gather_24 : decode cX3_gather 24 = .ok (.aload_n 0, 1) := by decide +kernel
theorem dX3_gather_25 : decode cX3_gather 25 = .ok (.getfield 18, 3) := by decide +kernel
theorem dX3_gather_28 : decode cX3_gather 28 = .ok (.iconst 0, 1) := by decide +kernel
theorem dX3_gather_29 : decode cX3_gather 29 = .ok (.invokestatic 63, 3) := by decide +kernel
theorem dX3_gather_32 : decode cX3_gather 32 = .ok (.aload_n 0, 1) := by decide +kernel
theorem dX3_gather_33 : decode cX3_gather 33 = .ok (.getfield 21, 3) := by decide +kernel
theorem dX3_gather_36 : decode cX3_gather 36 = .ok (.iconst 0, 1) := by decide +kernel
theorem dX3_gather_37 : decode cX3_gather 37 = .ok (.invokestatic 63, 3) := by decide +kernel
theorem dX3_gather_40 : decode cX3_gather 40 = .ok (.aload_n 0, 1) := by decide +kernel
theorem dX3_gather_41 : decode cX3_gather 41 = .ok (.iconst 0, 1) := by decide +kernel
theorem dX3_gather_42 : decode cX3_gather 42 = .ok (.putfield 97, 3) := by decide +kernel
theorem dX3_gather_45 : decode cX3_gather 45 = .ok (.aload_n 0, 1) := by decide +kernel
theorem dX3_gather_46 : decode cX3_gather 46 = .ok (.iconst 0, 1) := by decide +kernel
theorem dX3_gather_47 : decode cX3_gather 47 = .ok (.putfield 100, 3) := by decide +kernel
theorem dX3_gather_50 : decode cX3_gather 50 = .ok (.aload_n 0, 1) := by decide +kernel
theorem dX3_gather_51 : decode cX3_gather 51 = .ok (.iconst 0, 1) := by decide +kernel
theorem dX3_gather_52 : decode cX3_gather 52 = .ok (.putfield 103, 3) := by decide +kernel
theorem dX3_gather_55 : decode cX3_gather 55 = .ok (.aload_n 0, 1) := by decide +kernel
theorem dX3_gather_56 : decode cX3_gather 56 = .ok (.iconst 0, 1) := by decide +kernel
theorem dX3_gather_57 : decode cX3_gather 57 = .ok (.putfield 106, 3) := by decide +kernel
theorem dX3_gather_60 : decode cX3_gather 60 = .ok (.iconst 0, 1) := by decide +kernel
theorem dX3_gather_61 : decode cX3_gather 61 = .ok (.istore 4, 2) := by decide +kernel
theorem dX3_gather_63 : decode cX3_gather 63 = .ok (.iload 4, 2) := by decide +kernel
theorem dX3_gather_65 : decode cX3_gather 65 = .ok (.aload_n 0, 1) := by decide +kernel
theorem dX3_gather_66 : decode cX3_gather 66 = .ok (.getfield 88, 3) := by decide +kernel
theorem dX3_gather_69 : decode cX3_gather 69 = .ok (.if_icmp .ge 64, 3) := by decide +kernel
theorem dX3_gather_72 : decode cX3_gather 72 = .ok (.aload_n 0, 1) := by decide +kernel
theorem dX3_gather_73 : decode cX3_gather 73 = .ok (.getfield 9, 3) := by decide +kernel
theorem dX3_gather_76 : decode cX3_gather 76 = .ok (.iload 4, 2) := by decide +kernel
theorem dX3_gather_78 : decode cX3_gather 78 = .ok (.aload_n 3, 1) := by decide +kernel
theorem dX3_gather_79 : decode cX3_gather 79 = .ok (.aload_n 2, 1) := by decide +kernel
theorem dX3_gather_80 : decode cX3_gather 80 = .ok (.iload 4, 2) := by decide +kernel
theorem dX3_gather_82 : decode cX3_gather 82 = .ok (.invokevirtual 109, 3) := by decide +kernel
theorem dX3_gather_85 : decode cX3_gather 85 = .ok (.iastore, 1) := by decide +kernel
theorem dX3_gather_86 : decode cX3_gather 86 = .ok (.aload_n 3, 1) := by decide +kernel
theorem dX3_gather_87 : decode cX3_gather 87 = .ok (.getfield 113, 3) := by decide +kernel
theorem dX3_gather_90 : decode cX3_gather 90 = .ok (.aload_n 3, 1) := by decide +kernel
theorem dX3_gather_91 : decode cX3_gather 91 = .ok (.getfield 116, 3) := by decide +kernel
theorem dX3_gather_94 : decode cX3_gather 94 = .ok (.iconst (-1), 1) := by decide +kernel
theorem dX3_gather_95 : decode cX3_gather 95 = .ok (.ixor, 1) := by decide +kernel
theorem dX3_gather_96 : decode cX3_gather 96 = .ok (.iand, 1) := by decide +kernel
theorem dX3_gather_97 : decode cX3_gather 97 = .ok (.iload 4, 2) := by decide +kernel
theorem dX3_gather_99 : decode cX3_gather 99 = .ok (.invokestatic 119, 3) := by decide +kernel
theorem dX3_gather_102 : decode cX3_gather 102 = .ok (.ifCond .eq 25, 3) := by decide +kernel
theorem dX3_gather_105 : decode cX3_gather 105 = .ok (.aload_n 0, 1) := by decide +kernel
theorem dX3_gather_106 : decode cX3_gather 106 = .ok (.getfield 9, 3) := by decide +kernel
theorem dX3_gather_109 : decode cX3_gather 109 = .ok (.iload 4, 2) := by decide +kernel
theorem dX3_gather_111 : decode cX3_gather 111 = .ok (.iaload, 1) := by decide +kernel
theorem dX3_gather_112 : decode cX3_gather 112 = .ok (.ifCond .le 15, 3) := by decide +kernel
theorem dX3_gather_115 : decode cX3_gather 115 = .ok (.aload_n 0, 1) := by decide +kernel
theorem dX3_gather_116 : decode cX3_gather 116 = .ok (.iload 4, 2) := by decide +kernel
theorem dX3_gather_118 : decode cX3_gather 118 = .ok (.aload_n 1, 1) := by decide +kernel
theorem dX3_gather_119 : decode cX3_gather 119 = .ok (.iload 4, 2) := by decide +kernel
theorem dX3_gather_121 : decode cX3_gather 121 = .ok (.invokevirtual 123, 3) := by decide +kernel
theorem dX3_gather_124 : decode cX3_gather 124 = .ok (.invokevirtual 126, 3) := by decide +kernel
theorem dX3_gather_127 : decode cX3_gather 127 = .ok (.iinc 4 1, 3) := by decide +kernel
theorem dX3_gather_130 : decode cX3_gather 130 = .ok (.goto (-67), 3) := by decide +kernel
theorem dX3_gather_133 : decode cX3_gather 133 = .ok (.aload_n 0, 1) := by decide +kernel
theorem dX3_gather_134 : decode cX3_gather 134 = .ok (.aload_n 0, 1) := by decide +kernel
theorem dX3_gather_135 : decode cX3_gather 135 = .ok (.getfield 97, 3) := by decide +kernel
theorem dX3_gather_138 : decode cX3_gather 138 = .ok (.aload_n 3, 1) := by decide +kernel
theorem dX3_gather_139 : decode cX3_gather 139 = .ok (.getfield 130, 3) := by decide +kernel
theorem dX3_gather_142 : decode cX3_gather 142 = .ok (.iconst (-1), 1) := by decide +kernel
theorem dX3_gather_143 : decode cX3_gather 143 = .ok (.ixor, 1) := by decide +kernel
theorem dX3_gather_144 : decode cX3_gather 144 = .ok (.iand, 1) := by decide +kernel
theorem dX3_gather_145 : decode cX3_gather 145 = .ok (.putfield 133, 3) := by decide +kernel
theorem dX3_gather_148 : decode cX3_gather 148 = .ok (.return_, 1) := by decide +kernel
theorem zm_X3_gather : ZMv "ClassOfMany$Payer" yX3_gather cX3_gather 5 (none) 3 := ⟨kw_4_203, kw_4_202, kp_33, kw_1_7, by decide +kernel, by decide⟩
def zf_X3_gather_j127 (R63 : Int32 → ZMem → Option (ZMem)) (v46 : Int32) (M52 : ZMem) : Option (ZMem) :=
  (R63 (v46 + (1 : Int32)) M52)
def zf_X3_gather_L63 (o3 : Nat) (o2 : Nat) (n : Nat) (K133 : ZMem → Option (ZMem)) : Nat → Int32 → ZMem → Option (ZMem)
  | 0, _, _ => none
  | n63 + 1, v46, M47 =>
  (if (M47 63 7) ≤ v46 then (K133 M47) else zb1 (zf_X7_claimOf o3 o2 v46 M47) (fun v49 => zst M47 64 10 v46 v49 (fun M50 => zb1 (zf_X9_has ((M50 o3 5) &&& ((M50 o3 4) ^^^ (-1 : Int32))) v46) (fun v51 => (if v51 = 0 then (zf_X3_gather_j127 (fun x0 x1 => zf_X3_gather_L63 o3 o2 n K133 n63 x0 x1) v46 M50) else zrd M50 64 10 v46 (fun v53 => (if v53 ≤ 0 then (zf_X3_gather_j127 (fun x0 x1 => zf_X3_gather_L63 o3 o2 n K133 n63 x0 x1) v46 M50) else zb1 (zf_X6_groupOf n v46 M50) (fun v54 => zb1 (zf_X3_admit v46 v54 M50) (fun M55 => (zf_X3_gather_j127 (fun x0 x1 => zf_X3_gather_L63 o3 o2 n K133 n63 x0 x1) v46 M55))))))))))
def zf_X3_gather (n : Nat) (o2 : Nat) (o3 : Nat) (M : ZMem) : Option (ZMem) :=
  zput M 63 7 (M o2 0) (fun M37 => zput M37 63 8 (M37 o2 9) (fun M38 => zput M38 63 9 (M38 o3 8) (fun M39 => zb1 (zf_J7_fill_53178 n 66 10 (0 : Int32) M39) (fun M40 => zb1 (zf_J7_fill_53178 n 67 10 (0 : Int32) M40) (fun M41 => zput M41 63 10 (0 : Int32) (fun M42 => zput M42 63 13 (0 : Int32) (fun M43 => zput M43 63 12 (0 : Int32) (fun M44 => zput M44 63 14 (0 : Int32) (fun M45 => (zf_X3_gather_L63 o3 o2 n (fun M56 => zput M56 63 11 ((M56 63 10) &&& ((M56 o3 6) ^^^ (-1 : Int32))) (fun M57 => some M57)) n (0 : Int32) M45))))))))))
set_option maxHeartbeats 4000000 in
set_option maxRecDepth 100000 in
theorem zc_X3_gather {l : Launch} {D : va_G} {ad : Nat → Nat} {cA : Nat → ClassId} {n : Nat} {o2 : Nat} {o3 : Nat} {M : ZMem} {M' : ZMem} (ho2 : zk o2 = (7, 17)) (ho3 : zk o3 = (6, 12)) (hf : zf_X3_gather n o2 o3 M = some M') : ZCt l D ad cA yX3_gather cX3_gather 5 (none) 3 [.ref (ad 63), .ref (ad 57), .ref (ad o2), .ref (ad o3)] M none M' := by
  refine zct (by decide +kernel) (Nat.le_of_ble_eq_true rfl) (lv := [(0, .ref (ad 63)), (1, .ref (ad 57)), (2, .ref (ad o2)), (3, .ref (ad o3))]) rfl (fun E hl hD had hcA hN hC hR => ?_)
  subst hl; subst hD; subst had; subst hcA
  unfold zf_X3_gather at hf
  refine zw_aload_n hC dX3_gather_0 rfl 0 rfl ?_
  refine zw_aload_n hC dX3_gather_1 rfl 2 rfl ?_
  refine zw_geti hC zF_Told_members ho2 dX3_gather_2 kw_1_36 ?_
  refine zw_puti hC hf zF_Payer_members zk_63 dX3_gather_5 kw_2_70 (fun M37 hf => ?_)
  refine zw_aload_n hC dX3_gather_8 rfl 0 rfl ?_
  refine zw_aload_n hC dX3_gather_9 rfl 2 rfl ?_
  refine zw_geti hC zF_Told_least ho2 dX3_gather_10 kw_1_73 ?_
  refine zw_puti hC hf zF_Payer_least zk_63 dX3_gather_13 kw_2_71 (fun M38 hf => ?_)
  refine zw_aload_n hC dX3_gather_16 rfl 0 rfl ?_
  refine zw_aload_n hC dX3_gather_17 rfl 3 rfl ?_
  refine zw_geti hC zF_Standing_rule ho3 dX3_gather_18 kw_1_160 ?_
  refine zw_puti hC hf zF_Payer_rule zk_63 dX3_gather_21 kw_2_72 (fun M39 hf => ?_)
  refine zw_aload_n hC dX3_gather_24 rfl 0 rfl ?_
  refine zw_getr (k' := 66) hC zF_Payer_groupClaims zk_63 rfl dX3_gather_25 kw_2_61 ?_
  refine zw_iconst hC (v := (0 : Int32)) dX3_gather_28 (by decide) ?_
  obtain ⟨M40, hcM40, hf⟩ := zb1_some hf
  refine zw_cS hC [.ref (zad E 66), .int (0 : Int32)] [] (st1 := []) zm_J7_fill_53178 (zc_J7_fill_53178 zk_66 hcM40) kw_4_204 dX3_gather_29 rfl (by decide) (Nat.le_of_ble_eq_true rfl) rfl rfl ?_
  refine zw_aload_n hC dX3_gather_32 rfl 0 rfl ?_
  refine zw_getr (k' := 67) hC zF_Payer_groupHeads zk_63 rfl dX3_gather_33 kw_2_62 ?_
  refine zw_iconst hC (v := (0 : Int32)) dX3_gather_36 (by decide) ?_
  obtain ⟨M41, hcM41, hf⟩ := zb1_some hf
  refine zw_cS hC [.ref (zad E 67), .int (0 : Int32)] [] (st1 := []) zm_J7_fill_53178 (zc_J7_fill_53178 zk_67 hcM41) kw_4_204 dX3_gather_37 rfl (by decide) (Nat.le_of_ble_eq_true rfl) rfl rfl ?_
  refine zw_aload_n hC dX3_gather_40 rfl 0 rfl ?_
  refine zw_iconst hC (v := (0 : Int32)) dX3_gather_41 (by decide) ?_
  refine zw_puti hC hf zF_Payer_counted zk_63 dX3_gather_42 kw_2_73 (fun M42 hf => ?_)
  refine zw_aload_n hC dX3_gather_45 rfl 0 rfl ?_
  refine zw_iconst hC (v := (0 : Int32)) dX3_gather_46 (by decide) ?_
  refine zw_puti hC hf zF_Payer_heads zk_63 dX3_gather_47 kw_2_78 (fun M43 hf => ?_)
  refine zw_aload_n hC dX3_gather_50 rfl 0 rfl ?_
  refine zw_iconst hC (v := (0 : Int32)) dX3_gather_51 (by decide) ?_
  refine zw_puti hC hf zF_Payer_claimsInAll zk_63 dX3_gather_52 kw_2_76 (fun M44 hf => ?_)
  refine zw_aload_n hC dX3_gather_55 rfl 0 rfl ?_
  refine zw_iconst hC (v := (0 : Int32)) dX3_gather_56 (by decide) ?_
  refine zw_puti hC hf zF_Payer_groupsPaid zk_63 dX3_gather_57 kw_2_80 (fun M45 hf => ?_)
  refine zw_iconst hC (v := (0 : Int32)) dX3_gather_60 (by decide) ?_
  refine zw_istore hC (lv' := [(4, .int (0 : Int32)), (0, .ref (zad E 63)), (1, .ref (zad E 57)), (2, .ref (zad E o2)), (3, .ref (zad E o3))]) dX3_gather_61 hN (by decide) rfl ?_
  have hL63 : ∀ (K133 : ZMem → Option (ZMem)), (∀ (M48 : ZMem), K133 M48 = some M' → ZW E 133 [(0, .ref (zad E 63)), (3, .ref (zad E o3))] [] M48) → ∀ (n63 : Nat), ∀ (v46 : Int32), ∀ (M47 : ZMem), zf_X3_gather_L63 o3 o2 n K133 n63 v46 M47 = some M' → ZW E 63 [(0, .ref (zad E 63)), (1, .ref (zad E 57)), (2, .ref (zad E o2)), (3, .ref (zad E o3)), (4, .int v46)] [] M47 := by
    intro K133 hK133
    intro n63
    induction n63 with
    | zero => intro v46 M47 hf; rw [zf_X3_gather_L63] at hf; cases hf
    | succ n63 ih63 =>
      intro v46 M47 hf
      rw [zf_X3_gather_L63] at hf
      refine zw_iload hC dX3_gather_63 4 rfl ?_
      refine zw_aload_n hC dX3_gather_65 rfl 0 rfl ?_
      refine zw_geti hC zF_Payer_members zk_63 dX3_gather_66 kw_2_70 ?_
      refine zw_icmp_ge hC 133 hf dX3_gather_69 (by decide) (fun hf => ?_) (fun hf => ?_)
      · exact zw_sub [0, 3] rfl (hK133 M47 hf)
      · refine zw_aload_n hC dX3_gather_72 rfl 0 rfl ?_
        refine zw_getr (k' := 64) hC zF_Payer_claims zk_63 rfl dX3_gather_73 kw_2_58 ?_
        refine zw_iload hC dX3_gather_76 4 rfl ?_
        refine zw_aload_n hC dX3_gather_78 rfl 3 rfl ?_
        refine zw_aload_n hC dX3_gather_79 rfl 2 rfl ?_
        refine zw_iload hC dX3_gather_80 4 rfl ?_
        obtain ⟨v49, hc49, hf⟩ := zb1_some hf
        refine zw_cV hC [.ref (zad E o2), .int v46] [.int v46, .ref (zad E 64)] (st1 := [.int v49, .int v46, .ref (zad E 64)]) zm_X7_claimOf (zc_X7_claimOf ho3 ho2 hc49) ho3 rfl kw_4_205 dX3_gather_82 rfl (by decide) (Nat.le_of_ble_eq_true rfl) rfl rfl ?_
        refine zw_iast hC hf zk_64 dX3_gather_85 (fun M50 hf => ?_)
        refine zw_aload_n hC dX3_gather_86 rfl 3 rfl ?_
        refine zw_geti hC zF_Standing_filed ho3 dX3_gather_87 kw_1_148 ?_
        refine zw_aload_n hC dX3_gather_90 rfl 3 rfl ?_
        refine zw_geti hC zF_Standing_out ho3 dX3_gather_91 kw_1_144 ?_
        refine zw_iconst hC (v := (-1 : Int32)) dX3_gather_94 (by decide) ?_
        refine zw_ixor hC dX3_gather_95 ?_
        refine zw_iand hC dX3_gather_96 ?_
        refine zw_iload hC dX3_gather_97 4 rfl ?_
        obtain ⟨v51, hc51, hf⟩ := zb1_some hf
        refine zw_cN hC [.int ((M50 o3 5) &&& ((M50 o3 4) ^^^ (-1 : Int32))), .int v46] [] (st1 := [.int v51]) zm_X9_has (zc_X9_has hc51) (by decide +kernel) dX3_gather_99 rfl (by decide) (Nat.le_of_ble_eq_true rfl) rfl rfl ?_
        have hj127 : ∀ (M52 : ZMem), zf_X3_gather_j127 (fun x0 x1 => zf_X3_gather_L63 o3 o2 n K133 n63 x0 x1) v46 M52 = some M' → ZW E 127 [(0, .ref (zad E 63)), (1, .ref (zad E 57)), (2, .ref (zad E o2)), (3, .ref (zad E o3)), (4, .int v46)] [] M52 := by
          intro M52 hf
          unfold zf_X3_gather_j127 at hf
          refine zw_iinc hC (v := (1 : Int32)) (lv' := [(4, .int (v46 + (1 : Int32))), (0, .ref (zad E 63)), (1, .ref (zad E 57)), (2, .ref (zad E o2)), (3, .ref (zad E o3))]) dX3_gather_127 4 rfl (by decide) hN (by decide) rfl ?_
          refine zw_goto hC 63 dX3_gather_130 (by decide) ?_
          exact zw_sub [1, 2, 3, 4, 0] rfl (ih63 (v46 + (1 : Int32)) M52 hf)
        refine zw_if_eq hC 127 hf dX3_gather_102 (by decide) (fun hf => ?_) (fun hf => ?_)
        · exact hj127 M50 hf
        · refine zw_aload_n hC dX3_gather_105 rfl 0 rfl ?_
          refine zw_getr (k' := 64) hC zF_Payer_claims zk_63 rfl dX3_gather_106 kw_2_58 ?_
          refine zw_iload hC dX3_gather_109 4 rfl ?_
          refine zw_iald hC hf zk_64 dX3_gather_111 (fun v53 hf => ?_)
          refine zw_if_le hC 127 hf dX3_gather_112 (by decide) (fun hf => ?_) (fun hf => ?_)
          · exact hj127 M50 hf
          · refine zw_aload_n hC dX3_gather_115 rfl 0 rfl ?_
            refine zw_iload hC dX3_gather_116 4 rfl ?_
            refine zw_aload_n hC dX3_gather_118 rfl 1 rfl ?_
            refine zw_iload hC dX3_gather_119 4 rfl ?_
            obtain ⟨v54, hc54, hf⟩ := zb1_some hf
            refine zw_cV hC [.int v46] [.int v46, .ref (zad E 63)] (st1 := [.int v54, .int v46, .ref (zad E 63)]) zm_X6_groupOf (zc_X6_groupOf hc54) zk_57 rfl kw_4_207 dX3_gather_121 rfl (by decide) (Nat.le_of_ble_eq_true rfl) rfl rfl ?_
            obtain ⟨M55, hcM55, hf⟩ := zb1_some hf
            refine zw_cV hC [.int v46, .int v54] [] (st1 := []) zm_X3_admit (zc_X3_admit hcM55) zk_63 rfl kw_4_208 dX3_gather_124 rfl (by decide) (Nat.le_of_ble_eq_true rfl) rfl rfl ?_
            exact hj127 M55 hf
  refine zw_sub [1, 2, 3, 4, 0] rfl (hL63 _ ?_ n (0 : Int32) M45 hf)
  · intro M56 hf
    refine zw_aload_n hC dX3_gather_133 rfl 0 rfl ?_
    refine zw_aload_n hC dX3_gather_134 rfl 0 rfl ?_
    refine zw_geti hC zF_Payer_counted zk_63 dX3_gather_135 kw_2_73 ?_
    refine zw_aload_n hC dX3_gather_138 rfl 1 rfl ?_
    refine zw_geti hC zF_Standing_lazy ho3 dX3_gather_139 kw_1_152 ?_
    refine zw_iconst hC (v := (-1 : Int32)) dX3_gather_142 (by decide) ?_
    refine zw_ixor hC dX3_gather_143 ?_
    refine zw_iand hC dX3_gather_144 ?_
    refine zw_puti hC hf zF_Payer_hungry zk_63 dX3_gather_145 kw_2_75 (fun M57 hf => ?_)
    have h1 := Option.some.inj hf
    subst h1
    exact zw_vret hC hR dX3_gather_148
/-! ClassOfMany.netOf(LClassOfMany$Told;II)I -/
theorem dX9_netOf_0 : decode cX9_netOf 0 = .ok (.iconst 0, 1) := by decide +kernel
theorem dX9_netOf_1 : decode cX9_netOf 1 = .ok (.iload_n 2, 1) := by decide +kernel
theorem dX9_netOf_2 : decode cX9_netOf 2 = .ok (.iload_n 1, 1) := by decide +kernel
theorem dX9_netOf_3 : decode cX9_netOf 3 = .ok (.isub, 1) := by decide +kernel
theorem dX9_netOf_4 : decode cX9_netOf 4 = .ok (.iload_n 2, 1) := by decide +kernel
theorem dX9_netOf_5 : decode cX9_netOf 5 = .ok (.aload_n 0, 1) := by decide +kernel
theorem dX9_netOf_6 : decode cX9_netOf 6 = .ok (.getfield 396, 3) := by decide +kernel
theorem dX9_netOf_9 : decode cX9_netOf 9 = .ok (.imul, 1) := by decide +kernel
theorem dX9_netOf_10 : decode cX9_netOf 10 = .ok (.bipush 100, 2) := by decide +kernel
theorem dX9_netOf_12 : decode cX9_netOf 12 = .ok (.idiv, 1) := by decide +kernel
theorem dX9_netOf_13 : decode cX9_netOf 13 = .ok (.isub, 1) := by decide +kernel
theorem dX9_netOf_14 : decode cX9_netOf 14 = .ok (.invokestatic 249, 3) := by decide +kernel
theorem dX9_netOf_17 : decode cX9_netOf 17 = .ok (.ireturn, 1) := by decide +kernel
theorem zm_X9_netOf : ZMs yX9_netOf cX9_netOf 3 (some .int) 3 := ⟨kw_4_214, kw_4_213, kw_1_1, by decide +kernel, by decide⟩
def zf_X9_netOf (o0 : Nat) (a1 : Int32) (a2 : Int32) (M : ZMem) : Option (Int32) :=
  some (zmax (0 : Int32) ((a2 - a1) - ((a2 * (M o0 8)) / (100 : Int32))))
set_option maxHeartbeats 4000000 in
set_option maxRecDepth 100000 in
theorem zc_X9_netOf {l : Launch} {D : va_G} {ad : Nat → Nat} {cA : Nat → ClassId} {o0 : Nat} {a1 : Int32} {a2 : Int32} {M : ZMem} {r : Int32} (ho0 : zk o0 = (7, 17)) (hf : zf_X9_netOf o0 a1 a2 M = some r) : ZCt l D ad cA yX9_netOf cX9_netOf 3 (some .int) 1 [.ref (ad o0), .int a1, .int a2] M (some (.int r)) M := by
  refine zct (by decide +kernel) (Nat.le_of_ble_eq_true rfl) (lv := [(0, .ref (ad o0)), (1, .int a1), (2, .int a2)]) rfl (fun E hl hD had hcA hN hC hR => ?_)
  subst hl; subst hD; subst had; subst hcA
  unfold zf_X9_netOf at hf
  refine zw_iconst hC (v := (0 : Int32)) dX9_netOf_0 (by decide) ?_
  refine zw_iload_n hC dX9_netOf_1 rfl 2 rfl ?_
  refine zw_iload_n hC dX9_netOf_2 rfl 1 rfl ?_
  refine zw_isub hC dX9_netOf_3 ?_
  refine zw_iload_n hC dX9_netOf_4 rfl 2 rfl ?_
  refine zw_aload_n hC dX9_netOf_5 rfl 0 rfl ?_
  refine zw_geti hC zF_Told_fee ho0 dX9_netOf_6 kw_1_71 ?_
  refine zw_imul hC dX9_netOf_9 ?_
  refine zw_bipush hC (v := (100 : Int32)) dX9_netOf_10 (by decide) ?_
  refine zw_idivc hC dX9_netOf_12 (by decide) ?_
  refine zw_isub hC dX9_netOf_13 ?_
  refine zw_mmax hC (by decide) (Nat.le_of_ble_eq_true rfl) dX9_netOf_14 kw_4_70 kw_4_19 kw_1_18 kw_4_20 ?_
  have h1 := Option.some.inj hf
  subst h1
  exact zw_iret hC hR dX9_netOf_17
/-! Payer.firstSent(I)I -/
theorem dX3_firstSent_0 : decode cX3_firstSent 0 = .ok (.aload_n 0, 1) := by decide +kernel
theorem dX3_firstSent_1 : decode cX3_firstSent 1 = .ok (.getfield 15, 3) := by decide +kernel
theorem dX3_firstSent_4 : decode cX3_firstSent 4 = .ok (.iload_n 1, 1) := by decide +kernel
theorem dX3_firstSent_5 : decode cX3_firstSent 5 = .ok (.iaload, 1) := by decide +kernel
theorem dX3_firstSent_6 : decode cX3_firstSent 6 = .ok (.istore_n 2, 1) := by decide +kernel
theorem dX3_firstSent_7 : decode cX3_firstSent 7 = .ok (.aload_n 0, 1) := by decide +kernel
theorem dX3_firstSent_8 : decode cX3_firstSent 8 = .ok (.getfield 18, 3) := by decide +kernel
theorem dX3_firstSent_11 : decode cX3_firstSent 11 = .ok (.iload_n 2, 1) := by decide +kernel
theorem dX3_firstSent_12 : decode cX3_firstSent 12 = .ok (.iaload, 1) := by decide +kernel
theorem dX3_firstSent_13 : decode cX3_firstSent 13 = .ok (.ifCond .gt 5, 3) := by decide +kernel
theorem dX3_firstSent_16 : decode cX3_firstSent 16 = .ok (.iconst 0, 1) := by decide +kernel
theorem dX3_firstSent_17 : decode cX3_firstSent 17 = .ok (.ireturn, 1) := by decide +kernel
theorem dX3_firstSent_18 : decode cX3_firstSent 18 = .ok (.aload_n 0, 1) := by decide +kernel
theorem dX3_firstSent_19 : decode cX3_firstSent 19 = .ok (.getfield 24, 3) := by decide +kernel
theorem dX3_firstSent_22 : decode cX3_firstSent 22 = .ok (.iload_n 2, 1) := by decide +kernel
theorem dX3_firstSent_23 : decode cX3_firstSent 23 = .ok (.iaload, 1) := by decide +kernel
theorem dX3_firstSent_24 : decode cX3_firstSent 24 = .ok (.i2l, 1) := by decide +kernel
theorem dX3_firstSent_25 : decode cX3_firstSent 25 = .ok (.aload_n 0, 1) := by decide +kernel
theorem dX3_firstSent_26 : decode cX3_firstSent 26 = .ok (.getfield 9, 3) := by decide +kernel
theorem dX3_firstSent_29 : decode cX3_firstSent 29 = .ok (.iload_n 1, 1) := by decide +kernel
theorem dX3_firstSent_30 : decode cX3_firstSent 30 = .ok (.iaload, 1) := by decide +kernel
theorem dX3_firstSent_31 : decode cX3_firstSent 31 = .ok (.i2l, 1) := by decide +kernel
theorem dX3_firstSent_32 : decode cX3_firstSent 32 = .ok (.lmul, 1) := by decide +kernel
theorem dX3_firstSent_33 : decode cX3_firstSent 33 = .ok (.aload_n 0, 1) := by decide +kernel
theorem dX3_firstSent_34 : decode cX3_firstSent 34 = .ok (.getfield 18, 3) := by decide +kernel
theorem dX3_firstSent_37 : decode cX3_firstSent 37 = .ok (.iload_n 2, 1) := by decide +kernel
theorem dX3_firstSent_38 : decode cX3_firstSent 38 = .ok (.iaload, 1) := by decide +kernel
theorem dX3_firstSent_39 : decode cX3_firstSent 39 = .ok (.i2l, 1) := by decide +kernel
theorem dX3_firstSent_40 : decode cX3_firstSent 40 = .ok (.ldiv, 1) := by decide +kernel
theorem dX3_firstSent_41 : decode cX3_firstSent 41 = .ok (.lstore_n 3, 1) := by decide +kernel
theorem dX3_firstSent_42 : decode cX3_firstSent 42 = .ok (.aload_n 0, 1) := by decide +kernel
theorem dX3_firstSent_43 : decode cX3_firstSent 43 = .ok (.getfield 9, 3) := by decide +kernel
theorem dX3_firstSent_46 : decode cX3_firstSent 46 = .ok (.iload_n 1, 1) := by decide +kernel
theorem dX3_firstSent_47 : decode cX3_firstSent 47 = .ok (.iaload, 1) := by decide +kernel
theorem dX3_firstSent_48 : decode cX3_firstSent 48 = .ok (.i2l, 1) := by decide +kernel
theorem dX3_firstSent_49 : decode cX3_firstSent 49 = .ok (.lload_n 3, 1) := by decide +kernel
theorem dX3_firstSent_50 : decode cX3_firstSent 50 = .ok (.invokestatic 149, 3) := by decide +kernel
theorem dX3_firstSent_53 : decode cX3_firstSent 53 = .ok (.l2i, 1) := by decide +kernel
theorem dX3_firstSent_54 : decode cX3_firstSent 54 = .ok (.istore 5, 2) := by decide +kernel
theorem dX3_firstSent_56 : decode cX3_firstSent 56 = .ok (.iload 5, 2) := by decide +kernel
theorem dX3_firstSent_58 : decode cX3_firstSent 58 = .ok (.aload_n 0, 1) := by decide +kernel
theorem dX3_firstSent_59 : decode cX3_firstSent 59 = .ok (.getfield 92, 3) := by decide +kernel
theorem dX3_firstSent_62 : decode cX3_firstSent 62 = .ok (.if_icmp .ge 7, 3) := by decide +kernel
theorem dX3_firstSent_65 : decode cX3_firstSent 65 = .ok (.iconst 0, 1) := by decide +kernel
theorem dX3_firstSent_66 : decode cX3_firstSent 66 = .ok (.goto 5, 3) := by decide +kernel
theorem dX3_firstSent_69 : decode cX3_firstSent 69 = .ok (.iload 5, 2) := by decide +kernel
theorem dX3_firstSent_71 : decode cX3_firstSent 71 = .ok (.ireturn, 1) := by decide +kernel
theorem zm_X3_firstSent : ZMv "ClassOfMany$Payer" yX3_firstSent cX3_firstSent 6 (some .int) 1 := ⟨kw_4_235, kw_4_234, kp_39, kw_1_7, by decide +kernel, by decide⟩
def zf_X3_firstSent_j71 (v35 : Int32) : Option (Int32) :=
  some v35
def zf_X3_firstSent (a1 : Int32) (M : ZMem) : Option (Int32) :=
  zrd M 65 10 a1 (fun v28 => zrd M 66 10 v28 (fun v29 => (if 0 < v29 then zrd M 68 10 v28 (fun v30 => zrd M 64 10 a1 (fun v31 => zrd M 66 10 v28 (fun v32 => zldiv ((v30.toInt64) * (v31.toInt64)) (v32.toInt64) (fun w33 => zrd M 64 10 a1 (fun v34 => (if (M 63 8) ≤ ((zlmin (v34.toInt64) w33).toInt32) then (zf_X3_firstSent_j71 ((zlmin (v34.toInt64) w33).toInt32)) else (zf_X3_firstSent_j71 (0 : Int32)))))))) else some (0 : Int32))))
set_option maxHeartbeats 4000000 in
set_option maxRecDepth 100000 in
theorem zc_X3_firstSent {l : Launch} {D : va_G} {ad : Nat → Nat} {cA : Nat → ClassId} {a1 : Int32} {M : ZMem} {r : Int32} (hf : zf_X3_firstSent a1 M = some r) : ZCt l D ad cA yX3_firstSent cX3_firstSent 6 (some .int) 1 [.ref (ad 63), .int a1] M (some (.int r)) M := by
  refine zct (by decide +kernel) (Nat.le_of_ble_eq_true rfl) (lv := [(0, .ref (ad 63)), (1, .int a1)]) rfl (fun E hl hD had hcA hN hC hR => ?_)
  subst hl; subst hD; subst had; subst hcA
  unfold zf_X3_firstSent at hf
  refine zw_aload_n hC dX3_firstSent_0 rfl 0 rfl ?_
  refine zw_getr (k' := 65) hC zF_Payer_groupOf zk_63 rfl dX3_firstSent_1 kw_2_60 ?_
  refine zw_iload_n hC dX3_firstSent_4 rfl 1 rfl ?_
  refine zw_iald hC hf zk_65 dX3_firstSent_5 (fun v28 hf => ?_)
  refine zw_istore_n hC (lv' := [(2, .int v28), (0, .ref (zad E 63)), (1, .int a1)]) dX3_firstSent_6 rfl hN (by decide) rfl ?_
  refine zw_aload_n hC dX3_firstSent_7 rfl 1 rfl ?_
  refine zw_getr (k' := 66) hC zF_Payer_groupClaims zk_63 rfl dX3_firstSent_8 kw_2_61 ?_
  refine zw_iload_n hC dX3_firstSent_11 rfl 0 rfl ?_
  refine zw_iald hC hf zk_66 dX3_firstSent_12 (fun v29 hf => ?_)
  refine zw_if_gt hC 18 hf dX3_firstSent_13 (by decide) (fun hf => ?_) (fun hf => ?_)
  · refine zw_aload_n hC dX3_firstSent_18 rfl 1 rfl ?_
    refine zw_getr (k' := 68) hC zF_Payer_pots zk_63 rfl dX3_firstSent_19 kw_2_63 ?_
    refine zw_iload_n hC dX3_firstSent_22 rfl 0 rfl ?_
    refine zw_iald hC hf zk_68 dX3_firstSent_23 (fun v30 hf => ?_)
    refine zw_i2l hC dX3_firstSent_24 ?_
    refine zw_aload_n hC dX3_firstSent_25 rfl 1 rfl ?_
    refine zw_getr (k' := 64) hC zF_Payer_claims zk_63 rfl dX3_firstSent_26 kw_2_58 ?_
    refine zw_iload_n hC dX3_firstSent_29 rfl 2 rfl ?_
    refine zw_iald hC hf zk_64 dX3_firstSent_30 (fun v31 hf => ?_)
    refine zw_i2l hC dX3_firstSent_31 ?_
    refine zw_lmul hC dX3_firstSent_32 ?_
    refine zw_aload_n hC dX3_firstSent_33 rfl 1 rfl ?_
    refine zw_getr (k' := 66) hC zF_Payer_groupClaims zk_63 rfl dX3_firstSent_34 kw_2_61 ?_
    refine zw_iload_n hC dX3_firstSent_37 rfl 0 rfl ?_
    refine zw_iald hC hf zk_66 dX3_firstSent_38 (fun v32 hf => ?_)
    refine zw_i2l hC dX3_firstSent_39 ?_
    refine zw_ldiv hC hf dX3_firstSent_40 (fun w33 hf => ?_)
    refine zw_lstore_n hC (lv' := [(3, .long w33), (2, .int v28), (0, .ref (zad E 63)), (1, .int a1)]) dX3_firstSent_41 rfl hN (by decide) rfl ?_
    refine zw_aload_n hC dX3_firstSent_42 rfl 2 rfl ?_
    refine zw_getr (k' := 64) hC zF_Payer_claims zk_63 rfl dX3_firstSent_43 kw_2_58 ?_
    refine zw_iload_n hC dX3_firstSent_46 rfl 3 rfl ?_
    refine zw_iald hC hf zk_64 dX3_firstSent_47 (fun v34 hf => ?_)
    refine zw_i2l hC dX3_firstSent_48 ?_
    refine zw_lload_n hC dX3_firstSent_49 rfl 0 rfl ?_
    refine zw_lmin hC (by decide) (Nat.le_of_ble_eq_true rfl) dX3_firstSent_50 kw_4_236 kw_4_237 kw_1_18 kw_4_238 ?_
    refine zw_l2i hC dX3_firstSent_53 ?_
    refine zw_istore hC (lv' := [(5, .int ((zlmin (v34.toInt64) w33).toInt32)), (3, .long w33), (2, .int v28), (0, .ref (zad E 63)), (1, .int a1)]) dX3_firstSent_54 hN (by decide) rfl ?_
    refine zw_iload hC dX3_firstSent_56 0 rfl ?_
    refine zw_aload_n hC dX3_firstSent_58 rfl 3 rfl ?_
    refine zw_geti hC zF_Payer_least zk_63 dX3_firstSent_59 kw_2_71 ?_
    have hj71 : ∀ (v35 : Int32), zf_X3_firstSent_j71 v35 = some r → ZW E 71 [] [.int v35] M := by
      intro v35 hf
      unfold zf_X3_firstSent_j71 at hf
      have h1 := Option.some.inj hf
      subst h1
      exact zw_iret hC hR dX3_firstSent_71
    refine zw_icmp_ge hC 69 hf dX3_firstSent_62 (by decide) (fun hf => ?_) (fun hf => ?_)
    · refine zw_iload hC dX3_firstSent_69 0 rfl ?_
      exact zw_sub [] rfl (hj71 ((zlmin (v34.toInt64) w33).toInt32) hf)
    · refine zw_iconst hC (v := (0 : Int32)) dX3_firstSent_65 (by decide) ?_
      refine zw_goto hC 71 dX3_firstSent_66 (by decide) ?_
      exact zw_sub [] rfl (hj71 (0 : Int32) hf)
  · refine zw_iconst hC (v := (0 : Int32)) dX3_firstSent_16 (by decide) ?_
    have h1 := Option.some.inj hf
    subst h1
    exact zw_iret hC hR dX3_firstSent_17
/-! Payer.give(III)V -/
theorem dX3_give_0 : decode cX3_give 0 = .ok (.iload_n 2, 1) := by decide +kernel
theorem dX3_give_1 : decode cX3_give 1 = .ok (.ifCond .le 42, 3) := by decide +kernel
theorem dX3_give_4 : decode cX3_give 4 = .ok (.aload_n 0, 1) := by decide +kernel
theorem dX3_give_5 : decode cX3_give 5 = .ok (.getfield 27, 3) := by decide +kernel
theorem dX3_give_8 : decode cX3_give 8 = .ok (.iload_n 1, 1) := by decide +kernel
theorem dX3_give_9 : decode cX3_give 9 = .ok (.dup2, 1) := by decide +kernel
theorem dX3_give_10 : decode cX3_give 10 = .ok (.iaload, 1) := by decide +kernel
theorem dX3_give_11 : decode cX3_give 11 = .ok (.iload_n 2, 1) := by decide +kernel
theorem dX3_give_12 : decode cX3_give 12 = .ok (.iadd, 1) := by decide +kernel
theorem dX3_give_13 : decode cX3_give 13 = .ok (.iastore, 1) := by decide +kernel
theorem dX3_give_14 : decode cX3_give 14 = .ok (.aload_n 0, 1) := by decide +kernel
theorem dX3_give_15 : decode cX3_give 15 = .ok (.getfield 30, 3) := by decide +kernel
theorem dX3_give_18 : decode cX3_give 18 = .ok (.iload_n 3, 1) := by decide +kernel
theorem dX3_give_19 : decode cX3_give 19 = .ok (.iconst 1, 1) := by decide +kernel
theorem dX3_give_20 : decode cX3_give 20 = .ok (.isub, 1) := by decide +kernel
theorem dX3_give_21 : decode cX3_give 21 = .ok (.bipush 10, 2) := by decide +kernel
theorem dX3_give_23 : decode cX3_give 23 = .ok (.imul, 1) := by decide +kernel
theorem dX3_give_24 : decode cX3_give 24 = .ok (.iload_n 1, 1) := by decide +kernel
theorem dX3_give_25 : decode cX3_give 25 = .ok (.iadd, 1) := by decide +kernel
theorem dX3_give_26 : decode cX3_give 26 = .ok (.iload_n 2, 1) := by decide +kernel
theorem dX3_give_27 : decode cX3_give 27 = .ok (.iastore, 1) := by decide +kernel
theorem dX3_give_28 : decode cX3_give 28 = .ok (.aload_n 0, 1) := by decide +kernel
theorem dX3_give_29 : decode cX3_give 29 = .ok (.dup, 1) := by decide +kernel
theorem dX3_give_30 : decode cX3_give 30 = .ok (.getfield 72, 3) := by decide +kernel
theorem dX3_give_33 : decode cX3_give 33 = .ok (.iload_n 2, 1) := by decide +kernel
theorem dX3_give_34 : decode cX3_give 34 = .ok (.isub, 1) := by decide +kernel
theorem dX3_give_35 : decode cX3_give 35 = .ok (.putfield 72, 3) := by decide +kernel
theorem dX3_give_38 : decode cX3_give 38 = .ok (.aload_n 0, 1) := by decide +kernel
theorem dX3_give_39 : decode cX3_give 39 = .ok (.iload_n 3, 1) := by decide +kernel
theorem dX3_give_40 : decode cX3_give 40 = .ok (.putfield 69, 3) := by decide +kernel
theorem dX3_give_43 : decode cX3_give 43 = .ok (.return_, 1) := by decide +kernel
theorem zm_X3_give : ZMv "ClassOfMany$Payer" yX3_give cX3_give 4 (none) 3 := ⟨kw_5_2, kw_5_1, kp_40, kw_1_7, by decide +kernel, by decide⟩
def zf_X3_give_j43 (M26 : ZMem) : Option (ZMem) :=
  some M26
def zf_X3_give (a1 : Int32) (a2 : Int32) (a3 : Int32) (M : ZMem) : Option (ZMem) :=
  (if a2 ≤ 0 then (zf_X3_give_j43 M) else zrd M 69 10 a1 (fun v27 => zst M 69 10 a1 (v27 + a2) (fun M28 => zst M28 70 90 (((a3 - (1 : Int32)) * (10 : Int32)) + a1) a2 (fun M29 => zput M29 63 17 ((M29 63 17) - a2) (fun M30 => zput M30 63 16 a3 (fun M31 => (zf_X3_give_j43 M31)))))))
set_option maxHeartbeats 4000000 in
set_option maxRecDepth 100000 in
theorem zc_X3_give {l : Launch} {D : va_G} {ad : Nat → Nat} {cA : Nat → ClassId} {a1 : Int32} {a2 : Int32} {a3 : Int32} {M : ZMem} {M' : ZMem} (hf : zf_X3_give a1 a2 a3 M = some M') : ZCt l D ad cA yX3_give cX3_give 4 (none) 1 [.ref (ad 63), .int a1, .int a2, .int a3] M none M' := by
  refine zct (by decide +kernel) (Nat.le_of_ble_eq_true rfl) (lv := [(0, .ref (ad 63)), (1, .int a1), (2, .int a2), (3, .int a3)]) rfl (fun E hl hD had hcA hN hC hR => ?_)
  subst hl; subst hD; subst had; subst hcA
  unfold zf_X3_give at hf
  refine zw_iload_n hC dX3_give_0 rfl 2 rfl ?_
  have hj43 : ∀ (M26 : ZMem), zf_X3_give_j43 M26 = some M' → ZW E 43 [] [] M26 := by
    intro M26 hf
    unfold zf_X3_give_j43 at hf
    have h1 := Option.some.inj hf
    subst h1
    exact zw_vret hC hR dX3_give_43
  refine zw_if_le hC 43 hf dX3_give_1 (by decide) (fun hf => ?_) (fun hf => ?_)
  · exact zw_sub [] rfl (hj43 M hf)
  · refine zw_aload_n hC dX3_give_4 rfl 0 rfl ?_
    refine zw_getr (k' := 69) hC zF_Payer_paidTo zk_63 rfl dX3_give_5 kw_2_65 ?_
    refine zw_iload_n hC dX3_give_8 rfl 1 rfl ?_
    refine zw_dup2 hC dX3_give_9 rfl rfl ?_
    refine zw_iald hC hf zk_69 dX3_give_10 (fun v27 hf => ?_)
    refine zw_iload_n hC dX3_give_11 rfl 2 rfl ?_
    refine zw_iadd hC dX3_give_12 ?_
    refine zw_iast hC hf zk_69 dX3_give_13 (fun M28 hf => ?_)
    refine zw_aload_n hC dX3_give_14 rfl 0 rfl ?_
    refine zw_getr (k' := 70) hC zF_Payer_hadIn zk_63 rfl dX3_give_15 kw_2_68 ?_
    refine zw_iload_n hC dX3_give_18 rfl 3 rfl ?_
    refine zw_iconst hC (v := (1 : Int32)) dX3_give_19 (by decide) ?_
    refine zw_isub hC dX3_give_20 ?_
    refine zw_bipush hC (v := (10 : Int32)) dX3_give_21 (by decide) ?_
    refine zw_imul hC dX3_give_23 ?_
    refine zw_iload_n hC dX3_give_24 rfl 1 rfl ?_
    refine zw_iadd hC dX3_give_25 ?_
    refine zw_iload_n hC dX3_give_26 rfl 2 rfl ?_
    refine zw_iast hC hf zk_70 dX3_give_27 (fun M29 hf => ?_)
    refine zw_aload_n hC dX3_give_28 rfl 0 rfl ?_
    refine zw_dup hC dX3_give_29 rfl ?_
    refine zw_geti hC zF_Payer_left zk_63 dX3_give_30 kw_2_85 ?_
    refine zw_iload_n hC dX3_give_33 rfl 2 rfl ?_
    refine zw_isub hC dX3_give_34 ?_
    refine zw_puti hC hf zF_Payer_left zk_63 dX3_give_35 kw_2_85 (fun M30 hf => ?_)
    refine zw_aload_n hC dX3_give_38 rfl 0 rfl ?_
    refine zw_iload_n hC dX3_give_39 rfl 3 rfl ?_
    refine zw_puti hC hf zF_Payer_rounds zk_63 dX3_give_40 kw_2_83 (fun M31 hf => ?_)
    exact zw_sub [] rfl (hj43 M31 hf)
/-! Payer.payFirst()Z -/
theorem dX3_payFirst_0 : decode cX3_payFirst 0 = .ok (.iconst 0, 1) := by decide +kernel
theorem dX3_payFirst_1 : decode cX3_payFirst 1 = .ok (.istore_n 1, 1) := by decide +kernel
theorem dX3_payFirst_2 : decode cX3_payFirst 2 = .ok (.iload_n 1, 1) := by decide +kernel
theorem dX3_payFirst_3 : decode cX3_payFirst 3 = .ok (.aload_n 0, 1) := by decide +kernel
theorem dX3_payFirst_4 : decode cX3_payFirst 4 = .ok (.getfield 88, 3) := by decide +kernel
theorem dX3_payFirst_7 : decode cX3_payFirst 7 = .ok (.if_icmp .ge 31, 3) := by decide +kernel
theorem dX3_payFirst_10 : decode cX3_payFirst 10 = .ok (.aload_n 0, 1) := by decide +kernel
theorem dX3_payFirst_11 : decode cX3_payFirst 11 = .ok (.getfield 133, 3) := by decide +kernel
theorem dX3_payFirst_14 : decode cX3_payFirst 14 = .ok (.iload_n 1, 1) := by decide +kernel
theorem dX3_payFirst_15 : decode cX3_payFirst 15 = .ok (.invokestatic 119, 3) := by decide +kernel
theorem dX3_payFirst_18 : decode cX3_payFirst 18 = .ok (.ifCond .eq 14, 3) := by decide +kernel
theorem dX3_payFirst_21 : decode cX3_payFirst 21 = .ok (.aload_n 0, 1) := by decide +kernel
theorem dX3_payFirst_22 : decode cX3_payFirst 22 = .ok (.iload_n 1, 1) := by decide +kernel
theorem dX3_payFirst_23 : decode cX3_payFirst 23 = .ok (.aload_n 0, 1) := by decide +kernel
theorem dX3_payFirst_24 : decode cX3_payFirst 24 = .ok (.iload_n 1, 1) := by decide +kernel
theorem dX3_payFirst_25 : decode cX3_payFirst 25 = .ok (.invokevirtual 153, 3) := by decide +kernel
theorem dX3_payFirst_28 : decode cX3_payFirst 28 = .ok (.iconst 1, 1) := by decide +kernel
theorem dX3_payFirst_29 : decode cX3_payFirst 29 = .ok (.invokevirtual 156, 3) := by decide +kernel
theorem dX3_payFirst_32 : decode cX3_payFirst 32 = .ok (.iinc 1 1, 3) := by decide +kernel
theorem dX3_payFirst_35 : decode cX3_payFirst 35 = .ok (.goto (-33), 3) := by decide +kernel
theorem dX3_payFirst_38 : decode cX3_payFirst 38 = .ok (.aload_n 0, 1) := by decide +kernel
theorem dX3_payFirst_39 : decode cX3_payFirst 39 = .ok (.getfield 69, 3) := by decide +kernel
theorem dX3_payFirst_42 : decode cX3_payFirst 42 = .ok (.iconst 1, 1) := by decide +kernel
theorem dX3_payFirst_43 : decode cX3_payFirst 43 = .ok (.if_icmp .ne 7, 3) := by decide +kernel
theorem dX3_payFirst_46 : decode cX3_payFirst 46 = .ok (.iconst 1, 1) := by decide +kernel
theorem dX3_payFirst_47 : decode cX3_payFirst 47 = .ok (.goto 4, 3) := by decide +kernel
theorem dX3_payFirst_50 : decode cX3_payFirst 50 = .ok (.iconst 0, 1) := by decide +kernel
theorem dX3_payFirst_51 : decode cX3_payFirst 51 = .ok (.ireturn, 1) := by decide +kernel
theorem zm_X3_payFirst : ZMv "ClassOfMany$Payer" yX3_payFirst cX3_payFirst 2 (some .boolean) 0 := ⟨kw_4_231, kw_4_230, kp_38, kw_1_7, by decide +kernel, by decide⟩
def zf_X3_payFirst_j32 (R2 : Int32 → ZMem → Option (Int32 × ZMem)) (v24 : Int32) (M28 : ZMem) : Option (Int32 × ZMem) :=
  (R2 (v24 + (1 : Int32)) M28)
def zf_X3_payFirst_L2 (K38 : ZMem → Option (Int32 × ZMem)) : Nat → Int32 → ZMem → Option (Int32 × ZMem)
  | 0, _, _ => none
  | n2 + 1, v24, M25 =>
  (if (M25 63 7) ≤ v24 then (K38 M25) else zb1 (zf_X9_has (M25 63 11) v24) (fun v27 => (if v27 = 0 then (zf_X3_payFirst_j32 (fun x0 x1 => zf_X3_payFirst_L2 K38 n2 x0 x1) v24 M25) else zb1 (zf_X3_firstSent v24 M25) (fun v29 => zb1 (zf_X3_give v24 v29 (1 : Int32) M25) (fun M30 => (zf_X3_payFirst_j32 (fun x0 x1 => zf_X3_payFirst_L2 K38 n2 x0 x1) v24 M30))))))
def zf_X3_payFirst_j51 (M31 : ZMem) (v32 : Int32) : Option (Int32 × ZMem) :=
  zbz v32 (some (v32, M31))
def zf_X3_payFirst (n : Nat) (M : ZMem) : Option (Int32 × ZMem) :=
  (zf_X3_payFirst_L2 (fun M31 => (if (M31 63 16) = (1 : Int32) then (zf_X3_payFirst_j51 M31 (1 : Int32)) else (zf_X3_payFirst_j51 M31 (0 : Int32)))) n (0 : Int32) M)
set_option maxHeartbeats 4000000 in
set_option maxRecDepth 100000 in
theorem zc_X3_payFirst {l : Launch} {D : va_G} {ad : Nat → Nat} {cA : Nat → ClassId} {n : Nat} {M : ZMem} {r : Int32} {M' : ZMem} (hf : zf_X3_payFirst n M = some (r, M')) : ZCt l D ad cA yX3_payFirst cX3_payFirst 2 (some .boolean) 2 [.ref (ad 63)] M (some (.int r)) M' := by
  refine zct (by decide +kernel) (Nat.le_of_ble_eq_true rfl) (lv := [(0, .ref (ad 63))]) rfl (fun E hl hD had hcA hN hC hR => ?_)
  subst hl; subst hD; subst had; subst hcA
  unfold zf_X3_payFirst at hf
  refine zw_iconst hC (v := (0 : Int32)) dX3_payFirst_0 (by decide) ?_
  refine zw_istore_n hC (lv' := [(1, .int (0 : Int32)), (0, .ref (zad E 63))]) dX3_payFirst_1 rfl hN (by decide) rfl ?_
  have hL2 : ∀ (K38 : ZMem → Option (Int32 × ZMem)), (∀ (M26 : ZMem), K38 M26 = some (r, M') → ZW E 38 [(0, .ref (zad E 63))] [] M26) → ∀ (n2 : Nat), ∀ (v24 : Int32), ∀ (M25 : ZMem), zf_X3_payFirst_L2 K38 n2 v24 M25 = some (r, M') → ZW E 2 [(0, .ref (zad E 63)), (1, .int v24)] [] M25 := by
    intro K38 hK38
    intro n2
    induction n2 with
    | zero => intro v24 M25 hf; rw [zf_X3_payFirst_L2] at hf; cases hf
    | succ n2 ih2 =>
      intro v24 M25 hf
      rw [zf_X3_payFirst_L2] at hf
      refine zw_iload_n hC dX3_payFirst_2 rfl 1 rfl ?_
      refine zw_aload_n hC dX3_payFirst_3 rfl 0 rfl ?_
      refine zw_geti hC zF_Payer_members zk_63 dX3_payFirst_4 kw_2_70 ?_
      refine zw_icmp_ge hC 38 hf dX3_payFirst_7 (by decide) (fun hf => ?_) (fun hf => ?_)
      · exact zw_sub [0] rfl (hK38 M25 hf)
      · refine zw_aload_n hC dX3_payFirst_10 rfl 0 rfl ?_
        refine zw_geti hC zF_Payer_hungry zk_63 dX3_payFirst_11 kw_2_75 ?_
        refine zw_iload_n hC dX3_payFirst_14 rfl 1 rfl ?_
        obtain ⟨v27, hc27, hf⟩ := zb1_some hf
        refine zw_cN hC [.int (M25 63 11), .int v24] [] (st1 := [.int v27]) zm_X9_has (zc_X9_has hc27) (by decide +kernel) dX3_payFirst_15 rfl (by decide) (Nat.le_of_ble_eq_true rfl) rfl rfl ?_
        have hj32 : ∀ (M28 : ZMem), zf_X3_payFirst_j32 (fun x0 x1 => zf_X3_payFirst_L2 K38 n2 x0 x1) v24 M28 = some (r, M') → ZW E 32 [(0, .ref (zad E 63)), (1, .int v24)] [] M28 := by
          intro M28 hf
          unfold zf_X3_payFirst_j32 at hf
          refine zw_iinc hC (v := (1 : Int32)) (lv' := [(1, .int (v24 + (1 : Int32))), (0, .ref (zad E 63))]) dX3_payFirst_32 1 rfl (by decide) hN (by decide) rfl ?_
          refine zw_goto hC 2 dX3_payFirst_35 (by decide) ?_
          exact zw_sub [1, 0] rfl (ih2 (v24 + (1 : Int32)) M28 hf)
        refine zw_if_eq hC 32 hf dX3_payFirst_18 (by decide) (fun hf => ?_) (fun hf => ?_)
        · exact hj32 M25 hf
        · refine zw_aload_n hC dX3_payFirst_21 rfl 0 rfl ?_
          refine zw_iload_n hC dX3_payFirst_22 rfl 1 rfl ?_
          refine zw_aload_n hC dX3_payFirst_23 rfl 0 rfl ?_
          refine zw_iload_n hC dX3_payFirst_24 rfl 1 rfl ?_
          obtain ⟨v29, hc29, hf⟩ := zb1_some hf
          refine zw_cV hC [.int v24] [.int v24, .ref (zad E 63)] (st1 := [.int v29, .int v24, .ref (zad E 63)]) zm_X3_firstSent (zc_X3_firstSent hc29) zk_63 rfl kw_4_232 dX3_payFirst_25 rfl (by decide) (Nat.le_of_ble_eq_true rfl) rfl rfl ?_
          refine zw_iconst hC (v := (1 : Int32)) dX3_payFirst_28 (by decide) ?_
          obtain ⟨M30, hcM30, hf⟩ := zb1_some hf
          refine zw_cV hC [.int v24, .int v29, .int (1 : Int32)] [] (st1 := []) zm_X3_give (zc_X3_give hcM30) zk_63 rfl kw_4_239 dX3_payFirst_29 rfl (by decide) (Nat.le_of_ble_eq_true rfl) rfl rfl ?_
          exact hj32 M30 hf
  refine zw_sub [1, 0] rfl (hL2 _ ?_ n (0 : Int32) M hf)
  · intro M31 hf
    refine zw_aload_n hC dX3_payFirst_38 rfl 0 rfl ?_
    refine zw_geti hC zF_Payer_rounds zk_63 dX3_payFirst_39 kw_2_83 ?_
    refine zw_iconst hC (v := (1 : Int32)) dX3_payFirst_42 (by decide) ?_
    have hj51 : ∀ (v32 : Int32), zf_X3_payFirst_j51 M31 v32 = some (r, M') → ZW E 51 [] [.int v32] M31 := by
      intro v32 hf
      unfold zf_X3_payFirst_j51 at hf
      obtain ⟨hz, hf⟩ := zbz_some hf
      obtain ⟨h1, h2⟩ := Prod.mk.inj (Option.some.inj hf)
      subst h1; subst h2
      exact zw_zret hC hR hz dX3_payFirst_51
    refine zw_icmp_ne hC 50 hf dX3_payFirst_43 (by decide) (fun hf => ?_) (fun hf => ?_)
    · refine zw_iconst hC (v := (0 : Int32)) dX3_payFirst_50 (by decide) ?_
      exact zw_sub [] rfl (hj51 (0 : Int32) hf)
    · refine zw_iconst hC (v := (1 : Int32)) dX3_payFirst_46 (by decide) ?_
      refine zw_goto hC 51 dX3_payFirst_47 (by decide) ?_
      exact zw_sub [] rfl (hj51 (1 : Int32) hf)
/-! Payer.payFurther(I)Z -/
theorem dX3_payFurther_0 : decode cX3_payFurther 0 = .ok (.iconst 0, 1) := by decide +kernel
theorem dX3_payFurther_1 : decode cX3_payFurther 1 = .ok (.istore_n 2, 1) := by decide +kernel
theorem dX3_payFurther_2 : decode cX3_payFurther 2 = .ok (.iconst 0, 1) := by decide +kernel
theorem dX3_payFurther_3 : decode cX3_payFurther 3 = .ok (.istore_n 3, 1) := by decide +kernel
theorem dX3_payFurther_4 : decode cX3_payFurther 4 = .ok (.iload_n 3, 1) := by decide +kernel
theorem dX3_payFurther_5 : decode cX3_payFurther 5 = .ok (.aload_n 0, 1) := by decide +kernel
theorem dX3_payFurther_6 : decode cX3_payFurther 6 = .ok (.getfield 88, 3) := by decide +kernel
theorem dX3_payFurther_9 : decode cX3_payFurther 9 = .ok (.if_icmp .ge 36, 3) := by decide +kernel
theorem dX3_payFurther_12 : decode cX3_payFurther 12 = .ok (.aload_n 0, 1) := by decide +kernel
theorem dX3_payFurther_13 : decode cX3_payFurther 13 = .ok (.getfield 133, 3) := by decide +kernel
theorem dX3_payFurther_16 : decode cX3_payFurther 16 = .ok (.iload_n 3, 1) := by decide +kernel
theorem dX3_payFurther_17 : decode cX3_payFurther 17 = .ok (.invokestatic 119, 3) := by decide +kernel
theorem dX3_payFurther_20 : decode cX3_payFurther 20 = .ok (.ifCond .eq 19, 3) := by decide +kernel
theorem dX3_payFurther_23 : decode cX3_payFurther 23 = .ok (.iload_n 2, 1) := by decide +kernel
theorem dX3_payFurther_24 : decode cX3_payFurther 24 = .ok (.aload_n 0, 1) := by decide +kernel
theorem dX3_payFurther_25 : decode cX3_payFurther 25 = .ok (.getfield 9, 3) := by decide +kernel
theorem dX3_payFurther_28 : decode cX3_payFurther 28 = .ok (.iload_n 3, 1) := by decide +kernel
theorem dX3_payFurther_29 : decode cX3_payFurther 29 = .ok (.iaload, 1) := by decide +kernel
theorem dX3_payFurther_30 : decode cX3_payFurther 30 = .ok (.aload_n 0, 1) := by decide +kernel
theorem dX3_payFurther_31 : decode cX3_payFurther 31 = .ok (.getfield 27, 3) := by decide +kernel
theorem dX3_payFurther_34 : decode cX3_payFurther 34 = .ok (.iload_n 3, 1) := by decide +kernel
theorem dX3_payFurther_35 : decode cX3_payFurther 35 = .ok (.iaload, 1) := by decide +kernel
theorem dX3_payFurther_36 : decode cX3_payFurther 36 = .ok (.isub, 1) := by decide +kernel
theorem dX3_payFurther_37 : decode cX3_payFurther 37 = .ok (.iadd, 1) := by decide +kernel
theorem dX3_payFurther_38 : decode cX3_payFurther 38 = .ok (.istore_n 2, 1) := by decide +kernel
theorem dX3_payFurther_39 : decode cX3_payFurther 39 = .ok (.iinc 3 1, 3) := by decide +kernel
theorem dX3_payFurther_42 : decode cX3_payFurther 42 = .ok (.goto (-38), 3) := by decide +kernel
theorem dX3_payFurther_45 : decode cX3_payFurther 45 = .ok (.iload_n 2, 1) := by decide +kernel
theorem dX3_payFurther_46 : decode cX3_payFurther 46 = .ok (.ifCond .gt 5, 3) := by decide +kernel
theorem dX3_payFurther_49 : decode cX3_payFurther 49 = .ok (.iconst 0, 1) := by decide +kernel
theorem dX3_payFurther_50 : decode cX3_payFurther 50 = .ok (.ireturn, 1) := by decide +kernel
theorem dX3_payFurther_51 : decode cX3_payFurther 51 = .ok (.aload_n 0, 1) := by decide +kernel
theorem dX3_payFurther_52 : decode cX3_payFurther 52 = .ok (.getfield 72, 3) := by decide +kernel
theorem dX3_payFurther_55 : decode cX3_payFurther 55 = .ok (.i2l, 1) := by decide +kernel
theorem dX3_payFurther_56 : decode cX3_payFurther 56 = .ok (.lstore_n 3, 1) := by decide +kernel
theorem dX3_payFurther_57 : decode cX3_payFurther 57 = .ok (.iconst 0, 1) := by decide +kernel
theorem dX3_payFurther_58 : decode cX3_payFurther 58 = .ok (.istore 5, 2) := by decide +kernel
theorem dX3_payFurther_60 : decode cX3_payFurther 60 = .ok (.iload 5, 2) := by decide +kernel
theorem dX3_payFurther_62 : decode cX3_payFurther 62 = .ok (.aload_n 0, 1) := by decide +kernel
theorem dX3_payFurther_63 : decode cX3_payFurther 63 = .ok (.getfield 88, 3) := by decide +kernel
theorem dX3_payFurther_66 : decode cX3_payFurther 66 = .ok (.if_icmp .ge 77, 3) := by decide +kernel
theorem dX3_payFurther_69 : decode cX3_payFurther 69 = .ok (.aload_n 0, 1) := by decide +kernel
theorem dX3_payFurther_70 : decode cX3_payFurther 70 = .ok (.getfield 133, 3) := by decide +kernel
theorem dX3_payFurther_73 : decode cX3_payFurther 73 = .ok (.iload 5, 2) := by decide +kernel
theorem dX3_payFurther_75 : decode cX3_payFurther 75 = .ok (.invokestatic 119, 3) := by decide +kernel
theorem dX3_payFurther_78 : decode cX3_payFurther 78 = .ok (.ifCond .eq 59, 3) := by decide +kernel
theorem dX3_payFurther_81 : decode cX3_payFurther 81 = .ok (.aload_n 0, 1) := by decide +kernel
theorem dX3_payFurther_82 : decode cX3_payFurther 82 = .ok (.getfield 9, 3) := by decide +kernel
theorem dX3_payFurther_85 : decode cX3_payFurther 85 = .ok (.iload 5, 2) := by decide +kernel
theorem dX3_payFurther_87 : decode cX3_payFurther 87 = .ok (.iaload, 1) := by decide +kernel
theorem dX3_payFurther_88 : decode cX3_payFurther 88 = .ok (.aload_n 0, 1) := by decide +kernel
theorem dX3_payFurther_89 : decode cX3_payFurther 89 = .ok (.getfield 27, 3) := by decide +kernel
theorem dX3_payFurther_92 : decode cX3_payFurther 92 = .ok (.iload 5, 2) := by decide +kernel
theorem dX3_payFurther_94 : decode cX3_payFurther 94 = .ok (.iaload, 1) := by decide +kernel
theorem dX3_payFurther_95 : decode cX3_payFurther 95 = .ok (.isub, 1) := by decide +kernel
theorem dX3_payFurther_96 : decode cX3_payFurther 96 = .ok (.istore 6, 2) := by decide +kernel
theorem dX3_payFurther_98 : decode cX3_payFurther 98 = .ok (.iload 6, 2) := by decide +kernel
theorem dX3_payFurther_100 : decode cX3_payFurther 100 = .ok (.i2l, 1) := by decide +kernel
theorem dX3_payFurther_101 : decode cX3_payFurther 101 = .ok (.lload_n 3, 1) := by decide +kernel
theorem dX3_payFurther_102 : decode cX3_payFurther 102 = .ok (.iload 6, 2) := by decide +kernel
theorem dX3_payFurther_104 : decode cX3_payFurther 104 = .ok (.i2l, 1) := by decide +kernel
theorem dX3_payFurther_105 : decode cX3_payFurther 105 = .ok (.lmul, 1) := by decide +kernel
theorem dX3_payFurther_106 : decode cX3_payFurther 106 = .ok (.iload_n 2, 1) := by decide +kernel
theorem dX3_payFurther_107 : decode cX3_payFurther 107 = .ok (.i2l, 1) := by decide +kernel
theorem dX3_payFurther_108 : decode cX3_payFurther 108 = .ok (.ldiv, 1) := by decide +kernel
theorem dX3_payFurther_109 : decode cX3_payFurther 109 = .ok (.invokestatic 149, 3) := by decide +kernel
theorem dX3_payFurther_112 : decode cX3_payFurther 112 = .ok (.l2i, 1) := by decide +kernel
theorem dX3_payFurther_113 : decode cX3_payFurther 113 = .ok (.istore 7, 2) := by decide +kernel
theorem dX3_payFurther_115 : decode cX3_payFurther 115 = .ok (.aload_n 0, 1) := by decide +kernel
theorem dX3_payFurther_116 : decode cX3_payFurther 116 = .ok (.iload 5, 2) := by decide +kernel
theorem dX3_payFurther_118 : decode cX3_payFurther 118 = .ok (.iload 7, 2) := by decide +kernel
theorem dX3_payFurther_120 : decode cX3_payFurther 120 = .ok (.aload_n 0, 1) := by decide +kernel
theorem dX3_payFurther_121 : decode cX3_payFurther 121 = .ok (.getfield 92, 3) := by decide +kernel
theorem dX3_payFurther_124 : decode cX3_payFurther 124 = .ok (.if_icmp .ge 7, 3) := by decide +kernel
theorem dX3_payFurther_127 : decode cX3_payFurther 127 = .ok (.iconst 0, 1) := by decide +kernel
theorem dX3_payFurther_128 : decode cX3_payFurther 128 = .ok (.goto 5, 3) := by decide +kernel
theorem dX3_payFurther_131 : decode cX3_payFurther 131 = .ok (.iload 7, 2) := by decide +kernel
theorem dX3_payFurther_133 : decode cX3_payFurther 133 = .ok (.iload_n 1, 1) := by decide +kernel
theorem dX3_payFurther_134 : decode cX3_payFurther 134 = .ok (.invokevirtual 156, 3) := by decide +kernel
theorem dX3_payFurther_137 : decode cX3_payFurther 137 = .ok (.iinc 5 1, 3) := by decide +kernel
theorem dX3_payFurther_140 : decode cX3_payFurther 140 = .ok (.goto (-80), 3) := by decide +kernel
theorem dX3_payFurther_143 : decode cX3_payFurther 143 = .ok (.aload_n 0, 1) := by decide +kernel
theorem dX3_payFurther_144 : decode cX3_payFurther 144 = .ok (.getfield 69, 3) := by decide +kernel
theorem dX3_payFurther_147 : decode cX3_payFurther 147 = .ok (.iload_n 1, 1) := by decide +kernel
theorem dX3_payFurther_148 : decode cX3_payFurther 148 = .ok (.if_icmp .ne 7, 3) := by decide +kernel
theorem dX3_payFurther_151 : decode cX3_payFurther 151 = .ok (.iconst 1, 1) := by decide +kernel
theorem dX3_payFurther_152 : decode cX3_payFurther 152 = .ok (.goto 4, 3) := by decide +kernel
theorem dX3_payFurther_155 : decode cX3_payFurther 155 = .ok (.iconst 0, 1) := by decide +kernel
theorem dX3_payFurther_156 : decode cX3_payFurther 156 = .ok (.ireturn, 1) := by decide +kernel
theorem zm_X3_payFurther : ZMv "ClassOfMany$Payer" yX3_payFurther cX3_payFurther 8 (some .boolean) 1 := ⟨kw_5_6, kw_5_5, kp_41, kw_1_7, by decide +kernel, by decide⟩
def zf_X3_payFurther_j39 (R4 : Int32 → Int32 → Option (Int32 × ZMem)) (v30 : Int32) (v33 : Int32) : Option (Int32 × ZMem) :=
  (R4 v33 (v30 + (1 : Int32)))
def zf_X3_payFurther_L4 (M : ZMem) (K45 : Int32 → Option (Int32 × ZMem)) : Nat → Int32 → Int32 → Option (Int32 × ZMem)
  | 0, _, _ => none
  | n4 + 1, v29, v30 =>
  (if (M 63 7) ≤ v30 then (K45 v29) else zb1 (zf_X9_has (M 63 11) v30) (fun v32 => (if v32 = 0 then (zf_X3_payFurther_j39 (fun x0 x1 => zf_X3_payFurther_L4 M K45 n4 x0 x1) v30 v29) else zrd M 64 10 v30 (fun v34 => zrd M 69 10 v30 (fun v35 => (zf_X3_payFurther_j39 (fun x0 x1 => zf_X3_payFurther_L4 M K45 n4 x0 x1) v30 (v29 + (v34 - v35))))))))
def zf_X3_payFurther_j137 (R60 : Int32 → ZMem → Option (Int32 × ZMem)) (v37 : Int32) (M41 : ZMem) : Option (Int32 × ZMem) :=
  (R60 (v37 + (1 : Int32)) M41)
def zf_X3_payFurther_j133 (v37 : Int32) (a1 : Int32) (M38 : ZMem) (R60 : Int32 → ZMem → Option (Int32 × ZMem)) (v45 : Int32) : Option (Int32 × ZMem) :=
  zb1 (zf_X3_give v37 v45 a1 M38) (fun M46 => (zf_X3_payFurther_j137 R60 v37 M46))
def zf_X3_payFurther_L60 (M : ZMem) (v36 : Int32) (a1 : Int32) (K143 : ZMem → Option (Int32 × ZMem)) : Nat → Int32 → ZMem → Option (Int32 × ZMem)
  | 0, _, _ => none
  | n60 + 1, v37, M38 =>
  (if (M38 63 7) ≤ v37 then (K143 M38) else zb1 (zf_X9_has (M38 63 11) v37) (fun v40 => (if v40 = 0 then (zf_X3_payFurther_j137 (fun x0 x1 => zf_X3_payFurther_L60 M v36 a1 K143 n60 x0 x1) v37 M38) else zrd M38 64 10 v37 (fun v42 => zrd M38 69 10 v37 (fun v43 => zldiv (((M 63 17).toInt64) * ((v42 - v43).toInt64)) (v36.toInt64) (fun w44 => (if (M38 63 8) ≤ ((zlmin ((v42 - v43).toInt64) w44).toInt32) then (zf_X3_payFurther_j133 v37 a1 M38 (fun x0 x1 => zf_X3_payFurther_L60 M v36 a1 K143 n60 x0 x1) ((zlmin ((v42 - v43).toInt64) w44).toInt32)) else (zf_X3_payFurther_j133 v37 a1 M38 (fun x0 x1 => zf_X3_payFurther_L60 M v36 a1 K143 n60 x0 x1) (0 : Int32)))))))))
def zf_X3_payFurther_j156 (M47 : ZMem) (v48 : Int32) : Option (Int32 × ZMem) :=
  zbz v48 (some (v48, M47))
def zf_X3_payFurther (n : Nat) (a1 : Int32) (M : ZMem) : Option (Int32 × ZMem) :=
  (zf_X3_payFurther_L4 M (fun v36 => (if 0 < v36 then (zf_X3_payFurther_L60 M v36 a1 (fun M47 => (if (M47 63 16) = a1 then (zf_X3_payFurther_j156 M47 (1 : Int32)) else (zf_X3_payFurther_j156 M47 (0 : Int32)))) n (0 : Int32) M) else some ((0 : Int32), M))) n (0 : Int32) (0 : Int32))
set_option maxHeartbeats 4000000 in
set_option maxRecDepth 100000 in
theorem zc_X3_payFurther {l : Launch} {D : va_G} {ad : Nat → Nat} {cA : Nat → ClassId} {n : Nat} {a1 : Int32} {M : ZMem} {r : Int32} {M' : ZMem} (hf : zf_X3_payFurther n a1 M = some (r, M')) : ZCt l D ad cA yX3_payFurther cX3_payFurther 8 (some .boolean) 2 [.ref (ad 63), .int a1] M (some (.int r)) M' := by
  refine zct (by decide +kernel) (Nat.le_of_ble_eq_true rfl) (lv := [(0, .ref (ad 63)), (1, .int a1)]) rfl (fun E hl hD had hcA hN hC hR => ?_)
  subst hl; subst hD; subst had; subst hcA
  unfold zf_X3_payFurther at hf
  refine zw_iconst hC (v := (0 : Int32)) dX3_payFurther_0 (by decide) ?_
  refine zw_istore_n hC (lv' := [(2, .int (0 : Int32)), (0, .ref (zad E 63)), (1, .int a1)]) dX3_payFurther_1 rfl hN (by decide) rfl ?_
  refine zw_iconst hC (v := (0 : Int32)) dX3_payFurther_2 (by decide) ?_
  refine zw_istore_n hC (lv' := [(3, .int (0 : Int32)), (2, .int (0 : Int32)), (0, .ref (zad E 63)), (1, .int a1)]) dX3_payFurther_3 rfl hN (by decide) rfl ?_
  have hL4 : ∀ (K45 : Int32 → Option (Int32 × ZMem)), (∀ (v31 : Int32), K45 v31 = some (r, M') → ZW E 45 [(0, .ref (zad E 63)), (1, .int a1), (2, .int v31)] [] M) → ∀ (n4 : Nat), ∀ (v29 : Int32), ∀ (v30 : Int32), zf_X3_payFurther_L4 M K45 n4 v29 v30 = some (r, M') → ZW E 4 [(0, .ref (zad E 63)), (1, .int a1), (2, .int v29), (3, .int v30)] [] M := by
    intro K45 hK45
    intro n4
    induction n4 with
    | zero => intro v29 v30 hf; rw [zf_X3_payFurther_L4] at hf; cases hf
    | succ n4 ih4 =>
      intro v29 v30 hf
      rw [zf_X3_payFurther_L4] at hf
      refine zw_iload_n hC dX3_payFurther_4 rfl 3 rfl ?_
      refine zw_aload_n hC dX3_payFurther_5 rfl 0 rfl ?_
      refine zw_geti hC zF_Payer_members zk_63 dX3_payFurther_6 kw_2_70 ?_
      refine zw_icmp_ge hC 45 hf dX3_payFurther_9 (by decide) (fun hf => ?_) (fun hf => ?_)
      · exact zw_sub [0, 1, 2] rfl (hK45 v29 hf)
      · refine zw_aload_n hC dX3_payFurther_12 rfl 0 rfl ?_
        refine zw_geti hC zF_Payer_hungry zk_63 dX3_payFurther_13 kw_2_75 ?_
        refine zw_iload_n hC dX3_payFurther_16 rfl 3 rfl ?_
        obtain ⟨v32, hc32, hf⟩ := zb1_some hf
        refine zw_cN hC [.int (M 63 11), .int v30] [] (st1 := [.int v32]) zm_X9_has (zc_X9_has hc32) (by decide +kernel) dX3_payFurther_17 rfl (by decide) (Nat.le_of_ble_eq_true rfl) rfl rfl ?_
        have hj39 : ∀ (v33 : Int32), zf_X3_payFurther_j39 (fun x0 x1 => zf_X3_payFurther_L4 M K45 n4 x0 x1) v30 v33 = some (r, M') → ZW E 39 [(0, .ref (zad E 63)), (1, .int a1), (2, .int v33), (3, .int v30)] [] M := by
          intro v33 hf
          unfold zf_X3_payFurther_j39 at hf
          refine zw_iinc hC (v := (1 : Int32)) (lv' := [(3, .int (v30 + (1 : Int32))), (0, .ref (zad E 63)), (1, .int a1), (2, .int v33)]) dX3_payFurther_39 3 rfl (by decide) hN (by decide) rfl ?_
          refine zw_goto hC 4 dX3_payFurther_42 (by decide) ?_
          exact zw_sub [1, 2, 3, 0] rfl (ih4 v33 (v30 + (1 : Int32)) hf)
        refine zw_if_eq hC 39 hf dX3_payFurther_20 (by decide) (fun hf => ?_) (fun hf => ?_)
        · exact hj39 v29 hf
        · refine zw_iload_n hC dX3_payFurther_23 rfl 2 rfl ?_
          refine zw_aload_n hC dX3_payFurther_24 rfl 0 rfl ?_
          refine zw_getr (k' := 64) hC zF_Payer_claims zk_63 rfl dX3_payFurther_25 kw_2_58 ?_
          refine zw_iload_n hC dX3_payFurther_28 rfl 3 rfl ?_
          refine zw_iald hC hf zk_64 dX3_payFurther_29 (fun v34 hf => ?_)
          refine zw_aload_n hC dX3_payFurther_30 rfl 0 rfl ?_
          refine zw_getr (k' := 69) hC zF_Payer_paidTo zk_63 rfl dX3_payFurther_31 kw_2_65 ?_
          refine zw_iload_n hC dX3_payFurther_34 rfl 3 rfl ?_
          refine zw_iald hC hf zk_69 dX3_payFurther_35 (fun v35 hf => ?_)
          refine zw_isub hC dX3_payFurther_36 ?_
          refine zw_iadd hC dX3_payFurther_37 ?_
          refine zw_istore_n hC (lv' := [(2, .int (v29 + (v34 - v35))), (0, .ref (zad E 63)), (1, .int a1), (3, .int v30)]) dX3_payFurther_38 rfl hN (by decide) rfl ?_
          exact zw_sub [1, 2, 0, 3] rfl (hj39 (v29 + (v34 - v35)) hf)
  refine zw_sub [2, 3, 1, 0] rfl (hL4 _ ?_ n (0 : Int32) (0 : Int32) hf)
  · intro v36 hf
    refine zw_iload_n hC dX3_payFurther_45 rfl 2 rfl ?_
    refine zw_if_gt hC 51 hf dX3_payFurther_46 (by decide) (fun hf => ?_) (fun hf => ?_)
    · refine zw_aload_n hC dX3_payFurther_51 rfl 0 rfl ?_
      refine zw_geti hC zF_Payer_left zk_63 dX3_payFurther_52 kw_2_85 ?_
      refine zw_i2l hC dX3_payFurther_55 ?_
      refine zw_lstore_n hC (lv' := [(3, .long ((M 63 17).toInt64)), (0, .ref (zad E 63)), (1, .int a1), (2, .int v36)]) dX3_payFurther_56 rfl hN (by decide) rfl ?_
      refine zw_iconst hC (v := (0 : Int32)) dX3_payFurther_57 (by decide) ?_
      refine zw_istore hC (lv' := [(5, .int (0 : Int32)), (3, .long ((M 63 17).toInt64)), (0, .ref (zad E 63)), (1, .int a1), (2, .int v36)]) dX3_payFurther_58 hN (by decide) rfl ?_
      have hL60 : ∀ (K143 : ZMem → Option (Int32 × ZMem)), (∀ (M39 : ZMem), K143 M39 = some (r, M') → ZW E 143 [(0, .ref (zad E 63)), (1, .int a1)] [] M39) → ∀ (n60 : Nat), ∀ (v37 : Int32), ∀ (M38 : ZMem), zf_X3_payFurther_L60 M v36 a1 K143 n60 v37 M38 = some (r, M') → ZW E 60 [(0, .ref (zad E 63)), (1, .int a1), (2, .int v36), (3, .long ((M 63 17).toInt64)), (5, .int v37)] [] M38 := by
        intro K143 hK143
        intro n60
        induction n60 with
        | zero => intro v37 M38 hf; rw [zf_X3_payFurther_L60] at hf; cases hf
        | succ n60 ih60 =>
          intro v37 M38 hf
          rw [zf_X3_payFurther_L60] at hf
          refine zw_iload hC dX3_payFurther_60 4 rfl ?_
          refine zw_aload_n hC dX3_payFurther_62 rfl 0 rfl ?_
          refine zw_geti hC zF_Payer_members zk_63 dX3_payFurther_63 kw_2_70 ?_
          refine zw_icmp_ge hC 143 hf dX3_payFurther_66 (by decide) (fun hf => ?_) (fun hf => ?_)
          · exact zw_sub [0, 1] rfl (hK143 M38 hf)
          · refine zw_aload_n hC dX3_payFurther_69 rfl 0 rfl ?_
            refine zw_geti hC zF_Payer_hungry zk_63 dX3_payFurther_70 kw_2_75 ?_
            refine zw_iload hC dX3_payFurther_73 4 rfl ?_
            obtain ⟨v40, hc40, hf⟩ := zb1_some hf
            refine zw_cN hC [.int (M38 63 11), .int v37] [] (st1 := [.int v40]) zm_X9_has (zc_X9_has hc40) (by decide +kernel) dX3_payFurther_75 rfl (by decide) (Nat.le_of_ble_eq_true rfl) rfl rfl ?_
            have hj137 : ∀ (M41 : ZMem), zf_X3_payFurther_j137 (fun x0 x1 => zf_X3_payFurther_L60 M v36 a1 K143 n60 x0 x1) v37 M41 = some (r, M') → ZW E 137 [(0, .ref (zad E 63)), (1, .int a1), (2, .int v36), (3, .long ((M 63 17).toInt64)), (5, .int v37)] [] M41 := by
              intro M41 hf
              unfold zf_X3_payFurther_j137 at hf
              refine zw_iinc hC (v := (1 : Int32)) (lv' := [(5, .int (v37 + (1 : Int32))), (0, .ref (zad E 63)), (1, .int a1), (2, .int v36), (3, .long ((M 63 17).toInt64))]) dX3_payFurther_137 4 rfl (by decide) hN (by decide) rfl ?_
              refine zw_goto hC 60 dX3_payFurther_140 (by decide) ?_
              exact zw_sub [1, 2, 3, 4, 0] rfl (ih60 (v37 + (1 : Int32)) M41 hf)
            refine zw_if_eq hC 137 hf dX3_payFurther_78 (by decide) (fun hf => ?_) (fun hf => ?_)
            · exact hj137 M38 hf
            · refine zw_aload_n hC dX3_payFurther_81 rfl 0 rfl ?_
              refine zw_getr (k' := 64) hC zF_Payer_claims zk_63 rfl dX3_payFurther_82 kw_2_58 ?_
              refine zw_iload hC dX3_payFurther_85 4 rfl ?_
              refine zw_iald hC hf zk_64 dX3_payFurther_87 (fun v42 hf => ?_)
              refine zw_aload_n hC dX3_payFurther_88 rfl 0 rfl ?_
              refine zw_getr (k' := 69) hC zF_Payer_paidTo zk_63 rfl dX3_payFurther_89 kw_2_65 ?_
              refine zw_iload hC dX3_payFurther_92 4 rfl ?_
              refine zw_iald hC hf zk_69 dX3_payFurther_94 (fun v43 hf => ?_)
              refine zw_isub hC dX3_payFurther_95 ?_
              refine zw_istore hC (lv' := [(6, .int (v42 - v43)), (0, .ref (zad E 63)), (1, .int a1), (2, .int v36), (3, .long ((M 63 17).toInt64)), (5, .int v37)]) dX3_payFurther_96 hN (by decide) rfl ?_
              refine zw_iload hC dX3_payFurther_98 0 rfl ?_
              refine zw_i2l hC dX3_payFurther_100 ?_
              refine zw_lload_n hC dX3_payFurther_101 rfl 4 rfl ?_
              refine zw_iload hC dX3_payFurther_102 0 rfl ?_
              refine zw_i2l hC dX3_payFurther_104 ?_
              refine zw_lmul hC dX3_payFurther_105 ?_
              refine zw_iload_n hC dX3_payFurther_106 rfl 3 rfl ?_
              refine zw_i2l hC dX3_payFurther_107 ?_
              refine zw_ldiv hC hf dX3_payFurther_108 (fun w44 hf => ?_)
              refine zw_lmin hC (by decide) (Nat.le_of_ble_eq_true rfl) dX3_payFurther_109 kw_4_236 kw_4_237 kw_1_18 kw_4_238 ?_
              refine zw_l2i hC dX3_payFurther_112 ?_
              refine zw_istore hC (lv' := [(7, .int ((zlmin ((v42 - v43).toInt64) w44).toInt32)), (6, .int (v42 - v43)), (0, .ref (zad E 63)), (1, .int a1), (2, .int v36), (3, .long ((M 63 17).toInt64)), (5, .int v37)]) dX3_payFurther_113 hN (by decide) rfl ?_
              refine zw_aload_n hC dX3_payFurther_115 rfl 2 rfl ?_
              refine zw_iload hC dX3_payFurther_116 6 rfl ?_
              refine zw_iload hC dX3_payFurther_118 0 rfl ?_
              refine zw_aload_n hC dX3_payFurther_120 rfl 2 rfl ?_
              refine zw_geti hC zF_Payer_least zk_63 dX3_payFurther_121 kw_2_71 ?_
              have hj133 : ∀ (v45 : Int32), zf_X3_payFurther_j133 v37 a1 M38 (fun x0 x1 => zf_X3_payFurther_L60 M v36 a1 K143 n60 x0 x1) v45 = some (r, M') → ZW E 133 [(0, .ref (zad E 63)), (1, .int a1), (2, .int v36), (3, .long ((M 63 17).toInt64)), (5, .int v37)] [.int v45, .int v37, .ref (zad E 63)] M38 := by
                intro v45 hf
                unfold zf_X3_payFurther_j133 at hf
                refine zw_iload_n hC dX3_payFurther_133 rfl 1 rfl ?_
                obtain ⟨M46, hcM46, hf⟩ := zb1_some hf
                refine zw_cV hC [.int v37, .int v45, .int a1] [] (st1 := []) zm_X3_give (zc_X3_give hcM46) zk_63 rfl kw_4_239 dX3_payFurther_134 rfl (by decide) (Nat.le_of_ble_eq_true rfl) rfl rfl ?_
                exact hj137 M46 hf
              refine zw_icmp_ge hC 131 hf dX3_payFurther_124 (by decide) (fun hf => ?_) (fun hf => ?_)
              · refine zw_iload hC dX3_payFurther_131 0 rfl ?_
                exact zw_sub [2, 3, 4, 5, 6] rfl (hj133 ((zlmin ((v42 - v43).toInt64) w44).toInt32) hf)
              · refine zw_iconst hC (v := (0 : Int32)) dX3_payFurther_127 (by decide) ?_
                refine zw_goto hC 133 dX3_payFurther_128 (by decide) ?_
                exact zw_sub [2, 3, 4, 5, 6] rfl (hj133 (0 : Int32) hf)
      refine zw_sub [2, 3, 4, 1, 0] rfl (hL60 _ ?_ n (0 : Int32) M hf)
      · intro M47 hf
        refine zw_aload_n hC dX3_payFurther_143 rfl 0 rfl ?_
        refine zw_geti hC zF_Payer_rounds zk_63 dX3_payFurther_144 kw_2_83 ?_
        refine zw_iload_n hC dX3_payFurther_147 rfl 1 rfl ?_
        have hj156 : ∀ (v48 : Int32), zf_X3_payFurther_j156 M47 v48 = some (r, M') → ZW E 156 [] [.int v48] M47 := by
          intro v48 hf
          unfold zf_X3_payFurther_j156 at hf
          obtain ⟨hz, hf⟩ := zbz_some hf
          obtain ⟨h1, h2⟩ := Prod.mk.inj (Option.some.inj hf)
          subst h1; subst h2
          exact zw_zret hC hR hz dX3_payFurther_156
        refine zw_icmp_ne hC 155 hf dX3_payFurther_148 (by decide) (fun hf => ?_) (fun hf => ?_)
        · refine zw_iconst hC (v := (0 : Int32)) dX3_payFurther_155 (by decide) ?_
          exact zw_sub [] rfl (hj156 (0 : Int32) hf)
        · refine zw_iconst hC (v := (1 : Int32)) dX3_payFurther_151 (by decide) ?_
          refine zw_goto hC 156 dX3_payFurther_152 (by decide) ?_
          exact zw_sub [] rfl (hj156 (1 : Int32) hf)
    · refine zw_iconst hC (v := (0 : Int32)) dX3_payFurther_49 (by decide) ?_
      obtain ⟨h1, h2⟩ := Prod.mk.inj (Option.some.inj hf)
      subst h1; subst h2
      exact zw_zret hC hR rfl dX3_payFurther_50
/-! Payer.satisfied(I)I -/
theorem dX3_satisfied_0 : decode cX3_satisfied 0 = .ok (.iconst 0, 1) := by decide +kernel
theorem dX3_satisfied_1 : decode cX3_satisfied 1 = .ok (.istore_n 2, 1) := by decide +kernel
theorem dX3_satisfied_2 : decode cX3_satisfied 2 = .ok (.iconst 0, 1) := by decide +kernel
theorem dX3_satisfied_3 : decode cX3_satisfied 3 = .ok (.istore_n 3, 1) := by decide +kernel
theorem dX3_satisfied_4 : decode cX3_satisfied 4 = .ok (.iload_n 3, 1) := by decide +kernel
theorem dX3_satisfied_5 : decode cX3_satisfied 5 = .ok (.iload_n 1, 1) := by decide +kernel
theorem dX3_satisfied_6 : decode cX3_satisfied 6 = .ok (.if_icmp .ge 38, 3) := by decide +kernel
theorem dX3_satisfied_9 : decode cX3_satisfied 9 = .ok (.aload_n 0, 1) := by decide +kernel
theorem dX3_satisfied_10 : decode cX3_satisfied 10 = .ok (.getfield 97, 3) := by decide +kernel
theorem dX3_satisfied_13 : decode cX3_satisfied 13 = .ok (.iload_n 3, 1) := by decide +kernel
theorem dX3_satisfied_14 : decode cX3_satisfied 14 = .ok (.invokestatic 119, 3) := by decide +kernel
theorem dX3_satisfied_17 : decode cX3_satisfied 17 = .ok (.ifCond .eq 21, 3) := by decide +kernel
theorem dX3_satisfied_20 : decode cX3_satisfied 20 = .ok (.aload_n 0, 1) := by decide +kernel
theorem dX3_satisfied_21 : decode cX3_satisfied 21 = .ok (.getfield 27, 3) := by decide +kernel
theorem dX3_satisfied_24 : decode cX3_satisfied 24 = .ok (.iload_n 3, 1) := by decide +kernel
theorem dX3_satisfied_25 : decode cX3_satisfied 25 = .ok (.iaload, 1) := by decide +kernel
theorem dX3_satisfied_26 : decode cX3_satisfied 26 = .ok (.aload_n 0, 1) := by decide +kernel
theorem dX3_satisfied_27 : decode cX3_satisfied 27 = .ok (.getfield 9, 3) := by decide +kernel
theorem dX3_satisfied_30 : decode cX3_satisfied 30 = .ok (.iload_n 3, 1) := by decide +kernel
theorem dX3_satisfied_31 : decode cX3_satisfied 31 = .ok (.iaload, 1) := by decide +kernel
theorem dX3_satisfied_32 : decode cX3_satisfied 32 = .ok (.if_icmp .ne 6, 3) := by decide +kernel
theorem dX3_satisfied_35 : decode cX3_satisfied 35 = .ok (.iinc 2 1, 3) := by decide +kernel
theorem dX3_satisfied_38 : decode cX3_satisfied 38 = .ok (.iinc 3 1, 3) := by decide +kernel
theorem dX3_satisfied_41 : decode cX3_satisfied 41 = .ok (.goto (-37), 3) := by decide +kernel
theorem dX3_satisfied_44 : decode cX3_satisfied 44 = .ok (.iload_n 2, 1) := by decide +kernel
theorem dX3_satisfied_45 : decode cX3_satisfied 45 = .ok (.ireturn, 1) := by decide +kernel
theorem zm_X3_satisfied : ZMv "ClassOfMany$Payer" yX3_satisfied cX3_satisfied 4 (some .int) 1 := ⟨kw_5_10, kw_5_8, kw_5_9, kw_1_7, by decide +kernel, by decide⟩
def zf_X3_satisfied_j38 (R4 : Int32 → Int32 → Option (Int32)) (v25 : Int32) (v28 : Int32) : Option (Int32) :=
  (R4 v28 (v25 + (1 : Int32)))
def zf_X3_satisfied_L4 (a1 : Int32) (M : ZMem) (K44 : Int32 → Option (Int32)) : Nat → Int32 → Int32 → Option (Int32)
  | 0, _, _ => none
  | n4 + 1, v24, v25 =>
  (if a1 ≤ v25 then (K44 v24) else zb1 (zf_X9_has (M 63 10) v25) (fun v27 => (if v27 = 0 then (zf_X3_satisfied_j38 (fun x0 x1 => zf_X3_satisfied_L4 a1 M K44 n4 x0 x1) v25 v24) else zrd M 69 10 v25 (fun v29 => zrd M 64 10 v25 (fun v30 => (if v29 = v30 then (zf_X3_satisfied_j38 (fun x0 x1 => zf_X3_satisfied_L4 a1 M K44 n4 x0 x1) v25 (v24 + (1 : Int32))) else (zf_X3_satisfied_j38 (fun x0 x1 => zf_X3_satisfied_L4 a1 M K44 n4 x0 x1) v25 v24)))))))
def zf_X3_satisfied (n : Nat) (a1 : Int32) (M : ZMem) : Option (Int32) :=
  (zf_X3_satisfied_L4 a1 M (fun v31 => some v31) n (0 : Int32) (0 : Int32))
set_option maxHeartbeats 4000000 in
set_option maxRecDepth 100000 in
theorem zc_X3_satisfied {l : Launch} {D : va_G} {ad : Nat → Nat} {cA : Nat → ClassId} {n : Nat} {a1 : Int32} {M : ZMem} {r : Int32} (hf : zf_X3_satisfied n a1 M = some r) : ZCt l D ad cA yX3_satisfied cX3_satisfied 4 (some .int) 2 [.ref (ad 63), .int a1] M (some (.int r)) M := by
  refine zct (by decide +kernel) (Nat.le_of_ble_eq_true rfl) (lv := [(0, .ref (ad 63)), (1, .int a1)]) rfl (fun E hl hD had hcA hN hC hR => ?_)
  subst hl; subst hD; subst had; subst hcA
  unfold zf_X3_satisfied at hf
  refine zw_iconst hC (v := (0 : Int32)) dX3_satisfied_0 (by decide) ?_
  refine zw_istore_n hC (lv' := [(2, .int (0 : Int32)), (0, .ref (zad E 63)), (1, .int a1)]) dX3_satisfied_1 rfl hN (by decide) rfl ?_
  refine zw_iconst hC (v := (0 : Int32)) dX3_satisfied_2 (by decide) ?_
  refine zw_istore_n hC (lv' := [(3, .int (0 : Int32)), (2, .int (0 : Int32)), (0, .ref (zad E 63)), (1, .int a1)]) dX3_satisfied_3 rfl hN (by decide) rfl ?_
  have hL4 : ∀ (K44 : Int32 → Option (Int32)), (∀ (v26 : Int32), K44 v26 = some r → ZW E 44 [(2, .int v26)] [] M) → ∀ (n4 : Nat), ∀ (v24 : Int32), ∀ (v25 : Int32), zf_X3_satisfied_L4 a1 M K44 n4 v24 v25 = some r → ZW E 4 [(0, .ref (zad E 63)), (1, .int a1), (2, .int v24), (3, .int v25)] [] M := by
    intro K44 hK44
    intro n4
    induction n4 with
    | zero => intro v24 v25 hf; rw [zf_X3_satisfied_L4] at hf; cases hf
    | succ n4 ih4 =>
      intro v24 v25 hf
      rw [zf_X3_satisfied_L4] at hf
      refine zw_iload_n hC dX3_satisfied_4 rfl 3 rfl ?_
      refine zw_iload_n hC dX3_satisfied_5 rfl 1 rfl ?_
      refine zw_icmp_ge hC 44 hf dX3_satisfied_6 (by decide) (fun hf => ?_) (fun hf => ?_)
      · exact zw_sub [2] rfl (hK44 v24 hf)
      · refine zw_aload_n hC dX3_satisfied_9 rfl 0 rfl ?_
        refine zw_geti hC zF_Payer_counted zk_63 dX3_satisfied_10 kw_2_73 ?_
        refine zw_iload_n hC dX3_satisfied_13 rfl 3 rfl ?_
        obtain ⟨v27, hc27, hf⟩ := zb1_some hf
        refine zw_cN hC [.int (M 63 10), .int v25] [] (st1 := [.int v27]) zm_X9_has (zc_X9_has hc27) (by decide +kernel) dX3_satisfied_14 rfl (by decide) (Nat.le_of_ble_eq_true rfl) rfl rfl ?_
        have hj38 : ∀ (v28 : Int32), zf_X3_satisfied_j38 (fun x0 x1 => zf_X3_satisfied_L4 a1 M K44 n4 x0 x1) v25 v28 = some r → ZW E 38 [(0, .ref (zad E 63)), (1, .int a1), (2, .int v28), (3, .int v25)] [] M := by
          intro v28 hf
          unfold zf_X3_satisfied_j38 at hf
          refine zw_iinc hC (v := (1 : Int32)) (lv' := [(3, .int (v25 + (1 : Int32))), (0, .ref (zad E 63)), (1, .int a1), (2, .int v28)]) dX3_satisfied_38 3 rfl (by decide) hN (by decide) rfl ?_
          refine zw_goto hC 4 dX3_satisfied_41 (by decide) ?_
          exact zw_sub [1, 2, 3, 0] rfl (ih4 v28 (v25 + (1 : Int32)) hf)
        refine zw_if_eq hC 38 hf dX3_satisfied_17 (by decide) (fun hf => ?_) (fun hf => ?_)
        · exact hj38 v24 hf
        · refine zw_aload_n hC dX3_satisfied_20 rfl 0 rfl ?_
          refine zw_getr (k' := 69) hC zF_Payer_paidTo zk_63 rfl dX3_satisfied_21 kw_2_65 ?_
          refine zw_iload_n hC dX3_satisfied_24 rfl 3 rfl ?_
          refine zw_iald hC hf zk_69 dX3_satisfied_25 (fun v29 hf => ?_)
          refine zw_aload_n hC dX3_satisfied_26 rfl 0 rfl ?_
          refine zw_getr (k' := 64) hC zF_Payer_claims zk_63 rfl dX3_satisfied_27 kw_2_58 ?_
          refine zw_iload_n hC dX3_satisfied_30 rfl 3 rfl ?_
          refine zw_iald hC hf zk_64 dX3_satisfied_31 (fun v30 hf => ?_)
          refine zw_icmp_ne hC 38 hf dX3_satisfied_32 (by decide) (fun hf => ?_) (fun hf => ?_)
          · exact hj38 v24 hf
          · refine zw_iinc hC (v := (1 : Int32)) (lv' := [(2, .int (v24 + (1 : Int32))), (0, .ref (zad E 63)), (1, .int a1), (3, .int v25)]) dX3_satisfied_35 2 rfl (by decide) hN (by decide) rfl ?_
            exact zw_sub [1, 2, 0, 3] rfl (hj38 (v24 + (1 : Int32)) hf)
  refine zw_sub [2, 3, 1, 0] rfl (hL4 _ ?_ n (0 : Int32) (0 : Int32) hf)
  · intro v31 hf
    refine zw_iload_n hC dX3_satisfied_44 rfl 0 rfl ?_
    have h1 := Option.some.inj hf
    subst h1
    exact zw_iret hC hR dX3_satisfied_45
/-! Payer.cutUp(JJ)J -/
theorem dX3_cutUp_0 : decode cX3_cutUp 0 = .ok (.lload_n 2, 1) := by decide +kernel
theorem dX3_cutUp_1 : decode cX3_cutUp 1 = .ok (.lconst 0, 1) := by decide +kernel
theorem dX3_cutUp_2 : decode cX3_cutUp 2 = .ok (.lcmp, 1) := by decide +kernel
theorem dX3_cutUp_3 : decode cX3_cutUp 3 = .ok (.ifCond .gt 7, 3) := by decide +kernel
theorem dX3_cutUp_6 : decode cX3_cutUp 6 = .ok (.lconst 0, 1) := by decide +kernel
theorem dX3_cutUp_7 : decode cX3_cutUp 7 = .ok (.goto 10, 3) := by decide +kernel
theorem dX3_cutUp_10 : decode cX3_cutUp 10 = .ok (.lload_n 0, 1) := by decide +kernel
theorem dX3_cutUp_11 : decode cX3_cutUp 11 = .ok (.lload_n 2, 1) := by decide +kernel
theorem dX3_cutUp_12 : decode cX3_cutUp 12 = .ok (.ladd, 1) := by decide +kernel
theorem dX3_cutUp_13 : decode cX3_cutUp 13 = .ok (.lconst 1, 1) := by decide +kernel
theorem dX3_cutUp_14 : decode cX3_cutUp 14 = .ok (.lsub, 1) := by decide +kernel
theorem dX3_cutUp_15 : decode cX3_cutUp 15 = .ok (.lload_n 2, 1) := by decide +kernel
theorem dX3_cutUp_16 : decode cX3_cutUp 16 = .ok (.ldiv, 1) := by decide +kernel
theorem dX3_cutUp_17 : decode cX3_cutUp 17 = .ok (.lreturn, 1) := by decide +kernel
theorem zm_X3_cutUp : ZMs yX3_cutUp cX3_cutUp 4 (some .long) 2 := ⟨kw_5_90, kw_5_89, kw_1_7, by decide +kernel, by decide⟩
def zf_X3_cutUp_j17 (w22 : Int64) : Option (Int64) :=
  some w22
def zf_X3_cutUp (w900 : Int64) (w902 : Int64) : Option (Int64) :=
  (if 0 < (lg_cmp w902 (0 : Int64)) then zldiv ((w900 + w902) - (1 : Int64)) w902 (fun w23 => (zf_X3_cutUp_j17 w23)) else (zf_X3_cutUp_j17 (0 : Int64)))
set_option maxHeartbeats 4000000 in
set_option maxRecDepth 100000 in
theorem zc_X3_cutUp {l : Launch} {D : va_G} {ad : Nat → Nat} {cA : Nat → ClassId} {w900 : Int64} {w902 : Int64} {M : ZMem} {r : Int64} (hf : zf_X3_cutUp w900 w902 = some r) : ZCt l D ad cA yX3_cutUp cX3_cutUp 4 (some .long) 1 [.long w900, .long w902] M (some (.long r)) M := by
  refine zct (by decide +kernel) (Nat.le_of_ble_eq_true rfl) (lv := [(0, .long w900), (2, .long w902)]) rfl (fun E hl hD had hcA hN hC hR => ?_)
  subst hl; subst hD; subst had; subst hcA
  unfold zf_X3_cutUp at hf
  refine zw_lload_n hC dX3_cutUp_0 rfl 1 rfl ?_
  refine zw_lconst hC (v := (0 : Int64)) dX3_cutUp_1 (by decide) ?_
  refine zw_lcmp hC dX3_cutUp_2 ?_
  have hj17 : ∀ (w22 : Int64), zf_X3_cutUp_j17 w22 = some r → ZW E 17 [] [.long w22] M := by
    intro w22 hf
    unfold zf_X3_cutUp_j17 at hf
    have h1 := Option.some.inj hf
    subst h1
    exact zw_lret hC hR dX3_cutUp_17
  refine zw_if_gt hC 10 hf dX3_cutUp_3 (by decide) (fun hf => ?_) (fun hf => ?_)
  · refine zw_lload_n hC dX3_cutUp_10 rfl 0 rfl ?_
    refine zw_lload_n hC dX3_cutUp_11 rfl 1 rfl ?_
    refine zw_ladd hC dX3_cutUp_12 ?_
    refine zw_lconst hC (v := (1 : Int64)) dX3_cutUp_13 (by decide) ?_
    refine zw_lsub hC dX3_cutUp_14 ?_
    refine zw_lload_n hC dX3_cutUp_15 rfl 1 rfl ?_
    refine zw_ldiv hC hf dX3_cutUp_16 (fun w23 hf => ?_)
    exact zw_sub [] rfl (hj17 w23 hf)
  · refine zw_lconst hC (v := (0 : Int64)) dX3_cutUp_6 (by decide) ?_
    refine zw_goto hC 17 dX3_cutUp_7 (by decide) ?_
    exact zw_sub [] rfl (hj17 (0 : Int64) hf)
/-! Resting.forget()V -/
theorem dX5_forget_0 : decode cX5_forget 0 = .ok (.aload_n 0, 1) := by decide +kernel
theorem dX5_forget_1 : decode cX5_forget 1 = .ok (.iconst 0, 1) := by decide +kernel
theorem dX5_forget_2 : decode cX5_forget 2 = .ok (.putfield 21, 3) := by decide +kernel
theorem dX5_forget_5 : decode cX5_forget 5 = .ok (.return_, 1) := by decide +kernel
theorem zm_X5_forget : ZMv "ClassOfMany$Resting" yX5_forget cX5_forget 1 (none) 0 := ⟨kw_3_148, kw_3_146, kw_3_147, kw_1_8, by decide +kernel, by decide⟩
def zf_X5_forget (M : ZMem) : Option (ZMem) :=
  zput M 71 0 (0 : Int32) (fun M22 => some M22)
set_option maxHeartbeats 4000000 in
set_option maxRecDepth 100000 in
theorem zc_X5_forget {l : Launch} {D : va_G} {ad : Nat → Nat} {cA : Nat → ClassId} {M : ZMem} {M' : ZMem} (hf : zf_X5_forget M = some M') : ZCt l D ad cA yX5_forget cX5_forget 1 (none) 1 [.ref (ad 71)] M none M' := by
  refine zct (by decide +kernel) (Nat.le_of_ble_eq_true rfl) (lv := [(0, .ref (ad 71))]) rfl (fun E hl hD had hcA hN hC hR => ?_)
  subst hl; subst hD; subst had; subst hcA
  unfold zf_X5_forget at hf
  refine zw_aload_n hC dX5_forget_0 rfl 0 rfl ?_
  refine zw_iconst hC (v := (0 : Int32)) dX5_forget_1 (by decide) ?_
  refine zw_putz hC hf zF_Resting_known ⟨rfl, rfl⟩ zk_71 dX5_forget_2 kw_2_130 (fun M22 hf => ?_)
  have h1 := Option.some.inj hf
  subst h1
  exact zw_vret hC hR dX5_forget_5
/-! Resting.isKnown(II)Z -/
theorem dX5_isKnown_0 : decode cX5_isKnown 0 = .ok (.aload_n 0, 1) := by decide +kernel
theorem dX5_isKnown_1 : decode cX5_isKnown 1 = .ok (.getfield 21, 3) := by decide +kernel
theorem dX5_isKnown_4 : decode cX5_isKnown 4 = .ok (.ifCond .eq 23, 3) := by decide +kernel
theorem dX5_isKnown_7 : decode cX5_isKnown 7 = .ok (.aload_n 0, 1) := by decide +kernel
theorem dX5_isKnown_8 : decode cX5_isKnown 8 = .ok (.getfield 25, 3) := by decide +kernel
theorem dX5_isKnown_11 : decode cX5_isKnown 11 = .ok (.iload_n 1, 1) := by decide +kernel
theorem dX5_isKnown_12 : decode cX5_isKnown 12 = .ok (.if_icmp .ne 15, 3) := by decide +kernel
theorem dX5_isKnown_15 : decode cX5_isKnown 15 = .ok (.aload_n 0, 1) := by decide +kernel
theorem dX5_isKnown_16 : decode cX5_isKnown 16 = .ok (.getfield 29, 3) := by decide +kernel
theorem dX5_isKnown_19 : decode cX5_isKnown 19 = .ok (.iload_n 2, 1) := by decide +kernel
theorem dX5_isKnown_20 : decode cX5_isKnown 20 = .ok (.if_icmp .ne 7, 3) := by decide +kernel
theorem dX5_isKnown_23 : decode cX5_isKnown 23 = .ok (.iconst 1, 1) := by decide +kernel
theorem dX5_isKnown_24 : decode cX5_isKnown 24 = .ok (.goto 4, 3) := by decide +kernel
theorem dX5_isKnown_27 : decode cX5_isKnown 27 = .ok (.iconst 0, 1) := by decide +kernel
theorem dX5_isKnown_28 : decode cX5_isKnown 28 = .ok (.ireturn, 1) := by decide +kernel
theorem zm_X5_isKnown : ZMv "ClassOfMany$Resting" yX5_isKnown cX5_isKnown 3 (some .boolean) 2 := ⟨kw_5_110, kw_5_108, kw_5_109, kw_1_8, by decide +kernel, by decide⟩
def zf_X5_isKnown_j28 (v21 : Int32) : Option (Int32) :=
  zbz v21 (some v21)
def zf_X5_isKnown_j27 : Option (Int32) :=
  (zf_X5_isKnown_j28 (0 : Int32))
def zf_X5_isKnown (a1 : Int32) (a2 : Int32) (M : ZMem) : Option (Int32) :=
  (if (M 71 0) = 0 then (zf_X5_isKnown_j27) else (if (M 71 1) = a1 then (if (M 71 2) = a2 then (zf_X5_isKnown_j28 (1 : Int32)) else (zf_X5_isKnown_j27)) else (zf_X5_isKnown_j27)))
set_option maxHeartbeats 4000000 in
set_option maxRecDepth 100000 in
theorem zc_X5_isKnown {l : Launch} {D : va_G} {ad : Nat → Nat} {cA : Nat → ClassId} {a1 : Int32} {a2 : Int32} {M : ZMem} {r : Int32} (hf : zf_X5_isKnown a1 a2 M = some r) : ZCt l D ad cA yX5_isKnown cX5_isKnown 3 (some .boolean) 1 [.ref (ad 71), .int a1, .int a2] M (some (.int r)) M := by
  refine zct (by decide +kernel) (Nat.le_of_ble_eq_true rfl) (lv := [(0, .ref (ad 71)), (1, .int a1), (2, .int a2)]) rfl (fun E hl hD had hcA hN hC hR => ?_)
  subst hl; subst hD; subst had; subst hcA
  unfold zf_X5_isKnown at hf
  refine zw_aload_n hC dX5_isKnown_0 rfl 0 rfl ?_
  refine zw_geti hC zF_Resting_known zk_71 dX5_isKnown_1 kw_2_130 ?_
  have hj28 : ∀ (v21 : Int32), zf_X5_isKnown_j28 v21 = some r → ZW E 28 [] [.int v21] M := by
    intro v21 hf
    unfold zf_X5_isKnown_j28 at hf
    obtain ⟨hz, hf⟩ := zbz_some hf
    have h1 := Option.some.inj hf
    subst h1
    exact zw_zret hC hR hz dX5_isKnown_28
  have hj27 : zf_X5_isKnown_j27 = some r → ZW E 27 [] [] M := by
    intro  hf
    unfold zf_X5_isKnown_j27 at hf
    refine zw_iconst hC (v := (0 : Int32)) dX5_isKnown_27 (by decide) ?_
    exact hj28 (0 : Int32) hf
  refine zw_if_eq hC 27 hf dX5_isKnown_4 (by decide) (fun hf => ?_) (fun hf => ?_)
  · exact zw_sub [] rfl (hj27 hf)
  · refine zw_aload_n hC dX5_isKnown_7 rfl 0 rfl ?_
    refine zw_geti hC zF_Resting_odds zk_71 dX5_isKnown_8 kw_2_131 ?_
    refine zw_iload_n hC dX5_isKnown_11 rfl 1 rfl ?_
    refine zw_icmp_ne hC 27 hf dX5_isKnown_12 (by decide) (fun hf => ?_) (fun hf => ?_)
    · exact zw_sub [] rfl (hj27 hf)
    · refine zw_aload_n hC dX5_isKnown_15 rfl 0 rfl ?_
      refine zw_geti hC zF_Resting_suit zk_71 dX5_isKnown_16 kw_2_132 ?_
      refine zw_iload_n hC dX5_isKnown_19 rfl 2 rfl ?_
      refine zw_icmp_ne hC 27 hf dX5_isKnown_20 (by decide) (fun hf => ?_) (fun hf => ?_)
      · exact zw_sub [] rfl (hj27 hf)
      · refine zw_iconst hC (v := (1 : Int32)) dX5_isKnown_23 (by decide) ?_
        refine zw_goto hC 28 dX5_isKnown_24 (by decide) ?_
        exact zw_sub [] rfl (hj28 (1 : Int32) hf)
/-! Resting.weigh(IILClassOfMany$Payer;)Z -/
theorem dX5_weigh_0 : decode cX5_weigh 0 = .ok (.iconst 1, 1) := by decide +kernel
theorem dX5_weigh_1 : decode cX5_weigh 1 = .ok (.istore 4, 2) := by decide +kernel
theorem dX5_weigh_3 : decode cX5_weigh 3 = .ok (.aload_n 0, 1) := by decide +kernel
theorem dX5_weigh_4 : decode cX5_weigh 4 = .ok (.getfield 15, 3) := by decide +kernel
theorem dX5_weigh_7 : decode cX5_weigh 7 = .ok (.iload_n 2, 1) := by decide +kernel
theorem dX5_weigh_8 : decode cX5_weigh 8 = .ok (.iconst 0, 1) := by decide +kernel
theorem dX5_weigh_9 : decode cX5_weigh 9 = .ok (.iastore, 1) := by decide +kernel
theorem dX5_weigh_10 : decode cX5_weigh 10 = .ok (.iconst 0, 1) := by decide +kernel
theorem dX5_weigh_11 : decode cX5_weigh 11 = .ok (.istore 5, 2) := by decide +kernel
theorem dX5_weigh_13 : decode cX5_weigh 13 = .ok (.iload 5, 2) := by decide +kernel
theorem dX5_weigh_15 : decode cX5_weigh 15 = .ok (.iload_n 1, 1) := by decide +kernel
theorem dX5_weigh_16 : decode cX5_weigh 16 = .ok (.if_icmp .ge 77, 3) := by decide +kernel
theorem dX5_weigh_19 : decode cX5_weigh 19 = .ok (.iload_n 2, 1) := by decide +kernel
theorem dX5_weigh_20 : decode cX5_weigh 20 = .ok (.iload 5, 2) := by decide +kernel
theorem dX5_weigh_22 : decode cX5_weigh 22 = .ok (.invokestatic 75, 3) := by decide +kernel
theorem dX5_weigh_25 : decode cX5_weigh 25 = .ok (.ifCond .ne 62, 3) := by decide +kernel
theorem dX5_weigh_28 : decode cX5_weigh 28 = .ok (.aload_n 3, 1) := by decide +kernel
theorem dX5_weigh_29 : decode cX5_weigh 29 = .ok (.getfield 78, 3) := by decide +kernel
theorem dX5_weigh_32 : decode cX5_weigh 32 = .ok (.iload 5, 2) := by decide +kernel
theorem dX5_weigh_34 : decode cX5_weigh 34 = .ok (.iaload, 1) := by decide +kernel
theorem dX5_weigh_35 : decode cX5_weigh 35 = .ok (.aload_n 0, 1) := by decide +kernel
theorem dX5_weigh_36 : decode cX5_weigh 36 = .ok (.getfield 18, 3) := by decide +kernel
theorem dX5_weigh_39 : decode cX5_weigh 39 = .ok (.iload 5, 2) := by decide +kernel
theorem dX5_weigh_41 : decode cX5_weigh 41 = .ok (.iaload, 1) := by decide +kernel
theorem dX5_weigh_42 : decode cX5_weigh 42 = .ok (.if_icmp .le 16, 3) := by decide +kernel
theorem dX5_weigh_45 : decode cX5_weigh 45 = .ok (.aload_n 0, 1) := by decide +kernel
theorem dX5_weigh_46 : decode cX5_weigh 46 = .ok (.getfield 15, 3) := by decide +kernel
theorem dX5_weigh_49 : decode cX5_weigh 49 = .ok (.iload_n 2, 1) := by decide +kernel
theorem dX5_weigh_50 : decode cX5_weigh 50 = .ok (.dup2, 1) := by decide +kernel
theorem dX5_weigh_51 : decode cX5_weigh 51 = .ok (.iaload, 1) := by decide +kernel
theorem dX5_weigh_52 : decode cX5_weigh 52 = .ok (.iconst 1, 1) := by decide +kernel
theorem dX5_weigh_53 : decode cX5_weigh 53 = .ok (.iload 5, 2) := by decide +kernel
theorem dX5_weigh_55 : decode cX5_weigh 55 = .ok (.ishl, 1) := by decide +kernel
theorem dX5_weigh_56 : decode cX5_weigh 56 = .ok (.ior, 1) := by decide +kernel
theorem dX5_weigh_57 : decode cX5_weigh 57 = .ok (.iastore, 1) := by decide +kernel
theorem dX5_weigh_58 : decode cX5_weigh 58 = .ok (.iload 4, 2) := by decide +kernel
theorem dX5_weigh_60 : decode cX5_weigh 60 = .ok (.ifCond .eq 24, 3) := by decide +kernel
theorem dX5_weigh_63 : decode cX5_weigh 63 = .ok (.aload_n 3, 1) := by decide +kernel
theorem dX5_weigh_64 : decode cX5_weigh 64 = .ok (.getfield 78, 3) := by decide +kernel
theorem dX5_weigh_67 : decode cX5_weigh 67 = .ok (.iload 5, 2) := by decide +kernel
theorem dX5_weigh_69 : decode cX5_weigh 69 = .ok (.iaload, 1) := by decide +kernel
theorem dX5_weigh_70 : decode cX5_weigh 70 = .ok (.aload_n 0, 1) := by decide +kernel
theorem dX5_weigh_71 : decode cX5_weigh 71 = .ok (.getfield 18, 3) := by decide +kernel
theorem dX5_weigh_74 : decode cX5_weigh 74 = .ok (.iload 5, 2) := by decide +kernel
theorem dX5_weigh_76 : decode cX5_weigh 76 = .ok (.iaload, 1) := by decide +kernel
theorem dX5_weigh_77 : decode cX5_weigh 77 = .ok (.if_icmp .lt 7, 3) := by decide +kernel
theorem dX5_weigh_80 : decode cX5_weigh 80 = .ok (.iconst 1, 1) := by decide +kernel
theorem dX5_weigh_81 : decode cX5_weigh 81 = .ok (.goto 4, 3) := by decide +kernel
theorem dX5_weigh_84 : decode cX5_weigh 84 = .ok (.iconst 0, 1) := by decide +kernel
theorem dX5_weigh_85 : decode cX5_weigh 85 = .ok (.istore 4, 2) := by decide +kernel
theorem dX5_weigh_87 : decode cX5_weigh 87 = .ok (.iinc 5 1, 3) := by decide +kernel
theorem dX5_weigh_90 : decode cX5_weigh 90 = .ok (.goto (-77), 3) := by decide +kernel
theorem dX5_weigh_93 : decode cX5_weigh 93 = .ok (.iload 4, 2) := by decide +kernel
theorem dX5_weigh_95 : decode cX5_weigh 95 = .ok (.ireturn, 1) := by decide +kernel
theorem zm_X5_weigh : ZMv "ClassOfMany$Resting" yX5_weigh cX5_weigh 6 (some .boolean) 3 := ⟨kw_5_121, kw_5_120, kp_49, kw_1_8, by decide +kernel, by decide⟩
def zf_X5_weigh_j87 (R13 : Int32 → Int32 → ZMem → Option (Int32 × ZMem)) (v31 : Int32) (v36 : Int32) (M37 : ZMem) : Option (Int32 × ZMem) :=
  (R13 v36 (v31 + (1 : Int32)) M37)
def zf_X5_weigh_j85 (R13 : Int32 → Int32 → ZMem → Option (Int32 × ZMem)) (v31 : Int32) (M40 : ZMem) (v41 : Int32) : Option (Int32 × ZMem) :=
  (zf_X5_weigh_j87 R13 v31 v41 M40)
def zf_X5_weigh_j84 (R13 : Int32 → Int32 → ZMem → Option (Int32 × ZMem)) (v31 : Int32) (M40 : ZMem) : Option (Int32 × ZMem) :=
  (zf_X5_weigh_j85 R13 v31 M40 (0 : Int32))
def zf_X5_weigh_j58 (v30 : Int32) (R13 : Int32 → Int32 → ZMem → Option (Int32 × ZMem)) (v31 : Int32) (M40 : ZMem) : Option (Int32 × ZMem) :=
  (if v30 = 0 then (zf_X5_weigh_j84 R13 v31 M40) else zrd M40 69 10 v31 (fun v42 => zrd M40 74 10 v31 (fun v43 => (if v42 < v43 then (zf_X5_weigh_j84 R13 v31 M40) else (zf_X5_weigh_j85 R13 v31 M40 (1 : Int32))))))
def zf_X5_weigh_L13 (a1 : Int32) (a2 : Int32) (K93 : Int32 → ZMem → Option (Int32 × ZMem)) : Nat → Int32 → Int32 → ZMem → Option (Int32 × ZMem)
  | 0, _, _, _ => none
  | n13 + 1, v30, v31, M32 =>
  (if a1 ≤ v31 then (K93 v30 M32) else zb1 (zf_X9_has a2 v31) (fun v35 => (if v35 = 0 then zrd M32 69 10 v31 (fun v38 => zrd M32 74 10 v31 (fun v39 => (if v38 ≤ v39 then (zf_X5_weigh_j58 v30 (fun x0 x1 x2 => zf_X5_weigh_L13 a1 a2 K93 n13 x0 x1 x2) v31 M32) else zrd M32 73 1024 a2 (fun v44 => zst M32 73 1024 a2 (v44 ||| ((1 : Int32) <<< (v31 &&& 31))) (fun M45 => (zf_X5_weigh_j58 v30 (fun x0 x1 x2 => zf_X5_weigh_L13 a1 a2 K93 n13 x0 x1 x2) v31 M45)))))) else (zf_X5_weigh_j87 (fun x0 x1 x2 => zf_X5_weigh_L13 a1 a2 K93 n13 x0 x1 x2) v31 v30 M32))))
def zf_X5_weigh (n : Nat) (a1 : Int32) (a2 : Int32) (M : ZMem) : Option (Int32 × ZMem) :=
  zst M 73 1024 a2 (0 : Int32) (fun M29 => (zf_X5_weigh_L13 a1 a2 (fun v46 M47 => zbz v46 (some (v46, M47))) n (1 : Int32) (0 : Int32) M29))
set_option maxHeartbeats 4000000 in
set_option maxRecDepth 100000 in
theorem zc_X5_weigh {l : Launch} {D : va_G} {ad : Nat → Nat} {cA : Nat → ClassId} {n : Nat} {a1 : Int32} {a2 : Int32} {M : ZMem} {r : Int32} {M' : ZMem} (hf : zf_X5_weigh n a1 a2 M = some (r, M')) : ZCt l D ad cA yX5_weigh cX5_weigh 6 (some .boolean) 2 [.ref (ad 71), .int a1, .int a2, .ref (ad 63)] M (some (.int r)) M' := by
  refine zct (by decide +kernel) (Nat.le_of_ble_eq_true rfl) (lv := [(0, .ref (ad 71)), (1, .int a1), (2, .int a2), (3, .ref (ad 63))]) rfl (fun E hl hD had hcA hN hC hR => ?_)
  subst hl; subst hD; subst had; subst hcA
  unfold zf_X5_weigh at hf
  refine zw_iconst hC (v := (1 : Int32)) dX5_weigh_0 (by decide) ?_
  refine zw_istore hC (lv' := [(4, .int (1 : Int32)), (0, .ref (zad E 71)), (1, .int a1), (2, .int a2), (3, .ref (zad E 63))]) dX5_weigh_1 hN (by decide) rfl ?_
  refine zw_aload_n hC dX5_weigh_3 rfl 1 rfl ?_
  refine zw_getr (k' := 73) hC zF_Resting_gladIn zk_71 rfl dX5_weigh_4 kw_2_137 ?_
  refine zw_iload_n hC dX5_weigh_7 rfl 3 rfl ?_
  refine zw_iconst hC (v := (0 : Int32)) dX5_weigh_8 (by decide) ?_
  refine zw_iast hC hf zk_73 dX5_weigh_9 (fun M29 hf => ?_)
  refine zw_iconst hC (v := (0 : Int32)) dX5_weigh_10 (by decide) ?_
  refine zw_istore hC (lv' := [(5, .int (0 : Int32)), (4, .int (1 : Int32)), (0, .ref (zad E 71)), (1, .int a1), (2, .int a2), (3, .ref (zad E 63))]) dX5_weigh_11 hN (by decide) rfl ?_
  have hL13 : ∀ (K93 : Int32 → ZMem → Option (Int32 × ZMem)), (∀ (v33 : Int32), ∀ (M34 : ZMem), K93 v33 M34 = some (r, M') → ZW E 93 [(4, .int v33)] [] M34) → ∀ (n13 : Nat), ∀ (v30 : Int32), ∀ (v31 : Int32), ∀ (M32 : ZMem), zf_X5_weigh_L13 a1 a2 K93 n13 v30 v31 M32 = some (r, M') → ZW E 13 [(0, .ref (zad E 71)), (1, .int a1), (2, .int a2), (3, .ref (zad E 63)), (4, .int v30), (5, .int v31)] [] M32 := by
    intro K93 hK93
    intro n13
    induction n13 with
    | zero => intro v30 v31 M32 hf; rw [zf_X5_weigh_L13] at hf; cases hf
    | succ n13 ih13 =>
      intro v30 v31 M32 hf
      rw [zf_X5_weigh_L13] at hf
      refine zw_iload hC dX5_weigh_13 5 rfl ?_
      refine zw_iload_n hC dX5_weigh_15 rfl 1 rfl ?_
      refine zw_icmp_ge hC 93 hf dX5_weigh_16 (by decide) (fun hf => ?_) (fun hf => ?_)
      · exact zw_sub [4] rfl (hK93 v30 M32 hf)
      · refine zw_iload_n hC dX5_weigh_19 rfl 2 rfl ?_
        refine zw_iload hC dX5_weigh_20 5 rfl ?_
        obtain ⟨v35, hc35, hf⟩ := zb1_some hf
        refine zw_cN hC [.int a2, .int v31] [] (st1 := [.int v35]) zm_X9_has (zc_X9_has hc35) (by decide +kernel) dX5_weigh_22 rfl (by decide) (Nat.le_of_ble_eq_true rfl) rfl rfl ?_
        have hj87 : ∀ (v36 : Int32), ∀ (M37 : ZMem), zf_X5_weigh_j87 (fun x0 x1 x2 => zf_X5_weigh_L13 a1 a2 K93 n13 x0 x1 x2) v31 v36 M37 = some (r, M') → ZW E 87 [(0, .ref (zad E 71)), (1, .int a1), (2, .int a2), (3, .ref (zad E 63)), (4, .int v36), (5, .int v31)] [] M37 := by
          intro v36 M37 hf
          unfold zf_X5_weigh_j87 at hf
          refine zw_iinc hC (v := (1 : Int32)) (lv' := [(5, .int (v31 + (1 : Int32))), (0, .ref (zad E 71)), (1, .int a1), (2, .int a2), (3, .ref (zad E 63)), (4, .int v36)]) dX5_weigh_87 5 rfl (by decide) hN (by decide) rfl ?_
          refine zw_goto hC 13 dX5_weigh_90 (by decide) ?_
          exact zw_sub [1, 2, 3, 4, 5, 0] rfl (ih13 v36 (v31 + (1 : Int32)) M37 hf)
        refine zw_if_ne hC 87 hf dX5_weigh_25 (by decide) (fun hf => ?_) (fun hf => ?_)
        · exact hj87 v30 M32 hf
        · refine zw_aload_n hC dX5_weigh_28 rfl 3 rfl ?_
          refine zw_getr (k' := 69) hC zF_Payer_paidTo zk_63 rfl dX5_weigh_29 kw_2_66 ?_
          refine zw_iload hC dX5_weigh_32 5 rfl ?_
          refine zw_iald hC hf zk_69 dX5_weigh_34 (fun v38 hf => ?_)
          refine zw_aload_n hC dX5_weigh_35 rfl 0 rfl ?_
          refine zw_getr (k' := 74) hC zF_Resting_outside zk_71 rfl dX5_weigh_36 kw_2_138 ?_
          refine zw_iload hC dX5_weigh_39 5 rfl ?_
          refine zw_iald hC hf zk_74 dX5_weigh_41 (fun v39 hf => ?_)
          have hj58 : ∀ (M40 : ZMem), zf_X5_weigh_j58 v30 (fun x0 x1 x2 => zf_X5_weigh_L13 a1 a2 K93 n13 x0 x1 x2) v31 M40 = some (r, M') → ZW E 58 [(0, .ref (zad E 71)), (1, .int a1), (2, .int a2), (3, .ref (zad E 63)), (4, .int v30), (5, .int v31)] [] M40 := by
            intro M40 hf
            unfold zf_X5_weigh_j58 at hf
            refine zw_iload hC dX5_weigh_58 4 rfl ?_
            have hj85 : ∀ (v41 : Int32), zf_X5_weigh_j85 (fun x0 x1 x2 => zf_X5_weigh_L13 a1 a2 K93 n13 x0 x1 x2) v31 M40 v41 = some (r, M') → ZW E 85 [(0, .ref (zad E 71)), (1, .int a1), (2, .int a2), (3, .ref (zad E 63)), (5, .int v31)] [.int v41] M40 := by
              intro v41 hf
              unfold zf_X5_weigh_j85 at hf
              refine zw_istore hC (lv' := [(4, .int v41), (0, .ref (zad E 71)), (1, .int a1), (2, .int a2), (3, .ref (zad E 63)), (5, .int v31)]) dX5_weigh_85 hN (by decide) rfl ?_
              exact zw_sub [1, 2, 3, 4, 0, 5] rfl (hj87 v41 M40 hf)
            have hj84 : zf_X5_weigh_j84 (fun x0 x1 x2 => zf_X5_weigh_L13 a1 a2 K93 n13 x0 x1 x2) v31 M40 = some (r, M') → ZW E 84 [(0, .ref (zad E 71)), (1, .int a1), (2, .int a2), (3, .ref (zad E 63)), (5, .int v31)] [] M40 := by
              intro  hf
              unfold zf_X5_weigh_j84 at hf
              refine zw_iconst hC (v := (0 : Int32)) dX5_weigh_84 (by decide) ?_
              exact hj85 (0 : Int32) hf
            refine zw_if_eq hC 84 hf dX5_weigh_60 (by decide) (fun hf => ?_) (fun hf => ?_)
            · exact zw_sub [0, 1, 2, 3, 5] rfl (hj84 hf)
            · refine zw_aload_n hC dX5_weigh_63 rfl 3 rfl ?_
              refine zw_getr (k' := 69) hC zF_Payer_paidTo zk_63 rfl dX5_weigh_64 kw_2_66 ?_
              refine zw_iload hC dX5_weigh_67 5 rfl ?_
              refine zw_iald hC hf zk_69 dX5_weigh_69 (fun v42 hf => ?_)
              refine zw_aload_n hC dX5_weigh_70 rfl 0 rfl ?_
              refine zw_getr (k' := 74) hC zF_Resting_outside zk_71 rfl dX5_weigh_71 kw_2_138 ?_
              refine zw_iload hC dX5_weigh_74 5 rfl ?_
              refine zw_iald hC hf zk_74 dX5_weigh_76 (fun v43 hf => ?_)
              refine zw_icmp_lt hC 84 hf dX5_weigh_77 (by decide) (fun hf => ?_) (fun hf => ?_)
              · exact zw_sub [0, 1, 2, 3, 5] rfl (hj84 hf)
              · refine zw_iconst hC (v := (1 : Int32)) dX5_weigh_80 (by decide) ?_
                refine zw_goto hC 85 dX5_weigh_81 (by decide) ?_
                exact zw_sub [0, 1, 2, 3, 5] rfl (hj85 (1 : Int32) hf)
          refine zw_icmp_le hC 58 hf dX5_weigh_42 (by decide) (fun hf => ?_) (fun hf => ?_)
          · exact hj58 M32 hf
          · refine zw_aload_n hC dX5_weigh_45 rfl 0 rfl ?_
            refine zw_getr (k' := 73) hC zF_Resting_gladIn zk_71 rfl dX5_weigh_46 kw_2_137 ?_
            refine zw_iload_n hC dX5_weigh_49 rfl 2 rfl ?_
            refine zw_dup2 hC dX5_weigh_50 rfl rfl ?_
            refine zw_iald hC hf zk_73 dX5_weigh_51 (fun v44 hf => ?_)
            refine zw_iconst hC (v := (1 : Int32)) dX5_weigh_52 (by decide) ?_
            refine zw_iload hC dX5_weigh_53 5 rfl ?_
            refine zw_ishl hC dX5_weigh_55 ?_
            refine zw_ior hC dX5_weigh_56 ?_
            refine zw_iast hC hf zk_73 dX5_weigh_57 (fun M45 hf => ?_)
            exact hj58 M45 hf
  refine zw_sub [2, 3, 4, 5, 1, 0] rfl (hL13 _ ?_ n (1 : Int32) (0 : Int32) M29 hf)
  · intro v46 M47 hf
    refine zw_iload hC dX5_weigh_93 0 rfl ?_
    obtain ⟨hz, hf⟩ := zbz_some hf
    obtain ⟨h1, h2⟩ := Prod.mk.inj (Option.some.inj hf)
    subst h1; subst h2
    exact zw_zret hC hR hz dX5_weigh_95
/-! Resting.noneComesIn(II)Z -/
theorem dX5_noneComesIn_0 : decode cX5_noneComesIn 0 = .ok (.iconst 0, 1) := by decide +kernel
theorem dX5_noneComesIn_1 : decode cX5_noneComesIn 1 = .ok (.istore_n 3, 1) := by decide +kernel
theorem dX5_noneComesIn_2 : decode cX5_noneComesIn 2 = .ok (.iload_n 3, 1) := by decide +kernel
theorem dX5_noneComesIn_3 : decode cX5_noneComesIn 3 = .ok (.iload_n 1, 1) := by decide +kernel
theorem dX5_noneComesIn_4 : decode cX5_noneComesIn 4 = .ok (.if_icmp .ge 36, 3) := by decide +kernel
theorem dX5_noneComesIn_7 : decode cX5_noneComesIn 7 = .ok (.iload_n 2, 1) := by decide +kernel
theorem dX5_noneComesIn_8 : decode cX5_noneComesIn 8 = .ok (.iload_n 3, 1) := by decide +kernel
theorem dX5_noneComesIn_9 : decode cX5_noneComesIn 9 = .ok (.invokestatic 75, 3) := by decide +kernel
theorem dX5_noneComesIn_12 : decode cX5_noneComesIn 12 = .ok (.ifCond .eq 22, 3) := by decide +kernel
theorem dX5_noneComesIn_15 : decode cX5_noneComesIn 15 = .ok (.aload_n 0, 1) := by decide +kernel
theorem dX5_noneComesIn_16 : decode cX5_noneComesIn 16 = .ok (.getfield 15, 3) := by decide +kernel
theorem dX5_noneComesIn_19 : decode cX5_noneComesIn 19 = .ok (.iload_n 2, 1) := by decide +kernel
theorem dX5_noneComesIn_20 : decode cX5_noneComesIn 20 = .ok (.iconst 1, 1) := by decide +kernel
theorem dX5_noneComesIn_21 : decode cX5_noneComesIn 21 = .ok (.iload_n 3, 1) := by decide +kernel
theorem dX5_noneComesIn_22 : decode cX5_noneComesIn 22 = .ok (.ishl, 1) := by decide +kernel
theorem dX5_noneComesIn_23 : decode cX5_noneComesIn 23 = .ok (.ixor, 1) := by decide +kernel
theorem dX5_noneComesIn_24 : decode cX5_noneComesIn 24 = .ok (.iaload, 1) := by decide +kernel
theorem dX5_noneComesIn_25 : decode cX5_noneComesIn 25 = .ok (.iload_n 3, 1) := by decide +kernel
theorem dX5_noneComesIn_26 : decode cX5_noneComesIn 26 = .ok (.invokestatic 75, 3) := by decide +kernel
theorem dX5_noneComesIn_29 : decode cX5_noneComesIn 29 = .ok (.ifCond .eq 5, 3) := by decide +kernel
theorem dX5_noneComesIn_32 : decode cX5_noneComesIn 32 = .ok (.iconst 0, 1) := by decide +kernel
theorem dX5_noneComesIn_33 : decode cX5_noneComesIn 33 = .ok (.ireturn, 1) := by decide +kernel
theorem dX5_noneComesIn_34 : decode cX5_noneComesIn 34 = .ok (.iinc 3 1, 3) := by decide +kernel
theorem dX5_noneComesIn_37 : decode cX5_noneComesIn 37 = .ok (.goto (-35), 3) := by decide +kernel
theorem dX5_noneComesIn_40 : decode cX5_noneComesIn 40 = .ok (.iconst 1, 1) := by decide +kernel
theorem dX5_noneComesIn_41 : decode cX5_noneComesIn 41 = .ok (.ireturn, 1) := by decide +kernel
theorem zm_X5_noneComesIn : ZMv "ClassOfMany$Resting" yX5_noneComesIn cX5_noneComesIn 4 (some .boolean) 2 := ⟨kw_5_126, kw_5_125, kp_50, kw_1_8, by decide +kernel, by decide⟩
def zf_X5_noneComesIn_j34 (R2 : Int32 → Option (Int32)) (v24 : Int32) : Option (Int32) :=
  (R2 (v24 + (1 : Int32)))
def zf_X5_noneComesIn_L2 (a1 : Int32) (a2 : Int32) (M : ZMem) (K40 : Option (Int32)) : Nat → Int32 → Option (Int32)
  | 0, _ => none
  | n2 + 1, v24 =>
  (if a1 ≤ v24 then K40 else zb1 (zf_X9_has a2 v24) (fun v25 => (if v25 = 0 then (zf_X5_noneComesIn_j34 (fun x0 => zf_X5_noneComesIn_L2 a1 a2 M K40 n2 x0) v24) else zrd M 73 1024 (a2 ^^^ ((1 : Int32) <<< (v24 &&& 31))) (fun v26 => zb1 (zf_X9_has v26 v24) (fun v27 => (if v27 = 0 then (zf_X5_noneComesIn_j34 (fun x0 => zf_X5_noneComesIn_L2 a1 a2 M K40 n2 x0) v24) else some (0 : Int32)))))))
def zf_X5_noneComesIn (n : Nat) (a1 : Int32) (a2 : Int32) (M : ZMem) : Option (Int32) :=
  (zf_X5_noneComesIn_L2 a1 a2 M (some (1 : Int32)) n (0 : Int32))
set_option maxHeartbeats 4000000 in
set_option maxRecDepth 100000 in
theorem zc_X5_noneComesIn {l : Launch} {D : va_G} {ad : Nat → Nat} {cA : Nat → ClassId} {n : Nat} {a1 : Int32} {a2 : Int32} {M : ZMem} {r : Int32} (hf : zf_X5_noneComesIn n a1 a2 M = some r) : ZCt l D ad cA yX5_noneComesIn cX5_noneComesIn 4 (some .boolean) 2 [.ref (ad 71), .int a1, .int a2] M (some (.int r)) M := by
  refine zct (by decide +kernel) (Nat.le_of_ble_eq_true rfl) (lv := [(0, .ref (ad 71)), (1, .int a1), (2, .int a2)]) rfl (fun E hl hD had hcA hN hC hR => ?_)
  subst hl; subst hD; subst had; subst hcA
  unfold zf_X5_noneComesIn at hf
  refine zw_iconst hC (v := (0 : Int32)) dX5_noneComesIn_0 (by decide) ?_
  refine zw_istore_n hC (lv' := [(3, .int (0 : Int32)), (0, .ref (zad E 71)), (1, .int a1), (2, .int a2)]) dX5_noneComesIn_1 rfl hN (by decide) rfl ?_
  have hL2 : ∀ (K40 : Option (Int32)), (K40 = some r → ZW E 40 [] [] M) → ∀ (n2 : Nat), ∀ (v24 : Int32), zf_X5_noneComesIn_L2 a1 a2 M K40 n2 v24 = some r → ZW E 2 [(0, .ref (zad E 71)), (1, .int a1), (2, .int a2), (3, .int v24)] [] M := by
    intro K40 hK40
    intro n2
    induction n2 with
    | zero => intro v24 hf; rw [zf_X5_noneComesIn_L2] at hf; cases hf
    | succ n2 ih2 =>
      intro v24 hf
      rw [zf_X5_noneComesIn_L2] at hf
      refine zw_iload_n hC dX5_noneComesIn_2 rfl 3 rfl ?_
      refine zw_iload_n hC dX5_noneComesIn_3 rfl 1 rfl ?_
      refine zw_icmp_ge hC 40 hf dX5_noneComesIn_4 (by decide) (fun hf => ?_) (fun hf => ?_)
      · exact zw_sub [] rfl (hK40 hf)
      · refine zw_iload_n hC dX5_noneComesIn_7 rfl 2 rfl ?_
        refine zw_iload_n hC dX5_noneComesIn_8 rfl 3 rfl ?_
        obtain ⟨v25, hc25, hf⟩ := zb1_some hf
        refine zw_cN hC [.int a2, .int v24] [] (st1 := [.int v25]) zm_X9_has (zc_X9_has hc25) (by decide +kernel) dX5_noneComesIn_9 rfl (by decide) (Nat.le_of_ble_eq_true rfl) rfl rfl ?_
        have hj34 : zf_X5_noneComesIn_j34 (fun x0 => zf_X5_noneComesIn_L2 a1 a2 M K40 n2 x0) v24 = some r → ZW E 34 [(0, .ref (zad E 71)), (1, .int a1), (2, .int a2), (3, .int v24)] [] M := by
          intro  hf
          unfold zf_X5_noneComesIn_j34 at hf
          refine zw_iinc hC (v := (1 : Int32)) (lv' := [(3, .int (v24 + (1 : Int32))), (0, .ref (zad E 71)), (1, .int a1), (2, .int a2)]) dX5_noneComesIn_34 3 rfl (by decide) hN (by decide) rfl ?_
          refine zw_goto hC 2 dX5_noneComesIn_37 (by decide) ?_
          exact zw_sub [1, 2, 3, 0] rfl (ih2 (v24 + (1 : Int32)) hf)
        refine zw_if_eq hC 34 hf dX5_noneComesIn_12 (by decide) (fun hf => ?_) (fun hf => ?_)
        · exact hj34 hf
        · refine zw_aload_n hC dX5_noneComesIn_15 rfl 0 rfl ?_
          refine zw_getr (k' := 73) hC zF_Resting_gladIn zk_71 rfl dX5_noneComesIn_16 kw_2_137 ?_
          refine zw_iload_n hC dX5_noneComesIn_19 rfl 2 rfl ?_
          refine zw_iconst hC (v := (1 : Int32)) dX5_noneComesIn_20 (by decide) ?_
          refine zw_iload_n hC dX5_noneComesIn_21 rfl 3 rfl ?_
          refine zw_ishl hC dX5_noneComesIn_22 ?_
          refine zw_ixor hC dX5_noneComesIn_23 ?_
          refine zw_iald hC hf zk_73 dX5_noneComesIn_24 (fun v26 hf => ?_)
          refine zw_iload_n hC dX5_noneComesIn_25 rfl 3 rfl ?_
          obtain ⟨v27, hc27, hf⟩ := zb1_some hf
          refine zw_cN hC [.int v26, .int v24] [] (st1 := [.int v27]) zm_X9_has (zc_X9_has hc27) (by decide +kernel) dX5_noneComesIn_26 rfl (by decide) (Nat.le_of_ble_eq_true rfl) rfl rfl ?_
          refine zw_if_eq hC 34 hf dX5_noneComesIn_29 (by decide) (fun hf => ?_) (fun hf => ?_)
          · exact hj34 hf
          · refine zw_iconst hC (v := (0 : Int32)) dX5_noneComesIn_32 (by decide) ?_
            have h1 := Option.some.inj hf
            subst h1
            exact zw_zret hC hR rfl dX5_noneComesIn_33
  refine zw_sub [1, 2, 3, 0] rfl (hL2 _ ?_ n (0 : Int32) hf)
  · intro  hf
    refine zw_iconst hC (v := (1 : Int32)) dX5_noneComesIn_40 (by decide) ?_
    have h1 := Option.some.inj hf
    subst h1
    exact zw_zret hC hR rfl dX5_noneComesIn_41
/-! Page.clear()V -/
theorem dX2_clear_0 : decode cX2_clear 0 = .ok (.aload_n 0, 1) := by decide +kernel
theorem dX2_clear_1 : decode cX2_clear 1 = .ok (.iconst 0, 1) := by decide +kernel
theorem dX2_clear_2 : decode cX2_clear 2 = .ok (.putfield 15, 3) := by decide +kernel
theorem dX2_clear_5 : decode cX2_clear 5 = .ok (.return_, 1) := by decide +kernel
theorem zm_X2_clear : ZMv "ClassOfMany$Page" yX2_clear cX2_clear 1 (none) 0 := ⟨kw_5_162, kw_5_160, kw_5_161, kw_1_9, by decide +kernel, by decide⟩
def zf_X2_clear (M : ZMem) : Option (ZMem) :=
  zput M 75 1 (0 : Int32) (fun M22 => some M22)
set_option maxHeartbeats 4000000 in
set_option maxRecDepth 100000 in
theorem zc_X2_clear {l : Launch} {D : va_G} {ad : Nat → Nat} {cA : Nat → ClassId} {M : ZMem} {M' : ZMem} (hf : zf_X2_clear M = some M') : ZCt l D ad cA yX2_clear cX2_clear 1 (none) 1 [.ref (ad 75)] M none M' := by
  refine zct (by decide +kernel) (Nat.le_of_ble_eq_true rfl) (lv := [(0, .ref (ad 75))]) rfl (fun E hl hD had hcA hN hC hR => ?_)
  subst hl; subst hD; subst had; subst hcA
  unfold zf_X2_clear at hf
  refine zw_aload_n hC dX2_clear_0 rfl 0 rfl ?_
  refine zw_iconst hC (v := (0 : Int32)) dX2_clear_1 (by decide) ?_
  refine zw_puti hC hf zF_Page_size zk_75 dX2_clear_2 kw_2_161 (fun M22 hf => ?_)
  have h1 := Option.some.inj hf
  subst h1
  exact zw_vret hC hR dX2_clear_5
/-! Page.putByte(I)V -/
theorem dX2_putByte_0 : decode cX2_putByte 0 = .ok (.aload_n 0, 1) := by decide +kernel
theorem dX2_putByte_1 : decode cX2_putByte 1 = .ok (.getfield 15, 3) := by decide +kernel
theorem dX2_putByte_4 : decode cX2_putByte 4 = .ok (.sipush 1024, 3) := by decide +kernel
theorem dX2_putByte_7 : decode cX2_putByte 7 = .ok (.if_icmp .ge 24, 3) := by decide +kernel
theorem dX2_putByte_10 : decode cX2_putByte 10 = .ok (.aload_n 0, 1) := by decide +kernel
theorem dX2_putByte_11 : decode cX2_putByte 11 = .ok (.getfield 9, 3) := by decide +kernel
theorem dX2_putByte_14 : decode cX2_putByte 14 = .ok (.aload_n 0, 1) := by decide +kernel
theorem dX2_putByte_15 : decode cX2_putByte 15 = .ok (.getfield 15, 3) := by decide +kernel
theorem dX2_putByte_18 : decode cX2_putByte 18 = .ok (.iload_n 1, 1) := by decide +kernel
theorem dX2_putByte_19 : decode cX2_putByte 19 = .ok (.i2b, 1) := by decide +kernel
theorem dX2_putByte_20 : decode cX2_putByte 20 = .ok (.bastore, 1) := by decide +kernel
theorem dX2_putByte_21 : decode cX2_putByte 21 = .ok (.aload_n 0, 1) := by decide +kernel
theorem dX2_putByte_22 : decode cX2_putByte 22 = .ok (.dup, 1) := by decide +kernel
theorem dX2_putByte_23 : decode cX2_putByte 23 = .ok (.getfield 15, 3) := by decide +kernel
theorem dX2_putByte_26 : decode cX2_putByte 26 = .ok (.iconst 1, 1) := by decide +kernel
theorem dX2_putByte_27 : decode cX2_putByte 27 = .ok (.iadd, 1) := by decide +kernel
theorem dX2_putByte_28 : decode cX2_putByte 28 = .ok (.putfield 15, 3) := by decide +kernel
theorem dX2_putByte_31 : decode cX2_putByte 31 = .ok (.return_, 1) := by decide +kernel
theorem zm_X2_putByte : ZMv "ClassOfMany$Page" yX2_putByte cX2_putByte 2 (none) 1 := ⟨kw_5_177, kw_5_176, kp_53, kw_1_9, by decide +kernel, by decide⟩
def zf_X2_putByte_j31 (M23 : ZMem) : Option (ZMem) :=
  some M23
def zf_X2_putByte (a1 : Int32) (M : ZMem) : Option (ZMem) :=
  (if (1024 : Int32) ≤ (M 75 1) then (zf_X2_putByte_j31 M) else zst M 76 1024 (M 75 1) (vp_nar .byte (a1.toInt8.toInt32)) (fun M24 => zput M24 75 1 ((M24 75 1) + (1 : Int32)) (fun M25 => (zf_X2_putByte_j31 M25))))
set_option maxHeartbeats 4000000 in
set_option maxRecDepth 100000 in
theorem zc_X2_putByte {l : Launch} {D : va_G} {ad : Nat → Nat} {cA : Nat → ClassId} {a1 : Int32} {M : ZMem} {M' : ZMem} (hf : zf_X2_putByte a1 M = some M') : ZCt l D ad cA yX2_putByte cX2_putByte 2 (none) 1 [.ref (ad 75), .int a1] M none M' := by
  refine zct (by decide +kernel) (Nat.le_of_ble_eq_true rfl) (lv := [(0, .ref (ad 75)), (1, .int a1)]) rfl (fun E hl hD had hcA hN hC hR => ?_)
  subst hl; subst hD; subst had; subst hcA
  unfold zf_X2_putByte at hf
  refine zw_aload_n hC dX2_putByte_0 rfl 0 rfl ?_
  refine zw_geti hC zF_Page_size zk_75 dX2_putByte_1 kw_2_161 ?_
  refine zw_sipush hC (v := (1024 : Int32)) dX2_putByte_4 (by decide) ?_
  have hj31 : ∀ (M23 : ZMem), zf_X2_putByte_j31 M23 = some M' → ZW E 31 [] [] M23 := by
    intro M23 hf
    unfold zf_X2_putByte_j31 at hf
    have h1 := Option.some.inj hf
    subst h1
    exact zw_vret hC hR dX2_putByte_31
  refine zw_icmp_ge hC 31 hf dX2_putByte_7 (by decide) (fun hf => ?_) (fun hf => ?_)
  · exact zw_sub [] rfl (hj31 M hf)
  · refine zw_aload_n hC dX2_putByte_10 rfl 0 rfl ?_
    refine zw_getr (k' := 76) hC zF_Page_row zk_75 rfl dX2_putByte_11 kw_2_160 ?_
    refine zw_aload_n hC dX2_putByte_14 rfl 0 rfl ?_
    refine zw_geti hC zF_Page_size zk_75 dX2_putByte_15 kw_2_161 ?_
    refine zw_iload_n hC dX2_putByte_18 rfl 1 rfl ?_
    refine zw_i2b hC dX2_putByte_19 ?_
    refine zw_bast hC hf zk_76 dX2_putByte_20 (fun M24 hf => ?_)
    refine zw_aload_n hC dX2_putByte_21 rfl 0 rfl ?_
    refine zw_dup hC dX2_putByte_22 rfl ?_
    refine zw_geti hC zF_Page_size zk_75 dX2_putByte_23 kw_2_161 ?_
    refine zw_iconst hC (v := (1 : Int32)) dX2_putByte_26 (by decide) ?_
    refine zw_iadd hC dX2_putByte_27 ?_
    refine zw_puti hC hf zF_Page_size zk_75 dX2_putByte_28 kw_2_161 (fun M25 hf => ?_)
    exact zw_sub [] rfl (hj31 M25 hf)
/-! Page.putNumber(I)V -/
theorem dX2_putNumber_0 : decode cX2_putNumber 0 = .ok (.aload_n 0, 1) := by decide +kernel
theorem dX2_putNumber_1 : decode cX2_putNumber 1 = .ok (.bipush 32, 2) := by decide +kernel
theorem dX2_putNumber_3 : decode cX2_putNumber 3 = .ok (.invokevirtual 39, 3) := by decide +kernel
theorem dX2_putNumber_6 : decode cX2_putNumber 6 = .ok (.sipush 10000, 3) := by decide +kernel
theorem dX2_putNumber_9 : decode cX2_putNumber 9 = .ok (.istore_n 2, 1) := by decide +kernel
theorem dX2_putNumber_10 : decode cX2_putNumber 10 = .ok (.iload_n 2, 1) := by decide +kernel
theorem dX2_putNumber_11 : decode cX2_putNumber 11 = .ok (.ifCond .le 34, 3) := by decide +kernel
theorem dX2_putNumber_14 : decode cX2_putNumber 14 = .ok (.iload_n 1, 1) := by decide +kernel
theorem dX2_putNumber_15 : decode cX2_putNumber 15 = .ok (.iload_n 2, 1) := by decide +kernel
theorem dX2_putNumber_16 : decode cX2_putNumber 16 = .ok (.if_icmp .ge 8, 3) := by decide +kernel
theorem dX2_putNumber_19 : decode cX2_putNumber 19 = .ok (.iload_n 2, 1) := by decide +kernel
theorem dX2_putNumber_20 : decode cX2_putNumber 20 = .ok (.iconst 1, 1) := by decide +kernel
theorem dX2_putNumber_21 : decode cX2_putNumber 21 = .ok (.if_icmp .ne 16, 3) := by decide +kernel
theorem dX2_putNumber_24 : decode cX2_putNumber 24 = .ok (.aload_n 0, 1) := by decide +kernel
theorem dX2_putNumber_25 : decode cX2_putNumber 25 = .ok (.bipush 48, 2) := by decide +kernel
theorem dX2_putNumber_27 : decode cX2_putNumber 27 = .ok (.iload_n 1, 1) := by decide +kernel
theorem dX2_putNumber_28 : decode cX2_putNumber 28 = .ok (.iload_n 2, 1) := by decide +kernel
theorem dX2_putNumber_29 : decode cX2_putNumber 29 = .ok (.idiv, 1) := by decide +kernel
theorem dX2_putNumber_30 : decode cX2_putNumber 30 = .ok (.bipush 10, 2) := by decide +kernel
theorem dX2_putNumber_32 : decode cX2_putNumber 32 = .ok (.irem, 1) := by decide +kernel
theorem dX2_putNumber_33 : decode cX2_putNumber 33 = .ok (.iadd, 1) := by decide +kernel
theorem dX2_putNumber_34 : decode cX2_putNumber 34 = .ok (.invokevirtual 39, 3) := by decide +kernel
theorem dX2_putNumber_37 : decode cX2_putNumber 37 = .ok (.iload_n 2, 1) := by decide +kernel
theorem dX2_putNumber_38 : decode cX2_putNumber 38 = .ok (.bipush 10, 2) := by decide +kernel
theorem dX2_putNumber_40 : decode cX2_putNumber 40 = .ok (.idiv, 1) := by decide +kernel
theorem dX2_putNumber_41 : decode cX2_putNumber 41 = .ok (.istore_n 2, 1) := by decide +kernel
theorem dX2_putNumber_42 : decode cX2_putNumber 42 = .ok (.goto (-32), 3) := by decide +kernel
theorem dX2_putNumber_45 : decode cX2_putNumber 45 = .ok (.return_, 1) := by decide +kernel
theorem zm_X2_putNumber : ZMv "ClassOfMany$Page" yX2_putNumber cX2_putNumber 3 (none) 1 := ⟨kw_5_181, kw_5_179, kw_5_180, kw_1_9, by decide +kernel, by decide⟩
def zf_X2_putNumber_j37 (R10 : Int32 → ZMem → Option (ZMem)) (v24 : Int32) (M27 : ZMem) : Option (ZMem) :=
  (R10 (v24 / (10 : Int32)) M27)
def zf_X2_putNumber_j24 (a1 : Int32) (v24 : Int32) (M25 : ZMem) (R10 : Int32 → ZMem → Option (ZMem)) : Option (ZMem) :=
  zdiv a1 v24 (fun v28 => zb1 (zf_X2_putByte ((48 : Int32) + (v28 - v28 / (10 : Int32) * (10 : Int32))) M25) (fun M29 => (zf_X2_putNumber_j37 R10 v24 M29)))
def zf_X2_putNumber_L10 (a1 : Int32) (K45 : ZMem → Option (ZMem)) : Nat → Int32 → ZMem → Option (ZMem)
  | 0, _, _ => none
  | n10 + 1, v24, M25 =>
  (if v24 ≤ 0 then (K45 M25) else (if v24 ≤ a1 then (zf_X2_putNumber_j24 a1 v24 M25 (fun x0 x1 => zf_X2_putNumber_L10 a1 K45 n10 x0 x1)) else (if v24 = (1 : Int32) then (zf_X2_putNumber_j24 a1 v24 M25 (fun x0 x1 => zf_X2_putNumber_L10 a1 K45 n10 x0 x1)) else (zf_X2_putNumber_j37 (fun x0 x1 => zf_X2_putNumber_L10 a1 K45 n10 x0 x1) v24 M25))))
def zf_X2_putNumber (n : Nat) (a1 : Int32) (M : ZMem) : Option (ZMem) :=
  zb1 (zf_X2_putByte (32 : Int32) M) (fun M23 => (zf_X2_putNumber_L10 a1 (fun M30 => some M30) n (10000 : Int32) M23))
set_option maxHeartbeats 4000000 in
set_option maxRecDepth 100000 in
theorem zc_X2_putNumber {l : Launch} {D : va_G} {ad : Nat → Nat} {cA : Nat → ClassId} {n : Nat} {a1 : Int32} {M : ZMem} {M' : ZMem} (hf : zf_X2_putNumber n a1 M = some M') : ZCt l D ad cA yX2_putNumber cX2_putNumber 3 (none) 2 [.ref (ad 75), .int a1] M none M' := by
  refine zct (by decide +kernel) (Nat.le_of_ble_eq_true rfl) (lv := [(0, .ref (ad 75)), (1, .int a1)]) rfl (fun E hl hD had hcA hN hC hR => ?_)
  subst hl; subst hD; subst had; subst hcA
  unfold zf_X2_putNumber at hf
  refine zw_aload_n hC dX2_putNumber_0 rfl 0 rfl ?_
  refine zw_bipush hC (v := (32 : Int32)) dX2_putNumber_1 (by decide) ?_
  obtain ⟨M23, hcM23, hf⟩ := zb1_some hf
  refine zw_cV hC [.int (32 : Int32)] [] (st1 := []) zm_X2_putByte (zc_X2_putByte hcM23) zk_75 rfl kw_5_174 dX2_putNumber_3 rfl (by decide) (Nat.le_of_ble_eq_true rfl) rfl rfl ?_
  refine zw_sipush hC (v := (10000 : Int32)) dX2_putNumber_6 (by decide) ?_
  refine zw_istore_n hC (lv' := [(2, .int (10000 : Int32)), (0, .ref (zad E 75)), (1, .int a1)]) dX2_putNumber_9 rfl hN (by decide) rfl ?_
  have hL10 : ∀ (K45 : ZMem → Option (ZMem)), (∀ (M26 : ZMem), K45 M26 = some M' → ZW E 45 [] [] M26) → ∀ (n10 : Nat), ∀ (v24 : Int32), ∀ (M25 : ZMem), zf_X2_putNumber_L10 a1 K45 n10 v24 M25 = some M' → ZW E 10 [(0, .ref (zad E 75)), (1, .int a1), (2, .int v24)] [] M25 := by
    intro K45 hK45
    intro n10
    induction n10 with
    | zero => intro v24 M25 hf; rw [zf_X2_putNumber_L10] at hf; cases hf
    | succ n10 ih10 =>
      intro v24 M25 hf
      rw [zf_X2_putNumber_L10] at hf
      refine zw_iload_n hC dX2_putNumber_10 rfl 2 rfl ?_
      refine zw_if_le hC 45 hf dX2_putNumber_11 (by decide) (fun hf => ?_) (fun hf => ?_)
      · exact zw_sub [] rfl (hK45 M25 hf)
      · refine zw_iload_n hC dX2_putNumber_14 rfl 1 rfl ?_
        refine zw_iload_n hC dX2_putNumber_15 rfl 2 rfl ?_
        have hj37 : ∀ (M27 : ZMem), zf_X2_putNumber_j37 (fun x0 x1 => zf_X2_putNumber_L10 a1 K45 n10 x0 x1) v24 M27 = some M' → ZW E 37 [(0, .ref (zad E 75)), (1, .int a1), (2, .int v24)] [] M27 := by
          intro M27 hf
          unfold zf_X2_putNumber_j37 at hf
          refine zw_iload_n hC dX2_putNumber_37 rfl 2 rfl ?_
          refine zw_bipush hC (v := (10 : Int32)) dX2_putNumber_38 (by decide) ?_
          refine zw_idivc hC dX2_putNumber_40 (by decide) ?_
          refine zw_istore_n hC (lv' := [(2, .int (v24 / (10 : Int32))), (0, .ref (zad E 75)), (1, .int a1)]) dX2_putNumber_41 rfl hN (by decide) rfl ?_
          refine zw_goto hC 10 dX2_putNumber_42 (by decide) ?_
          exact zw_sub [1, 2, 0] rfl (ih10 (v24 / (10 : Int32)) M27 hf)
        have hj24 : zf_X2_putNumber_j24 a1 v24 M25 (fun x0 x1 => zf_X2_putNumber_L10 a1 K45 n10 x0 x1) = some M' → ZW E 24 [(0, .ref (zad E 75)), (1, .int a1), (2, .int v24)] [] M25 := by
          intro  hf
          unfold zf_X2_putNumber_j24 at hf
          refine zw_aload_n hC dX2_putNumber_24 rfl 0 rfl ?_
          refine zw_bipush hC (v := (48 : Int32)) dX2_putNumber_25 (by decide) ?_
          refine zw_iload_n hC dX2_putNumber_27 rfl 1 rfl ?_
          refine zw_iload_n hC dX2_putNumber_28 rfl 2 rfl ?_
          refine zw_idiv hC hf dX2_putNumber_29 (fun v28 hf => ?_)
          refine zw_bipush hC (v := (10 : Int32)) dX2_putNumber_30 (by decide) ?_
          refine zw_iremc hC dX2_putNumber_32 (by decide) ?_
          refine zw_iadd hC dX2_putNumber_33 ?_
          obtain ⟨M29, hcM29, hf⟩ := zb1_some hf
          refine zw_cV hC [.int ((48 : Int32) + (v28 - v28 / (10 : Int32) * (10 : Int32)))] [] (st1 := []) zm_X2_putByte (zc_X2_putByte hcM29) zk_75 rfl kw_5_174 dX2_putNumber_34 rfl (by decide) (Nat.le_of_ble_eq_true rfl) rfl rfl ?_
          exact hj37 M29 hf
        refine zw_icmp_ge hC 24 hf dX2_putNumber_16 (by decide) (fun hf => ?_) (fun hf => ?_)
        · exact hj24 hf
        · refine zw_iload_n hC dX2_putNumber_19 rfl 2 rfl ?_
          refine zw_iconst hC (v := (1 : Int32)) dX2_putNumber_20 (by decide) ?_
          refine zw_icmp_ne hC 37 hf dX2_putNumber_21 (by decide) (fun hf => ?_) (fun hf => ?_)
          · exact hj37 M25 hf
          · exact hj24 hf
  refine zw_sub [1, 2, 0] rfl (hL10 _ ?_ n (10000 : Int32) M23 hf)
  · intro M30 hf
    have h1 := Option.some.inj hf
    subst h1
    exact zw_vret hC hR dX2_putNumber_45
/-! Page.answer(I)I -/
theorem dX2_answer_0 : decode cX2_answer 0 = .ok (.iload_n 1, 1) := by decide +kernel
theorem dX2_answer_1 : decode cX2_answer 1 = .ok (.iconst (-1), 1) := by decide +kernel
theorem dX2_answer_2 : decode cX2_answer 2 = .ok (.if_icmp .ne 8, 3) := by decide +kernel
theorem dX2_answer_5 : decode cX2_answer 5 = .ok (.aload_n 0, 1) := by decide +kernel
theorem dX2_answer_6 : decode cX2_answer 6 = .ok (.getfield 15, 3) := by decide +kernel
theorem dX2_answer_9 : decode cX2_answer 9 = .ok (.ireturn, 1) := by decide +kernel
theorem dX2_answer_10 : decode cX2_answer 10 = .ok (.iload_n 1, 1) := by decide +kernel
theorem dX2_answer_11 : decode cX2_answer 11 = .ok (.ifCond .lt 20, 3) := by decide +kernel
theorem dX2_answer_14 : decode cX2_answer 14 = .ok (.iload_n 1, 1) := by decide +kernel
theorem dX2_answer_15 : decode cX2_answer 15 = .ok (.aload_n 0, 1) := by decide +kernel
theorem dX2_answer_16 : decode cX2_answer 16 = .ok (.getfield 15, 3) := by decide +kernel
theorem dX2_answer_19 : decode cX2_answer 19 = .ok (.if_icmp .ge 12, 3) := by decide +kernel
theorem dX2_answer_22 : decode cX2_answer 22 = .ok (.aload_n 0, 1) := by decide +kernel
theorem dX2_answer_23 : decode cX2_answer 23 = .ok (.getfield 9, 3) := by decide +kernel
theorem dX2_answer_26 : decode cX2_answer 26 = .ok (.iload_n 1, 1) := by decide +kernel
theorem dX2_answer_27 : decode cX2_answer 27 = .ok (.baload, 1) := by decide +kernel
theorem dX2_answer_28 : decode cX2_answer 28 = .ok (.goto 5, 3) := by decide +kernel
theorem dX2_answer_31 : decode cX2_answer 31 = .ok (.bipush (-2), 2) := by decide +kernel
theorem dX2_answer_33 : decode cX2_answer 33 = .ok (.ireturn, 1) := by decide +kernel
theorem zm_X2_answer : ZMv "ClassOfMany$Page" yX2_answer cX2_answer 2 (some .int) 1 := ⟨kw_5_202, kw_5_200, kw_5_201, kw_1_9, by decide +kernel, by decide⟩
def zf_X2_answer_j33 (v22 : Int32) : Option (Int32) :=
  some v22
def zf_X2_answer_j31 : Option (Int32) :=
  (zf_X2_answer_j33 (-2 : Int32))
def zf_X2_answer (a1 : Int32) (M : ZMem) : Option (Int32) :=
  (if a1 = (-1 : Int32) then some (M 75 1) else (if a1 < 0 then (zf_X2_answer_j31) else (if (M 75 1) ≤ a1 then (zf_X2_answer_j31) else zrd M 76 1024 a1 (fun v23 => (zf_X2_answer_j33 v23)))))
set_option maxHeartbeats 4000000 in
set_option maxRecDepth 100000 in
theorem zc_X2_answer {l : Launch} {D : va_G} {ad : Nat → Nat} {cA : Nat → ClassId} {a1 : Int32} {M : ZMem} {r : Int32} (hf : zf_X2_answer a1 M = some r) : ZCt l D ad cA yX2_answer cX2_answer 2 (some .int) 1 [.ref (ad 75), .int a1] M (some (.int r)) M := by
  refine zct (by decide +kernel) (Nat.le_of_ble_eq_true rfl) (lv := [(0, .ref (ad 75)), (1, .int a1)]) rfl (fun E hl hD had hcA hN hC hR => ?_)
  subst hl; subst hD; subst had; subst hcA
  unfold zf_X2_answer at hf
  refine zw_iload_n hC dX2_answer_0 rfl 1 rfl ?_
  refine zw_iconst hC (v := (-1 : Int32)) dX2_answer_1 (by decide) ?_
  refine zw_icmp_ne hC 10 hf dX2_answer_2 (by decide) (fun hf => ?_) (fun hf => ?_)
  · refine zw_iload_n hC dX2_answer_10 rfl 1 rfl ?_
    have hj33 : ∀ (v22 : Int32), zf_X2_answer_j33 v22 = some r → ZW E 33 [] [.int v22] M := by
      intro v22 hf
      unfold zf_X2_answer_j33 at hf
      have h1 := Option.some.inj hf
      subst h1
      exact zw_iret hC hR dX2_answer_33
    have hj31 : zf_X2_answer_j31 = some r → ZW E 31 [] [] M := by
      intro  hf
      unfold zf_X2_answer_j31 at hf
      refine zw_bipush hC (v := (-2 : Int32)) dX2_answer_31 (by decide) ?_
      exact hj33 (-2 : Int32) hf
    refine zw_if_lt hC 31 hf dX2_answer_11 (by decide) (fun hf => ?_) (fun hf => ?_)
    · exact zw_sub [] rfl (hj31 hf)
    · refine zw_iload_n hC dX2_answer_14 rfl 1 rfl ?_
      refine zw_aload_n hC dX2_answer_15 rfl 0 rfl ?_
      refine zw_geti hC zF_Page_size zk_75 dX2_answer_16 kw_2_161 ?_
      refine zw_icmp_ge hC 31 hf dX2_answer_19 (by decide) (fun hf => ?_) (fun hf => ?_)
      · exact zw_sub [] rfl (hj31 hf)
      · refine zw_aload_n hC dX2_answer_22 rfl 0 rfl ?_
        refine zw_getr (k' := 76) hC zF_Page_row zk_75 rfl dX2_answer_23 kw_2_160 ?_
        refine zw_iload_n hC dX2_answer_26 rfl 1 rfl ?_
        refine zw_bald hC hf zk_76 dX2_answer_27 (fun v23 hf => ?_)
        refine zw_goto hC 33 dX2_answer_28 (by decide) ?_
        exact zw_sub [] rfl (hj33 v23 hf)
  · refine zw_aload_n hC dX2_answer_5 rfl 0 rfl ?_
    refine zw_geti hC zF_Page_size zk_75 dX2_answer_6 kw_2_161 ?_
    have h1 := Option.some.inj hf
    subst h1
    exact zw_iret hC hR dX2_answer_9
/-! Reader.putFour(I)V -/
theorem dX4_putFour_0 : decode cX4_putFour 0 = .ok (.bipush 24, 2) := by decide +kernel
theorem dX4_putFour_2 : decode cX4_putFour 2 = .ok (.istore_n 2, 1) := by decide +kernel
theorem dX4_putFour_3 : decode cX4_putFour 3 = .ok (.iload_n 2, 1) := by decide +kernel
theorem dX4_putFour_4 : decode cX4_putFour 4 = .ok (.ifCond .lt 45, 3) := by decide +kernel
theorem dX4_putFour_7 : decode cX4_putFour 7 = .ok (.aload_n 0, 1) := by decide +kernel
theorem dX4_putFour_8 : decode cX4_putFour 8 = .ok (.getfield 29, 3) := by decide +kernel
theorem dX4_putFour_11 : decode cX4_putFour 11 = .ok (.sipush 400, 3) := by decide +kernel
theorem dX4_putFour_14 : decode cX4_putFour 14 = .ok (.if_icmp .ge 29, 3) := by decide +kernel
theorem dX4_putFour_17 : decode cX4_putFour 17 = .ok (.aload_n 0, 1) := by decide +kernel
theorem dX4_putFour_18 : decode cX4_putFour 18 = .ok (.getfield 9, 3) := by decide +kernel
theorem dX4_putFour_21 : decode cX4_putFour 21 = .ok (.aload_n 0, 1) := by decide +kernel
theorem dX4_putFour_22 : decode cX4_putFour 22 = .ok (.getfield 29, 3) := by decide +kernel
theorem dX4_putFour_25 : decode cX4_putFour 25 = .ok (.iload_n 1, 1) := by decide +kernel
theorem dX4_putFour_26 : decode cX4_putFour 26 = .ok (.iload_n 2, 1) := by decide +kernel
theorem dX4_putFour_27 : decode cX4_putFour 27 = .ok (.ishr, 1) := by decide +kernel
theorem dX4_putFour_28 : decode cX4_putFour 28 = .ok (.sipush 255, 3) := by decide +kernel
theorem dX4_putFour_31 : decode cX4_putFour 31 = .ok (.iand, 1) := by decide +kernel
theorem dX4_putFour_32 : decode cX4_putFour 32 = .ok (.iastore, 1) := by decide +kernel
theorem dX4_putFour_33 : decode cX4_putFour 33 = .ok (.aload_n 0, 1) := by decide +kernel
theorem dX4_putFour_34 : decode cX4_putFour 34 = .ok (.dup, 1) := by decide +kernel
theorem dX4_putFour_35 : decode cX4_putFour 35 = .ok (.getfield 29, 3) := by decide +kernel
theorem dX4_putFour_38 : decode cX4_putFour 38 = .ok (.iconst 1, 1) := by decide +kernel
theorem dX4_putFour_39 : decode cX4_putFour 39 = .ok (.iadd, 1) := by decide +kernel
theorem dX4_putFour_40 : decode cX4_putFour 40 = .ok (.putfield 29, 3) := by decide +kernel
theorem dX4_putFour_43 : decode cX4_putFour 43 = .ok (.iinc 2 (-8), 3) := by decide +kernel
theorem dX4_putFour_46 : decode cX4_putFour 46 = .ok (.goto (-43), 3) := by decide +kernel
theorem dX4_putFour_49 : decode cX4_putFour 49 = .ok (.return_, 1) := by decide +kernel
theorem zm_X4_putFour : ZMv "ClassOfMany$Reader" yX4_putFour cX4_putFour 3 (none) 1 := ⟨kw_2_203, kw_2_201, kw_2_202, kw_1_5, by decide +kernel, by decide⟩
def zf_X4_putFour_j43 (R3 : Int32 → ZMem → Option (ZMem)) (v23 : Int32) (M26 : ZMem) : Option (ZMem) :=
  (R3 (v23 + (-8 : Int32)) M26)
def zf_X4_putFour_L3 (a1 : Int32) (K49 : ZMem → Option (ZMem)) : Nat → Int32 → ZMem → Option (ZMem)
  | 0, _, _ => none
  | n3 + 1, v23, M24 =>
  (if v23 < 0 then (K49 M24) else (if (400 : Int32) ≤ (M24 42 1) then (zf_X4_putFour_j43 (fun x0 x1 => zf_X4_putFour_L3 a1 K49 n3 x0 x1) v23 M24) else zst M24 43 400 (M24 42 1) ((a1 >>> (v23 &&& 31)) &&& (255 : Int32)) (fun M27 => zput M27 42 1 ((M27 42 1) + (1 : Int32)) (fun M28 => (zf_X4_putFour_j43 (fun x0 x1 => zf_X4_putFour_L3 a1 K49 n3 x0 x1) v23 M28)))))
def zf_X4_putFour (n : Nat) (a1 : Int32) (M : ZMem) : Option (ZMem) :=
  (zf_X4_putFour_L3 a1 (fun M29 => some M29) n (24 : Int32) M)
set_option maxHeartbeats 4000000 in
set_option maxRecDepth 100000 in
theorem zc_X4_putFour {l : Launch} {D : va_G} {ad : Nat → Nat} {cA : Nat → ClassId} {n : Nat} {a1 : Int32} {M : ZMem} {M' : ZMem} (hf : zf_X4_putFour n a1 M = some M') : ZCt l D ad cA yX4_putFour cX4_putFour 3 (none) 1 [.ref (ad 42), .int a1] M none M' := by
  refine zct (by decide +kernel) (Nat.le_of_ble_eq_true rfl) (lv := [(0, .ref (ad 42)), (1, .int a1)]) rfl (fun E hl hD had hcA hN hC hR => ?_)
  subst hl; subst hD; subst had; subst hcA
  unfold zf_X4_putFour at hf
  refine zw_bipush hC (v := (24 : Int32)) dX4_putFour_0 (by decide) ?_
  refine zw_istore_n hC (lv' := [(2, .int (24 : Int32)), (0, .ref (zad E 42)), (1, .int a1)]) dX4_putFour_2 rfl hN (by decide) rfl ?_
  have hL3 : ∀ (K49 : ZMem → Option (ZMem)), (∀ (M25 : ZMem), K49 M25 = some M' → ZW E 49 [] [] M25) → ∀ (n3 : Nat), ∀ (v23 : Int32), ∀ (M24 : ZMem), zf_X4_putFour_L3 a1 K49 n3 v23 M24 = some M' → ZW E 3 [(0, .ref (zad E 42)), (1, .int a1), (2, .int v23)] [] M24 := by
    intro K49 hK49
    intro n3
    induction n3 with
    | zero => intro v23 M24 hf; rw [zf_X4_putFour_L3] at hf; cases hf
    | succ n3 ih3 =>
      intro v23 M24 hf
      rw [zf_X4_putFour_L3] at hf
      refine zw_iload_n hC dX4_putFour_3 rfl 2 rfl ?_
      refine zw_if_lt hC 49 hf dX4_putFour_4 (by decide) (fun hf => ?_) (fun hf => ?_)
      · exact zw_sub [] rfl (hK49 M24 hf)
      · refine zw_aload_n hC dX4_putFour_7 rfl 0 rfl ?_
        refine zw_geti hC zF_Reader_length zk_42 dX4_putFour_8 kw_1_229 ?_
        refine zw_sipush hC (v := (400 : Int32)) dX4_putFour_11 (by decide) ?_
        have hj43 : ∀ (M26 : ZMem), zf_X4_putFour_j43 (fun x0 x1 => zf_X4_putFour_L3 a1 K49 n3 x0 x1) v23 M26 = some M' → ZW E 43 [(0, .ref (zad E 42)), (1, .int a1), (2, .int v23)] [] M26 := by
          intro M26 hf
          unfold zf_X4_putFour_j43 at hf
          refine zw_iinc hC (v := (-8 : Int32)) (lv' := [(2, .int (v23 + (-8 : Int32))), (0, .ref (zad E 42)), (1, .int a1)]) dX4_putFour_43 2 rfl (by decide) hN (by decide) rfl ?_
          refine zw_goto hC 3 dX4_putFour_46 (by decide) ?_
          exact zw_sub [1, 2, 0] rfl (ih3 (v23 + (-8 : Int32)) M26 hf)
        refine zw_icmp_ge hC 43 hf dX4_putFour_14 (by decide) (fun hf => ?_) (fun hf => ?_)
        · exact hj43 M24 hf
        · refine zw_aload_n hC dX4_putFour_17 rfl 0 rfl ?_
          refine zw_getr (k' := 43) hC zF_Reader_tape zk_42 rfl dX4_putFour_18 kw_1_227 ?_
          refine zw_aload_n hC dX4_putFour_21 rfl 0 rfl ?_
          refine zw_geti hC zF_Reader_length zk_42 dX4_putFour_22 kw_1_229 ?_
          refine zw_iload_n hC dX4_putFour_25 rfl 1 rfl ?_
          refine zw_iload_n hC dX4_putFour_26 rfl 2 rfl ?_
          refine zw_ishr hC dX4_putFour_27 ?_
          refine zw_sipush hC (v := (255 : Int32)) dX4_putFour_28 (by decide) ?_
          refine zw_iand hC dX4_putFour_31 ?_
          refine zw_iast hC hf zk_43 dX4_putFour_32 (fun M27 hf => ?_)
          refine zw_aload_n hC dX4_putFour_33 rfl 0 rfl ?_
          refine zw_dup hC dX4_putFour_34 rfl ?_
          refine zw_geti hC zF_Reader_length zk_42 dX4_putFour_35 kw_1_229 ?_
          refine zw_iconst hC (v := (1 : Int32)) dX4_putFour_38 (by decide) ?_
          refine zw_iadd hC dX4_putFour_39 ?_
          refine zw_puti hC hf zF_Reader_length zk_42 dX4_putFour_40 kw_1_229 (fun M28 hf => ?_)
          exact hj43 M28 hf
  refine zw_sub [1, 2, 0] rfl (hL3 _ ?_ n (24 : Int32) M hf)
  · intro M29 hf
    have h1 := Option.some.inj hf
    subst h1
    exact zw_vret hC hR dX4_putFour_49
/-! Reader.skipBlanks()V -/
theorem dX4_skipBlanks_0 : decode cX4_skipBlanks 0 = .ok (.aload_n 0, 1) := by decide +kernel
theorem dX4_skipBlanks_1 : decode cX4_skipBlanks 1 = .ok (.getfield 37, 3) := by decide +kernel
theorem dX4_skipBlanks_4 : decode cX4_skipBlanks 4 = .ok (.aload_n 0, 1) := by decide +kernel
theorem dX4_skipBlanks_5 : decode cX4_skipBlanks 5 = .ok (.getfield 29, 3) := by decide +kernel
theorem dX4_skipBlanks_8 : decode cX4_skipBlanks 8 = .ok (.if_icmp .ge 44, 3) := by decide +kernel
theorem dX4_skipBlanks_11 : decode cX4_skipBlanks 11 = .ok (.aload_n 0, 1) := by decide +kernel
theorem dX4_skipBlanks_12 : decode cX4_skipBlanks 12 = .ok (.getfield 9, 3) := by decide +kernel
theorem dX4_skipBlanks_15 : decode cX4_skipBlanks 15 = .ok (.aload_n 0, 1) := by decide +kernel
theorem dX4_skipBlanks_16 : decode cX4_skipBlanks 16 = .ok (.getfield 37, 3) := by decide +kernel
theorem dX4_skipBlanks_19 : decode cX4_skipBlanks 19 = .ok (.iaload, 1) := by decide +kernel
theorem dX4_skipBlanks_20 : decode cX4_skipBlanks 20 = .ok (.bipush 32, 2) := by decide +kernel
theorem dX4_skipBlanks_22 : decode cX4_skipBlanks 22 = .ok (.if_icmp .eq 17, 3) := by decide +kernel
theorem dX4_skipBlanks_25 : decode cX4_skipBlanks 25 = .ok (.aload_n 0, 1) := by decide +kernel
theorem dX4_skipBlanks_26 : decode cX4_skipBlanks 26 = .ok (.getfield 9, 3) := by decide +kernel
theorem dX4_skipBlanks_29 : decode cX4_skipBlanks 29 = .ok (.aload_n 0, 1) := by decide +kernel
theorem dX4_skipBlanks_30 : decode cX4_skipBlanks 30 = .ok (.getfield 37, 3) := by decide +kernel
theorem dX4_skipBlanks_33 : decode cX4_skipBlanks 33 = .ok (.iaload, 1) := by decide +kernel
theorem dX4_skipBlanks_34 : decode cX4_skipBlanks 34 = .ok (.bipush 10, 2) := by decide +kernel
theorem dX4_skipBlanks_36 : decode cX4_skipBlanks 36 = .ok (.if_icmp .ne 16, 3) := by decide +kernel
theorem dX4_skipBlanks_39 : decode cX4_skipBlanks 39 = .ok (.aload_n 0, 1) := by decide +kernel
theorem dX4_skipBlanks_40 : decode cX4_skipBlanks 40 = .ok (.dup, 1) := by decide +kernel
theorem dX4_skipBlanks_41 : decode cX4_skipBlanks 41 = .ok (.getfield 37, 3) := by decide +kernel
theorem dX4_skipBlanks_44 : decode cX4_skipBlanks 44 = .ok (.iconst 1, 1) := by decide +kernel
theorem dX4_skipBlanks_45 : decode cX4_skipBlanks 45 = .ok (.iadd, 1) := by decide +kernel
theorem dX4_skipBlanks_46 : decode cX4_skipBlanks 46 = .ok (.putfield 37, 3) := by decide +kernel
theorem dX4_skipBlanks_49 : decode cX4_skipBlanks 49 = .ok (.goto (-49), 3) := by decide +kernel
theorem dX4_skipBlanks_52 : decode cX4_skipBlanks 52 = .ok (.return_, 1) := by decide +kernel
theorem zm_X4_skipBlanks : ZMv "ClassOfMany$Reader" yX4_skipBlanks cX4_skipBlanks 1 (none) 0 := ⟨kw_2_230, kw_2_229, kp_0, kw_1_5, by decide +kernel, by decide⟩
def zf_X4_skipBlanks_j39 (M24 : ZMem) (R0 : ZMem → Option (ZMem)) : Option (ZMem) :=
  zput M24 42 2 ((M24 42 2) + (1 : Int32)) (fun M27 => (R0 M27))
def zf_X4_skipBlanks_L0 (K52 : ZMem → Option (ZMem)) : Nat → ZMem → Option (ZMem)
  | 0, _ => none
  | n0 + 1, M24 =>
  (if (M24 42 1) ≤ (M24 42 2) then (K52 M24) else zrd M24 43 400 (M24 42 2) (fun v26 => (if v26 = (32 : Int32) then (zf_X4_skipBlanks_j39 M24 (fun x0 => zf_X4_skipBlanks_L0 K52 n0 x0)) else zrd M24 43 400 (M24 42 2) (fun v28 => (if v28 = (10 : Int32) then (zf_X4_skipBlanks_j39 M24 (fun x0 => zf_X4_skipBlanks_L0 K52 n0 x0)) else (K52 M24))))))
def zf_X4_skipBlanks (n : Nat) (M : ZMem) : Option (ZMem) :=
  (zf_X4_skipBlanks_L0 (fun M29 => some M29) n M)
set_option maxHeartbeats 4000000 in
set_option maxRecDepth 100000 in
theorem zc_X4_skipBlanks {l : Launch} {D : va_G} {ad : Nat → Nat} {cA : Nat → ClassId} {n : Nat} {M : ZMem} {M' : ZMem} (hf : zf_X4_skipBlanks n M = some M') : ZCt l D ad cA yX4_skipBlanks cX4_skipBlanks 1 (none) 1 [.ref (ad 42)] M none M' := by
  refine zct (by decide +kernel) (Nat.le_of_ble_eq_true rfl) (lv := [(0, .ref (ad 42))]) rfl (fun E hl hD had hcA hN hC hR => ?_)
  subst hl; subst hD; subst had; subst hcA
  unfold zf_X4_skipBlanks at hf
  have hL0 : ∀ (K52 : ZMem → Option (ZMem)), (∀ (M25 : ZMem), K52 M25 = some M' → ZW E 52 [] [] M25) → ∀ (n0 : Nat), ∀ (M24 : ZMem), zf_X4_skipBlanks_L0 K52 n0 M24 = some M' → ZW E 0 [(0, .ref (zad E 42))] [] M24 := by
    intro K52 hK52
    intro n0
    induction n0 with
    | zero => intro M24 hf; rw [zf_X4_skipBlanks_L0] at hf; cases hf
    | succ n0 ih0 =>
      intro M24 hf
      rw [zf_X4_skipBlanks_L0] at hf
      refine zw_aload_n hC dX4_skipBlanks_0 rfl 0 rfl ?_
      refine zw_geti hC zF_Reader_at zk_42 dX4_skipBlanks_1 kw_1_230 ?_
      refine zw_aload_n hC dX4_skipBlanks_4 rfl 0 rfl ?_
      refine zw_geti hC zF_Reader_length zk_42 dX4_skipBlanks_5 kw_1_229 ?_
      refine zw_icmp_ge hC 52 hf dX4_skipBlanks_8 (by decide) (fun hf => ?_) (fun hf => ?_)
      · exact zw_sub [] rfl (hK52 M24 hf)
      · refine zw_aload_n hC dX4_skipBlanks_11 rfl 0 rfl ?_
        refine zw_getr (k' := 43) hC zF_Reader_tape zk_42 rfl dX4_skipBlanks_12 kw_1_227 ?_
        refine zw_aload_n hC dX4_skipBlanks_15 rfl 0 rfl ?_
        refine zw_geti hC zF_Reader_at zk_42 dX4_skipBlanks_16 kw_1_230 ?_
        refine zw_iald hC hf zk_43 dX4_skipBlanks_19 (fun v26 hf => ?_)
        refine zw_bipush hC (v := (32 : Int32)) dX4_skipBlanks_20 (by decide) ?_
        have hj39 : zf_X4_skipBlanks_j39 M24 (fun x0 => zf_X4_skipBlanks_L0 K52 n0 x0) = some M' → ZW E 39 [(0, .ref (zad E 42))] [] M24 := by
          intro  hf
          unfold zf_X4_skipBlanks_j39 at hf
          refine zw_aload_n hC dX4_skipBlanks_39 rfl 0 rfl ?_
          refine zw_dup hC dX4_skipBlanks_40 rfl ?_
          refine zw_geti hC zF_Reader_at zk_42 dX4_skipBlanks_41 kw_1_230 ?_
          refine zw_iconst hC (v := (1 : Int32)) dX4_skipBlanks_44 (by decide) ?_
          refine zw_iadd hC dX4_skipBlanks_45 ?_
          refine zw_puti hC hf zF_Reader_at zk_42 dX4_skipBlanks_46 kw_1_230 (fun M27 hf => ?_)
          refine zw_goto hC 0 dX4_skipBlanks_49 (by decide) ?_
          exact ih0 M27 hf
        refine zw_icmp_eq hC 39 hf dX4_skipBlanks_22 (by decide) (fun hf => ?_) (fun hf => ?_)
        · exact hj39 hf
        · refine zw_aload_n hC dX4_skipBlanks_25 rfl 0 rfl ?_
          refine zw_getr (k' := 43) hC zF_Reader_tape zk_42 rfl dX4_skipBlanks_26 kw_1_227 ?_
          refine zw_aload_n hC dX4_skipBlanks_29 rfl 0 rfl ?_
          refine zw_geti hC zF_Reader_at zk_42 dX4_skipBlanks_30 kw_1_230 ?_
          refine zw_iald hC hf zk_43 dX4_skipBlanks_33 (fun v28 hf => ?_)
          refine zw_bipush hC (v := (10 : Int32)) dX4_skipBlanks_34 (by decide) ?_
          refine zw_icmp_ne hC 52 hf dX4_skipBlanks_36 (by decide) (fun hf => ?_) (fun hf => ?_)
          · exact zw_sub [] rfl (hK52 M24 hf)
          · exact hj39 hf
  refine hL0 _ ?_ n M hf
  · intro M29 hf
    have h1 := Option.some.inj hf
    subst h1
    exact zw_vret hC hR dX4_skipBlanks_52
/-! Reader.isRight()Z -/
theorem dX4_isRight_0 : decode cX4_isRight 0 = .ok (.aload_n 0, 1) := by decide +kernel
theorem dX4_isRight_1 : decode cX4_isRight 1 = .ok (.getfield 40, 3) := by decide +kernel
theorem dX4_isRight_4 : decode cX4_isRight 4 = .ok (.iconst (-1), 1) := by decide +kernel
theorem dX4_isRight_5 : decode cX4_isRight 5 = .ok (.if_icmp .ne 7, 3) := by decide +kernel
theorem dX4_isRight_8 : decode cX4_isRight 8 = .ok (.iconst 1, 1) := by decide +kernel
theorem dX4_isRight_9 : decode cX4_isRight 9 = .ok (.goto 4, 3) := by decide +kernel
theorem dX4_isRight_12 : decode cX4_isRight 12 = .ok (.iconst 0, 1) := by decide +kernel
theorem dX4_isRight_13 : decode cX4_isRight 13 = .ok (.ireturn, 1) := by decide +kernel
theorem zm_X4_isRight : ZMv "ClassOfMany$Reader" yX4_isRight cX4_isRight 1 (some .boolean) 0 := ⟨kw_2_234, kw_2_233, kp_1, kw_1_5, by decide +kernel, by decide⟩
def zf_X4_isRight_j13 (v21 : Int32) : Option (Int32) :=
  zbz v21 (some v21)
def zf_X4_isRight (M : ZMem) : Option (Int32) :=
  (if (M 42 4) = (-1 : Int32) then (zf_X4_isRight_j13 (1 : Int32)) else (zf_X4_isRight_j13 (0 : Int32)))
set_option maxHeartbeats 4000000 in
set_option maxRecDepth 100000 in
theorem zc_X4_isRight {l : Launch} {D : va_G} {ad : Nat → Nat} {cA : Nat → ClassId} {M : ZMem} {r : Int32} (hf : zf_X4_isRight M = some r) : ZCt l D ad cA yX4_isRight cX4_isRight 1 (some .boolean) 1 [.ref (ad 42)] M (some (.int r)) M := by
  refine zct (by decide +kernel) (Nat.le_of_ble_eq_true rfl) (lv := [(0, .ref (ad 42))]) rfl (fun E hl hD had hcA hN hC hR => ?_)
  subst hl; subst hD; subst had; subst hcA
  unfold zf_X4_isRight at hf
  refine zw_aload_n hC dX4_isRight_0 rfl 0 rfl ?_
  refine zw_geti hC zF_Reader_fault zk_42 dX4_isRight_1 kw_1_232 ?_
  refine zw_iconst hC (v := (-1 : Int32)) dX4_isRight_4 (by decide) ?_
  have hj13 : ∀ (v21 : Int32), zf_X4_isRight_j13 v21 = some r → ZW E 13 [] [.int v21] M := by
    intro v21 hf
    unfold zf_X4_isRight_j13 at hf
    obtain ⟨hz, hf⟩ := zbz_some hf
    have h1 := Option.some.inj hf
    subst h1
    exact zw_zret hC hR hz dX4_isRight_13
  refine zw_icmp_ne hC 12 hf dX4_isRight_5 (by decide) (fun hf => ?_) (fun hf => ?_)
  · refine zw_iconst hC (v := (0 : Int32)) dX4_isRight_12 (by decide) ?_
    exact zw_sub [] rfl (hj13 (0 : Int32) hf)
  · refine zw_iconst hC (v := (1 : Int32)) dX4_isRight_8 (by decide) ?_
    refine zw_goto hC 13 dX4_isRight_9 (by decide) ?_
    exact zw_sub [] rfl (hj13 (1 : Int32) hf)
/-! Reader.isLetterAt(I)Z -/
theorem dX4_isLetterAt_0 : decode cX4_isLetterAt 0 = .ok (.iload_n 1, 1) := by decide +kernel
theorem dX4_isLetterAt_1 : decode cX4_isLetterAt 1 = .ok (.ifCond .lt 37, 3) := by decide +kernel
theorem dX4_isLetterAt_4 : decode cX4_isLetterAt 4 = .ok (.iload_n 1, 1) := by decide +kernel
theorem dX4_isLetterAt_5 : decode cX4_isLetterAt 5 = .ok (.aload_n 0, 1) := by decide +kernel
theorem dX4_isLetterAt_6 : decode cX4_isLetterAt 6 = .ok (.getfield 29, 3) := by decide +kernel
theorem dX4_isLetterAt_9 : decode cX4_isLetterAt 9 = .ok (.if_icmp .ge 29, 3) := by decide +kernel
theorem dX4_isLetterAt_12 : decode cX4_isLetterAt 12 = .ok (.aload_n 0, 1) := by decide +kernel
theorem dX4_isLetterAt_13 : decode cX4_isLetterAt 13 = .ok (.getfield 9, 3) := by decide +kernel
theorem dX4_isLetterAt_16 : decode cX4_isLetterAt 16 = .ok (.iload_n 1, 1) := by decide +kernel
theorem dX4_isLetterAt_17 : decode cX4_isLetterAt 17 = .ok (.iaload, 1) := by decide +kernel
theorem dX4_isLetterAt_18 : decode cX4_isLetterAt 18 = .ok (.bipush 97, 2) := by decide +kernel
theorem dX4_isLetterAt_20 : decode cX4_isLetterAt 20 = .ok (.if_icmp .lt 18, 3) := by decide +kernel
theorem dX4_isLetterAt_23 : decode cX4_isLetterAt 23 = .ok (.aload_n 0, 1) := by decide +kernel
theorem dX4_isLetterAt_24 : decode cX4_isLetterAt 24 = .ok (.getfield 9, 3) := by decide +kernel
theorem dX4_isLetterAt_27 : decode cX4_isLetterAt 27 = .ok (.iload_n 1, 1) := by decide +kernel
theorem dX4_isLetterAt_28 : decode cX4_isLetterAt 28 = .ok (.iaload, 1) := by decide +kernel
theorem dX4_isLetterAt_29 : decode cX4_isLetterAt 29 = .ok (.bipush 122, 2) := by decide +kernel
theorem dX4_isLetterAt_31 : decode cX4_isLetterAt 31 = .ok (.if_icmp .gt 7, 3) := by decide +kernel
theorem dX4_isLetterAt_34 : decode cX4_isLetterAt 34 = .ok (.iconst 1, 1) := by decide +kernel
theorem dX4_isLetterAt_35 : decode cX4_isLetterAt 35 = .ok (.goto 4, 3) := by decide +kernel
theorem dX4_isLetterAt_38 : decode cX4_isLetterAt 38 = .ok (.iconst 0, 1) := by decide +kernel
theorem dX4_isLetterAt_39 : decode cX4_isLetterAt 39 = .ok (.ireturn, 1) := by decide +kernel
theorem zm_X4_isLetterAt : ZMv "ClassOfMany$Reader" yX4_isLetterAt cX4_isLetterAt 2 (some .boolean) 1 := ⟨kw_3_10, kw_3_9, kp_5, kw_1_5, by decide +kernel, by decide⟩
def zf_X4_isLetterAt_j39 (v23 : Int32) : Option (Int32) :=
  zbz v23 (some v23)
def zf_X4_isLetterAt_j38 : Option (Int32) :=
  (zf_X4_isLetterAt_j39 (0 : Int32))
def zf_X4_isLetterAt (a1 : Int32) (M : ZMem) : Option (Int32) :=
  (if a1 < 0 then (zf_X4_isLetterAt_j38) else (if (M 42 1) ≤ a1 then (zf_X4_isLetterAt_j38) else zrd M 43 400 a1 (fun v24 => (if v24 < (97 : Int32) then (zf_X4_isLetterAt_j38) else zrd M 43 400 a1 (fun v25 => (if (122 : Int32) < v25 then (zf_X4_isLetterAt_j38) else (zf_X4_isLetterAt_j39 (1 : Int32))))))))
set_option maxHeartbeats 4000000 in
set_option maxRecDepth 100000 in
theorem zc_X4_isLetterAt {l : Launch} {D : va_G} {ad : Nat → Nat} {cA : Nat → ClassId} {a1 : Int32} {M : ZMem} {r : Int32} (hf : zf_X4_isLetterAt a1 M = some r) : ZCt l D ad cA yX4_isLetterAt cX4_isLetterAt 2 (some .boolean) 1 [.ref (ad 42), .int a1] M (some (.int r)) M := by
  refine zct (by decide +kernel) (Nat.le_of_ble_eq_true rfl) (lv := [(0, .ref (ad 42)), (1, .int a1)]) rfl (fun E hl hD had hcA hN hC hR => ?_)
  subst hl; subst hD; subst had; subst hcA
  unfold zf_X4_isLetterAt at hf
  refine zw_iload_n hC dX4_isLetterAt_0 rfl 1 rfl ?_
  have hj39 : ∀ (v23 : Int32), zf_X4_isLetterAt_j39 v23 = some r → ZW E 39 [] [.int v23] M := by
    intro v23 hf
    unfold zf_X4_isLetterAt_j39 at hf
    obtain ⟨hz, hf⟩ := zbz_some hf
    have h1 := Option.some.inj hf
    subst h1
    exact zw_zret hC hR hz dX4_isLetterAt_39
  have hj38 : zf_X4_isLetterAt_j38 = some r → ZW E 38 [] [] M := by
    intro  hf
    unfold zf_X4_isLetterAt_j38 at hf
    refine zw_iconst hC (v := (0 : Int32)) dX4_isLetterAt_38 (by decide) ?_
    exact hj39 (0 : Int32) hf
  refine zw_if_lt hC 38 hf dX4_isLetterAt_1 (by decide) (fun hf => ?_) (fun hf => ?_)
  · exact zw_sub [] rfl (hj38 hf)
  · refine zw_iload_n hC dX4_isLetterAt_4 rfl 1 rfl ?_
    refine zw_aload_n hC dX4_isLetterAt_5 rfl 0 rfl ?_
    refine zw_geti hC zF_Reader_length zk_42 dX4_isLetterAt_6 kw_1_229 ?_
    refine zw_icmp_ge hC 38 hf dX4_isLetterAt_9 (by decide) (fun hf => ?_) (fun hf => ?_)
    · exact zw_sub [] rfl (hj38 hf)
    · refine zw_aload_n hC dX4_isLetterAt_12 rfl 0 rfl ?_
      refine zw_getr (k' := 43) hC zF_Reader_tape zk_42 rfl dX4_isLetterAt_13 kw_1_227 ?_
      refine zw_iload_n hC dX4_isLetterAt_16 rfl 1 rfl ?_
      refine zw_iald hC hf zk_43 dX4_isLetterAt_17 (fun v24 hf => ?_)
      refine zw_bipush hC (v := (97 : Int32)) dX4_isLetterAt_18 (by decide) ?_
      refine zw_icmp_lt hC 38 hf dX4_isLetterAt_20 (by decide) (fun hf => ?_) (fun hf => ?_)
      · exact zw_sub [] rfl (hj38 hf)
      · refine zw_aload_n hC dX4_isLetterAt_23 rfl 0 rfl ?_
        refine zw_getr (k' := 43) hC zF_Reader_tape zk_42 rfl dX4_isLetterAt_24 kw_1_227 ?_
        refine zw_iload_n hC dX4_isLetterAt_27 rfl 1 rfl ?_
        refine zw_iald hC hf zk_43 dX4_isLetterAt_28 (fun v25 hf => ?_)
        refine zw_bipush hC (v := (122 : Int32)) dX4_isLetterAt_29 (by decide) ?_
        refine zw_icmp_gt hC 38 hf dX4_isLetterAt_31 (by decide) (fun hf => ?_) (fun hf => ?_)
        · exact zw_sub [] rfl (hj38 hf)
        · refine zw_iconst hC (v := (1 : Int32)) dX4_isLetterAt_34 (by decide) ?_
          refine zw_goto hC 39 dX4_isLetterAt_35 (by decide) ?_
          exact zw_sub [] rfl (hj39 (1 : Int32) hf)
/-! Reader.wordEnd(I)I -/
theorem dX4_wordEnd_0 : decode cX4_wordEnd 0 = .ok (.iload_n 1, 1) := by decide +kernel
theorem dX4_wordEnd_1 : decode cX4_wordEnd 1 = .ok (.istore_n 2, 1) := by decide +kernel
theorem dX4_wordEnd_2 : decode cX4_wordEnd 2 = .ok (.iload_n 2, 1) := by decide +kernel
theorem dX4_wordEnd_3 : decode cX4_wordEnd 3 = .ok (.aload_n 0, 1) := by decide +kernel
theorem dX4_wordEnd_4 : decode cX4_wordEnd 4 = .ok (.getfield 29, 3) := by decide +kernel
theorem dX4_wordEnd_7 : decode cX4_wordEnd 7 = .ok (.if_icmp .ge 17, 3) := by decide +kernel
theorem dX4_wordEnd_10 : decode cX4_wordEnd 10 = .ok (.aload_n 0, 1) := by decide +kernel
theorem dX4_wordEnd_11 : decode cX4_wordEnd 11 = .ok (.iload_n 2, 1) := by decide +kernel
theorem dX4_wordEnd_12 : decode cX4_wordEnd 12 = .ok (.invokevirtual 157, 3) := by decide +kernel
theorem dX4_wordEnd_15 : decode cX4_wordEnd 15 = .ok (.ifCond .eq 9, 3) := by decide +kernel
theorem dX4_wordEnd_18 : decode cX4_wordEnd 18 = .ok (.iinc 2 1, 3) := by decide +kernel
theorem dX4_wordEnd_21 : decode cX4_wordEnd 21 = .ok (.goto (-19), 3) := by decide +kernel
theorem dX4_wordEnd_24 : decode cX4_wordEnd 24 = .ok (.iload_n 2, 1) := by decide +kernel
theorem dX4_wordEnd_25 : decode cX4_wordEnd 25 = .ok (.ireturn, 1) := by decide +kernel
theorem zm_X4_wordEnd : ZMv "ClassOfMany$Reader" yX4_wordEnd cX4_wordEnd 3 (some .int) 1 := ⟨kw_3_6, kw_3_5, kp_4, kw_1_5, by decide +kernel, by decide⟩
def zf_X4_wordEnd_L2 (M : ZMem) (K24 : Int32 → Option (Int32)) : Nat → Int32 → Option (Int32)
  | 0, _ => none
  | n2 + 1, v22 =>
  (if (M 42 1) ≤ v22 then (K24 v22) else zb1 (zf_X4_isLetterAt v22 M) (fun v24 => (if v24 = 0 then (K24 v22) else (zf_X4_wordEnd_L2 M K24 n2 (v22 + (1 : Int32))))))
def zf_X4_wordEnd (n : Nat) (a1 : Int32) (M : ZMem) : Option (Int32) :=
  (zf_X4_wordEnd_L2 M (fun v25 => some v25) n a1)
set_option maxHeartbeats 4000000 in
set_option maxRecDepth 100000 in
theorem zc_X4_wordEnd {l : Launch} {D : va_G} {ad : Nat → Nat} {cA : Nat → ClassId} {n : Nat} {a1 : Int32} {M : ZMem} {r : Int32} (hf : zf_X4_wordEnd n a1 M = some r) : ZCt l D ad cA yX4_wordEnd cX4_wordEnd 3 (some .int) 2 [.ref (ad 42), .int a1] M (some (.int r)) M := by
  refine zct (by decide +kernel) (Nat.le_of_ble_eq_true rfl) (lv := [(0, .ref (ad 42)), (1, .int a1)]) rfl (fun E hl hD had hcA hN hC hR => ?_)
  subst hl; subst hD; subst had; subst hcA
  unfold zf_X4_wordEnd at hf
  refine zw_iload_n hC dX4_wordEnd_0 rfl 1 rfl ?_
  refine zw_istore_n hC (lv' := [(2, .int a1), (0, .ref (zad E 42)), (1, .int a1)]) dX4_wordEnd_1 rfl hN (by decide) rfl ?_
  have hL2 : ∀ (K24 : Int32 → Option (Int32)), (∀ (v23 : Int32), K24 v23 = some r → ZW E 24 [(2, .int v23)] [] M) → ∀ (n2 : Nat), ∀ (v22 : Int32), zf_X4_wordEnd_L2 M K24 n2 v22 = some r → ZW E 2 [(0, .ref (zad E 42)), (2, .int v22)] [] M := by
    intro K24 hK24
    intro n2
    induction n2 with
    | zero => intro v22 hf; rw [zf_X4_wordEnd_L2] at hf; cases hf
    | succ n2 ih2 =>
      intro v22 hf
      rw [zf_X4_wordEnd_L2] at hf
      refine zw_iload_n hC dX4_wordEnd_2 rfl 1 rfl ?_
      refine zw_aload_n hC dX4_wordEnd_3 rfl 0 rfl ?_
      refine zw_geti hC zF_Reader_length zk_42 dX4_wordEnd_4 kw_1_229 ?_
      refine zw_icmp_ge hC 24 hf dX4_wordEnd_7 (by decide) (fun hf => ?_) (fun hf => ?_)
      · exact zw_sub [1] rfl (hK24 v22 hf)
      · refine zw_aload_n hC dX4_wordEnd_10 rfl 0 rfl ?_
        refine zw_iload_n hC dX4_wordEnd_11 rfl 1 rfl ?_
        obtain ⟨v24, hc24, hf⟩ := zb1_some hf
        refine zw_cV hC [.int v22] [] (st1 := [.int v24]) zm_X4_isLetterAt (zc_X4_isLetterAt hc24) zk_42 rfl kw_3_7 dX4_wordEnd_12 rfl (by decide) (Nat.le_of_ble_eq_true rfl) rfl rfl ?_
        refine zw_if_eq hC 24 hf dX4_wordEnd_15 (by decide) (fun hf => ?_) (fun hf => ?_)
        · exact zw_sub [1] rfl (hK24 v22 hf)
        · refine zw_iinc hC (v := (1 : Int32)) (lv' := [(2, .int (v22 + (1 : Int32))), (0, .ref (zad E 42))]) dX4_wordEnd_18 1 rfl (by decide) hN (by decide) rfl ?_
          refine zw_goto hC 2 dX4_wordEnd_21 (by decide) ?_
          exact zw_sub [1, 0] rfl (ih2 (v22 + (1 : Int32)) hf)
  refine zw_sub [1, 0] rfl (hL2 _ ?_ n a1 hf)
  · intro v25 hf
    refine zw_iload_n hC dX4_wordEnd_24 rfl 0 rfl ?_
    have h1 := Option.some.inj hf
    subst h1
    exact zw_iret hC hR dX4_wordEnd_25
/-! Reader.mayStand(I)Z -/
theorem dX4_mayStand_0 : decode cX4_mayStand 0 = .ok (.iload_n 1, 1) := by decide +kernel
theorem dX4_mayStand_1 : decode cX4_mayStand 1 = .ok (.iconst 4, 1) := by decide +kernel
theorem dX4_mayStand_2 : decode cX4_mayStand 2 = .ok (.if_icmp .gt 20, 3) := by decide +kernel
theorem dX4_mayStand_5 : decode cX4_mayStand 5 = .ok (.aload_n 0, 1) := by decide +kernel
theorem dX4_mayStand_6 : decode cX4_mayStand 6 = .ok (.getfield 43, 3) := by decide +kernel
theorem dX4_mayStand_9 : decode cX4_mayStand 9 = .ok (.iload_n 1, 1) := by decide +kernel
theorem dX4_mayStand_10 : decode cX4_mayStand 10 = .ok (.invokestatic 129, 3) := by decide +kernel
theorem dX4_mayStand_13 : decode cX4_mayStand 13 = .ok (.ifCond .ne 7, 3) := by decide +kernel
theorem dX4_mayStand_16 : decode cX4_mayStand 16 = .ok (.iconst 1, 1) := by decide +kernel
theorem dX4_mayStand_17 : decode cX4_mayStand 17 = .ok (.goto 4, 3) := by decide +kernel
theorem dX4_mayStand_20 : decode cX4_mayStand 20 = .ok (.iconst 0, 1) := by decide +kernel
theorem dX4_mayStand_21 : decode cX4_mayStand 21 = .ok (.ireturn, 1) := by decide +kernel
theorem dX4_mayStand_22 : decode cX4_mayStand 22 = .ok (.iload_n 1, 1) := by decide +kernel
theorem dX4_mayStand_23 : decode cX4_mayStand 23 = .ok (.iconst 5, 1) := by decide +kernel
theorem dX4_mayStand_24 : decode cX4_mayStand 24 = .ok (.if_icmp .ne 20, 3) := by decide +kernel
theorem dX4_mayStand_27 : decode cX4_mayStand 27 = .ok (.aload_n 0, 1) := by decide +kernel
theorem dX4_mayStand_28 : decode cX4_mayStand 28 = .ok (.getfield 18, 3) := by decide +kernel
theorem dX4_mayStand_31 : decode cX4_mayStand 31 = .ok (.getfield 56, 3) := by decide +kernel
theorem dX4_mayStand_34 : decode cX4_mayStand 34 = .ok (.iconst 4, 1) := by decide +kernel
theorem dX4_mayStand_35 : decode cX4_mayStand 35 = .ok (.if_icmp .ge 7, 3) := by decide +kernel
theorem dX4_mayStand_38 : decode cX4_mayStand 38 = .ok (.iconst 1, 1) := by decide +kernel
theorem dX4_mayStand_39 : decode cX4_mayStand 39 = .ok (.goto 4, 3) := by decide +kernel
theorem dX4_mayStand_42 : decode cX4_mayStand 42 = .ok (.iconst 0, 1) := by decide +kernel
theorem dX4_mayStand_43 : decode cX4_mayStand 43 = .ok (.ireturn, 1) := by decide +kernel
theorem dX4_mayStand_44 : decode cX4_mayStand 44 = .ok (.iload_n 1, 1) := by decide +kernel
theorem dX4_mayStand_45 : decode cX4_mayStand 45 = .ok (.bipush 6, 2) := by decide +kernel
theorem dX4_mayStand_47 : decode cX4_mayStand 47 = .ok (.if_icmp .ne 15, 3) := by decide +kernel
theorem dX4_mayStand_50 : decode cX4_mayStand 50 = .ok (.aload_n 0, 1) := by decide +kernel
theorem dX4_mayStand_51 : decode cX4_mayStand 51 = .ok (.getfield 18, 3) := by decide +kernel
theorem dX4_mayStand_54 : decode cX4_mayStand 54 = .ok (.getfield 133, 3) := by decide +kernel
theorem dX4_mayStand_57 : decode cX4_mayStand 57 = .ok (.bipush 10, 2) := by decide +kernel
theorem dX4_mayStand_59 : decode cX4_mayStand 59 = .ok (.if_icmp .ge 7, 3) := by decide +kernel
theorem dX4_mayStand_62 : decode cX4_mayStand 62 = .ok (.iconst 1, 1) := by decide +kernel
theorem dX4_mayStand_63 : decode cX4_mayStand 63 = .ok (.goto 4, 3) := by decide +kernel
theorem dX4_mayStand_66 : decode cX4_mayStand 66 = .ok (.iconst 0, 1) := by decide +kernel
theorem dX4_mayStand_67 : decode cX4_mayStand 67 = .ok (.ireturn, 1) := by decide +kernel
theorem zm_X4_mayStand : ZMv "ClassOfMany$Reader" yX4_mayStand cX4_mayStand 2 (some .boolean) 1 := ⟨kw_3_77, kw_3_76, kp_7, kw_1_5, by decide +kernel, by decide⟩
def zf_X4_mayStand_j67 (v24 : Int32) : Option (Int32) :=
  zbz v24 (some v24)
def zf_X4_mayStand_j62 : Option (Int32) :=
  (zf_X4_mayStand_j67 (1 : Int32))
def zf_X4_mayStand_j43 (v27 : Int32) : Option (Int32) :=
  zbz v27 (some v27)
def zf_X4_mayStand_j21 (v29 : Int32) : Option (Int32) :=
  zbz v29 (some v29)
def zf_X4_mayStand (a1 : Int32) (M : ZMem) : Option (Int32) :=
  (if (4 : Int32) < a1 then (if a1 = (5 : Int32) then zdy M 42 6 (7, 17) (fun o26 => (if (4 : Int32) ≤ (M o26 1) then (zf_X4_mayStand_j43 (0 : Int32)) else (zf_X4_mayStand_j43 (1 : Int32)))) else (if a1 = (6 : Int32) then zdy M 42 6 (7, 17) (fun o25 => (if (10 : Int32) ≤ (M o25 0) then (zf_X4_mayStand_j67 (0 : Int32)) else (zf_X4_mayStand_j62))) else (zf_X4_mayStand_j62))) else zb1 (zf_X9_has (M 42 5) a1) (fun v28 => (if v28 = 0 then (zf_X4_mayStand_j21 (1 : Int32)) else (zf_X4_mayStand_j21 (0 : Int32)))))
set_option maxHeartbeats 4000000 in
set_option maxRecDepth 100000 in
theorem zc_X4_mayStand {l : Launch} {D : va_G} {ad : Nat → Nat} {cA : Nat → ClassId} {a1 : Int32} {M : ZMem} {r : Int32} (hf : zf_X4_mayStand a1 M = some r) : ZCt l D ad cA yX4_mayStand cX4_mayStand 2 (some .boolean) 2 [.ref (ad 42), .int a1] M (some (.int r)) M := by
  refine zct (by decide +kernel) (Nat.le_of_ble_eq_true rfl) (lv := [(0, .ref (ad 42)), (1, .int a1)]) rfl (fun E hl hD had hcA hN hC hR => ?_)
  subst hl; subst hD; subst had; subst hcA
  unfold zf_X4_mayStand at hf
  refine zw_iload_n hC dX4_mayStand_0 rfl 1 rfl ?_
  refine zw_iconst hC (v := (4 : Int32)) dX4_mayStand_1 (by decide) ?_
  refine zw_icmp_gt hC 22 hf dX4_mayStand_2 (by decide) (fun hf => ?_) (fun hf => ?_)
  · refine zw_iload_n hC dX4_mayStand_22 rfl 1 rfl ?_
    refine zw_iconst hC (v := (5 : Int32)) dX4_mayStand_23 (by decide) ?_
    refine zw_icmp_ne hC 44 hf dX4_mayStand_24 (by decide) (fun hf => ?_) (fun hf => ?_)
    · refine zw_iload_n hC dX4_mayStand_44 rfl 1 rfl ?_
      refine zw_bipush hC (v := (6 : Int32)) dX4_mayStand_45 (by decide) ?_
      have hj67 : ∀ (v24 : Int32), zf_X4_mayStand_j67 v24 = some r → ZW E 67 [] [.int v24] M := by
        intro v24 hf
        unfold zf_X4_mayStand_j67 at hf
        obtain ⟨hz, hf⟩ := zbz_some hf
        have h1 := Option.some.inj hf
        subst h1
        exact zw_zret hC hR hz dX4_mayStand_67
      have hj62 : zf_X4_mayStand_j62 = some r → ZW E 62 [] [] M := by
        intro  hf
        unfold zf_X4_mayStand_j62 at hf
        refine zw_iconst hC (v := (1 : Int32)) dX4_mayStand_62 (by decide) ?_
        refine zw_goto hC 67 dX4_mayStand_63 (by decide) ?_
        exact hj67 (1 : Int32) hf
      refine zw_icmp_ne hC 62 hf dX4_mayStand_47 (by decide) (fun hf => ?_) (fun hf => ?_)
      · exact zw_sub [] rfl (hj62 hf)
      · refine zw_aload_n hC dX4_mayStand_50 rfl 0 rfl ?_
        refine zw_getd hC hf zF_Reader_told zk_42 dX4_mayStand_51 kw_1_234 (fun o25 ho25 hf => ?_)
        refine zw_geti hC zF_Told_members ho25 dX4_mayStand_54 kw_1_40 ?_
        refine zw_bipush hC (v := (10 : Int32)) dX4_mayStand_57 (by decide) ?_
        refine zw_icmp_ge hC 66 hf dX4_mayStand_59 (by decide) (fun hf => ?_) (fun hf => ?_)
        · refine zw_iconst hC (v := (0 : Int32)) dX4_mayStand_66 (by decide) ?_
          exact zw_sub [] rfl (hj67 (0 : Int32) hf)
        · exact zw_sub [] rfl (hj62 hf)
    · refine zw_aload_n hC dX4_mayStand_27 rfl 0 rfl ?_
      refine zw_getd hC hf zF_Reader_told zk_42 dX4_mayStand_28 kw_1_234 (fun o26 ho26 hf => ?_)
      refine zw_geti hC zF_Told_channels ho26 dX4_mayStand_31 kw_1_42 ?_
      refine zw_iconst hC (v := (4 : Int32)) dX4_mayStand_34 (by decide) ?_
      have hj43 : ∀ (v27 : Int32), zf_X4_mayStand_j43 v27 = some r → ZW E 43 [] [.int v27] M := by
        intro v27 hf
        unfold zf_X4_mayStand_j43 at hf
        obtain ⟨hz, hf⟩ := zbz_some hf
        have h1 := Option.some.inj hf
        subst h1
        exact zw_zret hC hR hz dX4_mayStand_43
      refine zw_icmp_ge hC 42 hf dX4_mayStand_35 (by decide) (fun hf => ?_) (fun hf => ?_)
      · refine zw_iconst hC (v := (0 : Int32)) dX4_mayStand_42 (by decide) ?_
        exact zw_sub [] rfl (hj43 (0 : Int32) hf)
      · refine zw_iconst hC (v := (1 : Int32)) dX4_mayStand_38 (by decide) ?_
        refine zw_goto hC 43 dX4_mayStand_39 (by decide) ?_
        exact zw_sub [] rfl (hj43 (1 : Int32) hf)
  · refine zw_aload_n hC dX4_mayStand_5 rfl 0 rfl ?_
    refine zw_geti hC zF_Reader_seenSorts zk_42 dX4_mayStand_6 kw_1_233 ?_
    refine zw_iload_n hC dX4_mayStand_9 rfl 1 rfl ?_
    obtain ⟨v28, hc28, hf⟩ := zb1_some hf
    refine zw_cN hC [.int (M 42 5), .int a1] [] (st1 := [.int v28]) zm_X9_has (zc_X9_has hc28) (by decide +kernel) dX4_mayStand_10 rfl (by decide) (Nat.le_of_ble_eq_true rfl) rfl rfl ?_
    have hj21 : ∀ (v29 : Int32), zf_X4_mayStand_j21 v29 = some r → ZW E 21 [] [.int v29] M := by
      intro v29 hf
      unfold zf_X4_mayStand_j21 at hf
      obtain ⟨hz, hf⟩ := zbz_some hf
      have h1 := Option.some.inj hf
      subst h1
      exact zw_zret hC hR hz dX4_mayStand_21
    refine zw_if_ne hC 20 hf dX4_mayStand_13 (by decide) (fun hf => ?_) (fun hf => ?_)
    · refine zw_iconst hC (v := (0 : Int32)) dX4_mayStand_20 (by decide) ?_
      exact zw_sub [] rfl (hj21 (0 : Int32) hf)
    · refine zw_iconst hC (v := (1 : Int32)) dX4_mayStand_16 (by decide) ?_
      refine zw_goto hC 21 dX4_mayStand_17 (by decide) ?_
      exact zw_sub [] rfl (hj21 (1 : Int32) hf)
/-! Reader.fail(I)V -/
theorem dX4_fail_0 : decode cX4_fail 0 = .ok (.aload_n 0, 1) := by decide +kernel
theorem dX4_fail_1 : decode cX4_fail 1 = .ok (.getfield 40, 3) := by decide +kernel
theorem dX4_fail_4 : decode cX4_fail 4 = .ok (.iconst (-1), 1) := by decide +kernel
theorem dX4_fail_5 : decode cX4_fail 5 = .ok (.if_icmp .ne 8, 3) := by decide +kernel
theorem dX4_fail_8 : decode cX4_fail 8 = .ok (.aload_n 0, 1) := by decide +kernel
theorem dX4_fail_9 : decode cX4_fail 9 = .ok (.iload_n 1, 1) := by decide +kernel
theorem dX4_fail_10 : decode cX4_fail 10 = .ok (.putfield 40, 3) := by decide +kernel
theorem dX4_fail_13 : decode cX4_fail 13 = .ok (.return_, 1) := by decide +kernel
theorem zm_X4_fail : ZMv "ClassOfMany$Reader" yX4_fail cX4_fail 2 (none) 1 := ⟨kw_3_84, kw_3_83, kp_8, kw_1_5, by decide +kernel, by decide⟩
def zf_X4_fail_j13 (M22 : ZMem) : Option (ZMem) :=
  some M22
def zf_X4_fail (a1 : Int32) (M : ZMem) : Option (ZMem) :=
  (if (M 42 4) = (-1 : Int32) then zput M 42 4 a1 (fun M23 => (zf_X4_fail_j13 M23)) else (zf_X4_fail_j13 M))
set_option maxHeartbeats 4000000 in
set_option maxRecDepth 100000 in
theorem zc_X4_fail {l : Launch} {D : va_G} {ad : Nat → Nat} {cA : Nat → ClassId} {a1 : Int32} {M : ZMem} {M' : ZMem} (hf : zf_X4_fail a1 M = some M') : ZCt l D ad cA yX4_fail cX4_fail 2 (none) 1 [.ref (ad 42), .int a1] M none M' := by
  refine zct (by decide +kernel) (Nat.le_of_ble_eq_true rfl) (lv := [(0, .ref (ad 42)), (1, .int a1)]) rfl (fun E hl hD had hcA hN hC hR => ?_)
  subst hl; subst hD; subst had; subst hcA
  unfold zf_X4_fail at hf
  refine zw_aload_n hC dX4_fail_0 rfl 0 rfl ?_
  refine zw_geti hC zF_Reader_fault zk_42 dX4_fail_1 kw_1_232 ?_
  refine zw_iconst hC (v := (-1 : Int32)) dX4_fail_4 (by decide) ?_
  have hj13 : ∀ (M22 : ZMem), zf_X4_fail_j13 M22 = some M' → ZW E 13 [] [] M22 := by
    intro M22 hf
    unfold zf_X4_fail_j13 at hf
    have h1 := Option.some.inj hf
    subst h1
    exact zw_vret hC hR dX4_fail_13
  refine zw_icmp_ne hC 13 hf dX4_fail_5 (by decide) (fun hf => ?_) (fun hf => ?_)
  · exact zw_sub [] rfl (hj13 M hf)
  · refine zw_aload_n hC dX4_fail_8 rfl 0 rfl ?_
    refine zw_iload_n hC dX4_fail_9 rfl 1 rfl ?_
    refine zw_puti hC hf zF_Reader_fault zk_42 dX4_fail_10 kw_1_232 (fun M23 hf => ?_)
    exact zw_sub [] rfl (hj13 M23 hf)
/-! Reader.isDigitAt(I)Z -/
theorem dX4_isDigitAt_0 : decode cX4_isDigitAt 0 = .ok (.iload_n 1, 1) := by decide +kernel
theorem dX4_isDigitAt_1 : decode cX4_isDigitAt 1 = .ok (.ifCond .lt 37, 3) := by decide +kernel
theorem dX4_isDigitAt_4 : decode cX4_isDigitAt 4 = .ok (.iload_n 1, 1) := by decide +kernel
theorem dX4_isDigitAt_5 : decode cX4_isDigitAt 5 = .ok (.aload_n 0, 1) := by decide +kernel
theorem dX4_isDigitAt_6 : decode cX4_isDigitAt 6 = .ok (.getfield 29, 3) := by decide +kernel
theorem dX4_isDigitAt_9 : decode cX4_isDigitAt 9 = .ok (.if_icmp .ge 29, 3) := by decide +kernel
theorem dX4_isDigitAt_12 : decode cX4_isDigitAt 12 = .ok (.aload_n 0, 1) := by decide +kernel
theorem dX4_isDigitAt_13 : decode cX4_isDigitAt 13 = .ok (.getfield 9, 3) := by decide +kernel
theorem dX4_isDigitAt_16 : decode cX4_isDigitAt 16 = .ok (.iload_n 1, 1) := by decide +kernel
theorem dX4_isDigitAt_17 : decode cX4_isDigitAt 17 = .ok (.iaload, 1) := by decide +kernel
theorem dX4_isDigitAt_18 : decode cX4_isDigitAt 18 = .ok (.bipush 48, 2) := by decide +kernel
theorem dX4_isDigitAt_20 : decode cX4_isDigitAt 20 = .ok (.if_icmp .lt 18, 3) := by decide +kernel
theorem dX4_isDigitAt_23 : decode cX4_isDigitAt 23 = .ok (.aload_n 0, 1) := by decide +kernel
theorem dX4_isDigitAt_24 : decode cX4_isDigitAt 24 = .ok (.getfield 9, 3) := by decide +kernel
theorem dX4_isDigitAt_27 : decode cX4_isDigitAt 27 = .ok (.iload_n 1, 1) := by decide +kernel
theorem dX4_isDigitAt_28 : decode cX4_isDigitAt 28 = .ok (.iaload, 1) := by decide +kernel
theorem dX4_isDigitAt_29 : decode cX4_isDigitAt 29 = .ok (.bipush 57, 2) := by decide +kernel
theorem dX4_isDigitAt_31 : decode cX4_isDigitAt 31 = .ok (.if_icmp .gt 7, 3) := by decide +kernel
theorem dX4_isDigitAt_34 : decode cX4_isDigitAt 34 = .ok (.iconst 1, 1) := by decide +kernel
theorem dX4_isDigitAt_35 : decode cX4_isDigitAt 35 = .ok (.goto 4, 3) := by decide +kernel
theorem dX4_isDigitAt_38 : decode cX4_isDigitAt 38 = .ok (.iconst 0, 1) := by decide +kernel
theorem dX4_isDigitAt_39 : decode cX4_isDigitAt 39 = .ok (.ireturn, 1) := by decide +kernel
theorem zm_X4_isDigitAt : ZMv "ClassOfMany$Reader" yX4_isDigitAt cX4_isDigitAt 2 (some .boolean) 1 := ⟨kw_3_97, kw_3_96, kp_10, kw_1_5, by decide +kernel, by decide⟩
def zf_X4_isDigitAt_j39 (v23 : Int32) : Option (Int32) :=
  zbz v23 (some v23)
def zf_X4_isDigitAt_j38 : Option (Int32) :=
  (zf_X4_isDigitAt_j39 (0 : Int32))
def zf_X4_isDigitAt (a1 : Int32) (M : ZMem) : Option (Int32) :=
  (if a1 < 0 then (zf_X4_isDigitAt_j38) else (if (M 42 1) ≤ a1 then (zf_X4_isDigitAt_j38) else zrd M 43 400 a1 (fun v24 => (if v24 < (48 : Int32) then (zf_X4_isDigitAt_j38) else zrd M 43 400 a1 (fun v25 => (if (57 : Int32) < v25 then (zf_X4_isDigitAt_j38) else (zf_X4_isDigitAt_j39 (1 : Int32))))))))
set_option maxHeartbeats 4000000 in
set_option maxRecDepth 100000 in
theorem zc_X4_isDigitAt {l : Launch} {D : va_G} {ad : Nat → Nat} {cA : Nat → ClassId} {a1 : Int32} {M : ZMem} {r : Int32} (hf : zf_X4_isDigitAt a1 M = some r) : ZCt l D ad cA yX4_isDigitAt cX4_isDigitAt 2 (some .boolean) 1 [.ref (ad 42), .int a1] M (some (.int r)) M := by
  refine zct (by decide +kernel) (Nat.le_of_ble_eq_true rfl) (lv := [(0, .ref (ad 42)), (1, .int a1)]) rfl (fun E hl hD had hcA hN hC hR => ?_)
  subst hl; subst hD; subst had; subst hcA
  unfold zf_X4_isDigitAt at hf
  refine zw_iload_n hC dX4_isDigitAt_0 rfl 1 rfl ?_
  have hj39 : ∀ (v23 : Int32), zf_X4_isDigitAt_j39 v23 = some r → ZW E 39 [] [.int v23] M := by
    intro v23 hf
    unfold zf_X4_isDigitAt_j39 at hf
    obtain ⟨hz, hf⟩ := zbz_some hf
    have h1 := Option.some.inj hf
    subst h1
    exact zw_zret hC hR hz dX4_isDigitAt_39
  have hj38 : zf_X4_isDigitAt_j38 = some r → ZW E 38 [] [] M := by
    intro  hf
    unfold zf_X4_isDigitAt_j38 at hf
    refine zw_iconst hC (v := (0 : Int32)) dX4_isDigitAt_38 (by decide) ?_
    exact hj39 (0 : Int32) hf
  refine zw_if_lt hC 38 hf dX4_isDigitAt_1 (by decide) (fun hf => ?_) (fun hf => ?_)
  · exact zw_sub [] rfl (hj38 hf)
  · refine zw_iload_n hC dX4_isDigitAt_4 rfl 1 rfl ?_
    refine zw_aload_n hC dX4_isDigitAt_5 rfl 0 rfl ?_
    refine zw_geti hC zF_Reader_length zk_42 dX4_isDigitAt_6 kw_1_229 ?_
    refine zw_icmp_ge hC 38 hf dX4_isDigitAt_9 (by decide) (fun hf => ?_) (fun hf => ?_)
    · exact zw_sub [] rfl (hj38 hf)
    · refine zw_aload_n hC dX4_isDigitAt_12 rfl 0 rfl ?_
      refine zw_getr (k' := 43) hC zF_Reader_tape zk_42 rfl dX4_isDigitAt_13 kw_1_227 ?_
      refine zw_iload_n hC dX4_isDigitAt_16 rfl 1 rfl ?_
      refine zw_iald hC hf zk_43 dX4_isDigitAt_17 (fun v24 hf => ?_)
      refine zw_bipush hC (v := (48 : Int32)) dX4_isDigitAt_18 (by decide) ?_
      refine zw_icmp_lt hC 38 hf dX4_isDigitAt_20 (by decide) (fun hf => ?_) (fun hf => ?_)
      · exact zw_sub [] rfl (hj38 hf)
      · refine zw_aload_n hC dX4_isDigitAt_23 rfl 0 rfl ?_
        refine zw_getr (k' := 43) hC zF_Reader_tape zk_42 rfl dX4_isDigitAt_24 kw_1_227 ?_
        refine zw_iload_n hC dX4_isDigitAt_27 rfl 1 rfl ?_
        refine zw_iald hC hf zk_43 dX4_isDigitAt_28 (fun v25 hf => ?_)
        refine zw_bipush hC (v := (57 : Int32)) dX4_isDigitAt_29 (by decide) ?_
        refine zw_icmp_gt hC 38 hf dX4_isDigitAt_31 (by decide) (fun hf => ?_) (fun hf => ?_)
        · exact zw_sub [] rfl (hj38 hf)
        · refine zw_iconst hC (v := (1 : Int32)) dX4_isDigitAt_34 (by decide) ?_
          refine zw_goto hC 39 dX4_isDigitAt_35 (by decide) ?_
          exact zw_sub [] rfl (hj39 (1 : Int32) hf)
/-! Reader.isBlankAt(I)Z -/
theorem dX4_isBlankAt_0 : decode cX4_isBlankAt 0 = .ok (.iload_n 1, 1) := by decide +kernel
theorem dX4_isBlankAt_1 : decode cX4_isBlankAt 1 = .ok (.ifCond .lt 37, 3) := by decide +kernel
theorem dX4_isBlankAt_4 : decode cX4_isBlankAt 4 = .ok (.iload_n 1, 1) := by decide +kernel
theorem dX4_isBlankAt_5 : decode cX4_isBlankAt 5 = .ok (.aload_n 0, 1) := by decide +kernel
theorem dX4_isBlankAt_6 : decode cX4_isBlankAt 6 = .ok (.getfield 29, 3) := by decide +kernel
theorem dX4_isBlankAt_9 : decode cX4_isBlankAt 9 = .ok (.if_icmp .ge 29, 3) := by decide +kernel
theorem dX4_isBlankAt_12 : decode cX4_isBlankAt 12 = .ok (.aload_n 0, 1) := by decide +kernel
theorem dX4_isBlankAt_13 : decode cX4_isBlankAt 13 = .ok (.getfield 9, 3) := by decide +kernel
theorem dX4_isBlankAt_16 : decode cX4_isBlankAt 16 = .ok (.iload_n 1, 1) := by decide +kernel
theorem dX4_isBlankAt_17 : decode cX4_isBlankAt 17 = .ok (.iaload, 1) := by decide +kernel
theorem dX4_isBlankAt_18 : decode cX4_isBlankAt 18 = .ok (.bipush 32, 2) := by decide +kernel
theorem dX4_isBlankAt_20 : decode cX4_isBlankAt 20 = .ok (.if_icmp .eq 14, 3) := by decide +kernel
theorem dX4_isBlankAt_23 : decode cX4_isBlankAt 23 = .ok (.aload_n 0, 1) := by decide +kernel
theorem dX4_isBlankAt_24 : decode cX4_isBlankAt 24 = .ok (.getfield 9, 3) := by decide +kernel
theorem dX4_isBlankAt_27 : decode cX4_isBlankAt 27 = .ok (.iload_n 1, 1) := by decide +kernel
theorem dX4_isBlankAt_28 : decode cX4_isBlankAt 28 = .ok (.iaload, 1) := by decide +kernel
theorem dX4_isBlankAt_29 : decode cX4_isBlankAt 29 = .ok (.bipush 10, 2) := by decide +kernel
theorem dX4_isBlankAt_31 : decode cX4_isBlankAt 31 = .ok (.if_icmp .ne 7, 3) := by decide +kernel
theorem dX4_isBlankAt_34 : decode cX4_isBlankAt 34 = .ok (.iconst 1, 1) := by decide +kernel
theorem dX4_isBlankAt_35 : decode cX4_isBlankAt 35 = .ok (.goto 4, 3) := by decide +kernel
theorem dX4_isBlankAt_38 : decode cX4_isBlankAt 38 = .ok (.iconst 0, 1) := by decide +kernel
theorem dX4_isBlankAt_39 : decode cX4_isBlankAt 39 = .ok (.ireturn, 1) := by decide +kernel
theorem zm_X4_isBlankAt : ZMv "ClassOfMany$Reader" yX4_isBlankAt cX4_isBlankAt 2 (some .boolean) 1 := ⟨kw_3_101, kw_3_100, kp_11, kw_1_5, by decide +kernel, by decide⟩
def zf_X4_isBlankAt_j39 (v23 : Int32) : Option (Int32) :=
  zbz v23 (some v23)
def zf_X4_isBlankAt_j38 : Option (Int32) :=
  (zf_X4_isBlankAt_j39 (0 : Int32))
def zf_X4_isBlankAt_j34 : Option (Int32) :=
  (zf_X4_isBlankAt_j39 (1 : Int32))
def zf_X4_isBlankAt (a1 : Int32) (M : ZMem) : Option (Int32) :=
  (if a1 < 0 then (zf_X4_isBlankAt_j38) else (if (M 42 1) ≤ a1 then (zf_X4_isBlankAt_j38) else zrd M 43 400 a1 (fun v24 => (if v24 = (32 : Int32) then (zf_X4_isBlankAt_j34) else zrd M 43 400 a1 (fun v25 => (if v25 = (10 : Int32) then (zf_X4_isBlankAt_j34) else (zf_X4_isBlankAt_j38)))))))
set_option maxHeartbeats 4000000 in
set_option maxRecDepth 100000 in
theorem zc_X4_isBlankAt {l : Launch} {D : va_G} {ad : Nat → Nat} {cA : Nat → ClassId} {a1 : Int32} {M : ZMem} {r : Int32} (hf : zf_X4_isBlankAt a1 M = some r) : ZCt l D ad cA yX4_isBlankAt cX4_isBlankAt 2 (some .boolean) 1 [.ref (ad 42), .int a1] M (some (.int r)) M := by
  refine zct (by decide +kernel) (Nat.le_of_ble_eq_true rfl) (lv := [(0, .ref (ad 42)), (1, .int a1)]) rfl (fun E hl hD had hcA hN hC hR => ?_)
  subst hl; subst hD; subst had; subst hcA
  unfold zf_X4_isBlankAt at hf
  refine zw_iload_n hC dX4_isBlankAt_0 rfl 1 rfl ?_
  have hj39 : ∀ (v23 : Int32), zf_X4_isBlankAt_j39 v23 = some r → ZW E 39 [] [.int v23] M := by
    intro v23 hf
    unfold zf_X4_isBlankAt_j39 at hf
    obtain ⟨hz, hf⟩ := zbz_some hf
    have h1 := Option.some.inj hf
    subst h1
    exact zw_zret hC hR hz dX4_isBlankAt_39
  have hj38 : zf_X4_isBlankAt_j38 = some r → ZW E 38 [] [] M := by
    intro  hf
    unfold zf_X4_isBlankAt_j38 at hf
    refine zw_iconst hC (v := (0 : Int32)) dX4_isBlankAt_38 (by decide) ?_
    exact hj39 (0 : Int32) hf
  refine zw_if_lt hC 38 hf dX4_isBlankAt_1 (by decide) (fun hf => ?_) (fun hf => ?_)
  · exact zw_sub [] rfl (hj38 hf)
  · refine zw_iload_n hC dX4_isBlankAt_4 rfl 1 rfl ?_
    refine zw_aload_n hC dX4_isBlankAt_5 rfl 0 rfl ?_
    refine zw_geti hC zF_Reader_length zk_42 dX4_isBlankAt_6 kw_1_229 ?_
    refine zw_icmp_ge hC 38 hf dX4_isBlankAt_9 (by decide) (fun hf => ?_) (fun hf => ?_)
    · exact zw_sub [] rfl (hj38 hf)
    · refine zw_aload_n hC dX4_isBlankAt_12 rfl 0 rfl ?_
      refine zw_getr (k' := 43) hC zF_Reader_tape zk_42 rfl dX4_isBlankAt_13 kw_1_227 ?_
      refine zw_iload_n hC dX4_isBlankAt_16 rfl 1 rfl ?_
      refine zw_iald hC hf zk_43 dX4_isBlankAt_17 (fun v24 hf => ?_)
      refine zw_bipush hC (v := (32 : Int32)) dX4_isBlankAt_18 (by decide) ?_
      have hj34 : zf_X4_isBlankAt_j34 = some r → ZW E 34 [] [] M := by
        intro  hf
        unfold zf_X4_isBlankAt_j34 at hf
        refine zw_iconst hC (v := (1 : Int32)) dX4_isBlankAt_34 (by decide) ?_
        refine zw_goto hC 39 dX4_isBlankAt_35 (by decide) ?_
        exact hj39 (1 : Int32) hf
      refine zw_icmp_eq hC 34 hf dX4_isBlankAt_20 (by decide) (fun hf => ?_) (fun hf => ?_)
      · exact zw_sub [] rfl (hj34 hf)
      · refine zw_aload_n hC dX4_isBlankAt_23 rfl 0 rfl ?_
        refine zw_getr (k' := 43) hC zF_Reader_tape zk_42 rfl dX4_isBlankAt_24 kw_1_227 ?_
        refine zw_iload_n hC dX4_isBlankAt_27 rfl 1 rfl ?_
        refine zw_iald hC hf zk_43 dX4_isBlankAt_28 (fun v25 hf => ?_)
        refine zw_bipush hC (v := (10 : Int32)) dX4_isBlankAt_29 (by decide) ?_
        refine zw_icmp_ne hC 38 hf dX4_isBlankAt_31 (by decide) (fun hf => ?_) (fun hf => ?_)
        · exact zw_sub [] rfl (hj38 hf)
        · exact zw_sub [] rfl (hj34 hf)
/-! Reader.readNumber(II)I -/
theorem dX4_readNumber_0 : decode cX4_readNumber 0 = .ok (.aload_n 0, 1) := by decide +kernel
theorem dX4_readNumber_1 : decode cX4_readNumber 1 = .ok (.invokevirtual 49, 3) := by decide +kernel
theorem dX4_readNumber_4 : decode cX4_readNumber 4 = .ok (.ifCond .ne 5, 3) := by decide +kernel
theorem dX4_readNumber_7 : decode cX4_readNumber 7 = .ok (.iload_n 1, 1) := by decide +kernel
theorem dX4_readNumber_8 : decode cX4_readNumber 8 = .ok (.ireturn, 1) := by decide +kernel
theorem dX4_readNumber_9 : decode cX4_readNumber 9 = .ok (.aload_n 0, 1) := by decide +kernel
theorem dX4_readNumber_10 : decode cX4_readNumber 10 = .ok (.invokevirtual 46, 3) := by decide +kernel
theorem dX4_readNumber_13 : decode cX4_readNumber 13 = .ok (.aload_n 0, 1) := by decide +kernel
theorem dX4_readNumber_14 : decode cX4_readNumber 14 = .ok (.aload_n 0, 1) := by decide +kernel
theorem dX4_readNumber_15 : decode cX4_readNumber 15 = .ok (.getfield 37, 3) := by decide +kernel
theorem dX4_readNumber_18 : decode cX4_readNumber 18 = .ok (.invokevirtual 168, 3) := by decide +kernel
theorem dX4_readNumber_21 : decode cX4_readNumber 21 = .ok (.ifCond .eq 16, 3) := by decide +kernel
theorem dX4_readNumber_24 : decode cX4_readNumber 24 = .ok (.aload_n 0, 1) := by decide +kernel
theorem dX4_readNumber_25 : decode cX4_readNumber 25 = .ok (.aload_n 0, 1) := by decide +kernel
theorem dX4_readNumber_26 : decode cX4_readNumber 26 = .ok (.getfield 37, 3) := by decide +kernel
theorem dX4_readNumber_29 : decode cX4_readNumber 29 = .ok (.iconst 1, 1) := by decide +kernel
theorem dX4_readNumber_30 : decode cX4_readNumber 30 = .ok (.isub, 1) := by decide +kernel
theorem dX4_readNumber_31 : decode cX4_readNumber 31 = .ok (.invokevirtual 160, 3) := by decide +kernel
theorem dX4_readNumber_34 : decode cX4_readNumber 34 = .ok (.ifCond .ne 13, 3) := by decide +kernel
theorem dX4_readNumber_37 : decode cX4_readNumber 37 = .ok (.aload_n 0, 1) := by decide +kernel
theorem dX4_readNumber_38 : decode cX4_readNumber 38 = .ok (.aload_n 0, 1) := by decide +kernel
theorem dX4_readNumber_39 : decode cX4_readNumber 39 = .ok (.getfield 37, 3) := by decide +kernel
theorem dX4_readNumber_42 : decode cX4_readNumber 42 = .ok (.invokevirtual 126, 3) := by decide +kernel
theorem dX4_readNumber_45 : decode cX4_readNumber 45 = .ok (.iload_n 1, 1) := by decide +kernel
theorem dX4_readNumber_46 : decode cX4_readNumber 46 = .ok (.ireturn, 1) := by decide +kernel
theorem dX4_readNumber_47 : decode cX4_readNumber 47 = .ok (.aload_n 0, 1) := by decide +kernel
theorem dX4_readNumber_48 : decode cX4_readNumber 48 = .ok (.aload_n 0, 1) := by decide +kernel
theorem dX4_readNumber_49 : decode cX4_readNumber 49 = .ok (.getfield 37, 3) := by decide +kernel
theorem dX4_readNumber_52 : decode cX4_readNumber 52 = .ok (.putfield 165, 3) := by decide +kernel
theorem dX4_readNumber_55 : decode cX4_readNumber 55 = .ok (.iconst 0, 1) := by decide +kernel
theorem dX4_readNumber_56 : decode cX4_readNumber 56 = .ok (.istore_n 3, 1) := by decide +kernel
theorem dX4_readNumber_57 : decode cX4_readNumber 57 = .ok (.aload_n 0, 1) := by decide +kernel
theorem dX4_readNumber_58 : decode cX4_readNumber 58 = .ok (.getfield 37, 3) := by decide +kernel
theorem dX4_readNumber_61 : decode cX4_readNumber 61 = .ok (.aload_n 0, 1) := by decide +kernel
theorem dX4_readNumber_62 : decode cX4_readNumber 62 = .ok (.getfield 29, 3) := by decide +kernel
theorem dX4_readNumber_65 : decode cX4_readNumber 65 = .ok (.if_icmp .ge 75, 3) := by decide +kernel
theorem dX4_readNumber_68 : decode cX4_readNumber 68 = .ok (.aload_n 0, 1) := by decide +kernel
theorem dX4_readNumber_69 : decode cX4_readNumber 69 = .ok (.getfield 9, 3) := by decide +kernel
theorem dX4_readNumber_72 : decode cX4_readNumber 72 = .ok (.aload_n 0, 1) := by decide +kernel
theorem dX4_readNumber_73 : decode cX4_readNumber 73 = .ok (.getfield 37, 3) := by decide +kernel
theorem dX4_readNumber_76 : decode cX4_readNumber 76 = .ok (.iaload, 1) := by decide +kernel
theorem dX4_readNumber_77 : decode cX4_readNumber 77 = .ok (.bipush 48, 2) := by decide +kernel
theorem dX4_readNumber_79 : decode cX4_readNumber 79 = .ok (.if_icmp .lt 61, 3) := by decide +kernel
theorem dX4_readNumber_82 : decode cX4_readNumber 82 = .ok (.aload_n 0, 1) := by decide +kernel
theorem dX4_readNumber_83 : decode cX4_readNumber 83 = .ok (.getfield 9, 3) := by decide +kernel
theorem dX4_readNumber_86 : decode cX4_readNumber 86 = .ok (.aload_n 0, 1) := by decide +kernel
theorem dX4_readNumber_87 : decode cX4_readNumber 87 = .ok (.getfield 37, 3) := by decide +kernel
theorem dX4_readNumber_90 : decode cX4_readNumber 90 = .ok (.iaload, 1) := by decide +kernel
theorem dX4_readNumber_91 : decode cX4_readNumber 91 = .ok (.bipush 57, 2) := by decide +kernel
theorem dX4_readNumber_93 : decode cX4_readNumber 93 = .ok (.if_icmp .gt 47, 3) := by decide +kernel
theorem dX4_readNumber_96 : decode cX4_readNumber 96 = .ok (.aload_n 0, 1) := by decide +kernel
theorem dX4_readNumber_97 : decode cX4_readNumber 97 = .ok (.getfield 37, 3) := by decide +kernel
theorem dX4_readNumber_100 : decode cX4_readNumber 100 = .ok (.aload_n 0, 1) := by decide +kernel
theorem dX4_readNumber_101 : decode cX4_readNumber 101 = .ok (.getfield 165, 3) := by decide +kernel
theorem dX4_readNumber_104 : decode cX4_readNumber 104 = .ok (.isub, 1) := by decide +kernel
theorem dX4_readNumber_105 : decode cX4_readNumber 105 = .ok (.iconst 5, 1) := by decide +kernel
theorem dX4_readNumber_106 : decode cX4_readNumber 106 = .ok (.if_icmp .ge 21, 3) := by decide +kernel
theorem dX4_readNumber_109 : decode cX4_readNumber 109 = .ok (.iload_n 3, 1) := by decide +kernel
theorem dX4_readNumber_110 : decode cX4_readNumber 110 = .ok (.bipush 10, 2) := by decide +kernel
theorem dX4_readNumber_112 : decode cX4_readNumber 112 = .ok (.imul, 1) := by decide +kernel
theorem dX4_readNumber_113 : decode cX4_readNumber 113 = .ok (.aload_n 0, 1) := by decide +kernel
theorem dX4_readNumber_114 : decode cX4_readNumber 114 = .ok (.getfield 9, 3) := by decide +kernel
theorem dX4_readNumber_117 : decode cX4_readNumber 117 = .ok (.aload_n 0, 1) := by decide +kernel
theorem dX4_readNumber_118 : decode cX4_readNumber 118 = .ok (.getfield 37, 3) := by decide +kernel
theorem dX4_readNumber_121 : decode cX4_readNumber 121 = .ok (.iaload, 1) := by decide +kernel
theorem dX4_readNumber_122 : decode cX4_readNumber 122 = .ok (.iadd, 1) := by decide +kernel
theorem dX4_readNumber_123 : decode cX4_readNumber 123 = .ok (.bipush 48, 2) := by decide +kernel
theorem dX4_readNumber_125 : decode cX4_readNumber 125 = .ok (.isub, 1) := by decide +kernel
theorem dX4_readNumber_126 : decode cX4_readNumber 126 = .ok (.istore_n 3, 1) := by decide +kernel
theorem dX4_readNumber_127 : decode cX4_readNumber 127 = .ok (.aload_n 0, 1) := by decide +kernel
theorem dX4_readNumber_128 : decode cX4_readNumber 128 = .ok (.dup, 1) := by decide +kernel
theorem dX4_readNumber_129 : decode cX4_readNumber 129 = .ok (.getfield 37, 3) := by decide +kernel
theorem dX4_readNumber_132 : decode cX4_readNumber 132 = .ok (.iconst 1, 1) := by decide +kernel
theorem dX4_readNumber_133 : decode cX4_readNumber 133 = .ok (.iadd, 1) := by decide +kernel
theorem dX4_readNumber_134 : decode cX4_readNumber 134 = .ok (.putfield 37, 3) := by decide +kernel
theorem dX4_readNumber_137 : decode cX4_readNumber 137 = .ok (.goto (-80), 3) := by decide +kernel
theorem dX4_readNumber_140 : decode cX4_readNumber 140 = .ok (.aload_n 0, 1) := by decide +kernel
theorem dX4_readNumber_141 : decode cX4_readNumber 141 = .ok (.getfield 37, 3) := by decide +kernel
theorem dX4_readNumber_144 : decode cX4_readNumber 144 = .ok (.aload_n 0, 1) := by decide +kernel
theorem dX4_readNumber_145 : decode cX4_readNumber 145 = .ok (.getfield 165, 3) := by decide +kernel
theorem dX4_readNumber_148 : decode cX4_readNumber 148 = .ok (.isub, 1) := by decide +kernel
theorem dX4_readNumber_149 : decode cX4_readNumber 149 = .ok (.iconst 5, 1) := by decide +kernel
theorem dX4_readNumber_150 : decode cX4_readNumber 150 = .ok (.if_icmp .gt 13, 3) := by decide +kernel
theorem dX4_readNumber_153 : decode cX4_readNumber 153 = .ok (.iload_n 3, 1) := by decide +kernel
theorem dX4_readNumber_154 : decode cX4_readNumber 154 = .ok (.iload_n 1, 1) := by decide +kernel
theorem dX4_readNumber_155 : decode cX4_readNumber 155 = .ok (.if_icmp .lt 8, 3) := by decide +kernel
theorem dX4_readNumber_158 : decode cX4_readNumber 158 = .ok (.iload_n 3, 1) := by decide +kernel
theorem dX4_readNumber_159 : decode cX4_readNumber 159 = .ok (.iload_n 2, 1) := by decide +kernel
theorem dX4_readNumber_160 : decode cX4_readNumber 160 = .ok (.if_icmp .le 13, 3) := by decide +kernel
theorem dX4_readNumber_163 : decode cX4_readNumber 163 = .ok (.aload_n 0, 1) := by decide +kernel
theorem dX4_readNumber_164 : decode cX4_readNumber 164 = .ok (.aload_n 0, 1) := by decide +kernel
theorem dX4_readNumber_165 : decode cX4_readNumber 165 = .ok (.getfield 165, 3) := by decide +kernel
theorem dX4_readNumber_168 : decode cX4_readNumber 168 = .ok (.invokevirtual 126, 3) := by decide +kernel
theorem dX4_readNumber_171 : decode cX4_readNumber 171 = .ok (.iload_n 1, 1) := by decide +kernel
theorem dX4_readNumber_172 : decode cX4_readNumber 172 = .ok (.ireturn, 1) := by decide +kernel
theorem dX4_readNumber_173 : decode cX4_readNumber 173 = .ok (.aload_n 0, 1) := by decide +kernel
theorem dX4_readNumber_174 : decode cX4_readNumber 174 = .ok (.getfield 18, 3) := by decide +kernel
theorem dX4_readNumber_177 : decode cX4_readNumber 177 = .ok (.iload_n 3, 1) := by decide +kernel
theorem dX4_readNumber_178 : decode cX4_readNumber 178 = .ok (.invokevirtual 178, 3) := by decide +kernel
theorem dX4_readNumber_181 : decode cX4_readNumber 181 = .ok (.iload_n 3, 1) := by decide +kernel
theorem dX4_readNumber_182 : decode cX4_readNumber 182 = .ok (.ireturn, 1) := by decide +kernel
theorem zm_X4_readNumber : ZMv "ClassOfMany$Reader" yX4_readNumber cX4_readNumber 4 (some .int) 2 := ⟨kw_3_93, kw_3_92, kp_9, kw_1_5, by decide +kernel, by decide⟩
def zf_X4_readNumber_j37 (M35 : ZMem) (a1 : Int32) : Option (Int32 × ZMem) :=
  zb1 (zf_X4_fail (M35 42 2) M35) (fun M37 => some (a1, M37))
def zf_X4_readNumber_j127 (M41 : ZMem) (R57 : Int32 → ZMem → Option (Int32 × ZMem)) (v46 : Int32) : Option (Int32 × ZMem) :=
  zput M41 42 2 ((M41 42 2) + (1 : Int32)) (fun M47 => (R57 v46 M47))
def zf_X4_readNumber_L57 (K140 : Int32 → ZMem → Option (Int32 × ZMem)) : Nat → Int32 → ZMem → Option (Int32 × ZMem)
  | 0, _, _ => none
  | n57 + 1, v40, M41 =>
  (if (M41 42 1) ≤ (M41 42 2) then (K140 v40 M41) else zrd M41 43 400 (M41 42 2) (fun v44 => (if v44 < (48 : Int32) then (K140 v40 M41) else zrd M41 43 400 (M41 42 2) (fun v45 => (if (57 : Int32) < v45 then (K140 v40 M41) else (if (5 : Int32) ≤ ((M41 42 2) - (M41 42 3)) then (zf_X4_readNumber_j127 M41 (fun x0 x1 => zf_X4_readNumber_L57 K140 n57 x0 x1) v40) else zrd M41 43 400 (M41 42 2) (fun v48 => (zf_X4_readNumber_j127 M41 (fun x0 x1 => zf_X4_readNumber_L57 K140 n57 x0 x1) (((v40 * (10 : Int32)) + v48) - (48 : Int32))))))))))
def zf_X4_readNumber_j163 (M50 : ZMem) (a1 : Int32) : Option (Int32 × ZMem) :=
  zb1 (zf_X4_fail (M50 42 3) M50) (fun M51 => some (a1, M51))
def zf_X4_readNumber (n : Nat) (a1 : Int32) (a2 : Int32) (M : ZMem) : Option (Int32 × ZMem) :=
  zb1 (zf_X4_isRight M) (fun v34 => (if v34 = 0 then some (a1, M) else zb1 (zf_X4_skipBlanks n M) (fun M35 => zb1 (zf_X4_isDigitAt (M35 42 2) M35) (fun v36 => (if v36 = 0 then (zf_X4_readNumber_j37 M35 a1) else zb1 (zf_X4_isBlankAt ((M35 42 2) - (1 : Int32)) M35) (fun v38 => (if v38 = 0 then (zf_X4_readNumber_j37 M35 a1) else zput M35 42 3 (M35 42 2) (fun M39 => (zf_X4_readNumber_L57 (fun v49 M50 => (if (5 : Int32) < ((M50 42 2) - (M50 42 3)) then (zf_X4_readNumber_j163 M50 a1) else (if v49 < a1 then (zf_X4_readNumber_j163 M50 a1) else (if v49 ≤ a2 then zdy M50 42 6 (7, 17) (fun o52 => zb1 (zf_X8_addNumber o52 v49 M50) (fun M53 => some (v49, M53))) else (zf_X4_readNumber_j163 M50 a1))))) n (0 : Int32) M39)))))))))
set_option maxHeartbeats 4000000 in
set_option maxRecDepth 100000 in
theorem zc_X4_readNumber {l : Launch} {D : va_G} {ad : Nat → Nat} {cA : Nat → ClassId} {n : Nat} {a1 : Int32} {a2 : Int32} {M : ZMem} {r : Int32} {M' : ZMem} (hf : zf_X4_readNumber n a1 a2 M = some (r, M')) : ZCt l D ad cA yX4_readNumber cX4_readNumber 4 (some .int) 2 [.ref (ad 42), .int a1, .int a2] M (some (.int r)) M' := by
  refine zct (by decide +kernel) (Nat.le_of_ble_eq_true rfl) (lv := [(0, .ref (ad 42)), (1, .int a1), (2, .int a2)]) rfl (fun E hl hD had hcA hN hC hR => ?_)
  subst hl; subst hD; subst had; subst hcA
  unfold zf_X4_readNumber at hf
  refine zw_aload_n hC dX4_readNumber_0 rfl 0 rfl ?_
  obtain ⟨v34, hc34, hf⟩ := zb1_some hf
  refine zw_cV hC [] [] (st1 := [.int v34]) zm_X4_isRight (zc_X4_isRight hc34) zk_42 rfl kw_2_231 dX4_readNumber_1 rfl (by decide) (Nat.le_of_ble_eq_true rfl) rfl rfl ?_
  refine zw_if_ne hC 9 hf dX4_readNumber_4 (by decide) (fun hf => ?_) (fun hf => ?_)
  · refine zw_aload_n hC dX4_readNumber_9 rfl 0 rfl ?_
    obtain ⟨M35, hcM35, hf⟩ := zb1_some hf
    refine zw_cV hC [] [] (st1 := []) zm_X4_skipBlanks (zc_X4_skipBlanks hcM35) zk_42 rfl kw_2_227 dX4_readNumber_10 rfl (by decide) (Nat.le_of_ble_eq_true rfl) rfl rfl ?_
    refine zw_aload_n hC dX4_readNumber_13 rfl 0 rfl ?_
    refine zw_aload_n hC dX4_readNumber_14 rfl 0 rfl ?_
    refine zw_geti hC zF_Reader_at zk_42 dX4_readNumber_15 kw_1_230 ?_
    obtain ⟨v36, hc36, hf⟩ := zb1_some hf
    refine zw_cV hC [.int (M35 42 2)] [] (st1 := [.int v36]) zm_X4_isDigitAt (zc_X4_isDigitAt hc36) zk_42 rfl kw_3_94 dX4_readNumber_18 rfl (by decide) (Nat.le_of_ble_eq_true rfl) rfl rfl ?_
    have hj37 : zf_X4_readNumber_j37 M35 a1 = some (r, M') → ZW E 37 [(0, .ref (zad E 42)), (1, .int a1)] [] M35 := by
      intro  hf
      unfold zf_X4_readNumber_j37 at hf
      refine zw_aload_n hC dX4_readNumber_37 rfl 0 rfl ?_
      refine zw_aload_n hC dX4_readNumber_38 rfl 0 rfl ?_
      refine zw_geti hC zF_Reader_at zk_42 dX4_readNumber_39 kw_1_230 ?_
      obtain ⟨M37, hcM37, hf⟩ := zb1_some hf
      refine zw_cV hC [.int (M35 42 2)] [] (st1 := []) zm_X4_fail (zc_X4_fail hcM37) zk_42 rfl kw_3_81 dX4_readNumber_42 rfl (by decide) (Nat.le_of_ble_eq_true rfl) rfl rfl ?_
      refine zw_iload_n hC dX4_readNumber_45 rfl 1 rfl ?_
      obtain ⟨h1, h2⟩ := Prod.mk.inj (Option.some.inj hf)
      subst h1; subst h2
      exact zw_iret hC hR dX4_readNumber_46
    refine zw_if_eq hC 37 hf dX4_readNumber_21 (by decide) (fun hf => ?_) (fun hf => ?_)
    · exact zw_sub [0, 1] rfl (hj37 hf)
    · refine zw_aload_n hC dX4_readNumber_24 rfl 0 rfl ?_
      refine zw_aload_n hC dX4_readNumber_25 rfl 0 rfl ?_
      refine zw_geti hC zF_Reader_at zk_42 dX4_readNumber_26 kw_1_230 ?_
      refine zw_iconst hC (v := (1 : Int32)) dX4_readNumber_29 (by decide) ?_
      refine zw_isub hC dX4_readNumber_30 ?_
      obtain ⟨v38, hc38, hf⟩ := zb1_some hf
      refine zw_cV hC [.int ((M35 42 2) - (1 : Int32))] [] (st1 := [.int v38]) zm_X4_isBlankAt (zc_X4_isBlankAt hc38) zk_42 rfl kw_3_98 dX4_readNumber_31 rfl (by decide) (Nat.le_of_ble_eq_true rfl) rfl rfl ?_
      refine zw_if_ne hC 47 hf dX4_readNumber_34 (by decide) (fun hf => ?_) (fun hf => ?_)
      · refine zw_aload_n hC dX4_readNumber_47 rfl 0 rfl ?_
        refine zw_aload_n hC dX4_readNumber_48 rfl 0 rfl ?_
        refine zw_geti hC zF_Reader_at zk_42 dX4_readNumber_49 kw_1_230 ?_
        refine zw_puti hC hf zF_Reader_lastNumber zk_42 dX4_readNumber_52 kw_1_231 (fun M39 hf => ?_)
        refine zw_iconst hC (v := (0 : Int32)) dX4_readNumber_55 (by decide) ?_
        refine zw_istore_n hC (lv' := [(3, .int (0 : Int32)), (0, .ref (zad E 42)), (1, .int a1), (2, .int a2)]) dX4_readNumber_56 rfl hN (by decide) rfl ?_
        have hL57 : ∀ (K140 : Int32 → ZMem → Option (Int32 × ZMem)), (∀ (v42 : Int32), ∀ (M43 : ZMem), K140 v42 M43 = some (r, M') → ZW E 140 [(0, .ref (zad E 42)), (1, .int a1), (2, .int a2), (3, .int v42)] [] M43) → ∀ (n57 : Nat), ∀ (v40 : Int32), ∀ (M41 : ZMem), zf_X4_readNumber_L57 K140 n57 v40 M41 = some (r, M') → ZW E 57 [(0, .ref (zad E 42)), (1, .int a1), (2, .int a2), (3, .int v40)] [] M41 := by
          intro K140 hK140
          intro n57
          induction n57 with
          | zero => intro v40 M41 hf; rw [zf_X4_readNumber_L57] at hf; cases hf
          | succ n57 ih57 =>
            intro v40 M41 hf
            rw [zf_X4_readNumber_L57] at hf
            refine zw_aload_n hC dX4_readNumber_57 rfl 0 rfl ?_
            refine zw_geti hC zF_Reader_at zk_42 dX4_readNumber_58 kw_1_230 ?_
            refine zw_aload_n hC dX4_readNumber_61 rfl 0 rfl ?_
            refine zw_geti hC zF_Reader_length zk_42 dX4_readNumber_62 kw_1_229 ?_
            refine zw_icmp_ge hC 140 hf dX4_readNumber_65 (by decide) (fun hf => ?_) (fun hf => ?_)
            · exact hK140 v40 M41 hf
            · refine zw_aload_n hC dX4_readNumber_68 rfl 0 rfl ?_
              refine zw_getr (k' := 43) hC zF_Reader_tape zk_42 rfl dX4_readNumber_69 kw_1_227 ?_
              refine zw_aload_n hC dX4_readNumber_72 rfl 0 rfl ?_
              refine zw_geti hC zF_Reader_at zk_42 dX4_readNumber_73 kw_1_230 ?_
              refine zw_iald hC hf zk_43 dX4_readNumber_76 (fun v44 hf => ?_)
              refine zw_bipush hC (v := (48 : Int32)) dX4_readNumber_77 (by decide) ?_
              refine zw_icmp_lt hC 140 hf dX4_readNumber_79 (by decide) (fun hf => ?_) (fun hf => ?_)
              · exact hK140 v40 M41 hf
              · refine zw_aload_n hC dX4_readNumber_82 rfl 0 rfl ?_
                refine zw_getr (k' := 43) hC zF_Reader_tape zk_42 rfl dX4_readNumber_83 kw_1_227 ?_
                refine zw_aload_n hC dX4_readNumber_86 rfl 0 rfl ?_
                refine zw_geti hC zF_Reader_at zk_42 dX4_readNumber_87 kw_1_230 ?_
                refine zw_iald hC hf zk_43 dX4_readNumber_90 (fun v45 hf => ?_)
                refine zw_bipush hC (v := (57 : Int32)) dX4_readNumber_91 (by decide) ?_
                refine zw_icmp_gt hC 140 hf dX4_readNumber_93 (by decide) (fun hf => ?_) (fun hf => ?_)
                · exact hK140 v40 M41 hf
                · refine zw_aload_n hC dX4_readNumber_96 rfl 0 rfl ?_
                  refine zw_geti hC zF_Reader_at zk_42 dX4_readNumber_97 kw_1_230 ?_
                  refine zw_aload_n hC dX4_readNumber_100 rfl 0 rfl ?_
                  refine zw_geti hC zF_Reader_lastNumber zk_42 dX4_readNumber_101 kw_1_231 ?_
                  refine zw_isub hC dX4_readNumber_104 ?_
                  refine zw_iconst hC (v := (5 : Int32)) dX4_readNumber_105 (by decide) ?_
                  have hj127 : ∀ (v46 : Int32), zf_X4_readNumber_j127 M41 (fun x0 x1 => zf_X4_readNumber_L57 K140 n57 x0 x1) v46 = some (r, M') → ZW E 127 [(0, .ref (zad E 42)), (1, .int a1), (2, .int a2), (3, .int v46)] [] M41 := by
                    intro v46 hf
                    unfold zf_X4_readNumber_j127 at hf
                    refine zw_aload_n hC dX4_readNumber_127 rfl 0 rfl ?_
                    refine zw_dup hC dX4_readNumber_128 rfl ?_
                    refine zw_geti hC zF_Reader_at zk_42 dX4_readNumber_129 kw_1_230 ?_
                    refine zw_iconst hC (v := (1 : Int32)) dX4_readNumber_132 (by decide) ?_
                    refine zw_iadd hC dX4_readNumber_133 ?_
                    refine zw_puti hC hf zF_Reader_at zk_42 dX4_readNumber_134 kw_1_230 (fun M47 hf => ?_)
                    refine zw_goto hC 57 dX4_readNumber_137 (by decide) ?_
                    exact ih57 v46 M47 hf
                  refine zw_icmp_ge hC 127 hf dX4_readNumber_106 (by decide) (fun hf => ?_) (fun hf => ?_)
                  · exact hj127 v40 hf
                  · refine zw_iload_n hC dX4_readNumber_109 rfl 3 rfl ?_
                    refine zw_bipush hC (v := (10 : Int32)) dX4_readNumber_110 (by decide) ?_
                    refine zw_imul hC dX4_readNumber_112 ?_
                    refine zw_aload_n hC dX4_readNumber_113 rfl 0 rfl ?_
                    refine zw_getr (k' := 43) hC zF_Reader_tape zk_42 rfl dX4_readNumber_114 kw_1_227 ?_
                    refine zw_aload_n hC dX4_readNumber_117 rfl 0 rfl ?_
                    refine zw_geti hC zF_Reader_at zk_42 dX4_readNumber_118 kw_1_230 ?_
                    refine zw_iald hC hf zk_43 dX4_readNumber_121 (fun v48 hf => ?_)
                    refine zw_iadd hC dX4_readNumber_122 ?_
                    refine zw_bipush hC (v := (48 : Int32)) dX4_readNumber_123 (by decide) ?_
                    refine zw_isub hC dX4_readNumber_125 ?_
                    refine zw_istore_n hC (lv' := [(3, .int (((v40 * (10 : Int32)) + v48) - (48 : Int32))), (0, .ref (zad E 42)), (1, .int a1), (2, .int a2)]) dX4_readNumber_126 rfl hN (by decide) rfl ?_
                    exact zw_sub [1, 2, 3, 0] rfl (hj127 (((v40 * (10 : Int32)) + v48) - (48 : Int32)) hf)
        refine zw_sub [1, 2, 3, 0] rfl (hL57 _ ?_ n (0 : Int32) M39 hf)
        · intro v49 M50 hf
          refine zw_aload_n hC dX4_readNumber_140 rfl 0 rfl ?_
          refine zw_geti hC zF_Reader_at zk_42 dX4_readNumber_141 kw_1_230 ?_
          refine zw_aload_n hC dX4_readNumber_144 rfl 0 rfl ?_
          refine zw_geti hC zF_Reader_lastNumber zk_42 dX4_readNumber_145 kw_1_231 ?_
          refine zw_isub hC dX4_readNumber_148 ?_
          refine zw_iconst hC (v := (5 : Int32)) dX4_readNumber_149 (by decide) ?_
          have hj163 : zf_X4_readNumber_j163 M50 a1 = some (r, M') → ZW E 163 [(0, .ref (zad E 42)), (1, .int a1)] [] M50 := by
            intro  hf
            unfold zf_X4_readNumber_j163 at hf
            refine zw_aload_n hC dX4_readNumber_163 rfl 0 rfl ?_
            refine zw_aload_n hC dX4_readNumber_164 rfl 0 rfl ?_
            refine zw_geti hC zF_Reader_lastNumber zk_42 dX4_readNumber_165 kw_1_231 ?_
            obtain ⟨M51, hcM51, hf⟩ := zb1_some hf
            refine zw_cV hC [.int (M50 42 3)] [] (st1 := []) zm_X4_fail (zc_X4_fail hcM51) zk_42 rfl kw_3_81 dX4_readNumber_168 rfl (by decide) (Nat.le_of_ble_eq_true rfl) rfl rfl ?_
            refine zw_iload_n hC dX4_readNumber_171 rfl 1 rfl ?_
            obtain ⟨h1, h2⟩ := Prod.mk.inj (Option.some.inj hf)
            subst h1; subst h2
            exact zw_iret hC hR dX4_readNumber_172
          refine zw_icmp_gt hC 163 hf dX4_readNumber_150 (by decide) (fun hf => ?_) (fun hf => ?_)
          · exact zw_sub [0, 1] rfl (hj163 hf)
          · refine zw_iload_n hC dX4_readNumber_153 rfl 3 rfl ?_
            refine zw_iload_n hC dX4_readNumber_154 rfl 1 rfl ?_
            refine zw_icmp_lt hC 163 hf dX4_readNumber_155 (by decide) (fun hf => ?_) (fun hf => ?_)
            · exact zw_sub [0, 1] rfl (hj163 hf)
            · refine zw_iload_n hC dX4_readNumber_158 rfl 3 rfl ?_
              refine zw_iload_n hC dX4_readNumber_159 rfl 2 rfl ?_
              refine zw_icmp_le hC 173 hf dX4_readNumber_160 (by decide) (fun hf => ?_) (fun hf => ?_)
              · refine zw_aload_n hC dX4_readNumber_173 rfl 0 rfl ?_
                refine zw_getd hC hf zF_Reader_told zk_42 dX4_readNumber_174 kw_1_234 (fun o52 ho52 hf => ?_)
                refine zw_iload_n hC dX4_readNumber_177 rfl 3 rfl ?_
                obtain ⟨M53, hcM53, hf⟩ := zb1_some hf
                refine zw_cV hC [.int v49] [] (st1 := []) zm_X8_addNumber (zc_X8_addNumber ho52 hcM53) ho52 rfl kw_3_102 dX4_readNumber_178 rfl (by decide) (Nat.le_of_ble_eq_true rfl) rfl rfl ?_
                refine zw_iload_n hC dX4_readNumber_181 rfl 3 rfl ?_
                obtain ⟨h1, h2⟩ := Prod.mk.inj (Option.some.inj hf)
                subst h1; subst h2
                exact zw_iret hC hR dX4_readNumber_182
              · exact zw_sub [0, 1] rfl (hj163 hf)
      · exact zw_sub [0, 1] rfl (hj37 hf)
  · refine zw_iload_n hC dX4_readNumber_7 rfl 1 rfl ?_
    obtain ⟨h1, h2⟩ := Prod.mk.inj (Option.some.inj hf)
    subst h1; subst h2
    exact zw_iret hC hR dX4_readNumber_8
