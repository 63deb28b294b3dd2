/-! ClassOfMany.busiest(I)I -/
theorem dX9_busiest_0 : decode cX9_busiest 0 = .ok (.iload_n 1, 1) := by decide +kernel
theorem dX9_busiest_1 : decode cX9_busiest 1 = .ok (.ifCond .eq 10, 3) := by decide +kernel
theorem dX9_busiest_4 : decode cX9_busiest 4 = .ok (.iload_n 1, 1) := by decide +kernel
theorem dX9_busiest_5 : decode cX9_busiest 5 = .ok (.iconst 1, 1) := by decide +kernel
theorem dX9_busiest_6 : decode cX9_busiest 6 = .ok (.if_icmp .eq 5, 3) := by decide +kernel
theorem dX9_busiest_9 : decode cX9_busiest 9 = .ok (.iconst (-1), 1) := by decide +kernel
theorem dX9_busiest_10 : decode cX9_busiest 10 = .ok (.ireturn, 1) := by decide +kernel
theorem dX9_busiest_11 : decode cX9_busiest 11 = .ok (.iconst (-1), 1) := by decide +kernel
theorem dX9_busiest_12 : decode cX9_busiest 12 = .ok (.istore_n 2, 1) := by decide +kernel
theorem dX9_busiest_13 : decode cX9_busiest 13 = .ok (.aload_n 0, 1) := by decide +kernel
theorem dX9_busiest_14 : decode cX9_busiest 14 = .ok (.getfield 19, 3) := by decide +kernel
theorem dX9_busiest_17 : decode cX9_busiest 17 = .ok (.getfield 171, 3) := by decide +kernel
theorem dX9_busiest_20 : decode cX9_busiest 20 = .ok (.istore_n 3, 1) := by decide +kernel
theorem dX9_busiest_21 : decode cX9_busiest 21 = .ok (.aload_n 0, 1) := by decide +kernel
theorem dX9_busiest_22 : decode cX9_busiest 22 = .ok (.getfield 19, 3) := by decide +kernel
theorem dX9_busiest_25 : decode cX9_busiest 25 = .ok (.getfield 171, 3) := by decide +kernel
theorem dX9_busiest_28 : decode cX9_busiest 28 = .ok (.istore 4, 2) := by decide +kernel
theorem dX9_busiest_30 : decode cX9_busiest 30 = .ok (.iload 4, 2) := by decide +kernel
theorem dX9_busiest_32 : decode cX9_busiest 32 = .ok (.aload_n 0, 1) := by decide +kernel
theorem dX9_busiest_33 : decode cX9_busiest 33 = .ok (.getfield 19, 3) := by decide +kernel
theorem dX9_busiest_36 : decode cX9_busiest 36 = .ok (.getfield 174, 3) := by decide +kernel
theorem dX9_busiest_39 : decode cX9_busiest 39 = .ok (.if_icmp .gt 29, 3) := by decide +kernel
theorem dX9_busiest_42 : decode cX9_busiest 42 = .ok (.aload_n 0, 1) := by decide +kernel
theorem dX9_busiest_43 : decode cX9_busiest 43 = .ok (.iload 4, 2) := by decide +kernel
theorem dX9_busiest_45 : decode cX9_busiest 45 = .ok (.invokevirtual 257, 3) := by decide +kernel
theorem dX9_busiest_48 : decode cX9_busiest 48 = .ok (.istore 5, 2) := by decide +kernel
theorem dX9_busiest_50 : decode cX9_busiest 50 = .ok (.iload 5, 2) := by decide +kernel
theorem dX9_busiest_52 : decode cX9_busiest 52 = .ok (.iload_n 2, 1) := by decide +kernel
theorem dX9_busiest_53 : decode cX9_busiest 53 = .ok (.if_icmp .le 9, 3) := by decide +kernel
theorem dX9_busiest_56 : decode cX9_busiest 56 = .ok (.iload 5, 2) := by decide +kernel
theorem dX9_busiest_58 : decode cX9_busiest 58 = .ok (.istore_n 2, 1) := by decide +kernel
theorem dX9_busiest_59 : decode cX9_busiest 59 = .ok (.iload 4, 2) := by decide +kernel
theorem dX9_busiest_61 : decode cX9_busiest 61 = .ok (.istore_n 3, 1) := by decide +kernel
theorem dX9_busiest_62 : decode cX9_busiest 62 = .ok (.iinc 4 1, 3) := by decide +kernel
theorem dX9_busiest_65 : decode cX9_busiest 65 = .ok (.goto (-35), 3) := by decide +kernel
theorem dX9_busiest_68 : decode cX9_busiest 68 = .ok (.iload_n 1, 1) := by decide +kernel
theorem dX9_busiest_69 : decode cX9_busiest 69 = .ok (.ifCond .ne 7, 3) := by decide +kernel
theorem dX9_busiest_72 : decode cX9_busiest 72 = .ok (.iload_n 2, 1) := by decide +kernel
theorem dX9_busiest_73 : decode cX9_busiest 73 = .ok (.goto 4, 3) := by decide +kernel
theorem dX9_busiest_76 : decode cX9_busiest 76 = .ok (.iload_n 3, 1) := by decide +kernel
theorem dX9_busiest_77 : decode cX9_busiest 77 = .ok (.ireturn, 1) := by decide +kernel
theorem zm_X9_busiest : ZMv "ClassOfMany" yX9_busiest cX9_busiest 6 (some .int) 1 := ⟨kw_4_75, kw_4_73, kw_4_74, kw_1_1, by decide +kernel, by decide⟩
def zf_X9_busiest_j62 (R30 : Int32 → Int32 → Int32 → Option (Int32)) (v24 : Int32) (v28 : Int32) (v29 : Int32) : Option (Int32) :=
  (R30 v28 v29 (v24 + (1 : Int32)))
def zf_X9_busiest_L30 (M : ZMem) (n : Nat) (K68 : Int32 → Int32 → Option (Int32)) : Nat → Int32 → Int32 → Int32 → Option (Int32)
  | 0, _, _, _ => none
  | n30 + 1, v22, v23, v24 =>
  (if (M 12 10) < v24 then (K68 v22 v23) else zb1 (zf_X9_claimantsOn n v24 M) (fun v27 => (if v27 ≤ v22 then (zf_X9_busiest_j62 (fun x0 x1 x2 => zf_X9_busiest_L30 M n K68 n30 x0 x1 x2) v24 v22 v23) else (zf_X9_busiest_j62 (fun x0 x1 x2 => zf_X9_busiest_L30 M n K68 n30 x0 x1 x2) v24 v27 v24))))
def zf_X9_busiest_j77 (v32 : Int32) : Option (Int32) :=
  some v32
def zf_X9_busiest_j11 (M : ZMem) (n : Nat) (a1 : Int32) : Option (Int32) :=
  (zf_X9_busiest_L30 M n (fun v30 v31 => (if a1 = 0 then (zf_X9_busiest_j77 v30) else (zf_X9_busiest_j77 v31))) n (-1 : Int32) (M 12 9) (M 12 9))
def zf_X9_busiest (n : Nat) (a1 : Int32) (M : ZMem) : Option (Int32) :=
  (if a1 = 0 then (zf_X9_busiest_j11 M n a1) else (if a1 = (1 : Int32) then (zf_X9_busiest_j11 M n a1) else some (-1 : Int32)))
set_option maxHeartbeats 4000000 in
set_option maxRecDepth 100000 in
theorem zc_X9_busiest {l : Launch} {D : va_G} {ad : Nat → Nat} {cA : Nat → ClassId} {n : Nat} {a1 : Int32} {M : ZMem} {r : Int32} (hf : zf_X9_busiest n a1 M = some r) : ZCt l D ad cA yX9_busiest cX9_busiest 6 (some .int) 2 [.ref (ad 0), .int a1] M (some (.int r)) M := by
  refine zct (by decide +kernel) (Nat.le_of_ble_eq_true rfl) (lv := [(0, .ref (ad 0)), (1, .int a1)]) rfl (fun E hl hD had hcA hN hC hR => ?_)
  subst hl; subst hD; subst had; subst hcA
  unfold zf_X9_busiest at hf
  refine zw_iload_n hC dX9_busiest_0 rfl 1 rfl ?_
  have hj11 : zf_X9_busiest_j11 M n a1 = some r → ZW E 11 [(0, .ref (zad E 0)), (1, .int a1)] [] M := by
    intro  hf
    unfold zf_X9_busiest_j11 at hf
    refine zw_iconst hC (v := (-1 : Int32)) dX9_busiest_11 (by decide) ?_
    refine zw_istore_n hC (lv' := [(2, .int (-1 : Int32)), (0, .ref (zad E 0)), (1, .int a1)]) dX9_busiest_12 rfl hN (by decide) rfl ?_
    refine zw_aload_n hC dX9_busiest_13 rfl 1 rfl ?_
    refine zw_getr (k' := 12) hC zF_ClassOfMany_now zk_0 rfl dX9_busiest_14 kw_2_169 ?_
    refine zw_geti hC zF_Standing_periodFrom zk_12 dX9_busiest_17 kw_1_164 ?_
    refine zw_istore_n hC (lv' := [(3, .int (M 12 9)), (2, .int (-1 : Int32)), (0, .ref (zad E 0)), (1, .int a1)]) dX9_busiest_20 rfl hN (by decide) rfl ?_
    refine zw_aload_n hC dX9_busiest_21 rfl 2 rfl ?_
    refine zw_getr (k' := 12) hC zF_ClassOfMany_now zk_0 rfl dX9_busiest_22 kw_2_169 ?_
    refine zw_geti hC zF_Standing_periodFrom zk_12 dX9_busiest_25 kw_1_164 ?_
    refine zw_istore hC (lv' := [(4, .int (M 12 9)), (3, .int (M 12 9)), (2, .int (-1 : Int32)), (0, .ref (zad E 0)), (1, .int a1)]) dX9_busiest_28 hN (by decide) rfl ?_
    have hL30 : ∀ (K68 : Int32 → Int32 → Option (Int32)), (∀ (v25 : Int32), ∀ (v26 : Int32), K68 v25 v26 = some r → ZW E 68 [(1, .int a1), (2, .int v25), (3, .int v26)] [] M) → ∀ (n30 : Nat), ∀ (v22 : Int32), ∀ (v23 : Int32), ∀ (v24 : Int32), zf_X9_busiest_L30 M n K68 n30 v22 v23 v24 = some r → ZW E 30 [(0, .ref (zad E 0)), (1, .int a1), (2, .int v22), (3, .int v23), (4, .int v24)] [] M := by
      intro K68 hK68
      intro n30
      induction n30 with
      | zero => intro v22 v23 v24 hf; rw [zf_X9_busiest_L30] at hf; cases hf
      | succ n30 ih30 =>
        intro v22 v23 v24 hf
        rw [zf_X9_busiest_L30] at hf
        refine zw_iload hC dX9_busiest_30 4 rfl ?_
        refine zw_aload_n hC dX9_busiest_32 rfl 0 rfl ?_
        refine zw_getr (k' := 12) hC zF_ClassOfMany_now zk_0 rfl dX9_busiest_33 kw_2_169 ?_
        refine zw_geti hC zF_Standing_periodTo zk_12 dX9_busiest_36 kw_1_167 ?_
        refine zw_icmp_gt hC 68 hf dX9_busiest_39 (by decide) (fun hf => ?_) (fun hf => ?_)
        · exact zw_sub [1, 2, 3] rfl (hK68 v22 v23 hf)
        · refine zw_aload_n hC dX9_busiest_42 rfl 0 rfl ?_
          refine zw_iload hC dX9_busiest_43 4 rfl ?_
          obtain ⟨v27, hc27, hf⟩ := zb1_some hf
          refine zw_cV hC [.int v24] [] (st1 := [.int v27]) zm_X9_claimantsOn (zc_X9_claimantsOn hc27) zk_0 rfl kw_4_76 dX9_busiest_45 rfl (by decide) (Nat.le_of_ble_eq_true rfl) rfl rfl ?_
          refine zw_istore hC (lv' := [(5, .int v27), (0, .ref (zad E 0)), (1, .int a1), (2, .int v22), (3, .int v23), (4, .int v24)]) dX9_busiest_48 hN (by decide) rfl ?_
          refine zw_iload hC dX9_busiest_50 0 rfl ?_
          refine zw_iload_n hC dX9_busiest_52 rfl 3 rfl ?_
          have hj62 : ∀ (v28 : Int32), ∀ (v29 : Int32), zf_X9_busiest_j62 (fun x0 x1 x2 => zf_X9_busiest_L30 M n K68 n30 x0 x1 x2) v24 v28 v29 = some r → ZW E 62 [(0, .ref (zad E 0)), (1, .int a1), (2, .int v28), (3, .int v29), (4, .int v24)] [] M := by
            intro v28 v29 hf
            unfold zf_X9_busiest_j62 at hf
            refine zw_iinc hC (v := (1 : Int32)) (lv' := [(4, .int (v24 + (1 : Int32))), (0, .ref (zad E 0)), (1, .int a1), (2, .int v28), (3, .int v29)]) dX9_busiest_62 4 rfl (by decide) hN (by decide) rfl ?_
            refine zw_goto hC 30 dX9_busiest_65 (by decide) ?_
            exact zw_sub [1, 2, 3, 4, 0] rfl (ih30 v28 v29 (v24 + (1 : Int32)) hf)
          refine zw_icmp_le hC 62 hf dX9_busiest_53 (by decide) (fun hf => ?_) (fun hf => ?_)
          · exact zw_sub [1, 2, 3, 4, 5] rfl (hj62 v22 v23 hf)
          · refine zw_iload hC dX9_busiest_56 0 rfl ?_
            refine zw_istore_n hC (lv' := [(2, .int v27), (5, .int v27), (0, .ref (zad E 0)), (1, .int a1), (3, .int v23), (4, .int v24)]) dX9_busiest_58 rfl hN (by decide) rfl ?_
            refine zw_iload hC dX9_busiest_59 5 rfl ?_
            refine zw_istore_n hC (lv' := [(3, .int v24), (2, .int v27), (5, .int v27), (0, .ref (zad E 0)), (1, .int a1), (4, .int v24)]) dX9_busiest_61 rfl hN (by decide) rfl ?_
            exact zw_sub [3, 4, 1, 0, 5] rfl (hj62 v27 v24 hf)
    refine zw_sub [3, 4, 2, 1, 0] rfl (hL30 _ ?_ n (-1 : Int32) (M 12 9) (M 12 9) hf)
    · intro v30 v31 hf
      refine zw_iload_n hC dX9_busiest_68 rfl 0 rfl ?_
      have hj77 : ∀ (v32 : Int32), zf_X9_busiest_j77 v32 = some r → ZW E 77 [] [.int v32] M := by
        intro v32 hf
        unfold zf_X9_busiest_j77 at hf
        have h1 := Option.some.inj hf
        subst h1
        exact zw_iret hC hR dX9_busiest_77
      refine zw_if_ne hC 76 hf dX9_busiest_69 (by decide) (fun hf => ?_) (fun hf => ?_)
      · refine zw_iload_n hC dX9_busiest_76 rfl 2 rfl ?_
        exact zw_sub [] rfl (hj77 v31 hf)
      · refine zw_iload_n hC dX9_busiest_72 rfl 1 rfl ?_
        refine zw_goto hC 77 dX9_busiest_73 (by decide) ?_
        exact zw_sub [] rfl (hj77 v30 hf)
  refine zw_if_eq hC 11 hf dX9_busiest_1 (by decide) (fun hf => ?_) (fun hf => ?_)
  · exact hj11 hf
  · refine zw_iload_n hC dX9_busiest_4 rfl 1 rfl ?_
    refine zw_iconst hC (v := (1 : Int32)) dX9_busiest_5 (by decide) ?_
    refine zw_icmp_eq hC 11 hf dX9_busiest_6 (by decide) (fun hf => ?_) (fun hf => ?_)
    · exact hj11 hf
    · refine zw_iconst hC (v := (-1 : Int32)) dX9_busiest_9 (by decide) ?_
      have h1 := Option.some.inj hf
      subst h1
      exact zw_iret hC hR dX9_busiest_10
/-! ClassOfMany.splitNow()V -/
theorem dX9_splitNow_0 : decode cX9_splitNow 0 = .ok (.aload_n 0, 1) := by decide +kernel
theorem dX9_splitNow_1 : decode cX9_splitNow 1 = .ok (.getfield 43, 3) := by decide +kernel
theorem dX9_splitNow_4 : decode cX9_splitNow 4 = .ok (.aload_n 0, 1) := by decide +kernel
theorem dX9_splitNow_5 : decode cX9_splitNow 5 = .ok (.getfield 12, 3) := by decide +kernel
theorem dX9_splitNow_8 : decode cX9_splitNow 8 = .ok (.aload_n 0, 1) := by decide +kernel
theorem dX9_splitNow_9 : decode cX9_splitNow 9 = .ok (.getfield 19, 3) := by decide +kernel
theorem dX9_splitNow_12 : decode cX9_splitNow 12 = .ok (.invokevirtual 260, 3) := by decide +kernel
theorem dX9_splitNow_15 : decode cX9_splitNow 15 = .ok (.return_, 1) := by decide +kernel
theorem zm_X9_splitNow : ZMv "ClassOfMany" yX9_splitNow cX9_splitNow 1 (none) 0 := ⟨kw_4_87, kw_4_86, kp_27, kw_1_1, by decide +kernel, by decide⟩
def zf_X9_splitNow (n : Nat) (M : ZMem) : Option (ZMem) :=
  zdy M 0 0 (7, 17) (fun o23 => zb1 (zf_X6_split n o23 12 M) (fun M24 => some M24))
set_option maxHeartbeats 4000000 in
set_option maxRecDepth 100000 in
theorem zc_X9_splitNow {l : Launch} {D : va_G} {ad : Nat → Nat} {cA : Nat → ClassId} {n : Nat} {M : ZMem} {M' : ZMem} (hf : zf_X9_splitNow n M = some M') : ZCt l D ad cA yX9_splitNow cX9_splitNow 1 (none) 17 [.ref (ad 0)] M none M' := by
  refine zct (by decide +kernel) (Nat.le_of_ble_eq_true rfl) (lv := [(0, .ref (ad 0))]) rfl (fun E hl hD had hcA hN hC hR => ?_)
  subst hl; subst hD; subst had; subst hcA
  unfold zf_X9_splitNow at hf
  refine zw_aload_n hC dX9_splitNow_0 rfl 0 rfl ?_
  refine zw_getr (k' := 57) hC zF_ClassOfMany_splitter zk_0 rfl dX9_splitNow_1 kw_2_173 ?_
  refine zw_aload_n hC dX9_splitNow_4 rfl 0 rfl ?_
  refine zw_getd hC hf zF_ClassOfMany_told zk_0 dX9_splitNow_5 kw_2_168 (fun o23 ho23 hf => ?_)
  refine zw_aload_n hC dX9_splitNow_8 rfl 0 rfl ?_
  refine zw_getr (k' := 12) hC zF_ClassOfMany_now zk_0 rfl dX9_splitNow_9 kw_2_169 ?_
  obtain ⟨M24, hcM24, hf⟩ := zb1_some hf
  refine zw_cV hC [.ref (zad E o23), .ref (zad E 12)] [] (st1 := []) zm_X6_split (zc_X6_split ho23 zk_12 hcM24) zk_57 rfl kw_4_88 dX9_splitNow_12 rfl (by decide) (Nat.le_of_ble_eq_true rfl) rfl rfl ?_
  have h1 := Option.some.inj hf
  subst h1
  exact zw_vret hC hR dX9_splitNow_15
/-! ClassOfMany.classes()I -/
theorem dX9_classes_0 : decode cX9_classes 0 = .ok (.aload_n 0, 1) := by decide +kernel
theorem dX9_classes_1 : decode cX9_classes 1 = .ok (.invokevirtual 264, 3) := by decide +kernel
theorem dX9_classes_4 : decode cX9_classes 4 = .ok (.aload_n 0, 1) := by decide +kernel
theorem dX9_classes_5 : decode cX9_classes 5 = .ok (.getfield 43, 3) := by decide +kernel
theorem dX9_classes_8 : decode cX9_classes 8 = .ok (.getfield 267, 3) := by decide +kernel
theorem dX9_classes_11 : decode cX9_classes 11 = .ok (.ireturn, 1) := by decide +kernel
theorem zm_X9_classes : ZMv "ClassOfMany" yX9_classes cX9_classes 1 (some .int) 0 := ⟨kw_4_83, kw_4_81, kw_4_82, kw_1_1, by decide +kernel, by decide⟩
def zf_X9_classes (n : Nat) (M : ZMem) : Option (Int32 × ZMem) :=
  zb1 (zf_X9_splitNow n M) (fun M22 => some ((M22 57 5), M22))
set_option maxHeartbeats 4000000 in
set_option maxRecDepth 100000 in
theorem zc_X9_classes {l : Launch} {D : va_G} {ad : Nat → Nat} {cA : Nat → ClassId} {n : Nat} {M : ZMem} {r : Int32} {M' : ZMem} (hf : zf_X9_classes n M = some (r, M')) : ZCt l D ad cA yX9_classes cX9_classes 1 (some .int) 18 [.ref (ad 0)] M (some (.int r)) M' := by
  refine zct (by decide +kernel) (Nat.le_of_ble_eq_true rfl) (lv := [(0, .ref (ad 0))]) rfl (fun E hl hD had hcA hN hC hR => ?_)
  subst hl; subst hD; subst had; subst hcA
  unfold zf_X9_classes at hf
  refine zw_aload_n hC dX9_classes_0 rfl 0 rfl ?_
  obtain ⟨M22, hcM22, hf⟩ := zb1_some hf
  refine zw_cV hC [] [] (st1 := []) zm_X9_splitNow (zc_X9_splitNow hcM22) zk_0 rfl kw_4_84 dX9_classes_1 rfl (by decide) (Nat.le_of_ble_eq_true rfl) rfl rfl ?_
  refine zw_aload_n hC dX9_classes_4 rfl 0 rfl ?_
  refine zw_getr (k' := 57) hC zF_ClassOfMany_splitter zk_0 rfl dX9_classes_5 kw_2_173 ?_
  refine zw_geti hC zF_Splitter_size zk_57 dX9_classes_8 kw_2_28 ?_
  obtain ⟨h1, h2⟩ := Prod.mk.inj (Option.some.inj hf)
  subst h1; subst h2
  exact zw_iret hC hR dX9_classes_11
/-! ClassOfMany.classOf(I)I -/
theorem dX9_classOf_0 : decode cX9_classOf 0 = .ok (.aload_n 0, 1) := by decide +kernel
theorem dX9_classOf_1 : decode cX9_classOf 1 = .ok (.iload_n 1, 1) := by decide +kernel
theorem dX9_classOf_2 : decode cX9_classOf 2 = .ok (.invokevirtual 130, 3) := by decide +kernel
theorem dX9_classOf_5 : decode cX9_classOf 5 = .ok (.ifCond .ne 5, 3) := by decide +kernel
theorem dX9_classOf_8 : decode cX9_classOf 8 = .ok (.iconst (-1), 1) := by decide +kernel
theorem dX9_classOf_9 : decode cX9_classOf 9 = .ok (.ireturn, 1) := by decide +kernel
theorem dX9_classOf_10 : decode cX9_classOf 10 = .ok (.aload_n 0, 1) := by decide +kernel
theorem dX9_classOf_11 : decode cX9_classOf 11 = .ok (.invokevirtual 264, 3) := by decide +kernel
theorem dX9_classOf_14 : decode cX9_classOf 14 = .ok (.aload_n 0, 1) := by decide +kernel
theorem dX9_classOf_15 : decode cX9_classOf 15 = .ok (.getfield 43, 3) := by decide +kernel
theorem dX9_classOf_18 : decode cX9_classOf 18 = .ok (.iload_n 1, 1) := by decide +kernel
theorem dX9_classOf_19 : decode cX9_classOf 19 = .ok (.invokevirtual 268, 3) := by decide +kernel
theorem dX9_classOf_22 : decode cX9_classOf 22 = .ok (.ireturn, 1) := by decide +kernel
theorem zm_X9_classOf : ZMv "ClassOfMany" yX9_classOf cX9_classOf 2 (some .int) 1 := ⟨kw_4_111, kw_4_109, kw_4_110, kw_1_1, by decide +kernel, by decide⟩
def zf_X9_classOf (n : Nat) (a1 : Int32) (M : ZMem) : Option (Int32 × ZMem) :=
  zb1 (zf_X9_isMember a1 M) (fun v24 => (if v24 = 0 then some ((-1 : Int32), M) else zb1 (zf_X9_splitNow n M) (fun M25 => zb1 (zf_X6_groupOf n a1 M25) (fun v26 => some (v26, M25)))))
set_option maxHeartbeats 4000000 in
set_option maxRecDepth 100000 in
theorem zc_X9_classOf {l : Launch} {D : va_G} {ad : Nat → Nat} {cA : Nat → ClassId} {n : Nat} {a1 : Int32} {M : ZMem} {r : Int32} {M' : ZMem} (hf : zf_X9_classOf n a1 M = some (r, M')) : ZCt l D ad cA yX9_classOf cX9_classOf 2 (some .int) 18 [.ref (ad 0), .int a1] M (some (.int r)) M' := by
  refine zct (by decide +kernel) (Nat.le_of_ble_eq_true rfl) (lv := [(0, .ref (ad 0)), (1, .int a1)]) rfl (fun E hl hD had hcA hN hC hR => ?_)
  subst hl; subst hD; subst had; subst hcA
  unfold zf_X9_classOf at hf
  refine zw_aload_n hC dX9_classOf_0 rfl 0 rfl ?_
  refine zw_iload_n hC dX9_classOf_1 rfl 1 rfl ?_
  obtain ⟨v24, hc24, hf⟩ := zb1_some hf
  refine zw_cV hC [.int a1] [] (st1 := [.int v24]) zm_X9_isMember (zc_X9_isMember hc24) zk_0 rfl kw_3_197 dX9_classOf_2 rfl (by decide) (Nat.le_of_ble_eq_true rfl) rfl rfl ?_
  refine zw_if_ne hC 10 hf dX9_classOf_5 (by decide) (fun hf => ?_) (fun hf => ?_)
  · refine zw_aload_n hC dX9_classOf_10 rfl 0 rfl ?_
    obtain ⟨M25, hcM25, hf⟩ := zb1_some hf
    refine zw_cV hC [] [] (st1 := []) zm_X9_splitNow (zc_X9_splitNow hcM25) zk_0 rfl kw_4_84 dX9_classOf_11 rfl (by decide) (Nat.le_of_ble_eq_true rfl) rfl rfl ?_
    refine zw_aload_n hC dX9_classOf_14 rfl 0 rfl ?_
    refine zw_getr (k' := 57) hC zF_ClassOfMany_splitter zk_0 rfl dX9_classOf_15 kw_2_173 ?_
    refine zw_iload_n hC dX9_classOf_18 rfl 1 rfl ?_
    obtain ⟨v26, hc26, hf⟩ := zb1_some hf
    refine zw_cV hC [.int a1] [] (st1 := [.int v26]) zm_X6_groupOf (zc_X6_groupOf hc26) zk_57 rfl kw_4_112 dX9_classOf_19 rfl (by decide) (Nat.le_of_ble_eq_true rfl) rfl rfl ?_
    obtain ⟨h1, h2⟩ := Prod.mk.inj (Option.some.inj hf)
    subst h1; subst h2
    exact zw_iret hC hR dX9_classOf_22
  · refine zw_iconst hC (v := (-1 : Int32)) dX9_classOf_8 (by decide) ?_
    obtain ⟨h1, h2⟩ := Prod.mk.inj (Option.some.inj hf)
    subst h1; subst h2
    exact zw_iret hC hR dX9_classOf_9
/-! ClassOfMany.classBits(I)I -/
theorem dX9_classBits_0 : decode cX9_classBits 0 = .ok (.aload_n 0, 1) := by decide +kernel
theorem dX9_classBits_1 : decode cX9_classBits 1 = .ok (.invokevirtual 264, 3) := by decide +kernel
theorem dX9_classBits_4 : decode cX9_classBits 4 = .ok (.aload_n 0, 1) := by decide +kernel
theorem dX9_classBits_5 : decode cX9_classBits 5 = .ok (.getfield 43, 3) := by decide +kernel
theorem dX9_classBits_8 : decode cX9_classBits 8 = .ok (.iload_n 1, 1) := by decide +kernel
theorem dX9_classBits_9 : decode cX9_classBits 9 = .ok (.invokevirtual 271, 3) := by decide +kernel
theorem dX9_classBits_12 : decode cX9_classBits 12 = .ok (.ifCond .eq 15, 3) := by decide +kernel
theorem dX9_classBits_15 : decode cX9_classBits 15 = .ok (.aload_n 0, 1) := by decide +kernel
theorem dX9_classBits_16 : decode cX9_classBits 16 = .ok (.getfield 43, 3) := by decide +kernel
theorem dX9_classBits_19 : decode cX9_classBits 19 = .ok (.getfield 274, 3) := by decide +kernel
theorem dX9_classBits_22 : decode cX9_classBits 22 = .ok (.iload_n 1, 1) := by decide +kernel
theorem dX9_classBits_23 : decode cX9_classBits 23 = .ok (.iaload, 1) := by decide +kernel
theorem dX9_classBits_24 : decode cX9_classBits 24 = .ok (.goto 4, 3) := by decide +kernel
theorem dX9_classBits_27 : decode cX9_classBits 27 = .ok (.iconst (-1), 1) := by decide +kernel
theorem dX9_classBits_28 : decode cX9_classBits 28 = .ok (.ireturn, 1) := by decide +kernel
theorem zm_X9_classBits : ZMv "ClassOfMany" yX9_classBits cX9_classBits 2 (some .int) 1 := ⟨kw_4_119, kw_4_117, kw_4_118, kw_1_1, by decide +kernel, by decide⟩
def zf_X9_classBits_j28 (M24 : ZMem) (v26 : Int32) : Option (Int32 × ZMem) :=
  some (v26, M24)
def zf_X9_classBits (n : Nat) (a1 : Int32) (M : ZMem) : Option (Int32 × ZMem) :=
  zb1 (zf_X9_splitNow n M) (fun M24 => zb1 (zf_X6_isGroup a1 M24) (fun v25 => (if v25 = 0 then (zf_X9_classBits_j28 M24 (-1 : Int32)) else zrd M24 59 10 a1 (fun v27 => (zf_X9_classBits_j28 M24 v27)))))
set_option maxHeartbeats 4000000 in
set_option maxRecDepth 100000 in
theorem zc_X9_classBits {l : Launch} {D : va_G} {ad : Nat → Nat} {cA : Nat → ClassId} {n : Nat} {a1 : Int32} {M : ZMem} {r : Int32} {M' : ZMem} (hf : zf_X9_classBits n a1 M = some (r, M')) : ZCt l D ad cA yX9_classBits cX9_classBits 2 (some .int) 18 [.ref (ad 0), .int a1] M (some (.int r)) M' := by
  refine zct (by decide +kernel) (Nat.le_of_ble_eq_true rfl) (lv := [(0, .ref (ad 0)), (1, .int a1)]) rfl (fun E hl hD had hcA hN hC hR => ?_)
  subst hl; subst hD; subst had; subst hcA
  unfold zf_X9_classBits at hf
  refine zw_aload_n hC dX9_classBits_0 rfl 0 rfl ?_
  obtain ⟨M24, hcM24, hf⟩ := zb1_some hf
  refine zw_cV hC [] [] (st1 := []) zm_X9_splitNow (zc_X9_splitNow hcM24) zk_0 rfl kw_4_84 dX9_classBits_1 rfl (by decide) (Nat.le_of_ble_eq_true rfl) rfl rfl ?_
  refine zw_aload_n hC dX9_classBits_4 rfl 0 rfl ?_
  refine zw_getr (k' := 57) hC zF_ClassOfMany_splitter zk_0 rfl dX9_classBits_5 kw_2_173 ?_
  refine zw_iload_n hC dX9_classBits_8 rfl 1 rfl ?_
  obtain ⟨v25, hc25, hf⟩ := zb1_some hf
  refine zw_cV hC [.int a1] [] (st1 := [.int v25]) zm_X6_isGroup (zc_X6_isGroup hc25) zk_57 rfl kw_4_120 dX9_classBits_9 rfl (by decide) (Nat.le_of_ble_eq_true rfl) rfl rfl ?_
  have hj28 : ∀ (v26 : Int32), zf_X9_classBits_j28 M24 v26 = some (r, M') → ZW E 28 [] [.int v26] M24 := by
    intro v26 hf
    unfold zf_X9_classBits_j28 at hf
    obtain ⟨h1, h2⟩ := Prod.mk.inj (Option.some.inj hf)
    subst h1; subst h2
    exact zw_iret hC hR dX9_classBits_28
  refine zw_if_eq hC 27 hf dX9_classBits_12 (by decide) (fun hf => ?_) (fun hf => ?_)
  · refine zw_iconst hC (v := (-1 : Int32)) dX9_classBits_27 (by decide) ?_
    exact zw_sub [] rfl (hj28 (-1 : Int32) hf)
  · refine zw_aload_n hC dX9_classBits_15 rfl 0 rfl ?_
    refine zw_getr (k' := 57) hC zF_ClassOfMany_splitter zk_0 rfl dX9_classBits_16 kw_2_173 ?_
    refine zw_getr (k' := 59) hC zF_Splitter_groups zk_57 rfl dX9_classBits_19 kw_2_26 ?_
    refine zw_iload_n hC dX9_classBits_22 rfl 1 rfl ?_
    refine zw_iald hC hf zk_59 dX9_classBits_23 (fun v27 hf => ?_)
    refine zw_goto hC 28 dX9_classBits_24 (by decide) ?_
    exact zw_sub [] rfl (hj28 v27 hf)
/-! ClassOfMany.splits(I)I -/
theorem dX9_splits_0 : decode cX9_splits 0 = .ok (.iload_n 1, 1) := by decide +kernel
theorem dX9_splits_1 : decode cX9_splits 1 = .ok (.ifCond .ge 5, 3) := by decide +kernel
theorem dX9_splits_4 : decode cX9_splits 4 = .ok (.iconst (-1), 1) := by decide +kernel
theorem dX9_splits_5 : decode cX9_splits 5 = .ok (.ireturn, 1) := by decide +kernel
theorem dX9_splits_6 : decode cX9_splits 6 = .ok (.aload_n 0, 1) := by decide +kernel
theorem dX9_splits_7 : decode cX9_splits 7 = .ok (.getfield 43, 3) := by decide +kernel
theorem dX9_splits_10 : decode cX9_splits 10 = .ok (.aload_n 0, 1) := by decide +kernel
theorem dX9_splits_11 : decode cX9_splits 11 = .ok (.getfield 12, 3) := by decide +kernel
theorem dX9_splits_14 : decode cX9_splits 14 = .ok (.aload_n 0, 1) := by decide +kernel
theorem dX9_splits_15 : decode cX9_splits 15 = .ok (.getfield 19, 3) := by decide +kernel
theorem dX9_splits_18 : decode cX9_splits 18 = .ok (.invokevirtual 277, 3) := by decide +kernel
theorem dX9_splits_21 : decode cX9_splits 21 = .ok (.aload_n 0, 1) := by decide +kernel
theorem dX9_splits_22 : decode cX9_splits 22 = .ok (.getfield 43, 3) := by decide +kernel
theorem dX9_splits_25 : decode cX9_splits 25 = .ok (.iload_n 1, 1) := by decide +kernel
theorem dX9_splits_26 : decode cX9_splits 26 = .ok (.invokevirtual 280, 3) := by decide +kernel
theorem dX9_splits_29 : decode cX9_splits 29 = .ok (.ireturn, 1) := by decide +kernel
theorem zm_X9_splits : ZMv "ClassOfMany" yX9_splits cX9_splits 2 (some .int) 1 := ⟨kw_4_127, kw_4_125, kw_4_126, kw_1_1, by decide +kernel, by decide⟩
def zf_X9_splits (n : Nat) (a1 : Int32) (M : ZMem) : Option (Int32 × ZMem) :=
  (if 0 ≤ a1 then zdy M 0 0 (7, 17) (fun o25 => zb1 (zf_X6_take o25 12 M) (fun M26 => zb2 (zf_X6_waysInto n a1 M26) (fun v27 M28 => some (v27, M28)))) else some ((-1 : Int32), M))
set_option maxHeartbeats 4000000 in
set_option maxRecDepth 100000 in
theorem zc_X9_splits {l : Launch} {D : va_G} {ad : Nat → Nat} {cA : Nat → ClassId} {n : Nat} {a1 : Int32} {M : ZMem} {r : Int32} {M' : ZMem} (hf : zf_X9_splits n a1 M = some (r, M')) : ZCt l D ad cA yX9_splits cX9_splits 2 (some .int) 3 [.ref (ad 0), .int a1] M (some (.int r)) M' := by
  refine zct (by decide +kernel) (Nat.le_of_ble_eq_true rfl) (lv := [(0, .ref (ad 0)), (1, .int a1)]) rfl (fun E hl hD had hcA hN hC hR => ?_)
  subst hl; subst hD; subst had; subst hcA
  unfold zf_X9_splits at hf
  refine zw_iload_n hC dX9_splits_0 rfl 1 rfl ?_
  refine zw_if_ge hC 6 hf dX9_splits_1 (by decide) (fun hf => ?_) (fun hf => ?_)
  · refine zw_aload_n hC dX9_splits_6 rfl 0 rfl ?_
    refine zw_getr (k' := 57) hC zF_ClassOfMany_splitter zk_0 rfl dX9_splits_7 kw_2_173 ?_
    refine zw_aload_n hC dX9_splits_10 rfl 0 rfl ?_
    refine zw_getd hC hf zF_ClassOfMany_told zk_0 dX9_splits_11 kw_2_168 (fun o25 ho25 hf => ?_)
    refine zw_aload_n hC dX9_splits_14 rfl 0 rfl ?_
    refine zw_getr (k' := 12) hC zF_ClassOfMany_now zk_0 rfl dX9_splits_15 kw_2_169 ?_
    obtain ⟨M26, hcM26, hf⟩ := zb1_some hf
    refine zw_cV hC [.ref (zad E o25), .ref (zad E 12)] [] (st1 := []) zm_X6_take (zc_X6_take ho25 zk_12 hcM26) zk_57 rfl kw_4_128 dX9_splits_18 rfl (by decide) (Nat.le_of_ble_eq_true rfl) rfl rfl ?_
    refine zw_aload_n hC dX9_splits_21 rfl 0 rfl ?_
    refine zw_getr (k' := 57) hC zF_ClassOfMany_splitter zk_0 rfl dX9_splits_22 kw_2_173 ?_
    refine zw_iload_n hC dX9_splits_25 rfl 1 rfl ?_
    obtain ⟨v27, M28, hcM28, hf⟩ := zb2_some hf
    refine zw_cV hC [.int a1] [] (st1 := [.int v27]) zm_X6_waysInto (zc_X6_waysInto hcM28) zk_57 rfl kw_4_129 dX9_splits_26 rfl (by decide) (Nat.le_of_ble_eq_true rfl) rfl rfl ?_
    obtain ⟨h1, h2⟩ := Prod.mk.inj (Option.some.inj hf)
    subst h1; subst h2
    exact zw_iret hC hR dX9_splits_29
  · refine zw_iconst hC (v := (-1 : Int32)) dX9_splits_4 (by decide) ?_
    obtain ⟨h1, h2⟩ := Prod.mk.inj (Option.some.inj hf)
    subst h1; subst h2
    exact zw_iret hC hR dX9_splits_5
/-! ClassOfMany.feud()I -/
theorem dX9_feud_0 : decode cX9_feud 0 = .ok (.aload_n 0, 1) := by decide +kernel
theorem dX9_feud_1 : decode cX9_feud 1 = .ok (.getfield 43, 3) := by decide +kernel
theorem dX9_feud_4 : decode cX9_feud 4 = .ok (.aload_n 0, 1) := by decide +kernel
theorem dX9_feud_5 : decode cX9_feud 5 = .ok (.getfield 12, 3) := by decide +kernel
theorem dX9_feud_8 : decode cX9_feud 8 = .ok (.aload_n 0, 1) := by decide +kernel
theorem dX9_feud_9 : decode cX9_feud 9 = .ok (.getfield 19, 3) := by decide +kernel
theorem dX9_feud_12 : decode cX9_feud 12 = .ok (.invokevirtual 277, 3) := by decide +kernel
theorem dX9_feud_15 : decode cX9_feud 15 = .ok (.aload_n 0, 1) := by decide +kernel
theorem dX9_feud_16 : decode cX9_feud 16 = .ok (.getfield 43, 3) := by decide +kernel
theorem dX9_feud_19 : decode cX9_feud 19 = .ok (.invokevirtual 283, 3) := by decide +kernel
theorem dX9_feud_22 : decode cX9_feud 22 = .ok (.ireturn, 1) := by decide +kernel
theorem zm_X9_feud : ZMv "ClassOfMany" yX9_feud cX9_feud 1 (some .int) 0 := ⟨kw_4_144, kw_4_142, kw_4_143, kw_1_1, by decide +kernel, by decide⟩
def zf_X9_feud (n : Nat) (M : ZMem) : Option (Int32 × ZMem) :=
  zdy M 0 0 (7, 17) (fun o24 => zb1 (zf_X6_take o24 12 M) (fun M25 => zb1 (zf_X6_greatestFeud n M25) (fun v26 => some (v26, M25))))
set_option maxHeartbeats 4000000 in
set_option maxRecDepth 100000 in
theorem zc_X9_feud {l : Launch} {D : va_G} {ad : Nat → Nat} {cA : Nat → ClassId} {n : Nat} {M : ZMem} {r : Int32} {M' : ZMem} (hf : zf_X9_feud n M = some (r, M')) : ZCt l D ad cA yX9_feud cX9_feud 1 (some .int) 4 [.ref (ad 0)] M (some (.int r)) M' := by
  refine zct (by decide +kernel) (Nat.le_of_ble_eq_true rfl) (lv := [(0, .ref (ad 0))]) rfl (fun E hl hD had hcA hN hC hR => ?_)
  subst hl; subst hD; subst had; subst hcA
  unfold zf_X9_feud at hf
  refine zw_aload_n hC dX9_feud_0 rfl 0 rfl ?_
  refine zw_getr (k' := 57) hC zF_ClassOfMany_splitter zk_0 rfl dX9_feud_1 kw_2_173 ?_
  refine zw_aload_n hC dX9_feud_4 rfl 0 rfl ?_
  refine zw_getd hC hf zF_ClassOfMany_told zk_0 dX9_feud_5 kw_2_168 (fun o24 ho24 hf => ?_)
  refine zw_aload_n hC dX9_feud_8 rfl 0 rfl ?_
  refine zw_getr (k' := 12) hC zF_ClassOfMany_now zk_0 rfl dX9_feud_9 kw_2_169 ?_
  obtain ⟨M25, hcM25, hf⟩ := zb1_some hf
  refine zw_cV hC [.ref (zad E o24), .ref (zad E 12)] [] (st1 := []) zm_X6_take (zc_X6_take ho24 zk_12 hcM25) zk_57 rfl kw_4_128 dX9_feud_12 rfl (by decide) (Nat.le_of_ble_eq_true rfl) rfl rfl ?_
  refine zw_aload_n hC dX9_feud_15 rfl 0 rfl ?_
  refine zw_getr (k' := 57) hC zF_ClassOfMany_splitter zk_0 rfl dX9_feud_16 kw_2_173 ?_
  obtain ⟨v26, hc26, hf⟩ := zb1_some hf
  refine zw_cV hC [] [] (st1 := [.int v26]) zm_X6_greatestFeud (zc_X6_greatestFeud hc26) zk_57 rfl kw_4_145 dX9_feud_19 rfl (by decide) (Nat.le_of_ble_eq_true rfl) rfl rfl ?_
  obtain ⟨h1, h2⟩ := Prod.mk.inj (Option.some.inj hf)
  subst h1; subst h2
  exact zw_iret hC hR dX9_feud_22
/-! ClassOfMany.settles()I -/
theorem dX9_settles_0 : decode cX9_settles 0 = .ok (.aload_n 0, 1) := by decide +kernel
theorem dX9_settles_1 : decode cX9_settles 1 = .ok (.invokevirtual 264, 3) := by decide +kernel
theorem dX9_settles_4 : decode cX9_settles 4 = .ok (.aload_n 0, 1) := by decide +kernel
theorem dX9_settles_5 : decode cX9_settles 5 = .ok (.getfield 43, 3) := by decide +kernel
theorem dX9_settles_8 : decode cX9_settles 8 = .ok (.getfield 267, 3) := by decide +kernel
theorem dX9_settles_11 : decode cX9_settles 11 = .ok (.istore_n 1, 1) := by decide +kernel
theorem dX9_settles_12 : decode cX9_settles 12 = .ok (.iconst 0, 1) := by decide +kernel
theorem dX9_settles_13 : decode cX9_settles 13 = .ok (.istore_n 2, 1) := by decide +kernel
theorem dX9_settles_14 : decode cX9_settles 14 = .ok (.iload_n 2, 1) := by decide +kernel
theorem dX9_settles_15 : decode cX9_settles 15 = .ok (.aload_n 0, 1) := by decide +kernel
theorem dX9_settles_16 : decode cX9_settles 16 = .ok (.getfield 12, 3) := by decide +kernel
theorem dX9_settles_19 : decode cX9_settles 19 = .ok (.getfield 92, 3) := by decide +kernel
theorem dX9_settles_22 : decode cX9_settles 22 = .ok (.if_icmp .ge 66, 3) := by decide +kernel
theorem dX9_settles_25 : decode cX9_settles 25 = .ok (.iload_n 2, 1) := by decide +kernel
theorem dX9_settles_26 : decode cX9_settles 26 = .ok (.iconst 1, 1) := by decide +kernel
theorem dX9_settles_27 : decode cX9_settles 27 = .ok (.iadd, 1) := by decide +kernel
theorem dX9_settles_28 : decode cX9_settles 28 = .ok (.istore_n 3, 1) := by decide +kernel
theorem dX9_settles_29 : decode cX9_settles 29 = .ok (.iload_n 3, 1) := by decide +kernel
theorem dX9_settles_30 : decode cX9_settles 30 = .ok (.aload_n 0, 1) := by decide +kernel
theorem dX9_settles_31 : decode cX9_settles 31 = .ok (.getfield 12, 3) := by decide +kernel
theorem dX9_settles_34 : decode cX9_settles 34 = .ok (.getfield 92, 3) := by decide +kernel
theorem dX9_settles_37 : decode cX9_settles 37 = .ok (.if_icmp .ge 45, 3) := by decide +kernel
theorem dX9_settles_40 : decode cX9_settles 40 = .ok (.aload_n 0, 1) := by decide +kernel
theorem dX9_settles_41 : decode cX9_settles 41 = .ok (.getfield 19, 3) := by decide +kernel
theorem dX9_settles_44 : decode cX9_settles 44 = .ok (.getfield 190, 3) := by decide +kernel
theorem dX9_settles_47 : decode cX9_settles 47 = .ok (.iload_n 2, 1) := by decide +kernel
theorem dX9_settles_48 : decode cX9_settles 48 = .ok (.iaload, 1) := by decide +kernel
theorem dX9_settles_49 : decode cX9_settles 49 = .ok (.iload_n 3, 1) := by decide +kernel
theorem dX9_settles_50 : decode cX9_settles 50 = .ok (.invokestatic 137, 3) := by decide +kernel
theorem dX9_settles_53 : decode cX9_settles 53 = .ok (.ifCond .eq 23, 3) := by decide +kernel
theorem dX9_settles_56 : decode cX9_settles 56 = .ok (.aload_n 0, 1) := by decide +kernel
theorem dX9_settles_57 : decode cX9_settles 57 = .ok (.getfield 43, 3) := by decide +kernel
theorem dX9_settles_60 : decode cX9_settles 60 = .ok (.iload_n 2, 1) := by decide +kernel
theorem dX9_settles_61 : decode cX9_settles 61 = .ok (.iload_n 3, 1) := by decide +kernel
theorem dX9_settles_62 : decode cX9_settles 62 = .ok (.iload_n 1, 1) := by decide +kernel
theorem dX9_settles_63 : decode cX9_settles 63 = .ok (.invokevirtual 286, 3) := by decide +kernel
theorem dX9_settles_66 : decode cX9_settles 66 = .ok (.ifCond .eq 10, 3) := by decide +kernel
theorem dX9_settles_69 : decode cX9_settles 69 = .ok (.bipush 10, 2) := by decide +kernel
theorem dX9_settles_71 : decode cX9_settles 71 = .ok (.iload_n 2, 1) := by decide +kernel
theorem dX9_settles_72 : decode cX9_settles 72 = .ok (.imul, 1) := by decide +kernel
theorem dX9_settles_73 : decode cX9_settles 73 = .ok (.iload_n 3, 1) := by decide +kernel
theorem dX9_settles_74 : decode cX9_settles 74 = .ok (.iadd, 1) := by decide +kernel
theorem dX9_settles_75 : decode cX9_settles 75 = .ok (.ireturn, 1) := by decide +kernel
theorem dX9_settles_76 : decode cX9_settles 76 = .ok (.iinc 3 1, 3) := by decide +kernel
theorem dX9_settles_79 : decode cX9_settles 79 = .ok (.goto (-50), 3) := by decide +kernel
theorem dX9_settles_82 : decode cX9_settles 82 = .ok (.iinc 2 1, 3) := by decide +kernel
theorem dX9_settles_85 : decode cX9_settles 85 = .ok (.goto (-71), 3) := by decide +kernel
theorem dX9_settles_88 : decode cX9_settles 88 = .ok (.bipush (-2), 2) := by decide +kernel
theorem dX9_settles_90 : decode cX9_settles 90 = .ok (.ireturn, 1) := by decide +kernel
theorem zm_X9_settles : ZMv "ClassOfMany" yX9_settles cX9_settles 4 (some .int) 0 := ⟨kw_4_157, kw_4_155, kw_4_156, kw_1_1, by decide +kernel, by decide⟩
def zf_X9_settles_j76 (R29 : Int32 → ZMem → Option (Int32 × ZMem)) (v33 : Int32) (M39 : ZMem) : Option (Int32 × ZMem) :=
  (R29 (v33 + (1 : Int32)) M39)
def zf_X9_settles_L29 (v29 : Int32) (n : Nat) (M28 : ZMem) (K82 : ZMem → Option (Int32 × ZMem)) : Nat → Int32 → ZMem → Option (Int32 × ZMem)
  | 0, _, _ => none
  | n29 + 1, v33, M34 =>
  zdy M34 0 0 (7, 17) (fun o36 => (if (M34 o36 0) ≤ v33 then (K82 M34) else zrd M34 13 10 v29 (fun v37 => zb1 (zf_X9_has v37 v33) (fun v38 => (if v38 = 0 then (zf_X9_settles_j76 (fun x0 x1 => zf_X9_settles_L29 v29 n M28 K82 n29 x0 x1) v33 M34) else zb2 (zf_X6_isFewerWithout n v29 v33 (M28 57 5) M34) (fun v40 M41 => (if v40 = 0 then (zf_X9_settles_j76 (fun x0 x1 => zf_X9_settles_L29 v29 n M28 K82 n29 x0 x1) v33 M41) else some ((((10 : Int32) * v29) + v33), M41))))))))
def zf_X9_settles_L14 (n : Nat) (M28 : ZMem) (K88 : ZMem → Option (Int32 × ZMem)) : Nat → Int32 → ZMem → Option (Int32 × ZMem)
  | 0, _, _ => none
  | n14 + 1, v29, M30 =>
  zdy M30 0 0 (7, 17) (fun o32 => (if (M30 o32 0) ≤ v29 then (K88 M30) else (zf_X9_settles_L29 v29 n M28 (fun M42 => (zf_X9_settles_L14 n M28 K88 n14 (v29 + (1 : Int32)) M42)) n (v29 + (1 : Int32)) M30)))
def zf_X9_settles (n : Nat) (M : ZMem) : Option (Int32 × ZMem) :=
  zb1 (zf_X9_splitNow n M) (fun M28 => (zf_X9_settles_L14 n M28 (fun M43 => some ((-2 : Int32), M43)) n (0 : Int32) M28))
set_option maxHeartbeats 4000000 in
set_option maxRecDepth 100000 in
theorem zc_X9_settles {l : Launch} {D : va_G} {ad : Nat → Nat} {cA : Nat → ClassId} {n : Nat} {M : ZMem} {r : Int32} {M' : ZMem} (hf : zf_X9_settles n M = some (r, M')) : ZCt l D ad cA yX9_settles cX9_settles 4 (some .int) 18 [.ref (ad 0)] M (some (.int r)) M' := by
  refine zct (by decide +kernel) (Nat.le_of_ble_eq_true rfl) (lv := [(0, .ref (ad 0))]) rfl (fun E hl hD had hcA hN hC hR => ?_)
  subst hl; subst hD; subst had; subst hcA
  unfold zf_X9_settles at hf
  refine zw_aload_n hC dX9_settles_0 rfl 0 rfl ?_
  obtain ⟨M28, hcM28, hf⟩ := zb1_some hf
  refine zw_cV hC [] [] (st1 := []) zm_X9_splitNow (zc_X9_splitNow hcM28) zk_0 rfl kw_4_84 dX9_settles_1 rfl (by decide) (Nat.le_of_ble_eq_true rfl) rfl rfl ?_
  refine zw_aload_n hC dX9_settles_4 rfl 0 rfl ?_
  refine zw_getr (k' := 57) hC zF_ClassOfMany_splitter zk_0 rfl dX9_settles_5 kw_2_173 ?_
  refine zw_geti hC zF_Splitter_size zk_57 dX9_settles_8 kw_2_28 ?_
  refine zw_istore_n hC (lv' := [(1, .int (M28 57 5)), (0, .ref (zad E 0))]) dX9_settles_11 rfl hN (by decide) rfl ?_
  refine zw_iconst hC (v := (0 : Int32)) dX9_settles_12 (by decide) ?_
  refine zw_istore_n hC (lv' := [(2, .int (0 : Int32)), (1, .int (M28 57 5)), (0, .ref (zad E 0))]) dX9_settles_13 rfl hN (by decide) rfl ?_
  have hL14 : ∀ (K88 : ZMem → Option (Int32 × ZMem)), (∀ (M31 : ZMem), K88 M31 = some (r, M') → ZW E 88 [] [] M31) → ∀ (n14 : Nat), ∀ (v29 : Int32), ∀ (M30 : ZMem), zf_X9_settles_L14 n M28 K88 n14 v29 M30 = some (r, M') → ZW E 14 [(0, .ref (zad E 0)), (1, .int (M28 57 5)), (2, .int v29)] [] M30 := by
    intro K88 hK88
    intro n14
    induction n14 with
    | zero => intro v29 M30 hf; rw [zf_X9_settles_L14] at hf; cases hf
    | succ n14 ih14 =>
      intro v29 M30 hf
      rw [zf_X9_settles_L14] at hf
      refine zw_iload_n hC dX9_settles_14 rfl 2 rfl ?_
      refine zw_aload_n hC dX9_settles_15 rfl 0 rfl ?_
      refine zw_getd hC hf zF_ClassOfMany_told zk_0 dX9_settles_16 kw_2_168 (fun o32 ho32 hf => ?_)
      refine zw_geti hC zF_Told_members ho32 dX9_settles_19 kw_1_38 ?_
      refine zw_icmp_ge hC 88 hf dX9_settles_22 (by decide) (fun hf => ?_) (fun hf => ?_)
      · exact zw_sub [] rfl (hK88 M30 hf)
      · refine zw_iload_n hC dX9_settles_25 rfl 2 rfl ?_
        refine zw_iconst hC (v := (1 : Int32)) dX9_settles_26 (by decide) ?_
        refine zw_iadd hC dX9_settles_27 ?_
        refine zw_istore_n hC (lv' := [(3, .int (v29 + (1 : Int32))), (0, .ref (zad E 0)), (1, .int (M28 57 5)), (2, .int v29)]) dX9_settles_28 rfl hN (by decide) rfl ?_
        have hL29 : ∀ (K82 : ZMem → Option (Int32 × ZMem)), (∀ (M35 : ZMem), K82 M35 = some (r, M') → ZW E 82 [(0, .ref (zad E 0)), (1, .int (M28 57 5)), (2, .int v29)] [] M35) → ∀ (n29 : Nat), ∀ (v33 : Int32), ∀ (M34 : ZMem), zf_X9_settles_L29 v29 n M28 K82 n29 v33 M34 = some (r, M') → ZW E 29 [(0, .ref (zad E 0)), (1, .int (M28 57 5)), (2, .int v29), (3, .int v33)] [] M34 := by
          intro K82 hK82
          intro n29
          induction n29 with
          | zero => intro v33 M34 hf; rw [zf_X9_settles_L29] at hf; cases hf
          | succ n29 ih29 =>
            intro v33 M34 hf
            rw [zf_X9_settles_L29] at hf
            refine zw_iload_n hC dX9_settles_29 rfl 3 rfl ?_
            refine zw_aload_n hC dX9_settles_30 rfl 0 rfl ?_
            refine zw_getd hC hf zF_ClassOfMany_told zk_0 dX9_settles_31 kw_2_168 (fun o36 ho36 hf => ?_)
            refine zw_geti hC zF_Told_members ho36 dX9_settles_34 kw_1_38 ?_
            refine zw_icmp_ge hC 82 hf dX9_settles_37 (by decide) (fun hf => ?_) (fun hf => ?_)
            · exact zw_sub [0, 1, 2] rfl (hK82 M34 hf)
            · refine zw_aload_n hC dX9_settles_40 rfl 0 rfl ?_
              refine zw_getr (k' := 12) hC zF_ClassOfMany_now zk_0 rfl dX9_settles_41 kw_2_169 ?_
              refine zw_getr (k' := 13) hC zF_Standing_foes zk_12 rfl dX9_settles_44 kw_1_171 ?_
              refine zw_iload_n hC dX9_settles_47 rfl 2 rfl ?_
              refine zw_iald hC hf zk_13 dX9_settles_48 (fun v37 hf => ?_)
              refine zw_iload_n hC dX9_settles_49 rfl 3 rfl ?_
              obtain ⟨v38, hc38, hf⟩ := zb1_some hf
              refine zw_cS hC [.int v37, .int v33] [] (st1 := [.int v38]) zm_X9_has (zc_X9_has hc38) kw_3_201 dX9_settles_50 rfl (by decide) (Nat.le_of_ble_eq_true rfl) rfl rfl ?_
              have hj76 : ∀ (M39 : ZMem), zf_X9_settles_j76 (fun x0 x1 => zf_X9_settles_L29 v29 n M28 K82 n29 x0 x1) v33 M39 = some (r, M') → ZW E 76 [(0, .ref (zad E 0)), (1, .int (M28 57 5)), (2, .int v29), (3, .int v33)] [] M39 := by
                intro M39 hf
                unfold zf_X9_settles_j76 at hf
                refine zw_iinc hC (v := (1 : Int32)) (lv' := [(3, .int (v33 + (1 : Int32))), (0, .ref (zad E 0)), (1, .int (M28 57 5)), (2, .int v29)]) dX9_settles_76 3 rfl (by decide) hN (by decide) rfl ?_
                refine zw_goto hC 29 dX9_settles_79 (by decide) ?_
                exact zw_sub [1, 2, 3, 0] rfl (ih29 (v33 + (1 : Int32)) M39 hf)
              refine zw_if_eq hC 76 hf dX9_settles_53 (by decide) (fun hf => ?_) (fun hf => ?_)
              · exact hj76 M34 hf
              · refine zw_aload_n hC dX9_settles_56 rfl 0 rfl ?_
                refine zw_getr (k' := 57) hC zF_ClassOfMany_splitter zk_0 rfl dX9_settles_57 kw_2_173 ?_
                refine zw_iload_n hC dX9_settles_60 rfl 2 rfl ?_
                refine zw_iload_n hC dX9_settles_61 rfl 3 rfl ?_
                refine zw_iload_n hC dX9_settles_62 rfl 1 rfl ?_
                obtain ⟨v40, M41, hcM41, hf⟩ := zb2_some hf
                refine zw_cV hC [.int v29, .int v33, .int (M28 57 5)] [] (st1 := [.int v40]) zm_X6_isFewerWithout (zc_X6_isFewerWithout hcM41) zk_57 rfl kw_4_158 dX9_settles_63 rfl (by decide) (Nat.le_of_ble_eq_true rfl) rfl rfl ?_
                refine zw_if_eq hC 76 hf dX9_settles_66 (by decide) (fun hf => ?_) (fun hf => ?_)
                · exact hj76 M41 hf
                · refine zw_bipush hC (v := (10 : Int32)) dX9_settles_69 (by decide) ?_
                  refine zw_iload_n hC dX9_settles_71 rfl 2 rfl ?_
                  refine zw_imul hC dX9_settles_72 ?_
                  refine zw_iload_n hC dX9_settles_73 rfl 3 rfl ?_
                  refine zw_iadd hC dX9_settles_74 ?_
                  obtain ⟨h1, h2⟩ := Prod.mk.inj (Option.some.inj hf)
                  subst h1; subst h2
                  exact zw_iret hC hR dX9_settles_75
        refine zw_sub [1, 2, 3, 0] rfl (hL29 _ ?_ n (v29 + (1 : Int32)) M30 hf)
        · intro M42 hf
          refine zw_iinc hC (v := (1 : Int32)) (lv' := [(2, .int (v29 + (1 : Int32))), (0, .ref (zad E 0)), (1, .int (M28 57 5))]) dX9_settles_82 2 rfl (by decide) hN (by decide) rfl ?_
          refine zw_goto hC 14 dX9_settles_85 (by decide) ?_
          exact zw_sub [1, 2, 0] rfl (ih14 (v29 + (1 : Int32)) M42 hf)
  refine zw_sub [2, 1, 0] rfl (hL14 _ ?_ n (0 : Int32) M28 hf)
  · intro M43 hf
    refine zw_bipush hC (v := (-2 : Int32)) dX9_settles_88 (by decide) ?_
    obtain ⟨h1, h2⟩ := Prod.mk.inj (Option.some.inj hf)
    subst h1; subst h2
    exact zw_iret hC hR dX9_settles_90
/-! ClassOfMany.lead(I)I -/
theorem dX9_lead_0 : decode cX9_lead 0 = .ok (.aload_n 0, 1) := by decide +kernel
theorem dX9_lead_1 : decode cX9_lead 1 = .ok (.invokevirtual 264, 3) := by decide +kernel
theorem dX9_lead_4 : decode cX9_lead 4 = .ok (.aload_n 0, 1) := by decide +kernel
theorem dX9_lead_5 : decode cX9_lead 5 = .ok (.getfield 43, 3) := by decide +kernel
theorem dX9_lead_8 : decode cX9_lead 8 = .ok (.iload_n 1, 1) := by decide +kernel
theorem dX9_lead_9 : decode cX9_lead 9 = .ok (.invokevirtual 271, 3) := by decide +kernel
theorem dX9_lead_12 : decode cX9_lead 12 = .ok (.ifCond .ne 5, 3) := by decide +kernel
theorem dX9_lead_15 : decode cX9_lead 15 = .ok (.iconst (-1), 1) := by decide +kernel
theorem dX9_lead_16 : decode cX9_lead 16 = .ok (.ireturn, 1) := by decide +kernel
theorem dX9_lead_17 : decode cX9_lead 17 = .ok (.iconst (-1), 1) := by decide +kernel
theorem dX9_lead_18 : decode cX9_lead 18 = .ok (.istore_n 2, 1) := by decide +kernel
theorem dX9_lead_19 : decode cX9_lead 19 = .ok (.iconst (-1), 1) := by decide +kernel
theorem dX9_lead_20 : decode cX9_lead 20 = .ok (.istore_n 3, 1) := by decide +kernel
theorem dX9_lead_21 : decode cX9_lead 21 = .ok (.iconst 0, 1) := by decide +kernel
theorem dX9_lead_22 : decode cX9_lead 22 = .ok (.istore 4, 2) := by decide +kernel
theorem dX9_lead_24 : decode cX9_lead 24 = .ok (.iload 4, 2) := by decide +kernel
theorem dX9_lead_26 : decode cX9_lead 26 = .ok (.aload_n 0, 1) := by decide +kernel
theorem dX9_lead_27 : decode cX9_lead 27 = .ok (.getfield 12, 3) := by decide +kernel
theorem dX9_lead_30 : decode cX9_lead 30 = .ok (.getfield 92, 3) := by decide +kernel
theorem dX9_lead_33 : decode cX9_lead 33 = .ok (.if_icmp .ge 60, 3) := by decide +kernel
theorem dX9_lead_36 : decode cX9_lead 36 = .ok (.aload_n 0, 1) := by decide +kernel
theorem dX9_lead_37 : decode cX9_lead 37 = .ok (.getfield 43, 3) := by decide +kernel
theorem dX9_lead_40 : decode cX9_lead 40 = .ok (.getfield 274, 3) := by decide +kernel
theorem dX9_lead_43 : decode cX9_lead 43 = .ok (.iload_n 1, 1) := by decide +kernel
theorem dX9_lead_44 : decode cX9_lead 44 = .ok (.iaload, 1) := by decide +kernel
theorem dX9_lead_45 : decode cX9_lead 45 = .ok (.iload 4, 2) := by decide +kernel
theorem dX9_lead_47 : decode cX9_lead 47 = .ok (.invokestatic 137, 3) := by decide +kernel
theorem dX9_lead_50 : decode cX9_lead 50 = .ok (.ifCond .eq 37, 3) := by decide +kernel
theorem dX9_lead_53 : decode cX9_lead 53 = .ok (.aload_n 0, 1) := by decide +kernel
theorem dX9_lead_54 : decode cX9_lead 54 = .ok (.getfield 19, 3) := by decide +kernel
theorem dX9_lead_57 : decode cX9_lead 57 = .ok (.aload_n 0, 1) := by decide +kernel
theorem dX9_lead_58 : decode cX9_lead 58 = .ok (.getfield 12, 3) := by decide +kernel
theorem dX9_lead_61 : decode cX9_lead 61 = .ok (.iload 4, 2) := by decide +kernel
theorem dX9_lead_63 : decode cX9_lead 63 = .ok (.invokevirtual 212, 3) := by decide +kernel
theorem dX9_lead_66 : decode cX9_lead 66 = .ok (.iload_n 2, 1) := by decide +kernel
theorem dX9_lead_67 : decode cX9_lead 67 = .ok (.if_icmp .le 20, 3) := by decide +kernel
theorem dX9_lead_70 : decode cX9_lead 70 = .ok (.aload_n 0, 1) := by decide +kernel
theorem dX9_lead_71 : decode cX9_lead 71 = .ok (.getfield 19, 3) := by decide +kernel
theorem dX9_lead_74 : decode cX9_lead 74 = .ok (.aload_n 0, 1) := by decide +kernel
theorem dX9_lead_75 : decode cX9_lead 75 = .ok (.getfield 12, 3) := by decide +kernel
theorem dX9_lead_78 : decode cX9_lead 78 = .ok (.iload 4, 2) := by decide +kernel
theorem dX9_lead_80 : decode cX9_lead 80 = .ok (.invokevirtual 212, 3) := by decide +kernel
theorem dX9_lead_83 : decode cX9_lead 83 = .ok (.istore_n 2, 1) := by decide +kernel
theorem dX9_lead_84 : decode cX9_lead 84 = .ok (.iload 4, 2) := by decide +kernel
theorem dX9_lead_86 : decode cX9_lead 86 = .ok (.istore_n 3, 1) := by decide +kernel
theorem dX9_lead_87 : decode cX9_lead 87 = .ok (.iinc 4 1, 3) := by decide +kernel
theorem dX9_lead_90 : decode cX9_lead 90 = .ok (.goto (-66), 3) := by decide +kernel
theorem dX9_lead_93 : decode cX9_lead 93 = .ok (.iload_n 3, 1) := by decide +kernel
theorem dX9_lead_94 : decode cX9_lead 94 = .ok (.ireturn, 1) := by decide +kernel
theorem zm_X9_lead : ZMv "ClassOfMany" yX9_lead cX9_lead 5 (some .int) 1 := ⟨kw_4_165, kw_4_163, kw_4_164, kw_1_1, by decide +kernel, by decide⟩
def zf_X9_lead_j87 (R24 : Int32 → Int32 → Int32 → Option (Int32 × ZMem)) (v34 : Int32) (v39 : Int32) (v40 : Int32) : Option (Int32 × ZMem) :=
  (R24 v39 v40 (v34 + (1 : Int32)))
def zf_X9_lead_L24 (M30 : ZMem) (a1 : Int32) (K93 : Int32 → Option (Int32 × ZMem)) : Nat → Int32 → Int32 → Int32 → Option (Int32 × ZMem)
  | 0, _, _, _ => none
  | n24 + 1, v32, v33, v34 =>
  zdy M30 0 0 (7, 17) (fun o36 => (if (M30 o36 0) ≤ v34 then (K93 v33) else zrd M30 59 10 a1 (fun v37 => zb1 (zf_X9_has v37 v34) (fun v38 => (if v38 = 0 then (zf_X9_lead_j87 (fun x0 x1 x2 => zf_X9_lead_L24 M30 a1 K93 n24 x0 x1 x2) v34 v32 v33) else zdy M30 0 0 (7, 17) (fun o41 => zb1 (zf_X7_claimOf 12 o41 v34 M30) (fun v42 => (if v42 ≤ v32 then (zf_X9_lead_j87 (fun x0 x1 x2 => zf_X9_lead_L24 M30 a1 K93 n24 x0 x1 x2) v34 v32 v33) else zdy M30 0 0 (7, 17) (fun o43 => zb1 (zf_X7_claimOf 12 o43 v34 M30) (fun v44 => (zf_X9_lead_j87 (fun x0 x1 x2 => zf_X9_lead_L24 M30 a1 K93 n24 x0 x1 x2) v34 v44 v34)))))))))))
def zf_X9_lead (n : Nat) (a1 : Int32) (M : ZMem) : Option (Int32 × ZMem) :=
  zb1 (zf_X9_splitNow n M) (fun M30 => zb1 (zf_X6_isGroup a1 M30) (fun v31 => (if v31 = 0 then some ((-1 : Int32), M30) else (zf_X9_lead_L24 M30 a1 (fun v45 => some (v45, M30)) n (-1 : Int32) (-1 : Int32) (0 : Int32)))))
set_option maxHeartbeats 4000000 in
set_option maxRecDepth 100000 in
theorem zc_X9_lead {l : Launch} {D : va_G} {ad : Nat → Nat} {cA : Nat → ClassId} {n : Nat} {a1 : Int32} {M : ZMem} {r : Int32} {M' : ZMem} (hf : zf_X9_lead n a1 M = some (r, M')) : ZCt l D ad cA yX9_lead cX9_lead 5 (some .int) 18 [.ref (ad 0), .int a1] M (some (.int r)) M' := by
  refine zct (by decide +kernel) (Nat.le_of_ble_eq_true rfl) (lv := [(0, .ref (ad 0)), (1, .int a1)]) rfl (fun E hl hD had hcA hN hC hR => ?_)
  subst hl; subst hD; subst had; subst hcA
  unfold zf_X9_lead at hf
  refine zw_aload_n hC dX9_lead_0 rfl 0 rfl ?_
  obtain ⟨M30, hcM30, hf⟩ := zb1_some hf
  refine zw_cV hC [] [] (st1 := []) zm_X9_splitNow (zc_X9_splitNow hcM30) zk_0 rfl kw_4_84 dX9_lead_1 rfl (by decide) (Nat.le_of_ble_eq_true rfl) rfl rfl ?_
  refine zw_aload_n hC dX9_lead_4 rfl 0 rfl ?_
  refine zw_getr (k' := 57) hC zF_ClassOfMany_splitter zk_0 rfl dX9_lead_5 kw_2_173 ?_
  refine zw_iload_n hC dX9_lead_8 rfl 1 rfl ?_
  obtain ⟨v31, hc31, hf⟩ := zb1_some hf
  refine zw_cV hC [.int a1] [] (st1 := [.int v31]) zm_X6_isGroup (zc_X6_isGroup hc31) zk_57 rfl kw_4_120 dX9_lead_9 rfl (by decide) (Nat.le_of_ble_eq_true rfl) rfl rfl ?_
  refine zw_if_ne hC 17 hf dX9_lead_12 (by decide) (fun hf => ?_) (fun hf => ?_)
  · refine zw_iconst hC (v := (-1 : Int32)) dX9_lead_17 (by decide) ?_
    refine zw_istore_n hC (lv' := [(2, .int (-1 : Int32)), (0, .ref (zad E 0)), (1, .int a1)]) dX9_lead_18 rfl hN (by decide) rfl ?_
    refine zw_iconst hC (v := (-1 : Int32)) dX9_lead_19 (by decide) ?_
    refine zw_istore_n hC (lv' := [(3, .int (-1 : Int32)), (2, .int (-1 : Int32)), (0, .ref (zad E 0)), (1, .int a1)]) dX9_lead_20 rfl hN (by decide) rfl ?_
    refine zw_iconst hC (v := (0 : Int32)) dX9_lead_21 (by decide) ?_
    refine zw_istore hC (lv' := [(4, .int (0 : Int32)), (3, .int (-1 : Int32)), (2, .int (-1 : Int32)), (0, .ref (zad E 0)), (1, .int a1)]) dX9_lead_22 hN (by decide) rfl ?_
    have hL24 : ∀ (K93 : Int32 → Option (Int32 × ZMem)), (∀ (v35 : Int32), K93 v35 = some (r, M') → ZW E 93 [(3, .int v35)] [] M30) → ∀ (n24 : Nat), ∀ (v32 : Int32), ∀ (v33 : Int32), ∀ (v34 : Int32), zf_X9_lead_L24 M30 a1 K93 n24 v32 v33 v34 = some (r, M') → ZW E 24 [(0, .ref (zad E 0)), (1, .int a1), (2, .int v32), (3, .int v33), (4, .int v34)] [] M30 := by
      intro K93 hK93
      intro n24
      induction n24 with
      | zero => intro v32 v33 v34 hf; rw [zf_X9_lead_L24] at hf; cases hf
      | succ n24 ih24 =>
        intro v32 v33 v34 hf
        rw [zf_X9_lead_L24] at hf
        refine zw_iload hC dX9_lead_24 4 rfl ?_
        refine zw_aload_n hC dX9_lead_26 rfl 0 rfl ?_
        refine zw_getd hC hf zF_ClassOfMany_told zk_0 dX9_lead_27 kw_2_168 (fun o36 ho36 hf => ?_)
        refine zw_geti hC zF_Told_members ho36 dX9_lead_30 kw_1_38 ?_
        refine zw_icmp_ge hC 93 hf dX9_lead_33 (by decide) (fun hf => ?_) (fun hf => ?_)
        · exact zw_sub [3] rfl (hK93 v33 hf)
        · refine zw_aload_n hC dX9_lead_36 rfl 0 rfl ?_
          refine zw_getr (k' := 57) hC zF_ClassOfMany_splitter zk_0 rfl dX9_lead_37 kw_2_173 ?_
          refine zw_getr (k' := 59) hC zF_Splitter_groups zk_57 rfl dX9_lead_40 kw_2_26 ?_
          refine zw_iload_n hC dX9_lead_43 rfl 1 rfl ?_
          refine zw_iald hC hf zk_59 dX9_lead_44 (fun v37 hf => ?_)
          refine zw_iload hC dX9_lead_45 4 rfl ?_
          obtain ⟨v38, hc38, hf⟩ := zb1_some hf
          refine zw_cS hC [.int v37, .int v34] [] (st1 := [.int v38]) zm_X9_has (zc_X9_has hc38) kw_3_201 dX9_lead_47 rfl (by decide) (Nat.le_of_ble_eq_true rfl) rfl rfl ?_
          have hj87 : ∀ (v39 : Int32), ∀ (v40 : Int32), zf_X9_lead_j87 (fun x0 x1 x2 => zf_X9_lead_L24 M30 a1 K93 n24 x0 x1 x2) v34 v39 v40 = some (r, M') → ZW E 87 [(0, .ref (zad E 0)), (1, .int a1), (2, .int v39), (3, .int v40), (4, .int v34)] [] M30 := by
            intro v39 v40 hf
            unfold zf_X9_lead_j87 at hf
            refine zw_iinc hC (v := (1 : Int32)) (lv' := [(4, .int (v34 + (1 : Int32))), (0, .ref (zad E 0)), (1, .int a1), (2, .int v39), (3, .int v40)]) dX9_lead_87 4 rfl (by decide) hN (by decide) rfl ?_
            refine zw_goto hC 24 dX9_lead_90 (by decide) ?_
            exact zw_sub [1, 2, 3, 4, 0] rfl (ih24 v39 v40 (v34 + (1 : Int32)) hf)
          refine zw_if_eq hC 87 hf dX9_lead_50 (by decide) (fun hf => ?_) (fun hf => ?_)
          · exact hj87 v32 v33 hf
          · refine zw_aload_n hC dX9_lead_53 rfl 0 rfl ?_
            refine zw_getr (k' := 12) hC zF_ClassOfMany_now zk_0 rfl dX9_lead_54 kw_2_169 ?_
            refine zw_aload_n hC dX9_lead_57 rfl 0 rfl ?_
            refine zw_getd hC hf zF_ClassOfMany_told zk_0 dX9_lead_58 kw_2_168 (fun o41 ho41 hf => ?_)
            refine zw_iload hC dX9_lead_61 4 rfl ?_
            obtain ⟨v42, hc42, hf⟩ := zb1_some hf
            refine zw_cV hC [.ref (zad E o41), .int v34] [] (st1 := [.int v42]) zm_X7_claimOf (zc_X7_claimOf zk_12 ho41 hc42) zk_12 rfl kw_4_14 dX9_lead_63 rfl (by decide) (Nat.le_of_ble_eq_true rfl) rfl rfl ?_
            refine zw_iload_n hC dX9_lead_66 rfl 2 rfl ?_
            refine zw_icmp_le hC 87 hf dX9_lead_67 (by decide) (fun hf => ?_) (fun hf => ?_)
            · exact hj87 v32 v33 hf
            · refine zw_aload_n hC dX9_lead_70 rfl 0 rfl ?_
              refine zw_getr (k' := 12) hC zF_ClassOfMany_now zk_0 rfl dX9_lead_71 kw_2_169 ?_
              refine zw_aload_n hC dX9_lead_74 rfl 0 rfl ?_
              refine zw_getd hC hf zF_ClassOfMany_told zk_0 dX9_lead_75 kw_2_168 (fun o43 ho43 hf => ?_)
              refine zw_iload hC dX9_lead_78 4 rfl ?_
              obtain ⟨v44, hc44, hf⟩ := zb1_some hf
              refine zw_cV hC [.ref (zad E o43), .int v34] [] (st1 := [.int v44]) zm_X7_claimOf (zc_X7_claimOf zk_12 ho43 hc44) zk_12 rfl kw_4_14 dX9_lead_80 rfl (by decide) (Nat.le_of_ble_eq_true rfl) rfl rfl ?_
              refine zw_istore_n hC (lv' := [(2, .int v44), (0, .ref (zad E 0)), (1, .int a1), (3, .int v33), (4, .int v34)]) dX9_lead_83 rfl hN (by decide) rfl ?_
              refine zw_iload hC dX9_lead_84 4 rfl ?_
              refine zw_istore_n hC (lv' := [(3, .int v34), (2, .int v44), (0, .ref (zad E 0)), (1, .int a1), (4, .int v34)]) dX9_lead_86 rfl hN (by decide) rfl ?_
              exact zw_sub [2, 3, 1, 0, 4] rfl (hj87 v44 v34 hf)
    refine zw_sub [3, 4, 2, 1, 0] rfl (hL24 _ ?_ n (-1 : Int32) (-1 : Int32) (0 : Int32) hf)
    · intro v45 hf
      refine zw_iload_n hC dX9_lead_93 rfl 0 rfl ?_
      obtain ⟨h1, h2⟩ := Prod.mk.inj (Option.some.inj hf)
      subst h1; subst h2
      exact zw_iret hC hR dX9_lead_94
  · refine zw_iconst hC (v := (-1 : Int32)) dX9_lead_15 (by decide) ?_
    obtain ⟨h1, h2⟩ := Prod.mk.inj (Option.some.inj hf)
    subst h1; subst h2
    exact zw_iret hC hR dX9_lead_16
/-! ClassOfMany.costFor(I)I -/
theorem dX9_costFor_0 : decode cX9_costFor 0 = .ok (.aload_n 0, 1) := by decide +kernel
theorem dX9_costFor_1 : decode cX9_costFor 1 = .ok (.getfield 12, 3) := by decide +kernel
theorem dX9_costFor_4 : decode cX9_costFor 4 = .ok (.iload_n 1, 1) := by decide +kernel
theorem dX9_costFor_5 : decode cX9_costFor 5 = .ok (.invokestatic 104, 3) := by decide +kernel
theorem dX9_costFor_8 : decode cX9_costFor 8 = .ok (.ifCond .eq 14, 3) := by decide +kernel
theorem dX9_costFor_11 : decode cX9_costFor 11 = .ok (.aload_n 0, 1) := by decide +kernel
theorem dX9_costFor_12 : decode cX9_costFor 12 = .ok (.getfield 12, 3) := by decide +kernel
theorem dX9_costFor_15 : decode cX9_costFor 15 = .ok (.iload_n 1, 1) := by decide +kernel
theorem dX9_costFor_16 : decode cX9_costFor 16 = .ok (.invokestatic 123, 3) := by decide +kernel
theorem dX9_costFor_19 : decode cX9_costFor 19 = .ok (.goto 4, 3) := by decide +kernel
theorem dX9_costFor_22 : decode cX9_costFor 22 = .ok (.iconst (-1), 1) := by decide +kernel
theorem dX9_costFor_23 : decode cX9_costFor 23 = .ok (.ireturn, 1) := by decide +kernel
theorem zm_X9_costFor : ZMv "ClassOfMany" yX9_costFor cX9_costFor 2 (some .int) 1 := ⟨kw_4_169, kw_4_167, kw_4_168, kw_1_1, by decide +kernel, by decide⟩
def zf_X9_costFor_j23 (v27 : Int32) : Option (Int32) :=
  some v27
def zf_X9_costFor (n : Nat) (a1 : Int32) (M : ZMem) : Option (Int32) :=
  zdy M 0 0 (7, 17) (fun o25 => zb1 (zf_X1_isOrder n o25 a1 M) (fun v26 => (if v26 = 0 then (zf_X9_costFor_j23 (-1 : Int32)) else zdy M 0 0 (7, 17) (fun o28 => zb1 (zf_X1_costsBy n o28 a1 M) (fun v29 => (zf_X9_costFor_j23 v29))))))
set_option maxHeartbeats 4000000 in
set_option maxRecDepth 100000 in
theorem zc_X9_costFor {l : Launch} {D : va_G} {ad : Nat → Nat} {cA : Nat → ClassId} {n : Nat} {a1 : Int32} {M : ZMem} {r : Int32} (hf : zf_X9_costFor n a1 M = some r) : ZCt l D ad cA yX9_costFor cX9_costFor 2 (some .int) 4 [.ref (ad 0), .int a1] M (some (.int r)) M := by
  refine zct (by decide +kernel) (Nat.le_of_ble_eq_true rfl) (lv := [(0, .ref (ad 0)), (1, .int a1)]) rfl (fun E hl hD had hcA hN hC hR => ?_)
  subst hl; subst hD; subst had; subst hcA
  unfold zf_X9_costFor at hf
  refine zw_aload_n hC dX9_costFor_0 rfl 0 rfl ?_
  refine zw_getd hC hf zF_ClassOfMany_told zk_0 dX9_costFor_1 kw_2_168 (fun o25 ho25 hf => ?_)
  refine zw_iload_n hC dX9_costFor_4 rfl 1 rfl ?_
  obtain ⟨v26, hc26, hf⟩ := zb1_some hf
  refine zw_cS hC [.ref (zad E o25), .int a1] [] (st1 := [.int v26]) zm_X1_isOrder (zc_X1_isOrder ho25 hc26) kw_3_169 dX9_costFor_5 rfl (by decide) (Nat.le_of_ble_eq_true rfl) rfl rfl ?_
  have hj23 : ∀ (v27 : Int32), zf_X9_costFor_j23 v27 = some r → ZW E 23 [] [.int v27] M := by
    intro v27 hf
    unfold zf_X9_costFor_j23 at hf
    have h1 := Option.some.inj hf
    subst h1
    exact zw_iret hC hR dX9_costFor_23
  refine zw_if_eq hC 22 hf dX9_costFor_8 (by decide) (fun hf => ?_) (fun hf => ?_)
  · refine zw_iconst hC (v := (-1 : Int32)) dX9_costFor_22 (by decide) ?_
    exact zw_sub [] rfl (hj23 (-1 : Int32) hf)
  · refine zw_aload_n hC dX9_costFor_11 rfl 0 rfl ?_
    refine zw_getd hC hf zF_ClassOfMany_told zk_0 dX9_costFor_12 kw_2_168 (fun o28 ho28 hf => ?_)
    refine zw_iload_n hC dX9_costFor_15 rfl 1 rfl ?_
    obtain ⟨v29, hc29, hf⟩ := zb1_some hf
    refine zw_cS hC [.ref (zad E o28), .int a1] [] (st1 := [.int v29]) zm_X1_costsBy (zc_X1_costsBy ho28 hc29) kw_3_186 dX9_costFor_16 rfl (by decide) (Nat.le_of_ble_eq_true rfl) rfl rfl ?_
    refine zw_goto hC 23 dX9_costFor_19 (by decide) ?_
    exact zw_sub [] rfl (hj23 v29 hf)
/-! ClassOfMany.reachFor(II)I -/
theorem dX9_reachFor_0 : decode cX9_reachFor 0 = .ok (.aload_n 0, 1) := by decide +kernel
theorem dX9_reachFor_1 : decode cX9_reachFor 1 = .ok (.iload_n 2, 1) := by decide +kernel
theorem dX9_reachFor_2 : decode cX9_reachFor 2 = .ok (.invokevirtual 130, 3) := by decide +kernel
theorem dX9_reachFor_5 : decode cX9_reachFor 5 = .ok (.ifCond .eq 14, 3) := by decide +kernel
theorem dX9_reachFor_8 : decode cX9_reachFor 8 = .ok (.aload_n 0, 1) := by decide +kernel
theorem dX9_reachFor_9 : decode cX9_reachFor 9 = .ok (.getfield 12, 3) := by decide +kernel
theorem dX9_reachFor_12 : decode cX9_reachFor 12 = .ok (.iload_n 1, 1) := by decide +kernel
theorem dX9_reachFor_13 : decode cX9_reachFor 13 = .ok (.invokestatic 104, 3) := by decide +kernel
theorem dX9_reachFor_16 : decode cX9_reachFor 16 = .ok (.ifCond .ne 5, 3) := by decide +kernel
theorem dX9_reachFor_19 : decode cX9_reachFor 19 = .ok (.iconst (-1), 1) := by decide +kernel
theorem dX9_reachFor_20 : decode cX9_reachFor 20 = .ok (.ireturn, 1) := by decide +kernel
theorem dX9_reachFor_21 : decode cX9_reachFor 21 = .ok (.aload_n 0, 1) := by decide +kernel
theorem dX9_reachFor_22 : decode cX9_reachFor 22 = .ok (.getfield 12, 3) := by decide +kernel
theorem dX9_reachFor_25 : decode cX9_reachFor 25 = .ok (.iload_n 1, 1) := by decide +kernel
theorem dX9_reachFor_26 : decode cX9_reachFor 26 = .ok (.iload_n 2, 1) := by decide +kernel
theorem dX9_reachFor_27 : decode cX9_reachFor 27 = .ok (.invokestatic 290, 3) := by decide +kernel
theorem dX9_reachFor_30 : decode cX9_reachFor 30 = .ok (.ireturn, 1) := by decide +kernel
theorem zm_X9_reachFor : ZMv "ClassOfMany" yX9_reachFor cX9_reachFor 3 (some .int) 2 := ⟨kw_4_173, kw_4_171, kw_4_172, kw_1_1, by decide +kernel, by decide⟩
def zf_X9_reachFor_j19 : Option (Int32) :=
  some (-1 : Int32)
def zf_X9_reachFor (n : Nat) (a1 : Int32) (a2 : Int32) (M : ZMem) : Option (Int32) :=
  zb1 (zf_X9_isMember a2 M) (fun v26 => (if v26 = 0 then (zf_X9_reachFor_j19) else zdy M 0 0 (7, 17) (fun o27 => zb1 (zf_X1_isOrder n o27 a1 M) (fun v28 => (if v28 = 0 then (zf_X9_reachFor_j19) else zdy M 0 0 (7, 17) (fun o29 => zb1 (zf_X1_daysTo n o29 a1 a2 M) (fun v30 => some v30)))))))
set_option maxHeartbeats 4000000 in
set_option maxRecDepth 100000 in
theorem zc_X9_reachFor {l : Launch} {D : va_G} {ad : Nat → Nat} {cA : Nat → ClassId} {n : Nat} {a1 : Int32} {a2 : Int32} {M : ZMem} {r : Int32} (hf : zf_X9_reachFor n a1 a2 M = some r) : ZCt l D ad cA yX9_reachFor cX9_reachFor 3 (some .int) 3 [.ref (ad 0), .int a1, .int a2] M (some (.int r)) M := by
  refine zct (by decide +kernel) (Nat.le_of_ble_eq_true rfl) (lv := [(0, .ref (ad 0)), (1, .int a1), (2, .int a2)]) rfl (fun E hl hD had hcA hN hC hR => ?_)
  subst hl; subst hD; subst had; subst hcA
  unfold zf_X9_reachFor at hf
  refine zw_aload_n hC dX9_reachFor_0 rfl 0 rfl ?_
  refine zw_iload_n hC dX9_reachFor_1 rfl 2 rfl ?_
  obtain ⟨v26, hc26, hf⟩ := zb1_some hf
  refine zw_cV hC [.int a2] [] (st1 := [.int v26]) zm_X9_isMember (zc_X9_isMember hc26) zk_0 rfl kw_3_197 dX9_reachFor_2 rfl (by decide) (Nat.le_of_ble_eq_true rfl) rfl rfl ?_
  have hj19 : zf_X9_reachFor_j19 = some r → ZW E 19 [] [] M := by
    intro  hf
    unfold zf_X9_reachFor_j19 at hf
    refine zw_iconst hC (v := (-1 : Int32)) dX9_reachFor_19 (by decide) ?_
    have h1 := Option.some.inj hf
    subst h1
    exact zw_iret hC hR dX9_reachFor_20
  refine zw_if_eq hC 19 hf dX9_reachFor_5 (by decide) (fun hf => ?_) (fun hf => ?_)
  · exact zw_sub [] rfl (hj19 hf)
  · refine zw_aload_n hC dX9_reachFor_8 rfl 0 rfl ?_
    refine zw_getd hC hf zF_ClassOfMany_told zk_0 dX9_reachFor_9 kw_2_168 (fun o27 ho27 hf => ?_)
    refine zw_iload_n hC dX9_reachFor_12 rfl 1 rfl ?_
    obtain ⟨v28, hc28, hf⟩ := zb1_some hf
    refine zw_cS hC [.ref (zad E o27), .int a1] [] (st1 := [.int v28]) zm_X1_isOrder (zc_X1_isOrder ho27 hc28) kw_3_169 dX9_reachFor_13 rfl (by decide) (Nat.le_of_ble_eq_true rfl) rfl rfl ?_
    refine zw_if_ne hC 21 hf dX9_reachFor_16 (by decide) (fun hf => ?_) (fun hf => ?_)
    · refine zw_aload_n hC dX9_reachFor_21 rfl 0 rfl ?_
      refine zw_getd hC hf zF_ClassOfMany_told zk_0 dX9_reachFor_22 kw_2_168 (fun o29 ho29 hf => ?_)
      refine zw_iload_n hC dX9_reachFor_25 rfl 1 rfl ?_
      refine zw_iload_n hC dX9_reachFor_26 rfl 2 rfl ?_
      obtain ⟨v30, hc30, hf⟩ := zb1_some hf
      refine zw_cS hC [.ref (zad E o29), .int a1, .int a2] [] (st1 := [.int v30]) zm_X1_daysTo (zc_X1_daysTo ho29 hc30) kw_3_210 dX9_reachFor_27 rfl (by decide) (Nat.le_of_ble_eq_true rfl) rfl rfl ?_
      have h1 := Option.some.inj hf
      subst h1
      exact zw_iret hC hR dX9_reachFor_30
    · exact zw_sub [] rfl (hj19 hf)
/-! ClassOfMany.cheapest(II)I -/
theorem dX9_cheapest_0 : decode cX9_cheapest 0 = .ok (.aload_n 0, 1) := by decide +kernel
theorem dX9_cheapest_1 : decode cX9_cheapest 1 = .ok (.getfield 12, 3) := by decide +kernel
theorem dX9_cheapest_4 : decode cX9_cheapest 4 = .ok (.getfield 117, 3) := by decide +kernel
theorem dX9_cheapest_7 : decode cX9_cheapest 7 = .ok (.ifCond .eq 16, 3) := by decide +kernel
theorem dX9_cheapest_10 : decode cX9_cheapest 10 = .ok (.iload_n 1, 1) := by decide +kernel
theorem dX9_cheapest_11 : decode cX9_cheapest 11 = .ok (.ifCond .lt 12, 3) := by decide +kernel
theorem dX9_cheapest_14 : decode cX9_cheapest 14 = .ok (.iload_n 2, 1) := by decide +kernel
theorem dX9_cheapest_15 : decode cX9_cheapest 15 = .ok (.ifCond .eq 10, 3) := by decide +kernel
theorem dX9_cheapest_18 : decode cX9_cheapest 18 = .ok (.iload_n 2, 1) := by decide +kernel
theorem dX9_cheapest_19 : decode cX9_cheapest 19 = .ok (.iconst 1, 1) := by decide +kernel
theorem dX9_cheapest_20 : decode cX9_cheapest 20 = .ok (.if_icmp .eq 5, 3) := by decide +kernel
theorem dX9_cheapest_23 : decode cX9_cheapest 23 = .ok (.iconst (-1), 1) := by decide +kernel
theorem dX9_cheapest_24 : decode cX9_cheapest 24 = .ok (.ireturn, 1) := by decide +kernel
theorem dX9_cheapest_25 : decode cX9_cheapest 25 = .ok (.bipush (-2), 2) := by decide +kernel
theorem dX9_cheapest_27 : decode cX9_cheapest 27 = .ok (.istore_n 3, 1) := by decide +kernel
theorem dX9_cheapest_28 : decode cX9_cheapest 28 = .ok (.bipush (-2), 2) := by decide +kernel
theorem dX9_cheapest_30 : decode cX9_cheapest 30 = .ok (.istore 4, 2) := by decide +kernel
theorem dX9_cheapest_32 : decode cX9_cheapest 32 = .ok (.aload_n 0, 1) := by decide +kernel
theorem dX9_cheapest_33 : decode cX9_cheapest 33 = .ok (.getfield 12, 3) := by decide +kernel
theorem dX9_cheapest_36 : decode cX9_cheapest 36 = .ok (.getfield 117, 3) := by decide +kernel
theorem dX9_cheapest_39 : decode cX9_cheapest 39 = .ok (.invokestatic 294, 3) := by decide +kernel
theorem dX9_cheapest_42 : decode cX9_cheapest 42 = .ok (.istore 5, 2) := by decide +kernel
theorem dX9_cheapest_44 : decode cX9_cheapest 44 = .ok (.iconst 0, 1) := by decide +kernel
theorem dX9_cheapest_45 : decode cX9_cheapest 45 = .ok (.istore 6, 2) := by decide +kernel
theorem dX9_cheapest_47 : decode cX9_cheapest 47 = .ok (.iload 6, 2) := by decide +kernel
theorem dX9_cheapest_49 : decode cX9_cheapest 49 = .ok (.iload 5, 2) := by decide +kernel
theorem dX9_cheapest_51 : decode cX9_cheapest 51 = .ok (.if_icmp .ge 65, 3) := by decide +kernel
theorem dX9_cheapest_54 : decode cX9_cheapest 54 = .ok (.aload_n 0, 1) := by decide +kernel
theorem dX9_cheapest_55 : decode cX9_cheapest 55 = .ok (.getfield 12, 3) := by decide +kernel
theorem dX9_cheapest_58 : decode cX9_cheapest 58 = .ok (.iload 6, 2) := by decide +kernel
theorem dX9_cheapest_60 : decode cX9_cheapest 60 = .ok (.invokestatic 104, 3) := by decide +kernel
theorem dX9_cheapest_63 : decode cX9_cheapest 63 = .ok (.ifCond .eq 47, 3) := by decide +kernel
theorem dX9_cheapest_66 : decode cX9_cheapest 66 = .ok (.aload_n 0, 1) := by decide +kernel
theorem dX9_cheapest_67 : decode cX9_cheapest 67 = .ok (.getfield 12, 3) := by decide +kernel
theorem dX9_cheapest_70 : decode cX9_cheapest 70 = .ok (.iload 6, 2) := by decide +kernel
theorem dX9_cheapest_72 : decode cX9_cheapest 72 = .ok (.iload_n 1, 1) := by decide +kernel
theorem dX9_cheapest_73 : decode cX9_cheapest 73 = .ok (.invokestatic 297, 3) := by decide +kernel
theorem dX9_cheapest_76 : decode cX9_cheapest 76 = .ok (.ifCond .eq 34, 3) := by decide +kernel
theorem dX9_cheapest_79 : decode cX9_cheapest 79 = .ok (.aload_n 0, 1) := by decide +kernel
theorem dX9_cheapest_80 : decode cX9_cheapest 80 = .ok (.getfield 12, 3) := by decide +kernel
theorem dX9_cheapest_83 : decode cX9_cheapest 83 = .ok (.iload 6, 2) := by decide +kernel
theorem dX9_cheapest_85 : decode cX9_cheapest 85 = .ok (.invokestatic 123, 3) := by decide +kernel
theorem dX9_cheapest_88 : decode cX9_cheapest 88 = .ok (.istore 7, 2) := by decide +kernel
theorem dX9_cheapest_90 : decode cX9_cheapest 90 = .ok (.iload 4, 2) := by decide +kernel
theorem dX9_cheapest_92 : decode cX9_cheapest 92 = .ok (.bipush (-2), 2) := by decide +kernel
theorem dX9_cheapest_94 : decode cX9_cheapest 94 = .ok (.if_icmp .eq 9, 3) := by decide +kernel
theorem dX9_cheapest_97 : decode cX9_cheapest 97 = .ok (.iload 7, 2) := by decide +kernel
theorem dX9_cheapest_99 : decode cX9_cheapest 99 = .ok (.iload_n 3, 1) := by decide +kernel
theorem dX9_cheapest_100 : decode cX9_cheapest 100 = .ok (.if_icmp .ge 10, 3) := by decide +kernel
theorem dX9_cheapest_103 : decode cX9_cheapest 103 = .ok (.iload 7, 2) := by decide +kernel
theorem dX9_cheapest_105 : decode cX9_cheapest 105 = .ok (.istore_n 3, 1) := by decide +kernel
theorem dX9_cheapest_106 : decode cX9_cheapest 106 = .ok (.iload 6, 2) := by decide +kernel
theorem dX9_cheapest_108 : decode cX9_cheapest 108 = .ok (.istore 4, 2) := by decide +kernel
theorem dX9_cheapest_110 : decode cX9_cheapest 110 = .ok (.iinc 6 1, 3) := by decide +kernel
theorem dX9_cheapest_113 : decode cX9_cheapest 113 = .ok (.goto (-66), 3) := by decide +kernel
theorem dX9_cheapest_116 : decode cX9_cheapest 116 = .ok (.iload_n 2, 1) := by decide +kernel
theorem dX9_cheapest_117 : decode cX9_cheapest 117 = .ok (.ifCond .ne 7, 3) := by decide +kernel
theorem dX9_cheapest_120 : decode cX9_cheapest 120 = .ok (.iload_n 3, 1) := by decide +kernel
theorem dX9_cheapest_121 : decode cX9_cheapest 121 = .ok (.goto 5, 3) := by decide +kernel
theorem dX9_cheapest_124 : decode cX9_cheapest 124 = .ok (.iload 4, 2) := by decide +kernel
theorem dX9_cheapest_126 : decode cX9_cheapest 126 = .ok (.ireturn, 1) := by decide +kernel
theorem zm_X9_cheapest : ZMv "ClassOfMany" yX9_cheapest cX9_cheapest 8 (some .int) 2 := ⟨kw_4_177, kw_4_175, kw_4_176, kw_1_1, by decide +kernel, by decide⟩
def zf_X9_cheapest_j23 : Option (Int32) :=
  some (-1 : Int32)
def zf_X9_cheapest_j110 (R47 : Int32 → Int32 → Int32 → Option (Int32)) (v35 : Int32) (v40 : Int32) (v41 : Int32) : Option (Int32) :=
  (R47 v40 v41 (v35 + (1 : Int32)))
def zf_X9_cheapest_j103 (R47 : Int32 → Int32 → Int32 → Option (Int32)) (v35 : Int32) (v45 : Int32) : Option (Int32) :=
  (zf_X9_cheapest_j110 R47 v35 v45 v35)
def zf_X9_cheapest_L47 (v32 : Int32) (M : ZMem) (n : Nat) (a1 : Int32) (K116 : Int32 → Int32 → Option (Int32)) : Nat → Int32 → Int32 → Int32 → Option (Int32)
  | 0, _, _, _ => none
  | n47 + 1, v33, v34, v35 =>
  (if v32 ≤ v35 then (K116 v33 v34) else zdy M 0 0 (7, 17) (fun o38 => zb1 (zf_X1_isOrder n o38 v35 M) (fun v39 => (if v39 = 0 then (zf_X9_cheapest_j110 (fun x0 x1 x2 => zf_X9_cheapest_L47 v32 M n a1 K116 n47 x0 x1 x2) v35 v33 v34) else zdy M 0 0 (7, 17) (fun o42 => zb1 (zf_X1_isInTime n o42 v35 a1 M) (fun v43 => (if v43 = 0 then (zf_X9_cheapest_j110 (fun x0 x1 x2 => zf_X9_cheapest_L47 v32 M n a1 K116 n47 x0 x1 x2) v35 v33 v34) else zdy M 0 0 (7, 17) (fun o44 => zb1 (zf_X1_costsBy n o44 v35 M) (fun v45 => (if v34 = (-2 : Int32) then (zf_X9_cheapest_j103 (fun x0 x1 x2 => zf_X9_cheapest_L47 v32 M n a1 K116 n47 x0 x1 x2) v35 v45) else (if v33 ≤ v45 then (zf_X9_cheapest_j110 (fun x0 x1 x2 => zf_X9_cheapest_L47 v32 M n a1 K116 n47 x0 x1 x2) v35 v33 v34) else (zf_X9_cheapest_j103 (fun x0 x1 x2 => zf_X9_cheapest_L47 v32 M n a1 K116 n47 x0 x1 x2) v35 v45))))))))))))
def zf_X9_cheapest_j126 (v48 : Int32) : Option (Int32) :=
  some v48
def zf_X9_cheapest_j25 (M : ZMem) (n : Nat) (a1 : Int32) (a2 : Int32) : Option (Int32) :=
  zdy M 0 0 (7, 17) (fun o31 => zb1 (zf_X1_numbersOf (M o31 1)) (fun v32 => (zf_X9_cheapest_L47 v32 M n a1 (fun v46 v47 => (if a2 = 0 then (zf_X9_cheapest_j126 v46) else (zf_X9_cheapest_j126 v47))) n (-2 : Int32) (-2 : Int32) (0 : Int32))))
def zf_X9_cheapest (n : Nat) (a1 : Int32) (a2 : Int32) (M : ZMem) : Option (Int32) :=
  zdy M 0 0 (7, 17) (fun o30 => (if (M o30 1) = 0 then (zf_X9_cheapest_j23) else (if a1 < 0 then (zf_X9_cheapest_j23) else (if a2 = 0 then (zf_X9_cheapest_j25 M n a1 a2) else (if a2 = (1 : Int32) then (zf_X9_cheapest_j25 M n a1 a2) else (zf_X9_cheapest_j23))))))
set_option maxHeartbeats 4000000 in
set_option maxRecDepth 100000 in
theorem zc_X9_cheapest {l : Launch} {D : va_G} {ad : Nat → Nat} {cA : Nat → ClassId} {n : Nat} {a1 : Int32} {a2 : Int32} {M : ZMem} {r : Int32} (hf : zf_X9_cheapest n a1 a2 M = some r) : ZCt l D ad cA yX9_cheapest cX9_cheapest 8 (some .int) 4 [.ref (ad 0), .int a1, .int a2] M (some (.int r)) M := by
  refine zct (by decide +kernel) (Nat.le_of_ble_eq_true rfl) (lv := [(0, .ref (ad 0)), (1, .int a1), (2, .int a2)]) rfl (fun E hl hD had hcA hN hC hR => ?_)
  subst hl; subst hD; subst had; subst hcA
  unfold zf_X9_cheapest at hf
  refine zw_aload_n hC dX9_cheapest_0 rfl 0 rfl ?_
  refine zw_getd hC hf zF_ClassOfMany_told zk_0 dX9_cheapest_1 kw_2_168 (fun o30 ho30 hf => ?_)
  refine zw_geti hC zF_Told_channels ho30 dX9_cheapest_4 kw_1_44 ?_
  have hj23 : zf_X9_cheapest_j23 = some r → ZW E 23 [] [] M := by
    intro  hf
    unfold zf_X9_cheapest_j23 at hf
    refine zw_iconst hC (v := (-1 : Int32)) dX9_cheapest_23 (by decide) ?_
    have h1 := Option.some.inj hf
    subst h1
    exact zw_iret hC hR dX9_cheapest_24
  refine zw_if_eq hC 23 hf dX9_cheapest_7 (by decide) (fun hf => ?_) (fun hf => ?_)
  · exact zw_sub [] rfl (hj23 hf)
  · refine zw_iload_n hC dX9_cheapest_10 rfl 1 rfl ?_
    refine zw_if_lt hC 23 hf dX9_cheapest_11 (by decide) (fun hf => ?_) (fun hf => ?_)
    · exact zw_sub [] rfl (hj23 hf)
    · refine zw_iload_n hC dX9_cheapest_14 rfl 2 rfl ?_
      have hj25 : zf_X9_cheapest_j25 M n a1 a2 = some r → ZW E 25 [(0, .ref (zad E 0)), (1, .int a1), (2, .int a2)] [] M := by
        intro  hf
        unfold zf_X9_cheapest_j25 at hf
        refine zw_bipush hC (v := (-2 : Int32)) dX9_cheapest_25 (by decide) ?_
        refine zw_istore_n hC (lv' := [(3, .int (-2 : Int32)), (0, .ref (zad E 0)), (1, .int a1), (2, .int a2)]) dX9_cheapest_27 rfl hN (by decide) rfl ?_
        refine zw_bipush hC (v := (-2 : Int32)) dX9_cheapest_28 (by decide) ?_
        refine zw_istore hC (lv' := [(4, .int (-2 : Int32)), (3, .int (-2 : Int32)), (0, .ref (zad E 0)), (1, .int a1), (2, .int a2)]) dX9_cheapest_30 hN (by decide) rfl ?_
        refine zw_aload_n hC dX9_cheapest_32 rfl 2 rfl ?_
        refine zw_getd hC hf zF_ClassOfMany_told zk_0 dX9_cheapest_33 kw_2_168 (fun o31 ho31 hf => ?_)
        refine zw_geti hC zF_Told_channels ho31 dX9_cheapest_36 kw_1_44 ?_
        obtain ⟨v32, hc32, hf⟩ := zb1_some hf
        refine zw_cS hC [.int (M o31 1)] [] (st1 := [.int v32]) zm_X1_numbersOf (zc_X1_numbersOf hc32) kw_4_178 dX9_cheapest_39 rfl (by decide) (Nat.le_of_ble_eq_true rfl) rfl rfl ?_
        refine zw_istore hC (lv' := [(5, .int v32), (4, .int (-2 : Int32)), (3, .int (-2 : Int32)), (0, .ref (zad E 0)), (1, .int a1), (2, .int a2)]) dX9_cheapest_42 hN (by decide) rfl ?_
        refine zw_iconst hC (v := (0 : Int32)) dX9_cheapest_44 (by decide) ?_
        refine zw_istore hC (lv' := [(6, .int (0 : Int32)), (5, .int v32), (4, .int (-2 : Int32)), (3, .int (-2 : Int32)), (0, .ref (zad E 0)), (1, .int a1), (2, .int a2)]) dX9_cheapest_45 hN (by decide) rfl ?_
        have hL47 : ∀ (K116 : Int32 → Int32 → Option (Int32)), (∀ (v36 : Int32), ∀ (v37 : Int32), K116 v36 v37 = some r → ZW E 116 [(2, .int a2), (3, .int v36), (4, .int v37)] [] M) → ∀ (n47 : Nat), ∀ (v33 : Int32), ∀ (v34 : Int32), ∀ (v35 : Int32), zf_X9_cheapest_L47 v32 M n a1 K116 n47 v33 v34 v35 = some r → ZW E 47 [(0, .ref (zad E 0)), (1, .int a1), (2, .int a2), (3, .int v33), (4, .int v34), (5, .int v32), (6, .int v35)] [] M := by
          intro K116 hK116
          intro n47
          induction n47 with
          | zero => intro v33 v34 v35 hf; rw [zf_X9_cheapest_L47] at hf; cases hf
          | succ n47 ih47 =>
            intro v33 v34 v35 hf
            rw [zf_X9_cheapest_L47] at hf
            refine zw_iload hC dX9_cheapest_47 6 rfl ?_
            refine zw_iload hC dX9_cheapest_49 5 rfl ?_
            refine zw_icmp_ge hC 116 hf dX9_cheapest_51 (by decide) (fun hf => ?_) (fun hf => ?_)
            · exact zw_sub [2, 3, 4] rfl (hK116 v33 v34 hf)
            · refine zw_aload_n hC dX9_cheapest_54 rfl 0 rfl ?_
              refine zw_getd hC hf zF_ClassOfMany_told zk_0 dX9_cheapest_55 kw_2_168 (fun o38 ho38 hf => ?_)
              refine zw_iload hC dX9_cheapest_58 6 rfl ?_
              obtain ⟨v39, hc39, hf⟩ := zb1_some hf
              refine zw_cS hC [.ref (zad E o38), .int v35] [] (st1 := [.int v39]) zm_X1_isOrder (zc_X1_isOrder ho38 hc39) kw_3_169 dX9_cheapest_60 rfl (by decide) (Nat.le_of_ble_eq_true rfl) rfl rfl ?_
              have hj110 : ∀ (v40 : Int32), ∀ (v41 : Int32), zf_X9_cheapest_j110 (fun x0 x1 x2 => zf_X9_cheapest_L47 v32 M n a1 K116 n47 x0 x1 x2) v35 v40 v41 = some r → ZW E 110 [(0, .ref (zad E 0)), (1, .int a1), (2, .int a2), (3, .int v40), (4, .int v41), (5, .int v32), (6, .int v35)] [] M := by
                intro v40 v41 hf
                unfold zf_X9_cheapest_j110 at hf
                refine zw_iinc hC (v := (1 : Int32)) (lv' := [(6, .int (v35 + (1 : Int32))), (0, .ref (zad E 0)), (1, .int a1), (2, .int a2), (3, .int v40), (4, .int v41), (5, .int v32)]) dX9_cheapest_110 6 rfl (by decide) hN (by decide) rfl ?_
                refine zw_goto hC 47 dX9_cheapest_113 (by decide) ?_
                exact zw_sub [1, 2, 3, 4, 5, 6, 0] rfl (ih47 v40 v41 (v35 + (1 : Int32)) hf)
              refine zw_if_eq hC 110 hf dX9_cheapest_63 (by decide) (fun hf => ?_) (fun hf => ?_)
              · exact hj110 v33 v34 hf
              · refine zw_aload_n hC dX9_cheapest_66 rfl 0 rfl ?_
                refine zw_getd hC hf zF_ClassOfMany_told zk_0 dX9_cheapest_67 kw_2_168 (fun o42 ho42 hf => ?_)
                refine zw_iload hC dX9_cheapest_70 6 rfl ?_
                refine zw_iload_n hC dX9_cheapest_72 rfl 1 rfl ?_
                obtain ⟨v43, hc43, hf⟩ := zb1_some hf
                refine zw_cS hC [.ref (zad E o42), .int v35, .int a1] [] (st1 := [.int v43]) zm_X1_isInTime (zc_X1_isInTime ho42 hc43) kw_4_179 dX9_cheapest_73 rfl (by decide) (Nat.le_of_ble_eq_true rfl) rfl rfl ?_
                refine zw_if_eq hC 110 hf dX9_cheapest_76 (by decide) (fun hf => ?_) (fun hf => ?_)
                · exact hj110 v33 v34 hf
                · refine zw_aload_n hC dX9_cheapest_79 rfl 0 rfl ?_
                  refine zw_getd hC hf zF_ClassOfMany_told zk_0 dX9_cheapest_80 kw_2_168 (fun o44 ho44 hf => ?_)
                  refine zw_iload hC dX9_cheapest_83 6 rfl ?_
                  obtain ⟨v45, hc45, hf⟩ := zb1_some hf
                  refine zw_cS hC [.ref (zad E o44), .int v35] [] (st1 := [.int v45]) zm_X1_costsBy (zc_X1_costsBy ho44 hc45) kw_3_186 dX9_cheapest_85 rfl (by decide) (Nat.le_of_ble_eq_true rfl) rfl rfl ?_
                  refine zw_istore hC (lv' := [(7, .int v45), (0, .ref (zad E 0)), (1, .int a1), (2, .int a2), (3, .int v33), (4, .int v34), (5, .int v32), (6, .int v35)]) dX9_cheapest_88 hN (by decide) rfl ?_
                  refine zw_iload hC dX9_cheapest_90 5 rfl ?_
                  refine zw_bipush hC (v := (-2 : Int32)) dX9_cheapest_92 (by decide) ?_
                  have hj103 : zf_X9_cheapest_j103 (fun x0 x1 x2 => zf_X9_cheapest_L47 v32 M n a1 K116 n47 x0 x1 x2) v35 v45 = some r → ZW E 103 [(0, .ref (zad E 0)), (1, .int a1), (2, .int a2), (5, .int v32), (6, .int v35), (7, .int v45)] [] M := by
                    intro  hf
                    unfold zf_X9_cheapest_j103 at hf
                    refine zw_iload hC dX9_cheapest_103 5 rfl ?_
                    refine zw_istore_n hC (lv' := [(3, .int v45), (0, .ref (zad E 0)), (1, .int a1), (2, .int a2), (5, .int v32), (6, .int v35), (7, .int v45)]) dX9_cheapest_105 rfl hN (by decide) rfl ?_
                    refine zw_iload hC dX9_cheapest_106 5 rfl ?_
                    refine zw_istore hC (lv' := [(4, .int v35), (3, .int v45), (0, .ref (zad E 0)), (1, .int a1), (2, .int a2), (5, .int v32), (6, .int v35), (7, .int v45)]) dX9_cheapest_108 hN (by decide) rfl ?_
                    exact zw_sub [2, 3, 4, 1, 0, 5, 6] rfl (hj110 v45 v35 hf)
                  refine zw_icmp_eq hC 103 hf dX9_cheapest_94 (by decide) (fun hf => ?_) (fun hf => ?_)
                  · exact zw_sub [1, 2, 3, 6, 7, 0] rfl (hj103 hf)
                  · refine zw_iload hC dX9_cheapest_97 0 rfl ?_
                    refine zw_iload_n hC dX9_cheapest_99 rfl 4 rfl ?_
                    refine zw_icmp_ge hC 110 hf dX9_cheapest_100 (by decide) (fun hf => ?_) (fun hf => ?_)
                    · exact zw_sub [1, 2, 3, 4, 5, 6, 7] rfl (hj110 v33 v34 hf)
                    · exact zw_sub [1, 2, 3, 6, 7, 0] rfl (hj103 hf)
        refine zw_sub [4, 5, 6, 3, 2, 1, 0] rfl (hL47 _ ?_ n (-2 : Int32) (-2 : Int32) (0 : Int32) hf)
        · intro v46 v47 hf
          refine zw_iload_n hC dX9_cheapest_116 rfl 0 rfl ?_
          have hj126 : ∀ (v48 : Int32), zf_X9_cheapest_j126 v48 = some r → ZW E 126 [] [.int v48] M := by
            intro v48 hf
            unfold zf_X9_cheapest_j126 at hf
            have h1 := Option.some.inj hf
            subst h1
            exact zw_iret hC hR dX9_cheapest_126
          refine zw_if_ne hC 124 hf dX9_cheapest_117 (by decide) (fun hf => ?_) (fun hf => ?_)
          · refine zw_iload hC dX9_cheapest_124 2 rfl ?_
            exact zw_sub [] rfl (hj126 v47 hf)
          · refine zw_iload_n hC dX9_cheapest_120 rfl 1 rfl ?_
            refine zw_goto hC 126 dX9_cheapest_121 (by decide) ?_
            exact zw_sub [] rfl (hj126 v46 hf)
      refine zw_if_eq hC 25 hf dX9_cheapest_15 (by decide) (fun hf => ?_) (fun hf => ?_)
      · exact hj25 hf
      · refine zw_iload_n hC dX9_cheapest_18 rfl 2 rfl ?_
        refine zw_iconst hC (v := (1 : Int32)) dX9_cheapest_19 (by decide) ?_
        refine zw_icmp_eq hC 25 hf dX9_cheapest_20 (by decide) (fun hf => ?_) (fun hf => ?_)
        · exact hj25 hf
        · exact zw_sub [] rfl (hj23 hf)
/-! ClassOfMany.reachedBy(I)I -/
theorem dX9_reachedBy_0 : decode cX9_reachedBy 0 = .ok (.iload_n 1, 1) := by decide +kernel
theorem dX9_reachedBy_1 : decode cX9_reachedBy 1 = .ok (.ifCond .lt 10, 3) := by decide +kernel
theorem dX9_reachedBy_4 : decode cX9_reachedBy 4 = .ok (.iload_n 1, 1) := by decide +kernel
theorem dX9_reachedBy_5 : decode cX9_reachedBy 5 = .ok (.sipush 199, 3) := by decide +kernel
theorem dX9_reachedBy_8 : decode cX9_reachedBy 8 = .ok (.if_icmp .le 5, 3) := by decide +kernel
theorem dX9_reachedBy_11 : decode cX9_reachedBy 11 = .ok (.iconst (-1), 1) := by decide +kernel
theorem dX9_reachedBy_12 : decode cX9_reachedBy 12 = .ok (.ireturn, 1) := by decide +kernel
theorem dX9_reachedBy_13 : decode cX9_reachedBy 13 = .ok (.iconst 0, 1) := by decide +kernel
theorem dX9_reachedBy_14 : decode cX9_reachedBy 14 = .ok (.istore_n 2, 1) := by decide +kernel
theorem dX9_reachedBy_15 : decode cX9_reachedBy 15 = .ok (.iconst 0, 1) := by decide +kernel
theorem dX9_reachedBy_16 : decode cX9_reachedBy 16 = .ok (.istore_n 3, 1) := by decide +kernel
theorem dX9_reachedBy_17 : decode cX9_reachedBy 17 = .ok (.iload_n 3, 1) := by decide +kernel
theorem dX9_reachedBy_18 : decode cX9_reachedBy 18 = .ok (.aload_n 0, 1) := by decide +kernel
theorem dX9_reachedBy_19 : decode cX9_reachedBy 19 = .ok (.getfield 12, 3) := by decide +kernel
theorem dX9_reachedBy_22 : decode cX9_reachedBy 22 = .ok (.getfield 92, 3) := by decide +kernel
theorem dX9_reachedBy_25 : decode cX9_reachedBy 25 = .ok (.if_icmp .ge 35, 3) := by decide +kernel
theorem dX9_reachedBy_28 : decode cX9_reachedBy 28 = .ok (.aload_n 0, 1) := by decide +kernel
theorem dX9_reachedBy_29 : decode cX9_reachedBy 29 = .ok (.iload_n 3, 1) := by decide +kernel
theorem dX9_reachedBy_30 : decode cX9_reachedBy 30 = .ok (.invokevirtual 219, 3) := by decide +kernel
theorem dX9_reachedBy_33 : decode cX9_reachedBy 33 = .ok (.istore 4, 2) := by decide +kernel
theorem dX9_reachedBy_35 : decode cX9_reachedBy 35 = .ok (.iload 4, 2) := by decide +kernel
theorem dX9_reachedBy_37 : decode cX9_reachedBy 37 = .ok (.bipush (-2), 2) := by decide +kernel
theorem dX9_reachedBy_39 : decode cX9_reachedBy 39 = .ok (.if_icmp .eq 15, 3) := by decide +kernel
theorem dX9_reachedBy_42 : decode cX9_reachedBy 42 = .ok (.iload 4, 2) := by decide +kernel
theorem dX9_reachedBy_44 : decode cX9_reachedBy 44 = .ok (.iload_n 1, 1) := by decide +kernel
theorem dX9_reachedBy_45 : decode cX9_reachedBy 45 = .ok (.if_icmp .gt 9, 3) := by decide +kernel
theorem dX9_reachedBy_48 : decode cX9_reachedBy 48 = .ok (.iload_n 2, 1) := by decide +kernel
theorem dX9_reachedBy_49 : decode cX9_reachedBy 49 = .ok (.iconst 1, 1) := by decide +kernel
theorem dX9_reachedBy_50 : decode cX9_reachedBy 50 = .ok (.iload_n 3, 1) := by decide +kernel
theorem dX9_reachedBy_51 : decode cX9_reachedBy 51 = .ok (.ishl, 1) := by decide +kernel
theorem dX9_reachedBy_52 : decode cX9_reachedBy 52 = .ok (.ior, 1) := by decide +kernel
theorem dX9_reachedBy_53 : decode cX9_reachedBy 53 = .ok (.istore_n 2, 1) := by decide +kernel
theorem dX9_reachedBy_54 : decode cX9_reachedBy 54 = .ok (.iinc 3 1, 3) := by decide +kernel
theorem dX9_reachedBy_57 : decode cX9_reachedBy 57 = .ok (.goto (-40), 3) := by decide +kernel
theorem dX9_reachedBy_60 : decode cX9_reachedBy 60 = .ok (.iload_n 2, 1) := by decide +kernel
theorem dX9_reachedBy_61 : decode cX9_reachedBy 61 = .ok (.ireturn, 1) := by decide +kernel
theorem zm_X9_reachedBy : ZMv "ClassOfMany" yX9_reachedBy cX9_reachedBy 5 (some .int) 1 := ⟨kw_4_186, kw_4_184, kw_4_185, kw_1_1, by decide +kernel, by decide⟩
def zf_X9_reachedBy_j11 : Option (Int32) :=
  some (-1 : Int32)
def zf_X9_reachedBy_j54 (R17 : Int32 → Int32 → Option (Int32)) (v24 : Int32) (v28 : Int32) : Option (Int32) :=
  (R17 v28 (v24 + (1 : Int32)))
def zf_X9_reachedBy_L17 (M : ZMem) (n : Nat) (a1 : Int32) (K60 : Int32 → Option (Int32)) : Nat → Int32 → Int32 → Option (Int32)
  | 0, _, _ => none
  | n17 + 1, v23, v24 =>
  zdy M 0 0 (7, 17) (fun o26 => (if (M o26 0) ≤ v24 then (K60 v23) else zb1 (zf_X9_reachDay n v24 M) (fun v27 => (if v27 = (-2 : Int32) then (zf_X9_reachedBy_j54 (fun x0 x1 => zf_X9_reachedBy_L17 M n a1 K60 n17 x0 x1) v24 v23) else (if a1 < v27 then (zf_X9_reachedBy_j54 (fun x0 x1 => zf_X9_reachedBy_L17 M n a1 K60 n17 x0 x1) v24 v23) else (zf_X9_reachedBy_j54 (fun x0 x1 => zf_X9_reachedBy_L17 M n a1 K60 n17 x0 x1) v24 (v23 ||| ((1 : Int32) <<< (v24 &&& 31)))))))))
def zf_X9_reachedBy (n : Nat) (a1 : Int32) (M : ZMem) : Option (Int32) :=
  (if a1 < 0 then (zf_X9_reachedBy_j11) else (if a1 ≤ (199 : Int32) then (zf_X9_reachedBy_L17 M n a1 (fun v29 => some v29) n (0 : Int32) (0 : Int32)) else (zf_X9_reachedBy_j11)))
set_option maxHeartbeats 4000000 in
set_option maxRecDepth 100000 in
theorem zc_X9_reachedBy {l : Launch} {D : va_G} {ad : Nat → Nat} {cA : Nat → ClassId} {n : Nat} {a1 : Int32} {M : ZMem} {r : Int32} (hf : zf_X9_reachedBy n a1 M = some r) : ZCt l D ad cA yX9_reachedBy cX9_reachedBy 5 (some .int) 4 [.ref (ad 0), .int a1] M (some (.int r)) M := by
  refine zct (by decide +kernel) (Nat.le_of_ble_eq_true rfl) (lv := [(0, .ref (ad 0)), (1, .int a1)]) rfl (fun E hl hD had hcA hN hC hR => ?_)
  subst hl; subst hD; subst had; subst hcA
  unfold zf_X9_reachedBy at hf
  refine zw_iload_n hC dX9_reachedBy_0 rfl 1 rfl ?_
  have hj11 : zf_X9_reachedBy_j11 = some r → ZW E 11 [] [] M := by
    intro  hf
    unfold zf_X9_reachedBy_j11 at hf
    refine zw_iconst hC (v := (-1 : Int32)) dX9_reachedBy_11 (by decide) ?_
    have h1 := Option.some.inj hf
    subst h1
    exact zw_iret hC hR dX9_reachedBy_12
  refine zw_if_lt hC 11 hf dX9_reachedBy_1 (by decide) (fun hf => ?_) (fun hf => ?_)
  · exact zw_sub [] rfl (hj11 hf)
  · refine zw_iload_n hC dX9_reachedBy_4 rfl 1 rfl ?_
    refine zw_sipush hC (v := (199 : Int32)) dX9_reachedBy_5 (by decide) ?_
    refine zw_icmp_le hC 13 hf dX9_reachedBy_8 (by decide) (fun hf => ?_) (fun hf => ?_)
    · refine zw_iconst hC (v := (0 : Int32)) dX9_reachedBy_13 (by decide) ?_
      refine zw_istore_n hC (lv' := [(2, .int (0 : Int32)), (0, .ref (zad E 0)), (1, .int a1)]) dX9_reachedBy_14 rfl hN (by decide) rfl ?_
      refine zw_iconst hC (v := (0 : Int32)) dX9_reachedBy_15 (by decide) ?_
      refine zw_istore_n hC (lv' := [(3, .int (0 : Int32)), (2, .int (0 : Int32)), (0, .ref (zad E 0)), (1, .int a1)]) dX9_reachedBy_16 rfl hN (by decide) rfl ?_
      have hL17 : ∀ (K60 : Int32 → Option (Int32)), (∀ (v25 : Int32), K60 v25 = some r → ZW E 60 [(2, .int v25)] [] M) → ∀ (n17 : Nat), ∀ (v23 : Int32), ∀ (v24 : Int32), zf_X9_reachedBy_L17 M n a1 K60 n17 v23 v24 = some r → ZW E 17 [(0, .ref (zad E 0)), (1, .int a1), (2, .int v23), (3, .int v24)] [] M := by
        intro K60 hK60
        intro n17
        induction n17 with
        | zero => intro v23 v24 hf; rw [zf_X9_reachedBy_L17] at hf; cases hf
        | succ n17 ih17 =>
          intro v23 v24 hf
          rw [zf_X9_reachedBy_L17] at hf
          refine zw_iload_n hC dX9_reachedBy_17 rfl 3 rfl ?_
          refine zw_aload_n hC dX9_reachedBy_18 rfl 0 rfl ?_
          refine zw_getd hC hf zF_ClassOfMany_told zk_0 dX9_reachedBy_19 kw_2_168 (fun o26 ho26 hf => ?_)
          refine zw_geti hC zF_Told_members ho26 dX9_reachedBy_22 kw_1_38 ?_
          refine zw_icmp_ge hC 60 hf dX9_reachedBy_25 (by decide) (fun hf => ?_) (fun hf => ?_)
          · exact zw_sub [2] rfl (hK60 v23 hf)
          · refine zw_aload_n hC dX9_reachedBy_28 rfl 0 rfl ?_
            refine zw_iload_n hC dX9_reachedBy_29 rfl 3 rfl ?_
            obtain ⟨v27, hc27, hf⟩ := zb1_some hf
            refine zw_cV hC [.int v24] [] (st1 := [.int v27]) zm_X9_reachDay (zc_X9_reachDay hc27) zk_0 rfl kw_3_206 dX9_reachedBy_30 rfl (by decide) (Nat.le_of_ble_eq_true rfl) rfl rfl ?_
            refine zw_istore hC (lv' := [(4, .int v27), (0, .ref (zad E 0)), (1, .int a1), (2, .int v23), (3, .int v24)]) dX9_reachedBy_33 hN (by decide) rfl ?_
            refine zw_iload hC dX9_reachedBy_35 0 rfl ?_
            refine zw_bipush hC (v := (-2 : Int32)) dX9_reachedBy_37 (by decide) ?_
            have hj54 : ∀ (v28 : Int32), zf_X9_reachedBy_j54 (fun x0 x1 => zf_X9_reachedBy_L17 M n a1 K60 n17 x0 x1) v24 v28 = some r → ZW E 54 [(0, .ref (zad E 0)), (1, .int a1), (2, .int v28), (3, .int v24)] [] M := by
              intro v28 hf
              unfold zf_X9_reachedBy_j54 at hf
              refine zw_iinc hC (v := (1 : Int32)) (lv' := [(3, .int (v24 + (1 : Int32))), (0, .ref (zad E 0)), (1, .int a1), (2, .int v28)]) dX9_reachedBy_54 3 rfl (by decide) hN (by decide) rfl ?_
              refine zw_goto hC 17 dX9_reachedBy_57 (by decide) ?_
              exact zw_sub [1, 2, 3, 0] rfl (ih17 v28 (v24 + (1 : Int32)) hf)
            refine zw_icmp_eq hC 54 hf dX9_reachedBy_39 (by decide) (fun hf => ?_) (fun hf => ?_)
            · exact zw_sub [1, 2, 3, 4] rfl (hj54 v23 hf)
            · refine zw_iload hC dX9_reachedBy_42 0 rfl ?_
              refine zw_iload_n hC dX9_reachedBy_44 rfl 2 rfl ?_
              refine zw_icmp_gt hC 54 hf dX9_reachedBy_45 (by decide) (fun hf => ?_) (fun hf => ?_)
              · exact zw_sub [1, 2, 3, 4] rfl (hj54 v23 hf)
              · refine zw_iload_n hC dX9_reachedBy_48 rfl 3 rfl ?_
                refine zw_iconst hC (v := (1 : Int32)) dX9_reachedBy_49 (by decide) ?_
                refine zw_iload_n hC dX9_reachedBy_50 rfl 4 rfl ?_
                refine zw_ishl hC dX9_reachedBy_51 ?_
                refine zw_ior hC dX9_reachedBy_52 ?_
                refine zw_istore_n hC (lv' := [(2, .int (v23 ||| ((1 : Int32) <<< (v24 &&& 31)))), (4, .int v27), (0, .ref (zad E 0)), (1, .int a1), (3, .int v24)]) dX9_reachedBy_53 rfl hN (by decide) rfl ?_
                exact zw_sub [2, 3, 0, 4] rfl (hj54 (v23 ||| ((1 : Int32) <<< (v24 &&& 31))) hf)
      refine zw_sub [2, 3, 1, 0] rfl (hL17 _ ?_ n (0 : Int32) (0 : Int32) hf)
      · intro v29 hf
        refine zw_iload_n hC dX9_reachedBy_60 rfl 0 rfl ?_
        have h1 := Option.some.inj hf
        subst h1
        exact zw_iret hC hR dX9_reachedBy_61
    · exact zw_sub [] rfl (hj11 hf)
/-! ClassOfMany.isHundredths(I)Z -/
theorem dX9_isHundredths_0 : decode cX9_isHundredths 0 = .ok (.iload_n 0, 1) := by decide +kernel
theorem dX9_isHundredths_1 : decode cX9_isHundredths 1 = .ok (.ifCond .lt 13, 3) := by decide +kernel
theorem dX9_isHundredths_4 : decode cX9_isHundredths 4 = .ok (.iload_n 0, 1) := by decide +kernel
theorem dX9_isHundredths_5 : decode cX9_isHundredths 5 = .ok (.bipush 100, 2) := by decide +kernel
theorem dX9_isHundredths_7 : decode cX9_isHundredths 7 = .ok (.if_icmp .gt 7, 3) := by decide +kernel
theorem dX9_isHundredths_10 : decode cX9_isHundredths 10 = .ok (.iconst 1, 1) := by decide +kernel
theorem dX9_isHundredths_11 : decode cX9_isHundredths 11 = .ok (.goto 4, 3) := by decide +kernel
theorem dX9_isHundredths_14 : decode cX9_isHundredths 14 = .ok (.iconst 0, 1) := by decide +kernel
theorem dX9_isHundredths_15 : decode cX9_isHundredths 15 = .ok (.ireturn, 1) := by decide +kernel
theorem zm_X9_isHundredths : ZMs yX9_isHundredths cX9_isHundredths 1 (some .boolean) 1 := ⟨kw_5_33, kw_5_32, kw_1_1, by decide +kernel, by decide⟩
def zf_X9_isHundredths_j15 (v21 : Int32) : Option (Int32) :=
  zbz v21 (some v21)
def zf_X9_isHundredths_j14 : Option (Int32) :=
  (zf_X9_isHundredths_j15 (0 : Int32))
def zf_X9_isHundredths (a0 : Int32) : Option (Int32) :=
  (if a0 < 0 then (zf_X9_isHundredths_j14) else (if (100 : Int32) < a0 then (zf_X9_isHundredths_j14) else (zf_X9_isHundredths_j15 (1 : Int32))))
set_option maxHeartbeats 4000000 in
set_option maxRecDepth 100000 in
theorem zc_X9_isHundredths {l : Launch} {D : va_G} {ad : Nat → Nat} {cA : Nat → ClassId} {a0 : Int32} {M : ZMem} {r : Int32} (hf : zf_X9_isHundredths a0 = some r) : ZCt l D ad cA yX9_isHundredths cX9_isHundredths 1 (some .boolean) 1 [.int a0] M (some (.int r)) M := by
  refine zct (by decide +kernel) (Nat.le_of_ble_eq_true rfl) (lv := [(0, .int a0)]) rfl (fun E hl hD had hcA hN hC hR => ?_)
  subst hl; subst hD; subst had; subst hcA
  unfold zf_X9_isHundredths at hf
  refine zw_iload_n hC dX9_isHundredths_0 rfl 0 rfl ?_
  have hj15 : ∀ (v21 : Int32), zf_X9_isHundredths_j15 v21 = some r → ZW E 15 [] [.int v21] M := by
    intro v21 hf
    unfold zf_X9_isHundredths_j15 at hf
    obtain ⟨hz, hf⟩ := zbz_some hf
    have h1 := Option.some.inj hf
    subst h1
    exact zw_zret hC hR hz dX9_isHundredths_15
  have hj14 : zf_X9_isHundredths_j14 = some r → ZW E 14 [] [] M := by
    intro  hf
    unfold zf_X9_isHundredths_j14 at hf
    refine zw_iconst hC (v := (0 : Int32)) dX9_isHundredths_14 (by decide) ?_
    exact hj15 (0 : Int32) hf
  refine zw_if_lt hC 14 hf dX9_isHundredths_1 (by decide) (fun hf => ?_) (fun hf => ?_)
  · exact zw_sub [] rfl (hj14 hf)
  · refine zw_iload_n hC dX9_isHundredths_4 rfl 0 rfl ?_
    refine zw_bipush hC (v := (100 : Int32)) dX9_isHundredths_5 (by decide) ?_
    refine zw_icmp_gt hC 14 hf dX9_isHundredths_7 (by decide) (fun hf => ?_) (fun hf => ?_)
    · exact zw_sub [] rfl (hj14 hf)
    · refine zw_iconst hC (v := (1 : Int32)) dX9_isHundredths_10 (by decide) ?_
      refine zw_goto hC 15 dX9_isHundredths_11 (by decide) ?_
      exact zw_sub [] rfl (hj15 (1 : Int32) hf)
/-! ClassOfMany.isSet(I)Z -/
theorem dX9_isSet_0 : decode cX9_isSet 0 = .ok (.iload_n 1, 1) := by decide +kernel
theorem dX9_isSet_1 : decode cX9_isSet 1 = .ok (.ifCond .lt 15, 3) := by decide +kernel
theorem dX9_isSet_4 : decode cX9_isSet 4 = .ok (.iload_n 1, 1) := by decide +kernel
theorem dX9_isSet_5 : decode cX9_isSet 5 = .ok (.aload_n 0, 1) := by decide +kernel
theorem dX9_isSet_6 : decode cX9_isSet 6 = .ok (.invokevirtual 177, 3) := by decide +kernel
theorem dX9_isSet_9 : decode cX9_isSet 9 = .ok (.if_icmp .gt 7, 3) := by decide +kernel
theorem dX9_isSet_12 : decode cX9_isSet 12 = .ok (.iconst 1, 1) := by decide +kernel
theorem dX9_isSet_13 : decode cX9_isSet 13 = .ok (.goto 4, 3) := by decide +kernel
theorem dX9_isSet_16 : decode cX9_isSet 16 = .ok (.iconst 0, 1) := by decide +kernel
theorem dX9_isSet_17 : decode cX9_isSet 17 = .ok (.ireturn, 1) := by decide +kernel
theorem zm_X9_isSet : ZMv "ClassOfMany" yX9_isSet cX9_isSet 2 (some .boolean) 1 := ⟨kw_5_69, kw_5_68, kp_44, kw_1_1, by decide +kernel, by decide⟩
def zf_X9_isSet_j17 (v22 : Int32) : Option (Int32) :=
  zbz v22 (some v22)
def zf_X9_isSet_j16 : Option (Int32) :=
  (zf_X9_isSet_j17 (0 : Int32))
def zf_X9_isSet (a1 : Int32) (M : ZMem) : Option (Int32) :=
  (if a1 < 0 then (zf_X9_isSet_j16) else zb1 (zf_X9_everyone M) (fun v23 => (if v23 < a1 then (zf_X9_isSet_j16) else (zf_X9_isSet_j17 (1 : Int32)))))
set_option maxHeartbeats 4000000 in
set_option maxRecDepth 100000 in
theorem zc_X9_isSet {l : Launch} {D : va_G} {ad : Nat → Nat} {cA : Nat → ClassId} {a1 : Int32} {M : ZMem} {r : Int32} (hf : zf_X9_isSet a1 M = some r) : ZCt l D ad cA yX9_isSet cX9_isSet 2 (some .boolean) 2 [.ref (ad 0), .int a1] M (some (.int r)) M := by
  refine zct (by decide +kernel) (Nat.le_of_ble_eq_true rfl) (lv := [(0, .ref (ad 0)), (1, .int a1)]) rfl (fun E hl hD had hcA hN hC hR => ?_)
  subst hl; subst hD; subst had; subst hcA
  unfold zf_X9_isSet at hf
  refine zw_iload_n hC dX9_isSet_0 rfl 1 rfl ?_
  have hj17 : ∀ (v22 : Int32), zf_X9_isSet_j17 v22 = some r → ZW E 17 [] [.int v22] M := by
    intro v22 hf
    unfold zf_X9_isSet_j17 at hf
    obtain ⟨hz, hf⟩ := zbz_some hf
    have h1 := Option.some.inj hf
    subst h1
    exact zw_zret hC hR hz dX9_isSet_17
  have hj16 : zf_X9_isSet_j16 = some r → ZW E 16 [] [] M := by
    intro  hf
    unfold zf_X9_isSet_j16 at hf
    refine zw_iconst hC (v := (0 : Int32)) dX9_isSet_16 (by decide) ?_
    exact hj17 (0 : Int32) hf
  refine zw_if_lt hC 16 hf dX9_isSet_1 (by decide) (fun hf => ?_) (fun hf => ?_)
  · exact zw_sub [] rfl (hj16 hf)
  · refine zw_iload_n hC dX9_isSet_4 rfl 1 rfl ?_
    refine zw_aload_n hC dX9_isSet_5 rfl 0 rfl ?_
    obtain ⟨v23, hc23, hf⟩ := zb1_some hf
    refine zw_cV hC [] [.int a1] (st1 := [.int v23, .int a1]) zm_X9_everyone (zc_X9_everyone hc23) zk_0 rfl kw_4_6 dX9_isSet_6 rfl (by decide) (Nat.le_of_ble_eq_true rfl) rfl rfl ?_
    refine zw_icmp_gt hC 16 hf dX9_isSet_9 (by decide) (fun hf => ?_) (fun hf => ?_)
    · exact zw_sub [] rfl (hj16 hf)
    · refine zw_iconst hC (v := (1 : Int32)) dX9_isSet_12 (by decide) ?_
      refine zw_goto hC 17 dX9_isSet_13 (by decide) ?_
      exact zw_sub [] rfl (hj17 (1 : Int32) hf)
/-! ClassOfMany.fundFor(I)I -/
theorem dX9_fundFor_0 : decode cX9_fundFor 0 = .ok (.iconst 0, 1) := by decide +kernel
theorem dX9_fundFor_1 : decode cX9_fundFor 1 = .ok (.istore_n 2, 1) := by decide +kernel
theorem dX9_fundFor_2 : decode cX9_fundFor 2 = .ok (.ldc_w 360, 3) := by decide +kernel
theorem dX9_fundFor_5 : decode cX9_fundFor 5 = .ok (.istore_n 3, 1) := by decide +kernel
theorem dX9_fundFor_6 : decode cX9_fundFor 6 = .ok (.iconst 0, 1) := by decide +kernel
theorem dX9_fundFor_7 : decode cX9_fundFor 7 = .ok (.istore 4, 2) := by decide +kernel
theorem dX9_fundFor_9 : decode cX9_fundFor 9 = .ok (.iload 4, 2) := by decide +kernel
theorem dX9_fundFor_11 : decode cX9_fundFor 11 = .ok (.bipush 20, 2) := by decide +kernel
theorem dX9_fundFor_13 : decode cX9_fundFor 13 = .ok (.if_icmp .ge 52, 3) := by decide +kernel
theorem dX9_fundFor_16 : decode cX9_fundFor 16 = .ok (.iload_n 2, 1) := by decide +kernel
theorem dX9_fundFor_17 : decode cX9_fundFor 17 = .ok (.iload_n 3, 1) := by decide +kernel
theorem dX9_fundFor_18 : decode cX9_fundFor 18 = .ok (.if_icmp .ge 47, 3) := by decide +kernel
theorem dX9_fundFor_21 : decode cX9_fundFor 21 = .ok (.iload_n 2, 1) := by decide +kernel
theorem dX9_fundFor_22 : decode cX9_fundFor 22 = .ok (.iload_n 3, 1) := by decide +kernel
theorem dX9_fundFor_23 : decode cX9_fundFor 23 = .ok (.iadd, 1) := by decide +kernel
theorem dX9_fundFor_24 : decode cX9_fundFor 24 = .ok (.iconst 2, 1) := by decide +kernel
theorem dX9_fundFor_25 : decode cX9_fundFor 25 = .ok (.idiv, 1) := by decide +kernel
theorem dX9_fundFor_26 : decode cX9_fundFor 26 = .ok (.istore 5, 2) := by decide +kernel
theorem dX9_fundFor_28 : decode cX9_fundFor 28 = .ok (.aload_n 0, 1) := by decide +kernel
theorem dX9_fundFor_29 : decode cX9_fundFor 29 = .ok (.getfield 12, 3) := by decide +kernel
theorem dX9_fundFor_32 : decode cX9_fundFor 32 = .ok (.aload_n 0, 1) := by decide +kernel
theorem dX9_fundFor_33 : decode cX9_fundFor 33 = .ok (.getfield 19, 3) := by decide +kernel
theorem dX9_fundFor_36 : decode cX9_fundFor 36 = .ok (.getfield 127, 3) := by decide +kernel
theorem dX9_fundFor_39 : decode cX9_fundFor 39 = .ok (.iload 5, 2) := by decide +kernel
theorem dX9_fundFor_41 : decode cX9_fundFor 41 = .ok (.invokestatic 361, 3) := by decide +kernel
theorem dX9_fundFor_44 : decode cX9_fundFor 44 = .ok (.iload_n 1, 1) := by decide +kernel
theorem dX9_fundFor_45 : decode cX9_fundFor 45 = .ok (.if_icmp .lt 9, 3) := by decide +kernel
theorem dX9_fundFor_48 : decode cX9_fundFor 48 = .ok (.iload 5, 2) := by decide +kernel
theorem dX9_fundFor_50 : decode cX9_fundFor 50 = .ok (.istore_n 3, 1) := by decide +kernel
theorem dX9_fundFor_51 : decode cX9_fundFor 51 = .ok (.goto 8, 3) := by decide +kernel
theorem dX9_fundFor_54 : decode cX9_fundFor 54 = .ok (.iload 5, 2) := by decide +kernel
theorem dX9_fundFor_56 : decode cX9_fundFor 56 = .ok (.iconst 1, 1) := by decide +kernel
theorem dX9_fundFor_57 : decode cX9_fundFor 57 = .ok (.iadd, 1) := by decide +kernel
theorem dX9_fundFor_58 : decode cX9_fundFor 58 = .ok (.istore_n 2, 1) := by decide +kernel
theorem dX9_fundFor_59 : decode cX9_fundFor 59 = .ok (.iinc 4 1, 3) := by decide +kernel
theorem dX9_fundFor_62 : decode cX9_fundFor 62 = .ok (.goto (-53), 3) := by decide +kernel
theorem dX9_fundFor_65 : decode cX9_fundFor 65 = .ok (.iload_n 2, 1) := by decide +kernel
theorem dX9_fundFor_66 : decode cX9_fundFor 66 = .ok (.ireturn, 1) := by decide +kernel
theorem zm_X9_fundFor : ZMv "ClassOfMany" yX9_fundFor cX9_fundFor 6 (some .int) 1 := ⟨kw_5_101, kw_5_100, kp_48, kw_1_1, by decide +kernel, by decide⟩
def zf_X9_fundFor_j59 (R9 : Int32 → Int32 → Int32 → Option (Int32)) (v25 : Int32) (v29 : Int32) (v30 : Int32) : Option (Int32) :=
  (R9 v29 v30 (v25 + (1 : Int32)))
def zf_X9_fundFor_L9 (M : ZMem) (a1 : Int32) (K65 : Int32 → Option (Int32)) : Nat → Int32 → Int32 → Int32 → Option (Int32)
  | 0, _, _, _ => none
  | n9 + 1, v23, v24, v25 =>
  (if (20 : Int32) ≤ v25 then (K65 v23) else (if v24 ≤ v23 then (K65 v23) else zdy M 0 0 (7, 17) (fun o27 => zb1 (zf_X9_netOf o27 (M 12 3) ((v23 + v24) / (2 : Int32)) M) (fun v28 => (if v28 < a1 then (zf_X9_fundFor_j59 (fun x0 x1 x2 => zf_X9_fundFor_L9 M a1 K65 n9 x0 x1 x2) v25 (((v23 + v24) / (2 : Int32)) + (1 : Int32)) v24) else (zf_X9_fundFor_j59 (fun x0 x1 x2 => zf_X9_fundFor_L9 M a1 K65 n9 x0 x1 x2) v25 v23 ((v23 + v24) / (2 : Int32))))))))
def zf_X9_fundFor (n : Nat) (a1 : Int32) (M : ZMem) : Option (Int32) :=
  (zf_X9_fundFor_L9 M a1 (fun v31 => some v31) n (0 : Int32) (99999 : Int32) (0 : Int32))
set_option maxHeartbeats 4000000 in
set_option maxRecDepth 100000 in
theorem zc_X9_fundFor {l : Launch} {D : va_G} {ad : Nat → Nat} {cA : Nat → ClassId} {n : Nat} {a1 : Int32} {M : ZMem} {r : Int32} (hf : zf_X9_fundFor n a1 M = some r) : ZCt l D ad cA yX9_fundFor cX9_fundFor 6 (some .int) 2 [.ref (ad 0), .int a1] M (some (.int r)) M := by
  refine zct (by decide +kernel) (Nat.le_of_ble_eq_true rfl) (lv := [(0, .ref (ad 0)), (1, .int a1)]) rfl (fun E hl hD had hcA hN hC hR => ?_)
  subst hl; subst hD; subst had; subst hcA
  unfold zf_X9_fundFor at hf
  refine zw_iconst hC (v := (0 : Int32)) dX9_fundFor_0 (by decide) ?_
  refine zw_istore_n hC (lv' := [(2, .int (0 : Int32)), (0, .ref (zad E 0)), (1, .int a1)]) dX9_fundFor_1 rfl hN (by decide) rfl ?_
  refine zw_ldcw hC dX9_fundFor_2 kw_3_234 ?_
  refine zw_istore_n hC (lv' := [(3, .int (99999 : Int32)), (2, .int (0 : Int32)), (0, .ref (zad E 0)), (1, .int a1)]) dX9_fundFor_5 rfl hN (by decide) rfl ?_
  refine zw_iconst hC (v := (0 : Int32)) dX9_fundFor_6 (by decide) ?_
  refine zw_istore hC (lv' := [(4, .int (0 : Int32)), (3, .int (99999 : Int32)), (2, .int (0 : Int32)), (0, .ref (zad E 0)), (1, .int a1)]) dX9_fundFor_7 hN (by decide) rfl ?_
  have hL9 : ∀ (K65 : Int32 → Option (Int32)), (∀ (v26 : Int32), K65 v26 = some r → ZW E 65 [(2, .int v26)] [] M) → ∀ (n9 : Nat), ∀ (v23 : Int32), ∀ (v24 : Int32), ∀ (v25 : Int32), zf_X9_fundFor_L9 M a1 K65 n9 v23 v24 v25 = some r → ZW E 9 [(0, .ref (zad E 0)), (1, .int a1), (2, .int v23), (3, .int v24), (4, .int v25)] [] M := by
    intro K65 hK65
    intro n9
    induction n9 with
    | zero => intro v23 v24 v25 hf; rw [zf_X9_fundFor_L9] at hf; cases hf
    | succ n9 ih9 =>
      intro v23 v24 v25 hf
      rw [zf_X9_fundFor_L9] at hf
      refine zw_iload hC dX9_fundFor_9 4 rfl ?_
      refine zw_bipush hC (v := (20 : Int32)) dX9_fundFor_11 (by decide) ?_
      refine zw_icmp_ge hC 65 hf dX9_fundFor_13 (by decide) (fun hf => ?_) (fun hf => ?_)
      · exact zw_sub [2] rfl (hK65 v23 hf)
      · refine zw_iload_n hC dX9_fundFor_16 rfl 2 rfl ?_
        refine zw_iload_n hC dX9_fundFor_17 rfl 3 rfl ?_
        refine zw_icmp_ge hC 65 hf dX9_fundFor_18 (by decide) (fun hf => ?_) (fun hf => ?_)
        · exact zw_sub [2] rfl (hK65 v23 hf)
        · refine zw_iload_n hC dX9_fundFor_21 rfl 2 rfl ?_
          refine zw_iload_n hC dX9_fundFor_22 rfl 3 rfl ?_
          refine zw_iadd hC dX9_fundFor_23 ?_
          refine zw_iconst hC (v := (2 : Int32)) dX9_fundFor_24 (by decide) ?_
          refine zw_idivc hC dX9_fundFor_25 (by decide) ?_
          refine zw_istore hC (lv' := [(5, .int ((v23 + v24) / (2 : Int32))), (0, .ref (zad E 0)), (1, .int a1), (2, .int v23), (3, .int v24), (4, .int v25)]) dX9_fundFor_26 hN (by decide) rfl ?_
          refine zw_aload_n hC dX9_fundFor_28 rfl 1 rfl ?_
          refine zw_getd hC hf zF_ClassOfMany_told zk_0 dX9_fundFor_29 kw_2_168 (fun o27 ho27 hf => ?_)
          refine zw_aload_n hC dX9_fundFor_32 rfl 1 rfl ?_
          refine zw_getr (k' := 12) hC zF_ClassOfMany_now zk_0 rfl dX9_fundFor_33 kw_2_169 ?_
          refine zw_geti hC zF_Standing_costs zk_12 dX9_fundFor_36 kw_1_141 ?_
          refine zw_iload hC dX9_fundFor_39 0 rfl ?_
          obtain ⟨v28, hc28, hf⟩ := zb1_some hf
          refine zw_cS hC [.ref (zad E o27), .int (M 12 3), .int ((v23 + v24) / (2 : Int32))] [] (st1 := [.int v28]) zm_X9_netOf (zc_X9_netOf ho27 hc28) kw_5_102 dX9_fundFor_41 rfl (by decide) (Nat.le_of_ble_eq_true rfl) rfl rfl ?_
          refine zw_iload_n hC dX9_fundFor_44 rfl 2 rfl ?_
          have hj59 : ∀ (v29 : Int32), ∀ (v30 : Int32), zf_X9_fundFor_j59 (fun x0 x1 x2 => zf_X9_fundFor_L9 M a1 K65 n9 x0 x1 x2) v25 v29 v30 = some r → ZW E 59 [(0, .ref (zad E 0)), (1, .int a1), (2, .int v29), (3, .int v30), (4, .int v25)] [] M := by
            intro v29 v30 hf
            unfold zf_X9_fundFor_j59 at hf
            refine zw_iinc hC (v := (1 : Int32)) (lv' := [(4, .int (v25 + (1 : Int32))), (0, .ref (zad E 0)), (1, .int a1), (2, .int v29), (3, .int v30)]) dX9_fundFor_59 4 rfl (by decide) hN (by decide) rfl ?_
            refine zw_goto hC 9 dX9_fundFor_62 (by decide) ?_
            exact zw_sub [1, 2, 3, 4, 0] rfl (ih9 v29 v30 (v25 + (1 : Int32)) hf)
          refine zw_icmp_lt hC 54 hf dX9_fundFor_45 (by decide) (fun hf => ?_) (fun hf => ?_)
          · refine zw_iload hC dX9_fundFor_54 0 rfl ?_
            refine zw_iconst hC (v := (1 : Int32)) dX9_fundFor_56 (by decide) ?_
            refine zw_iadd hC dX9_fundFor_57 ?_
            refine zw_istore_n hC (lv' := [(2, .int (((v23 + v24) / (2 : Int32)) + (1 : Int32))), (5, .int ((v23 + v24) / (2 : Int32))), (0, .ref (zad E 0)), (1, .int a1), (3, .int v24), (4, .int v25)]) dX9_fundFor_58 rfl hN (by decide) rfl ?_
            exact zw_sub [2, 3, 0, 4, 5] rfl (hj59 (((v23 + v24) / (2 : Int32)) + (1 : Int32)) v24 hf)
          · refine zw_iload hC dX9_fundFor_48 0 rfl ?_
            refine zw_istore_n hC (lv' := [(3, .int ((v23 + v24) / (2 : Int32))), (5, .int ((v23 + v24) / (2 : Int32))), (0, .ref (zad E 0)), (1, .int a1), (2, .int v23), (4, .int v25)]) dX9_fundFor_50 rfl hN (by decide) rfl ?_
            refine zw_goto hC 59 dX9_fundFor_51 (by decide) ?_
            exact zw_sub [2, 3, 4, 0, 5] rfl (hj59 v23 ((v23 + v24) / (2 : Int32)) hf)
  refine zw_sub [3, 4, 2, 1, 0] rfl (hL9 _ ?_ n (0 : Int32) (99999 : Int32) (0 : Int32) hf)
  · intro v31 hf
    refine zw_iload_n hC dX9_fundFor_65 rfl 0 rfl ?_
    have h1 := Option.some.inj hf
    subst h1
    exact zw_iret hC hR dX9_fundFor_66
/-! ClassOfMany.undrawnMember(II)I -/
theorem dX9_undrawnMember_0 : decode cX9_undrawnMember 0 = .ok (.iconst 0, 1) := by decide +kernel
theorem dX9_undrawnMember_1 : decode cX9_undrawnMember 1 = .ok (.istore_n 3, 1) := by decide +kernel
theorem dX9_undrawnMember_2 : decode cX9_undrawnMember 2 = .ok (.iconst 0, 1) := by decide +kernel
theorem dX9_undrawnMember_3 : decode cX9_undrawnMember 3 = .ok (.istore 4, 2) := by decide +kernel
theorem dX9_undrawnMember_5 : decode cX9_undrawnMember 5 = .ok (.iload 4, 2) := by decide +kernel
theorem dX9_undrawnMember_7 : decode cX9_undrawnMember 7 = .ok (.aload_n 0, 1) := by decide +kernel
theorem dX9_undrawnMember_8 : decode cX9_undrawnMember 8 = .ok (.getfield 12, 3) := by decide +kernel
theorem dX9_undrawnMember_11 : decode cX9_undrawnMember 11 = .ok (.getfield 92, 3) := by decide +kernel
theorem dX9_undrawnMember_14 : decode cX9_undrawnMember 14 = .ok (.if_icmp .ge 29, 3) := by decide +kernel
theorem dX9_undrawnMember_17 : decode cX9_undrawnMember 17 = .ok (.iload_n 1, 1) := by decide +kernel
theorem dX9_undrawnMember_18 : decode cX9_undrawnMember 18 = .ok (.iload 4, 2) := by decide +kernel
theorem dX9_undrawnMember_20 : decode cX9_undrawnMember 20 = .ok (.invokestatic 137, 3) := by decide +kernel
theorem dX9_undrawnMember_23 : decode cX9_undrawnMember 23 = .ok (.ifCond .ne 14, 3) := by decide +kernel
theorem dX9_undrawnMember_26 : decode cX9_undrawnMember 26 = .ok (.iload_n 3, 1) := by decide +kernel
theorem dX9_undrawnMember_27 : decode cX9_undrawnMember 27 = .ok (.iload_n 2, 1) := by decide +kernel
theorem dX9_undrawnMember_28 : decode cX9_undrawnMember 28 = .ok (.if_icmp .ne 6, 3) := by decide +kernel
theorem dX9_undrawnMember_31 : decode cX9_undrawnMember 31 = .ok (.iload 4, 2) := by decide +kernel
theorem dX9_undrawnMember_33 : decode cX9_undrawnMember 33 = .ok (.ireturn, 1) := by decide +kernel
theorem dX9_undrawnMember_34 : decode cX9_undrawnMember 34 = .ok (.iinc 3 1, 3) := by decide +kernel
theorem dX9_undrawnMember_37 : decode cX9_undrawnMember 37 = .ok (.iinc 4 1, 3) := by decide +kernel
theorem dX9_undrawnMember_40 : decode cX9_undrawnMember 40 = .ok (.goto (-35), 3) := by decide +kernel
theorem dX9_undrawnMember_43 : decode cX9_undrawnMember 43 = .ok (.iconst 0, 1) := by decide +kernel
theorem dX9_undrawnMember_44 : decode cX9_undrawnMember 44 = .ok (.ireturn, 1) := by decide +kernel
theorem zm_X9_undrawnMember : ZMv "ClassOfMany" yX9_undrawnMember cX9_undrawnMember 5 (some .int) 2 := ⟨kw_5_135, kw_5_134, kp_51, kw_1_1, by decide +kernel, by decide⟩
def zf_X9_undrawnMember_j37 (R5 : Int32 → Int32 → Option (Int32)) (v24 : Int32) (v27 : Int32) : Option (Int32) :=
  (R5 v27 (v24 + (1 : Int32)))
def zf_X9_undrawnMember_L5 (M : ZMem) (a1 : Int32) (a2 : Int32) (K43 : Option (Int32)) : Nat → Int32 → Int32 → Option (Int32)
  | 0, _, _ => none
  | n5 + 1, v23, v24 =>
  zdy M 0 0 (7, 17) (fun o25 => (if (M o25 0) ≤ v24 then K43 else zb1 (zf_X9_has a1 v24) (fun v26 => (if v26 = 0 then (if v23 = a2 then some v24 else (zf_X9_undrawnMember_j37 (fun x0 x1 => zf_X9_undrawnMember_L5 M a1 a2 K43 n5 x0 x1) v24 (v23 + (1 : Int32)))) else (zf_X9_undrawnMember_j37 (fun x0 x1 => zf_X9_undrawnMember_L5 M a1 a2 K43 n5 x0 x1) v24 v23)))))
def zf_X9_undrawnMember (n : Nat) (a1 : Int32) (a2 : Int32) (M : ZMem) : Option (Int32) :=
  (zf_X9_undrawnMember_L5 M a1 a2 (some (0 : Int32)) n (0 : Int32) (0 : Int32))
set_option maxHeartbeats 4000000 in
set_option maxRecDepth 100000 in
theorem zc_X9_undrawnMember {l : Launch} {D : va_G} {ad : Nat → Nat} {cA : Nat → ClassId} {n : Nat} {a1 : Int32} {a2 : Int32} {M : ZMem} {r : Int32} (hf : zf_X9_undrawnMember n a1 a2 M = some r) : ZCt l D ad cA yX9_undrawnMember cX9_undrawnMember 5 (some .int) 2 [.ref (ad 0), .int a1, .int a2] M (some (.int r)) M := by
  refine zct (by decide +kernel) (Nat.le_of_ble_eq_true rfl) (lv := [(0, .ref (ad 0)), (1, .int a1), (2, .int a2)]) rfl (fun E hl hD had hcA hN hC hR => ?_)
  subst hl; subst hD; subst had; subst hcA
  unfold zf_X9_undrawnMember at hf
  refine zw_iconst hC (v := (0 : Int32)) dX9_undrawnMember_0 (by decide) ?_
  refine zw_istore_n hC (lv' := [(3, .int (0 : Int32)), (0, .ref (zad E 0)), (1, .int a1), (2, .int a2)]) dX9_undrawnMember_1 rfl hN (by decide) rfl ?_
  refine zw_iconst hC (v := (0 : Int32)) dX9_undrawnMember_2 (by decide) ?_
  refine zw_istore hC (lv' := [(4, .int (0 : Int32)), (3, .int (0 : Int32)), (0, .ref (zad E 0)), (1, .int a1), (2, .int a2)]) dX9_undrawnMember_3 hN (by decide) rfl ?_
  have hL5 : ∀ (K43 : Option (Int32)), (K43 = some r → ZW E 43 [] [] M) → ∀ (n5 : Nat), ∀ (v23 : Int32), ∀ (v24 : Int32), zf_X9_undrawnMember_L5 M a1 a2 K43 n5 v23 v24 = some r → ZW E 5 [(0, .ref (zad E 0)), (1, .int a1), (2, .int a2), (3, .int v23), (4, .int v24)] [] M := by
    intro K43 hK43
    intro n5
    induction n5 with
    | zero => intro v23 v24 hf; rw [zf_X9_undrawnMember_L5] at hf; cases hf
    | succ n5 ih5 =>
      intro v23 v24 hf
      rw [zf_X9_undrawnMember_L5] at hf
      refine zw_iload hC dX9_undrawnMember_5 4 rfl ?_
      refine zw_aload_n hC dX9_undrawnMember_7 rfl 0 rfl ?_
      refine zw_getd hC hf zF_ClassOfMany_told zk_0 dX9_undrawnMember_8 kw_2_168 (fun o25 ho25 hf => ?_)
      refine zw_geti hC zF_Told_members ho25 dX9_undrawnMember_11 kw_1_38 ?_
      refine zw_icmp_ge hC 43 hf dX9_undrawnMember_14 (by decide) (fun hf => ?_) (fun hf => ?_)
      · exact zw_sub [] rfl (hK43 hf)
      · refine zw_iload_n hC dX9_undrawnMember_17 rfl 1 rfl ?_
        refine zw_iload hC dX9_undrawnMember_18 4 rfl ?_
        obtain ⟨v26, hc26, hf⟩ := zb1_some hf
        refine zw_cS hC [.int a1, .int v24] [] (st1 := [.int v26]) zm_X9_has (zc_X9_has hc26) kw_3_201 dX9_undrawnMember_20 rfl (by decide) (Nat.le_of_ble_eq_true rfl) rfl rfl ?_
        have hj37 : ∀ (v27 : Int32), zf_X9_undrawnMember_j37 (fun x0 x1 => zf_X9_undrawnMember_L5 M a1 a2 K43 n5 x0 x1) v24 v27 = some r → ZW E 37 [(0, .ref (zad E 0)), (1, .int a1), (2, .int a2), (3, .int v27), (4, .int v24)] [] M := by
          intro v27 hf
          unfold zf_X9_undrawnMember_j37 at hf
          refine zw_iinc hC (v := (1 : Int32)) (lv' := [(4, .int (v24 + (1 : Int32))), (0, .ref (zad E 0)), (1, .int a1), (2, .int a2), (3, .int v27)]) dX9_undrawnMember_37 4 rfl (by decide) hN (by decide) rfl ?_
          refine zw_goto hC 5 dX9_undrawnMember_40 (by decide) ?_
          exact zw_sub [1, 2, 3, 4, 0] rfl (ih5 v27 (v24 + (1 : Int32)) hf)
        refine zw_if_ne hC 37 hf dX9_undrawnMember_23 (by decide) (fun hf => ?_) (fun hf => ?_)
        · exact hj37 v23 hf
        · refine zw_iload_n hC dX9_undrawnMember_26 rfl 3 rfl ?_
          refine zw_iload_n hC dX9_undrawnMember_27 rfl 2 rfl ?_
          refine zw_icmp_ne hC 34 hf dX9_undrawnMember_28 (by decide) (fun hf => ?_) (fun hf => ?_)
          · refine zw_iinc hC (v := (1 : Int32)) (lv' := [(3, .int (v23 + (1 : Int32))), (0, .ref (zad E 0)), (1, .int a1), (2, .int a2), (4, .int v24)]) dX9_undrawnMember_34 3 rfl (by decide) hN (by decide) rfl ?_
            exact zw_sub [1, 2, 3, 0, 4] rfl (hj37 (v23 + (1 : Int32)) hf)
          · refine zw_iload hC dX9_undrawnMember_31 4 rfl ?_
            have h1 := Option.some.inj hf
            subst h1
            exact zw_iret hC hR dX9_undrawnMember_33
  refine zw_sub [2, 3, 4, 1, 0] rfl (hL5 _ ?_ n (0 : Int32) (0 : Int32) hf)
  · intro  hf
    refine zw_iconst hC (v := (0 : Int32)) dX9_undrawnMember_43 (by decide) ?_
    have h1 := Option.some.inj hf
    subst h1
    exact zw_iret hC hR dX9_undrawnMember_44
/-! ClassOfMany.sample(II)I -/
theorem dX9_sample_0 : decode cX9_sample 0 = .ok (.iload_n 2, 1) := by decide +kernel
theorem dX9_sample_1 : decode cX9_sample 1 = .ok (.ifCond .lt 14, 3) := by decide +kernel
theorem dX9_sample_4 : decode cX9_sample 4 = .ok (.iload_n 2, 1) := by decide +kernel
theorem dX9_sample_5 : decode cX9_sample 5 = .ok (.aload_n 0, 1) := by decide +kernel
theorem dX9_sample_6 : decode cX9_sample 6 = .ok (.getfield 12, 3) := by decide +kernel
theorem dX9_sample_9 : decode cX9_sample 9 = .ok (.getfield 92, 3) := by decide +kernel
theorem dX9_sample_12 : decode cX9_sample 12 = .ok (.if_icmp .le 5, 3) := by decide +kernel
theorem dX9_sample_15 : decode cX9_sample 15 = .ok (.iconst (-1), 1) := by decide +kernel
theorem dX9_sample_16 : decode cX9_sample 16 = .ok (.ireturn, 1) := by decide +kernel
theorem dX9_sample_17 : decode cX9_sample 17 = .ok (.iload_n 1, 1) := by decide +kernel
theorem dX9_sample_18 : decode cX9_sample 18 = .ok (.istore_n 3, 1) := by decide +kernel
theorem dX9_sample_19 : decode cX9_sample 19 = .ok (.iconst 0, 1) := by decide +kernel
theorem dX9_sample_20 : decode cX9_sample 20 = .ok (.istore 4, 2) := by decide +kernel
theorem dX9_sample_22 : decode cX9_sample 22 = .ok (.iconst 0, 1) := by decide +kernel
theorem dX9_sample_23 : decode cX9_sample 23 = .ok (.istore 5, 2) := by decide +kernel
theorem dX9_sample_25 : decode cX9_sample 25 = .ok (.iload 5, 2) := by decide +kernel
theorem dX9_sample_27 : decode cX9_sample 27 = .ok (.iload_n 2, 1) := by decide +kernel
theorem dX9_sample_28 : decode cX9_sample 28 = .ok (.if_icmp .ge 56, 3) := by decide +kernel
theorem dX9_sample_31 : decode cX9_sample 31 = .ok (.iload_n 3, 1) := by decide +kernel
theorem dX9_sample_32 : decode cX9_sample 32 = .ok (.ldc_w 375, 3) := by decide +kernel
theorem dX9_sample_35 : decode cX9_sample 35 = .ok (.imul, 1) := by decide +kernel
theorem dX9_sample_36 : decode cX9_sample 36 = .ok (.sipush 12345, 3) := by decide +kernel
theorem dX9_sample_39 : decode cX9_sample 39 = .ok (.iadd, 1) := by decide +kernel
theorem dX9_sample_40 : decode cX9_sample 40 = .ok (.istore_n 3, 1) := by decide +kernel
theorem dX9_sample_41 : decode cX9_sample 41 = .ok (.aload_n 0, 1) := by decide +kernel
theorem dX9_sample_42 : decode cX9_sample 42 = .ok (.getfield 12, 3) := by decide +kernel
theorem dX9_sample_45 : decode cX9_sample 45 = .ok (.getfield 92, 3) := by decide +kernel
theorem dX9_sample_48 : decode cX9_sample 48 = .ok (.iload 5, 2) := by decide +kernel
theorem dX9_sample_50 : decode cX9_sample 50 = .ok (.isub, 1) := by decide +kernel
theorem dX9_sample_51 : decode cX9_sample 51 = .ok (.istore 6, 2) := by decide +kernel
theorem dX9_sample_53 : decode cX9_sample 53 = .ok (.iload 6, 2) := by decide +kernel
theorem dX9_sample_55 : decode cX9_sample 55 = .ok (.ifCond .le 23, 3) := by decide +kernel
theorem dX9_sample_58 : decode cX9_sample 58 = .ok (.iload 4, 2) := by decide +kernel
theorem dX9_sample_60 : decode cX9_sample 60 = .ok (.iconst 1, 1) := by decide +kernel
theorem dX9_sample_61 : decode cX9_sample 61 = .ok (.aload_n 0, 1) := by decide +kernel
theorem dX9_sample_62 : decode cX9_sample 62 = .ok (.iload 4, 2) := by decide +kernel
theorem dX9_sample_64 : decode cX9_sample 64 = .ok (.iload_n 3, 1) := by decide +kernel
theorem dX9_sample_65 : decode cX9_sample 65 = .ok (.bipush 16, 2) := by decide +kernel
theorem dX9_sample_67 : decode cX9_sample 67 = .ok (.iushr, 1) := by decide +kernel
theorem dX9_sample_68 : decode cX9_sample 68 = .ok (.iload 6, 2) := by decide +kernel
theorem dX9_sample_70 : decode cX9_sample 70 = .ok (.irem, 1) := by decide +kernel
theorem dX9_sample_71 : decode cX9_sample 71 = .ok (.invokevirtual 376, 3) := by decide +kernel
theorem dX9_sample_74 : decode cX9_sample 74 = .ok (.ishl, 1) := by decide +kernel
theorem dX9_sample_75 : decode cX9_sample 75 = .ok (.ior, 1) := by decide +kernel
theorem dX9_sample_76 : decode cX9_sample 76 = .ok (.istore 4, 2) := by decide +kernel
theorem dX9_sample_78 : decode cX9_sample 78 = .ok (.iinc 5 1, 3) := by decide +kernel
theorem dX9_sample_81 : decode cX9_sample 81 = .ok (.goto (-56), 3) := by decide +kernel
theorem dX9_sample_84 : decode cX9_sample 84 = .ok (.iload 4, 2) := by decide +kernel
theorem dX9_sample_86 : decode cX9_sample 86 = .ok (.ireturn, 1) := by decide +kernel
theorem zm_X9_sample : ZMv "ClassOfMany" yX9_sample cX9_sample 7 (some .int) 2 := ⟨kw_5_130, kw_5_128, kw_5_129, kw_1_1, by decide +kernel, by decide⟩
def zf_X9_sample_j15 : Option (Int32) :=
  some (-1 : Int32)
def zf_X9_sample_j78 (R25 : Int32 → Int32 → Int32 → Option (Int32)) (v26 : Int32) (v28 : Int32) (v31 : Int32) : Option (Int32) :=
  (R25 ((v26 * (1103515245 : Int32)) + (12345 : Int32)) v31 (v28 + (1 : Int32)))
def zf_X9_sample_L25 (a2 : Int32) (M : ZMem) (n : Nat) (K84 : Int32 → Option (Int32)) : Nat → Int32 → Int32 → Int32 → Option (Int32)
  | 0, _, _, _ => none
  | n25 + 1, v26, v27, v28 =>
  (if a2 ≤ v28 then (K84 v27) else zdy M 0 0 (7, 17) (fun o30 => (if ((M o30 0) - v28) ≤ 0 then (zf_X9_sample_j78 (fun x0 x1 x2 => zf_X9_sample_L25 a2 M n K84 n25 x0 x1 x2) v26 v28 v27) else zrem ((((v26 * (1103515245 : Int32)) + (12345 : Int32)).toUInt32 >>> ((16 : Int32).toUInt32 &&& Int32.toUInt32 31)).toInt32) ((M o30 0) - v28) (fun v32 => zb1 (zf_X9_undrawnMember n v27 v32 M) (fun v33 => (zf_X9_sample_j78 (fun x0 x1 x2 => zf_X9_sample_L25 a2 M n K84 n25 x0 x1 x2) v26 v28 (v27 ||| ((1 : Int32) <<< (v33 &&& 31)))))))))
def zf_X9_sample (n : Nat) (a1 : Int32) (a2 : Int32) (M : ZMem) : Option (Int32) :=
  (if a2 < 0 then (zf_X9_sample_j15) else zdy M 0 0 (7, 17) (fun o25 => (if a2 ≤ (M o25 0) then (zf_X9_sample_L25 a2 M n (fun v34 => some v34) n a1 (0 : Int32) (0 : Int32)) else (zf_X9_sample_j15))))
set_option maxHeartbeats 4000000 in
set_option maxRecDepth 100000 in
theorem zc_X9_sample {l : Launch} {D : va_G} {ad : Nat → Nat} {cA : Nat → ClassId} {n : Nat} {a1 : Int32} {a2 : Int32} {M : ZMem} {r : Int32} (hf : zf_X9_sample n a1 a2 M = some r) : ZCt l D ad cA yX9_sample cX9_sample 7 (some .int) 3 [.ref (ad 0), .int a1, .int a2] M (some (.int r)) M := by
  refine zct (by decide +kernel) (Nat.le_of_ble_eq_true rfl) (lv := [(0, .ref (ad 0)), (1, .int a1), (2, .int a2)]) rfl (fun E hl hD had hcA hN hC hR => ?_)
  subst hl; subst hD; subst had; subst hcA
  unfold zf_X9_sample at hf
  refine zw_iload_n hC dX9_sample_0 rfl 2 rfl ?_
  have hj15 : zf_X9_sample_j15 = some r → ZW E 15 [] [] M := by
    intro  hf
    unfold zf_X9_sample_j15 at hf
    refine zw_iconst hC (v := (-1 : Int32)) dX9_sample_15 (by decide) ?_
    have h1 := Option.some.inj hf
    subst h1
    exact zw_iret hC hR dX9_sample_16
  refine zw_if_lt hC 15 hf dX9_sample_1 (by decide) (fun hf => ?_) (fun hf => ?_)
  · exact zw_sub [] rfl (hj15 hf)
  · refine zw_iload_n hC dX9_sample_4 rfl 2 rfl ?_
    refine zw_aload_n hC dX9_sample_5 rfl 0 rfl ?_
    refine zw_getd hC hf zF_ClassOfMany_told zk_0 dX9_sample_6 kw_2_168 (fun o25 ho25 hf => ?_)
    refine zw_geti hC zF_Told_members ho25 dX9_sample_9 kw_1_38 ?_
    refine zw_icmp_le hC 17 hf dX9_sample_12 (by decide) (fun hf => ?_) (fun hf => ?_)
    · refine zw_iload_n hC dX9_sample_17 rfl 1 rfl ?_
      refine zw_istore_n hC (lv' := [(3, .int a1), (0, .ref (zad E 0)), (1, .int a1), (2, .int a2)]) dX9_sample_18 rfl hN (by decide) rfl ?_
      refine zw_iconst hC (v := (0 : Int32)) dX9_sample_19 (by decide) ?_
      refine zw_istore hC (lv' := [(4, .int (0 : Int32)), (3, .int a1), (0, .ref (zad E 0)), (1, .int a1), (2, .int a2)]) dX9_sample_20 hN (by decide) rfl ?_
      refine zw_iconst hC (v := (0 : Int32)) dX9_sample_22 (by decide) ?_
      refine zw_istore hC (lv' := [(5, .int (0 : Int32)), (4, .int (0 : Int32)), (3, .int a1), (0, .ref (zad E 0)), (1, .int a1), (2, .int a2)]) dX9_sample_23 hN (by decide) rfl ?_
      have hL25 : ∀ (K84 : Int32 → Option (Int32)), (∀ (v29 : Int32), K84 v29 = some r → ZW E 84 [(4, .int v29)] [] M) → ∀ (n25 : Nat), ∀ (v26 : Int32), ∀ (v27 : Int32), ∀ (v28 : Int32), zf_X9_sample_L25 a2 M n K84 n25 v26 v27 v28 = some r → ZW E 25 [(0, .ref (zad E 0)), (2, .int a2), (3, .int v26), (4, .int v27), (5, .int v28)] [] M := by
        intro K84 hK84
        intro n25
        induction n25 with
        | zero => intro v26 v27 v28 hf; rw [zf_X9_sample_L25] at hf; cases hf
        | succ n25 ih25 =>
          intro v26 v27 v28 hf
          rw [zf_X9_sample_L25] at hf
          refine zw_iload hC dX9_sample_25 4 rfl ?_
          refine zw_iload_n hC dX9_sample_27 rfl 1 rfl ?_
          refine zw_icmp_ge hC 84 hf dX9_sample_28 (by decide) (fun hf => ?_) (fun hf => ?_)
          · exact zw_sub [3] rfl (hK84 v27 hf)
          · refine zw_iload_n hC dX9_sample_31 rfl 2 rfl ?_
            refine zw_ldcw hC dX9_sample_32 kw_5_131 ?_
            refine zw_imul hC dX9_sample_35 ?_
            refine zw_sipush hC (v := (12345 : Int32)) dX9_sample_36 (by decide) ?_
            refine zw_iadd hC dX9_sample_39 ?_
            refine zw_istore_n hC (lv' := [(3, .int ((v26 * (1103515245 : Int32)) + (12345 : Int32))), (0, .ref (zad E 0)), (2, .int a2), (4, .int v27), (5, .int v28)]) dX9_sample_40 rfl hN (by decide) rfl ?_
            refine zw_aload_n hC dX9_sample_41 rfl 1 rfl ?_
            refine zw_getd hC hf zF_ClassOfMany_told zk_0 dX9_sample_42 kw_2_168 (fun o30 ho30 hf => ?_)
            refine zw_geti hC zF_Told_members ho30 dX9_sample_45 kw_1_38 ?_
            refine zw_iload hC dX9_sample_48 4 rfl ?_
            refine zw_isub hC dX9_sample_50 ?_
            refine zw_istore hC (lv' := [(6, .int ((M o30 0) - v28)), (3, .int ((v26 * (1103515245 : Int32)) + (12345 : Int32))), (0, .ref (zad E 0)), (2, .int a2), (4, .int v27), (5, .int v28)]) dX9_sample_51 hN (by decide) rfl ?_
            refine zw_iload hC dX9_sample_53 0 rfl ?_
            have hj78 : ∀ (v31 : Int32), zf_X9_sample_j78 (fun x0 x1 x2 => zf_X9_sample_L25 a2 M n K84 n25 x0 x1 x2) v26 v28 v31 = some r → ZW E 78 [(0, .ref (zad E 0)), (2, .int a2), (3, .int ((v26 * (1103515245 : Int32)) + (12345 : Int32))), (4, .int v31), (5, .int v28)] [] M := by
              intro v31 hf
              unfold zf_X9_sample_j78 at hf
              refine zw_iinc hC (v := (1 : Int32)) (lv' := [(5, .int (v28 + (1 : Int32))), (0, .ref (zad E 0)), (2, .int a2), (3, .int ((v26 * (1103515245 : Int32)) + (12345 : Int32))), (4, .int v31)]) dX9_sample_78 4 rfl (by decide) hN (by decide) rfl ?_
              refine zw_goto hC 25 dX9_sample_81 (by decide) ?_
              exact zw_sub [1, 2, 3, 4, 0] rfl (ih25 ((v26 * (1103515245 : Int32)) + (12345 : Int32)) v31 (v28 + (1 : Int32)) hf)
            refine zw_if_le hC 78 hf dX9_sample_55 (by decide) (fun hf => ?_) (fun hf => ?_)
            · exact zw_sub [2, 3, 1, 4, 5] rfl (hj78 v27 hf)
            · refine zw_iload hC dX9_sample_58 4 rfl ?_
              refine zw_iconst hC (v := (1 : Int32)) dX9_sample_60 (by decide) ?_
              refine zw_aload_n hC dX9_sample_61 rfl 2 rfl ?_
              refine zw_iload hC dX9_sample_62 4 rfl ?_
              refine zw_iload_n hC dX9_sample_64 rfl 1 rfl ?_
              refine zw_bipush hC (v := (16 : Int32)) dX9_sample_65 (by decide) ?_
              refine zw_iushr hC dX9_sample_67 ?_
              refine zw_iload hC dX9_sample_68 0 rfl ?_
              refine zw_irem hC hf dX9_sample_70 (fun v32 hf => ?_)
              obtain ⟨v33, hc33, hf⟩ := zb1_some hf
              refine zw_cV hC [.int v27, .int v32] [.int (1 : Int32), .int v27] (st1 := [.int v33, .int (1 : Int32), .int v27]) zm_X9_undrawnMember (zc_X9_undrawnMember hc33) zk_0 rfl kw_5_132 dX9_sample_71 rfl (by decide) (Nat.le_of_ble_eq_true rfl) rfl rfl ?_
              refine zw_ishl hC dX9_sample_74 ?_
              refine zw_ior hC dX9_sample_75 ?_
              refine zw_istore hC (lv' := [(4, .int (v27 ||| ((1 : Int32) <<< (v33 &&& 31)))), (6, .int ((M o30 0) - v28)), (3, .int ((v26 * (1103515245 : Int32)) + (12345 : Int32))), (0, .ref (zad E 0)), (2, .int a2), (5, .int v28)]) dX9_sample_76 hN (by decide) rfl ?_
              exact zw_sub [3, 4, 2, 0, 5] rfl (hj78 (v27 ||| ((1 : Int32) <<< (v33 &&& 31))) hf)
      refine zw_sub [3, 5, 2, 1, 0] rfl (hL25 _ ?_ n a1 (0 : Int32) (0 : Int32) hf)
      · intro v34 hf
        refine zw_iload hC dX9_sample_84 0 rfl ?_
        have h1 := Option.some.inj hf
        subst h1
        exact zw_iret hC hR dX9_sample_86
    · exact zw_sub [] rfl (hj15 hf)
/-! ClassOfMany.estimateBy(I)I -/
theorem dX9_estimateBy_0 : decode cX9_estimateBy 0 = .ok (.iload_n 1, 1) := by decide +kernel
theorem dX9_estimateBy_1 : decode cX9_estimateBy 1 = .ok (.invokestatic 147, 3) := by decide +kernel
theorem dX9_estimateBy_4 : decode cX9_estimateBy 4 = .ok (.istore_n 2, 1) := by decide +kernel
theorem dX9_estimateBy_5 : decode cX9_estimateBy 5 = .ok (.iload_n 2, 1) := by decide +kernel
theorem dX9_estimateBy_6 : decode cX9_estimateBy 6 = .ok (.ifCond .ne 7, 3) := by decide +kernel
theorem dX9_estimateBy_9 : decode cX9_estimateBy 9 = .ok (.iconst 0, 1) := by decide +kernel
theorem dX9_estimateBy_10 : decode cX9_estimateBy 10 = .ok (.goto 18, 3) := by decide +kernel
theorem dX9_estimateBy_13 : decode cX9_estimateBy 13 = .ok (.aload_n 0, 1) := by decide +kernel
theorem dX9_estimateBy_14 : decode cX9_estimateBy 14 = .ok (.getfield 12, 3) := by decide +kernel
theorem dX9_estimateBy_17 : decode cX9_estimateBy 17 = .ok (.getfield 92, 3) := by decide +kernel
theorem dX9_estimateBy_20 : decode cX9_estimateBy 20 = .ok (.aload_n 0, 1) := by decide +kernel
theorem dX9_estimateBy_21 : decode cX9_estimateBy 21 = .ok (.iload_n 1, 1) := by decide +kernel
theorem dX9_estimateBy_22 : decode cX9_estimateBy 22 = .ok (.invokevirtual 180, 3) := by decide +kernel
theorem dX9_estimateBy_25 : decode cX9_estimateBy 25 = .ok (.imul, 1) := by decide +kernel
theorem dX9_estimateBy_26 : decode cX9_estimateBy 26 = .ok (.iload_n 2, 1) := by decide +kernel
theorem dX9_estimateBy_27 : decode cX9_estimateBy 27 = .ok (.idiv, 1) := by decide +kernel
theorem dX9_estimateBy_28 : decode cX9_estimateBy 28 = .ok (.ireturn, 1) := by decide +kernel
theorem zm_X9_estimateBy : ZMv "ClassOfMany" yX9_estimateBy cX9_estimateBy 3 (some .int) 1 := ⟨kw_5_143, kw_5_142, kp_52, kw_1_1, by decide +kernel, by decide⟩
def zf_X9_estimateBy_j28 (v26 : Int32) : Option (Int32) :=
  some v26
def zf_X9_estimateBy (n : Nat) (a1 : Int32) (M : ZMem) : Option (Int32) :=
  zb1 (zf_J6_bitCount_0f7a4 a1) (fun v25 => (if v25 = 0 then (zf_X9_estimateBy_j28 (0 : Int32)) else zdy M 0 0 (7, 17) (fun o27 => zb1 (zf_X9_claimsOf n a1 M) (fun v28 => zdiv ((M o27 0) * v28) v25 (fun v29 => (zf_X9_estimateBy_j28 v29))))))
set_option maxHeartbeats 4000000 in
set_option maxRecDepth 100000 in
theorem zc_X9_estimateBy {l : Launch} {D : va_G} {ad : Nat → Nat} {cA : Nat → ClassId} {n : Nat} {a1 : Int32} {M : ZMem} {r : Int32} (hf : zf_X9_estimateBy n a1 M = some r) : ZCt l D ad cA yX9_estimateBy cX9_estimateBy 3 (some .int) 3 [.ref (ad 0), .int a1] M (some (.int r)) M := by
  refine zct (by decide +kernel) (Nat.le_of_ble_eq_true rfl) (lv := [(0, .ref (ad 0)), (1, .int a1)]) rfl (fun E hl hD had hcA hN hC hR => ?_)
  subst hl; subst hD; subst had; subst hcA
  unfold zf_X9_estimateBy at hf
  refine zw_iload_n hC dX9_estimateBy_0 rfl 1 rfl ?_
  obtain ⟨v25, hc25, hf⟩ := zb1_some hf
  refine zw_cS hC [.int a1] [] (st1 := [.int v25]) zm_J6_bitCount_0f7a4 (zc_J6_bitCount_0f7a4 hc25) kw_3_213 dX9_estimateBy_1 rfl (by decide) (Nat.le_of_ble_eq_true rfl) rfl rfl ?_
  refine zw_istore_n hC (lv' := [(2, .int v25), (0, .ref (zad E 0)), (1, .int a1)]) dX9_estimateBy_4 rfl hN (by decide) rfl ?_
  refine zw_iload_n hC dX9_estimateBy_5 rfl 0 rfl ?_
  have hj28 : ∀ (v26 : Int32), zf_X9_estimateBy_j28 v26 = some r → ZW E 28 [] [.int v26] M := by
    intro v26 hf
    unfold zf_X9_estimateBy_j28 at hf
    have h1 := Option.some.inj hf
    subst h1
    exact zw_iret hC hR dX9_estimateBy_28
  refine zw_if_ne hC 13 hf dX9_estimateBy_6 (by decide) (fun hf => ?_) (fun hf => ?_)
  · refine zw_aload_n hC dX9_estimateBy_13 rfl 1 rfl ?_
    refine zw_getd hC hf zF_ClassOfMany_told zk_0 dX9_estimateBy_14 kw_2_168 (fun o27 ho27 hf => ?_)
    refine zw_geti hC zF_Told_members ho27 dX9_estimateBy_17 kw_1_38 ?_
    refine zw_aload_n hC dX9_estimateBy_20 rfl 1 rfl ?_
    refine zw_iload_n hC dX9_estimateBy_21 rfl 2 rfl ?_
    obtain ⟨v28, hc28, hf⟩ := zb1_some hf
    refine zw_cV hC [.int a1] [.int (M o27 0)] (st1 := [.int v28, .int (M o27 0)]) zm_X9_claimsOf (zc_X9_claimsOf hc28) zk_0 rfl kw_4_10 dX9_estimateBy_22 rfl (by decide) (Nat.le_of_ble_eq_true rfl) rfl rfl ?_
    refine zw_imul hC dX9_estimateBy_25 ?_
    refine zw_iload_n hC dX9_estimateBy_26 rfl 0 rfl ?_
    refine zw_idiv hC hf dX9_estimateBy_27 (fun v29 hf => ?_)
    exact zw_sub [] rfl (hj28 v29 hf)
  · refine zw_iconst hC (v := (0 : Int32)) dX9_estimateBy_9 (by decide) ?_
    refine zw_goto hC 28 dX9_estimateBy_10 (by decide) ?_
    exact zw_sub [] rfl (hj28 (0 : Int32) hf)
/-! ClassOfMany.estimate(I)I -/
theorem dX9_estimate_0 : decode cX9_estimate 0 = .ok (.aload_n 0, 1) := by decide +kernel
theorem dX9_estimate_1 : decode cX9_estimate 1 = .ok (.iload_n 1, 1) := by decide +kernel
theorem dX9_estimate_2 : decode cX9_estimate 2 = .ok (.invokevirtual 350, 3) := by decide +kernel
theorem dX9_estimate_5 : decode cX9_estimate 5 = .ok (.ifCond .eq 7, 3) := by decide +kernel
theorem dX9_estimate_8 : decode cX9_estimate 8 = .ok (.iload_n 1, 1) := by decide +kernel
theorem dX9_estimate_9 : decode cX9_estimate 9 = .ok (.ifCond .ne 5, 3) := by decide +kernel
theorem dX9_estimate_12 : decode cX9_estimate 12 = .ok (.iconst (-1), 1) := by decide +kernel
theorem dX9_estimate_13 : decode cX9_estimate 13 = .ok (.ireturn, 1) := by decide +kernel
theorem dX9_estimate_14 : decode cX9_estimate 14 = .ok (.aload_n 0, 1) := by decide +kernel
theorem dX9_estimate_15 : decode cX9_estimate 15 = .ok (.iload_n 1, 1) := by decide +kernel
theorem dX9_estimate_16 : decode cX9_estimate 16 = .ok (.invokevirtual 379, 3) := by decide +kernel
theorem dX9_estimate_19 : decode cX9_estimate 19 = .ok (.ireturn, 1) := by decide +kernel
theorem zm_X9_estimate : ZMv "ClassOfMany" yX9_estimate cX9_estimate 2 (some .int) 1 := ⟨kw_5_139, kw_5_137, kw_5_138, kw_1_1, by decide +kernel, by decide⟩
def zf_X9_estimate_j12 : Option (Int32) :=
  some (-1 : Int32)
def zf_X9_estimate (n : Nat) (a1 : Int32) (M : ZMem) : Option (Int32) :=
  zb1 (zf_X9_isSet a1 M) (fun v23 => (if v23 = 0 then (zf_X9_estimate_j12) else (if a1 = 0 then (zf_X9_estimate_j12) else zb1 (zf_X9_estimateBy n a1 M) (fun v24 => some v24))))
set_option maxHeartbeats 4000000 in
set_option maxRecDepth 100000 in
theorem zc_X9_estimate {l : Launch} {D : va_G} {ad : Nat → Nat} {cA : Nat → ClassId} {n : Nat} {a1 : Int32} {M : ZMem} {r : Int32} (hf : zf_X9_estimate n a1 M = some r) : ZCt l D ad cA yX9_estimate cX9_estimate 2 (some .int) 4 [.ref (ad 0), .int a1] M (some (.int r)) M := by
  refine zct (by decide +kernel) (Nat.le_of_ble_eq_true rfl) (lv := [(0, .ref (ad 0)), (1, .int a1)]) rfl (fun E hl hD had hcA hN hC hR => ?_)
  subst hl; subst hD; subst had; subst hcA
  unfold zf_X9_estimate at hf
  refine zw_aload_n hC dX9_estimate_0 rfl 0 rfl ?_
  refine zw_iload_n hC dX9_estimate_1 rfl 1 rfl ?_
  obtain ⟨v23, hc23, hf⟩ := zb1_some hf
  refine zw_cV hC [.int a1] [] (st1 := [.int v23]) zm_X9_isSet (zc_X9_isSet hc23) zk_0 rfl kw_5_66 dX9_estimate_2 rfl (by decide) (Nat.le_of_ble_eq_true rfl) rfl rfl ?_
  have hj12 : zf_X9_estimate_j12 = some r → ZW E 12 [] [] M := by
    intro  hf
    unfold zf_X9_estimate_j12 at hf
    refine zw_iconst hC (v := (-1 : Int32)) dX9_estimate_12 (by decide) ?_
    have h1 := Option.some.inj hf
    subst h1
    exact zw_iret hC hR dX9_estimate_13
  refine zw_if_eq hC 12 hf dX9_estimate_5 (by decide) (fun hf => ?_) (fun hf => ?_)
  · exact zw_sub [] rfl (hj12 hf)
  · refine zw_iload_n hC dX9_estimate_8 rfl 1 rfl ?_
    refine zw_if_ne hC 14 hf dX9_estimate_9 (by decide) (fun hf => ?_) (fun hf => ?_)
    · refine zw_aload_n hC dX9_estimate_14 rfl 0 rfl ?_
      refine zw_iload_n hC dX9_estimate_15 rfl 1 rfl ?_
      obtain ⟨v24, hc24, hf⟩ := zb1_some hf
      refine zw_cV hC [.int a1] [] (st1 := [.int v24]) zm_X9_estimateBy (zc_X9_estimateBy hc24) zk_0 rfl kw_5_140 dX9_estimate_16 rfl (by decide) (Nat.le_of_ble_eq_true rfl) rfl rfl ?_
      have h1 := Option.some.inj hf
      subst h1
      exact zw_iret hC hR dX9_estimate_19
    · exact zw_sub [] rfl (hj12 hf)
/-! ClassOfMany.nearest(II)I -/
theorem dX9_nearest_0 : decode cX9_nearest 0 = .ok (.iload_n 1, 1) := by decide +kernel
theorem dX9_nearest_1 : decode cX9_nearest 1 = .ok (.iconst 1, 1) := by decide +kernel
theorem dX9_nearest_2 : decode cX9_nearest 2 = .ok (.if_icmp .lt 23, 3) := by decide +kernel
theorem dX9_nearest_5 : decode cX9_nearest 5 = .ok (.iload_n 1, 1) := by decide +kernel
theorem dX9_nearest_6 : decode cX9_nearest 6 = .ok (.aload_n 0, 1) := by decide +kernel
theorem dX9_nearest_7 : decode cX9_nearest 7 = .ok (.getfield 12, 3) := by decide +kernel
theorem dX9_nearest_10 : decode cX9_nearest 10 = .ok (.getfield 92, 3) := by decide +kernel
theorem dX9_nearest_13 : decode cX9_nearest 13 = .ok (.if_icmp .gt 12, 3) := by decide +kernel
theorem dX9_nearest_16 : decode cX9_nearest 16 = .ok (.iload_n 2, 1) := by decide +kernel
theorem dX9_nearest_17 : decode cX9_nearest 17 = .ok (.ifCond .eq 10, 3) := by decide +kernel
theorem dX9_nearest_20 : decode cX9_nearest 20 = .ok (.iload_n 2, 1) := by decide +kernel
theorem dX9_nearest_21 : decode cX9_nearest 21 = .ok (.iconst 1, 1) := by decide +kernel
theorem dX9_nearest_22 : decode cX9_nearest 22 = .ok (.if_icmp .eq 5, 3) := by decide +kernel
theorem dX9_nearest_25 : decode cX9_nearest 25 = .ok (.iconst (-1), 1) := by decide +kernel
theorem dX9_nearest_26 : decode cX9_nearest 26 = .ok (.ireturn, 1) := by decide +kernel
theorem dX9_nearest_27 : decode cX9_nearest 27 = .ok (.aload_n 0, 1) := by decide +kernel
theorem dX9_nearest_28 : decode cX9_nearest 28 = .ok (.aload_n 0, 1) := by decide +kernel
theorem dX9_nearest_29 : decode cX9_nearest 29 = .ok (.invokevirtual 177, 3) := by decide +kernel
theorem dX9_nearest_32 : decode cX9_nearest 32 = .ok (.invokevirtual 180, 3) := by decide +kernel
theorem dX9_nearest_35 : decode cX9_nearest 35 = .ok (.istore_n 3, 1) := by decide +kernel
theorem dX9_nearest_36 : decode cX9_nearest 36 = .ok (.bipush (-2), 2) := by decide +kernel
theorem dX9_nearest_38 : decode cX9_nearest 38 = .ok (.istore 4, 2) := by decide +kernel
theorem dX9_nearest_40 : decode cX9_nearest 40 = .ok (.bipush (-2), 2) := by decide +kernel
theorem dX9_nearest_42 : decode cX9_nearest 42 = .ok (.istore 5, 2) := by decide +kernel
theorem dX9_nearest_44 : decode cX9_nearest 44 = .ok (.iconst 1, 1) := by decide +kernel
theorem dX9_nearest_45 : decode cX9_nearest 45 = .ok (.istore 6, 2) := by decide +kernel
theorem dX9_nearest_47 : decode cX9_nearest 47 = .ok (.iload 6, 2) := by decide +kernel
theorem dX9_nearest_49 : decode cX9_nearest 49 = .ok (.aload_n 0, 1) := by decide +kernel
theorem dX9_nearest_50 : decode cX9_nearest 50 = .ok (.invokevirtual 177, 3) := by decide +kernel
theorem dX9_nearest_53 : decode cX9_nearest 53 = .ok (.if_icmp .gt 53, 3) := by decide +kernel
theorem dX9_nearest_56 : decode cX9_nearest 56 = .ok (.iload 6, 2) := by decide +kernel
theorem dX9_nearest_58 : decode cX9_nearest 58 = .ok (.invokestatic 147, 3) := by decide +kernel
theorem dX9_nearest_61 : decode cX9_nearest 61 = .ok (.iload_n 1, 1) := by decide +kernel
theorem dX9_nearest_62 : decode cX9_nearest 62 = .ok (.if_icmp .ne 38, 3) := by decide +kernel
theorem dX9_nearest_65 : decode cX9_nearest 65 = .ok (.aload_n 0, 1) := by decide +kernel
theorem dX9_nearest_66 : decode cX9_nearest 66 = .ok (.iload 6, 2) := by decide +kernel
theorem dX9_nearest_68 : decode cX9_nearest 68 = .ok (.invokevirtual 379, 3) := by decide +kernel
theorem dX9_nearest_71 : decode cX9_nearest 71 = .ok (.iload_n 3, 1) := by decide +kernel
theorem dX9_nearest_72 : decode cX9_nearest 72 = .ok (.isub, 1) := by decide +kernel
theorem dX9_nearest_73 : decode cX9_nearest 73 = .ok (.invokestatic 382, 3) := by decide +kernel
theorem dX9_nearest_76 : decode cX9_nearest 76 = .ok (.istore 7, 2) := by decide +kernel
theorem dX9_nearest_78 : decode cX9_nearest 78 = .ok (.iload 5, 2) := by decide +kernel
theorem dX9_nearest_80 : decode cX9_nearest 80 = .ok (.bipush (-2), 2) := by decide +kernel
theorem dX9_nearest_82 : decode cX9_nearest 82 = .ok (.if_icmp .eq 10, 3) := by decide +kernel
theorem dX9_nearest_85 : decode cX9_nearest 85 = .ok (.iload 7, 2) := by decide +kernel
theorem dX9_nearest_87 : decode cX9_nearest 87 = .ok (.iload 4, 2) := by decide +kernel
theorem dX9_nearest_89 : decode cX9_nearest 89 = .ok (.if_icmp .ge 11, 3) := by decide +kernel
theorem dX9_nearest_92 : decode cX9_nearest 92 = .ok (.iload 7, 2) := by decide +kernel
theorem dX9_nearest_94 : decode cX9_nearest 94 = .ok (.istore 4, 2) := by decide +kernel
theorem dX9_nearest_96 : decode cX9_nearest 96 = .ok (.iload 6, 2) := by decide +kernel
theorem dX9_nearest_98 : decode cX9_nearest 98 = .ok (.istore 5, 2) := by decide +kernel
theorem dX9_nearest_100 : decode cX9_nearest 100 = .ok (.iinc 6 1, 3) := by decide +kernel
theorem dX9_nearest_103 : decode cX9_nearest 103 = .ok (.goto (-56), 3) := by decide +kernel
theorem dX9_nearest_106 : decode cX9_nearest 106 = .ok (.iload_n 2, 1) := by decide +kernel
theorem dX9_nearest_107 : decode cX9_nearest 107 = .ok (.ifCond .ne 8, 3) := by decide +kernel
theorem dX9_nearest_110 : decode cX9_nearest 110 = .ok (.iload 4, 2) := by decide +kernel
theorem dX9_nearest_112 : decode cX9_nearest 112 = .ok (.goto 5, 3) := by decide +kernel
theorem dX9_nearest_115 : decode cX9_nearest 115 = .ok (.iload 5, 2) := by decide +kernel
theorem dX9_nearest_117 : decode cX9_nearest 117 = .ok (.ireturn, 1) := by decide +kernel
theorem zm_X9_nearest : ZMv "ClassOfMany" yX9_nearest cX9_nearest 8 (some .int) 2 := ⟨kw_5_147, kw_5_145, kw_5_146, kw_1_1, by decide +kernel, by decide⟩
def zf_X9_nearest_j25 : Option (Int32) :=
  some (-1 : Int32)
def zf_X9_nearest_j100 (R47 : Int32 → Int32 → Int32 → Option (Int32)) (v32 : Int32) (v37 : Int32) (v38 : Int32) : Option (Int32) :=
  (R47 v37 v38 (v32 + (1 : Int32)))
def zf_X9_nearest_j92 (R47 : Int32 → Int32 → Int32 → Option (Int32)) (v32 : Int32) (v39 : Int32) (v29 : Int32) : Option (Int32) :=
  (zf_X9_nearest_j100 R47 v32 (zabs (v39 - v29)) v32)
def zf_X9_nearest_L47 (M : ZMem) (a1 : Int32) (n : Nat) (v29 : Int32) (K106 : Int32 → Int32 → Option (Int32)) : Nat → Int32 → Int32 → Int32 → Option (Int32)
  | 0, _, _, _ => none
  | n47 + 1, v30, v31, v32 =>
  zb1 (zf_X9_everyone M) (fun v35 => (if v35 < v32 then (K106 v30 v31) else zb1 (zf_J6_bitCount_0f7a4 v32) (fun v36 => (if v36 = a1 then zb1 (zf_X9_estimateBy n v32 M) (fun v39 => (if v31 = (-2 : Int32) then (zf_X9_nearest_j92 (fun x0 x1 x2 => zf_X9_nearest_L47 M a1 n v29 K106 n47 x0 x1 x2) v32 v39 v29) else (if v30 ≤ (zabs (v39 - v29)) then (zf_X9_nearest_j100 (fun x0 x1 x2 => zf_X9_nearest_L47 M a1 n v29 K106 n47 x0 x1 x2) v32 v30 v31) else (zf_X9_nearest_j92 (fun x0 x1 x2 => zf_X9_nearest_L47 M a1 n v29 K106 n47 x0 x1 x2) v32 v39 v29)))) else (zf_X9_nearest_j100 (fun x0 x1 x2 => zf_X9_nearest_L47 M a1 n v29 K106 n47 x0 x1 x2) v32 v30 v31)))))
def zf_X9_nearest_j117 (v42 : Int32) : Option (Int32) :=
  some v42
def zf_X9_nearest_j27 (M : ZMem) (n : Nat) (a1 : Int32) (a2 : Int32) : Option (Int32) :=
  zb1 (zf_X9_everyone M) (fun v28 => zb1 (zf_X9_claimsOf n v28 M) (fun v29 => (zf_X9_nearest_L47 M a1 n v29 (fun v40 v41 => (if a2 = 0 then (zf_X9_nearest_j117 v40) else (zf_X9_nearest_j117 v41))) n (-2 : Int32) (-2 : Int32) (1 : Int32))))
def zf_X9_nearest (n : Nat) (a1 : Int32) (a2 : Int32) (M : ZMem) : Option (Int32) :=
  (if a1 < (1 : Int32) then (zf_X9_nearest_j25) else zdy M 0 0 (7, 17) (fun o27 => (if (M o27 0) < a1 then (zf_X9_nearest_j25) else (if a2 = 0 then (zf_X9_nearest_j27 M n a1 a2) else (if a2 = (1 : Int32) then (zf_X9_nearest_j27 M n a1 a2) else (zf_X9_nearest_j25))))))
set_option maxHeartbeats 4000000 in
set_option maxRecDepth 100000 in
theorem zc_X9_nearest {l : Launch} {D : va_G} {ad : Nat → Nat} {cA : Nat → ClassId} {n : Nat} {a1 : Int32} {a2 : Int32} {M : ZMem} {r : Int32} (hf : zf_X9_nearest n a1 a2 M = some r) : ZCt l D ad cA yX9_nearest cX9_nearest 8 (some .int) 4 [.ref (ad 0), .int a1, .int a2] M (some (.int r)) M := by
  refine zct (by decide +kernel) (Nat.le_of_ble_eq_true rfl) (lv := [(0, .ref (ad 0)), (1, .int a1), (2, .int a2)]) rfl (fun E hl hD had hcA hN hC hR => ?_)
  subst hl; subst hD; subst had; subst hcA
  unfold zf_X9_nearest at hf
  refine zw_iload_n hC dX9_nearest_0 rfl 1 rfl ?_
  refine zw_iconst hC (v := (1 : Int32)) dX9_nearest_1 (by decide) ?_
  have hj25 : zf_X9_nearest_j25 = some r → ZW E 25 [] [] M := by
    intro  hf
    unfold zf_X9_nearest_j25 at hf
    refine zw_iconst hC (v := (-1 : Int32)) dX9_nearest_25 (by decide) ?_
    have h1 := Option.some.inj hf
    subst h1
    exact zw_iret hC hR dX9_nearest_26
  refine zw_icmp_lt hC 25 hf dX9_nearest_2 (by decide) (fun hf => ?_) (fun hf => ?_)
  · exact zw_sub [] rfl (hj25 hf)
  · refine zw_iload_n hC dX9_nearest_5 rfl 1 rfl ?_
    refine zw_aload_n hC dX9_nearest_6 rfl 0 rfl ?_
    refine zw_getd hC hf zF_ClassOfMany_told zk_0 dX9_nearest_7 kw_2_168 (fun o27 ho27 hf => ?_)
    refine zw_geti hC zF_Told_members ho27 dX9_nearest_10 kw_1_38 ?_
    refine zw_icmp_gt hC 25 hf dX9_nearest_13 (by decide) (fun hf => ?_) (fun hf => ?_)
    · exact zw_sub [] rfl (hj25 hf)
    · refine zw_iload_n hC dX9_nearest_16 rfl 2 rfl ?_
      have hj27 : zf_X9_nearest_j27 M n a1 a2 = some r → ZW E 27 [(0, .ref (zad E 0)), (1, .int a1), (2, .int a2)] [] M := by
        intro  hf
        unfold zf_X9_nearest_j27 at hf
        refine zw_aload_n hC dX9_nearest_27 rfl 0 rfl ?_
        refine zw_aload_n hC dX9_nearest_28 rfl 0 rfl ?_
        obtain ⟨v28, hc28, hf⟩ := zb1_some hf
        refine zw_cV hC [] [.ref (zad E 0)] (st1 := [.int v28, .ref (zad E 0)]) zm_X9_everyone (zc_X9_everyone hc28) zk_0 rfl kw_4_6 dX9_nearest_29 rfl (by decide) (Nat.le_of_ble_eq_true rfl) rfl rfl ?_
        obtain ⟨v29, hc29, hf⟩ := zb1_some hf
        refine zw_cV hC [.int v28] [] (st1 := [.int v29]) zm_X9_claimsOf (zc_X9_claimsOf hc29) zk_0 rfl kw_4_10 dX9_nearest_32 rfl (by decide) (Nat.le_of_ble_eq_true rfl) rfl rfl ?_
        refine zw_istore_n hC (lv' := [(3, .int v29), (0, .ref (zad E 0)), (1, .int a1), (2, .int a2)]) dX9_nearest_35 rfl hN (by decide) rfl ?_
        refine zw_bipush hC (v := (-2 : Int32)) dX9_nearest_36 (by decide) ?_
        refine zw_istore hC (lv' := [(4, .int (-2 : Int32)), (3, .int v29), (0, .ref (zad E 0)), (1, .int a1), (2, .int a2)]) dX9_nearest_38 hN (by decide) rfl ?_
        refine zw_bipush hC (v := (-2 : Int32)) dX9_nearest_40 (by decide) ?_
        refine zw_istore hC (lv' := [(5, .int (-2 : Int32)), (4, .int (-2 : Int32)), (3, .int v29), (0, .ref (zad E 0)), (1, .int a1), (2, .int a2)]) dX9_nearest_42 hN (by decide) rfl ?_
        refine zw_iconst hC (v := (1 : Int32)) dX9_nearest_44 (by decide) ?_
        refine zw_istore hC (lv' := [(6, .int (1 : Int32)), (5, .int (-2 : Int32)), (4, .int (-2 : Int32)), (3, .int v29), (0, .ref (zad E 0)), (1, .int a1), (2, .int a2)]) dX9_nearest_45 hN (by decide) rfl ?_
        have hL47 : ∀ (K106 : Int32 → Int32 → Option (Int32)), (∀ (v33 : Int32), ∀ (v34 : Int32), K106 v33 v34 = some r → ZW E 106 [(2, .int a2), (4, .int v33), (5, .int v34)] [] M) → ∀ (n47 : Nat), ∀ (v30 : Int32), ∀ (v31 : Int32), ∀ (v32 : Int32), zf_X9_nearest_L47 M a1 n v29 K106 n47 v30 v31 v32 = some r → ZW E 47 [(0, .ref (zad E 0)), (1, .int a1), (2, .int a2), (3, .int v29), (4, .int v30), (5, .int v31), (6, .int v32)] [] M := by
          intro K106 hK106
          intro n47
          induction n47 with
          | zero => intro v30 v31 v32 hf; rw [zf_X9_nearest_L47] at hf; cases hf
          | succ n47 ih47 =>
            intro v30 v31 v32 hf
            rw [zf_X9_nearest_L47] at hf
            refine zw_iload hC dX9_nearest_47 6 rfl ?_
            refine zw_aload_n hC dX9_nearest_49 rfl 0 rfl ?_
            obtain ⟨v35, hc35, hf⟩ := zb1_some hf
            refine zw_cV hC [] [.int v32] (st1 := [.int v35, .int v32]) zm_X9_everyone (zc_X9_everyone hc35) zk_0 rfl kw_4_6 dX9_nearest_50 rfl (by decide) (Nat.le_of_ble_eq_true rfl) rfl rfl ?_
            refine zw_icmp_gt hC 106 hf dX9_nearest_53 (by decide) (fun hf => ?_) (fun hf => ?_)
            · exact zw_sub [2, 4, 5] rfl (hK106 v30 v31 hf)
            · refine zw_iload hC dX9_nearest_56 6 rfl ?_
              obtain ⟨v36, hc36, hf⟩ := zb1_some hf
              refine zw_cS hC [.int v32] [] (st1 := [.int v36]) zm_J6_bitCount_0f7a4 (zc_J6_bitCount_0f7a4 hc36) kw_3_213 dX9_nearest_58 rfl (by decide) (Nat.le_of_ble_eq_true rfl) rfl rfl ?_
              refine zw_iload_n hC dX9_nearest_61 rfl 1 rfl ?_
              have hj100 : ∀ (v37 : Int32), ∀ (v38 : Int32), zf_X9_nearest_j100 (fun x0 x1 x2 => zf_X9_nearest_L47 M a1 n v29 K106 n47 x0 x1 x2) v32 v37 v38 = some r → ZW E 100 [(0, .ref (zad E 0)), (1, .int a1), (2, .int a2), (3, .int v29), (4, .int v37), (5, .int v38), (6, .int v32)] [] M := by
                intro v37 v38 hf
                unfold zf_X9_nearest_j100 at hf
                refine zw_iinc hC (v := (1 : Int32)) (lv' := [(6, .int (v32 + (1 : Int32))), (0, .ref (zad E 0)), (1, .int a1), (2, .int a2), (3, .int v29), (4, .int v37), (5, .int v38)]) dX9_nearest_100 6 rfl (by decide) hN (by decide) rfl ?_
                refine zw_goto hC 47 dX9_nearest_103 (by decide) ?_
                exact zw_sub [1, 2, 3, 4, 5, 6, 0] rfl (ih47 v37 v38 (v32 + (1 : Int32)) hf)
              refine zw_icmp_ne hC 100 hf dX9_nearest_62 (by decide) (fun hf => ?_) (fun hf => ?_)
              · exact hj100 v30 v31 hf
              · refine zw_aload_n hC dX9_nearest_65 rfl 0 rfl ?_
                refine zw_iload hC dX9_nearest_66 6 rfl ?_
                obtain ⟨v39, hc39, hf⟩ := zb1_some hf
                refine zw_cV hC [.int v32] [] (st1 := [.int v39]) zm_X9_estimateBy (zc_X9_estimateBy hc39) zk_0 rfl kw_5_140 dX9_nearest_68 rfl (by decide) (Nat.le_of_ble_eq_true rfl) rfl rfl ?_
                refine zw_iload_n hC dX9_nearest_71 rfl 3 rfl ?_
                refine zw_isub hC dX9_nearest_72 ?_
                refine zw_mabs hC (by decide) (Nat.le_of_ble_eq_true rfl) dX9_nearest_73 kw_5_148 kw_5_149 kw_1_18 kw_5_150 ?_
                refine zw_istore hC (lv' := [(7, .int (zabs (v39 - v29))), (0, .ref (zad E 0)), (1, .int a1), (2, .int a2), (3, .int v29), (4, .int v30), (5, .int v31), (6, .int v32)]) dX9_nearest_76 hN (by decide) rfl ?_
                refine zw_iload hC dX9_nearest_78 6 rfl ?_
                refine zw_bipush hC (v := (-2 : Int32)) dX9_nearest_80 (by decide) ?_
                have hj92 : zf_X9_nearest_j92 (fun x0 x1 x2 => zf_X9_nearest_L47 M a1 n v29 K106 n47 x0 x1 x2) v32 v39 v29 = some r → ZW E 92 [(0, .ref (zad E 0)), (1, .int a1), (2, .int a2), (3, .int v29), (6, .int v32), (7, .int (zabs (v39 - v29)))] [] M := by
                  intro  hf
                  unfold zf_X9_nearest_j92 at hf
                  refine zw_iload hC dX9_nearest_92 5 rfl ?_
                  refine zw_istore hC (lv' := [(4, .int (zabs (v39 - v29))), (0, .ref (zad E 0)), (1, .int a1), (2, .int a2), (3, .int v29), (6, .int v32), (7, .int (zabs (v39 - v29)))]) dX9_nearest_94 hN (by decide) rfl ?_
                  refine zw_iload hC dX9_nearest_96 5 rfl ?_
                  refine zw_istore hC (lv' := [(5, .int v32), (4, .int (zabs (v39 - v29))), (0, .ref (zad E 0)), (1, .int a1), (2, .int a2), (3, .int v29), (6, .int v32), (7, .int (zabs (v39 - v29)))]) dX9_nearest_98 hN (by decide) rfl ?_
                  exact zw_sub [2, 3, 4, 5, 1, 0, 6] rfl (hj100 (zabs (v39 - v29)) v32 hf)
                refine zw_icmp_eq hC 92 hf dX9_nearest_82 (by decide) (fun hf => ?_) (fun hf => ?_)
                · exact zw_sub [1, 2, 3, 4, 7, 0] rfl (hj92 hf)
                · refine zw_iload hC dX9_nearest_85 0 rfl ?_
                  refine zw_iload hC dX9_nearest_87 5 rfl ?_
                  refine zw_icmp_ge hC 100 hf dX9_nearest_89 (by decide) (fun hf => ?_) (fun hf => ?_)
                  · exact zw_sub [1, 2, 3, 4, 5, 6, 7] rfl (hj100 v30 v31 hf)
                  · exact zw_sub [1, 2, 3, 4, 7, 0] rfl (hj92 hf)
        refine zw_sub [4, 5, 6, 3, 2, 1, 0] rfl (hL47 _ ?_ n (-2 : Int32) (-2 : Int32) (1 : Int32) hf)
        · intro v40 v41 hf
          refine zw_iload_n hC dX9_nearest_106 rfl 0 rfl ?_
          have hj117 : ∀ (v42 : Int32), zf_X9_nearest_j117 v42 = some r → ZW E 117 [] [.int v42] M := by
            intro v42 hf
            unfold zf_X9_nearest_j117 at hf
            have h1 := Option.some.inj hf
            subst h1
            exact zw_iret hC hR dX9_nearest_117
          refine zw_if_ne hC 115 hf dX9_nearest_107 (by decide) (fun hf => ?_) (fun hf => ?_)
          · refine zw_iload hC dX9_nearest_115 2 rfl ?_
            exact zw_sub [] rfl (hj117 v41 hf)
          · refine zw_iload hC dX9_nearest_110 1 rfl ?_
            refine zw_goto hC 117 dX9_nearest_112 (by decide) ?_
            exact zw_sub [] rfl (hj117 v40 hf)
      refine zw_if_eq hC 27 hf dX9_nearest_17 (by decide) (fun hf => ?_) (fun hf => ?_)
      · exact hj27 hf
      · refine zw_iload_n hC dX9_nearest_20 rfl 2 rfl ?_
        refine zw_iconst hC (v := (1 : Int32)) dX9_nearest_21 (by decide) ?_
        refine zw_icmp_eq hC 27 hf dX9_nearest_22 (by decide) (fun hf => ?_) (fun hf => ?_)
        · exact hj27 hf
        · exact zw_sub [] rfl (hj25 hf)
/-! ClassOfMany.within(II)I -/
theorem dX9_within_0 : decode cX9_within 0 = .ok (.iload_n 1, 1) := by decide +kernel
theorem dX9_within_1 : decode cX9_within 1 = .ok (.iconst 1, 1) := by decide +kernel
theorem dX9_within_2 : decode cX9_within 2 = .ok (.if_icmp .lt 21, 3) := by decide +kernel
theorem dX9_within_5 : decode cX9_within 5 = .ok (.iload_n 1, 1) := by decide +kernel
theorem dX9_within_6 : decode cX9_within 6 = .ok (.aload_n 0, 1) := by decide +kernel
theorem dX9_within_7 : decode cX9_within 7 = .ok (.getfield 12, 3) := by decide +kernel
theorem dX9_within_10 : decode cX9_within 10 = .ok (.getfield 92, 3) := by decide +kernel
theorem dX9_within_13 : decode cX9_within 13 = .ok (.if_icmp .gt 10, 3) := by decide +kernel
theorem dX9_within_16 : decode cX9_within 16 = .ok (.iload_n 2, 1) := by decide +kernel
theorem dX9_within_17 : decode cX9_within 17 = .ok (.invokestatic 335, 3) := by decide +kernel
theorem dX9_within_20 : decode cX9_within 20 = .ok (.ifCond .ne 5, 3) := by decide +kernel
theorem dX9_within_23 : decode cX9_within 23 = .ok (.iconst (-1), 1) := by decide +kernel
theorem dX9_within_24 : decode cX9_within 24 = .ok (.ireturn, 1) := by decide +kernel
theorem dX9_within_25 : decode cX9_within 25 = .ok (.aload_n 0, 1) := by decide +kernel
theorem dX9_within_26 : decode cX9_within 26 = .ok (.aload_n 0, 1) := by decide +kernel
theorem dX9_within_27 : decode cX9_within 27 = .ok (.invokevirtual 177, 3) := by decide +kernel
theorem dX9_within_30 : decode cX9_within 30 = .ok (.invokevirtual 180, 3) := by decide +kernel
theorem dX9_within_33 : decode cX9_within 33 = .ok (.istore_n 3, 1) := by decide +kernel
theorem dX9_within_34 : decode cX9_within 34 = .ok (.iconst 0, 1) := by decide +kernel
theorem dX9_within_35 : decode cX9_within 35 = .ok (.istore 4, 2) := by decide +kernel
theorem dX9_within_37 : decode cX9_within 37 = .ok (.iconst 1, 1) := by decide +kernel
theorem dX9_within_38 : decode cX9_within 38 = .ok (.istore 5, 2) := by decide +kernel
theorem dX9_within_40 : decode cX9_within 40 = .ok (.iload 5, 2) := by decide +kernel
theorem dX9_within_42 : decode cX9_within 42 = .ok (.aload_n 0, 1) := by decide +kernel
theorem dX9_within_43 : decode cX9_within 43 = .ok (.invokevirtual 177, 3) := by decide +kernel
theorem dX9_within_46 : decode cX9_within 46 = .ok (.if_icmp .gt 41, 3) := by decide +kernel
theorem dX9_within_49 : decode cX9_within 49 = .ok (.iload 5, 2) := by decide +kernel
theorem dX9_within_51 : decode cX9_within 51 = .ok (.invokestatic 147, 3) := by decide +kernel
theorem dX9_within_54 : decode cX9_within 54 = .ok (.iload_n 1, 1) := by decide +kernel
theorem dX9_within_55 : decode cX9_within 55 = .ok (.if_icmp .ne 26, 3) := by decide +kernel
theorem dX9_within_58 : decode cX9_within 58 = .ok (.aload_n 0, 1) := by decide +kernel
theorem dX9_within_59 : decode cX9_within 59 = .ok (.iload 5, 2) := by decide +kernel
theorem dX9_within_61 : decode cX9_within 61 = .ok (.invokevirtual 379, 3) := by decide +kernel
theorem dX9_within_64 : decode cX9_within 64 = .ok (.iload_n 3, 1) := by decide +kernel
theorem dX9_within_65 : decode cX9_within 65 = .ok (.isub, 1) := by decide +kernel
theorem dX9_within_66 : decode cX9_within 66 = .ok (.invokestatic 382, 3) := by decide +kernel
theorem dX9_within_69 : decode cX9_within 69 = .ok (.bipush 100, 2) := by decide +kernel
theorem dX9_within_71 : decode cX9_within 71 = .ok (.imul, 1) := by decide +kernel
theorem dX9_within_72 : decode cX9_within 72 = .ok (.iload_n 2, 1) := by decide +kernel
theorem dX9_within_73 : decode cX9_within 73 = .ok (.iload_n 3, 1) := by decide +kernel
theorem dX9_within_74 : decode cX9_within 74 = .ok (.imul, 1) := by decide +kernel
theorem dX9_within_75 : decode cX9_within 75 = .ok (.if_icmp .gt 6, 3) := by decide +kernel
theorem dX9_within_78 : decode cX9_within 78 = .ok (.iinc 4 1, 3) := by decide +kernel
theorem dX9_within_81 : decode cX9_within 81 = .ok (.iinc 5 1, 3) := by decide +kernel
theorem dX9_within_84 : decode cX9_within 84 = .ok (.goto (-44), 3) := by decide +kernel
theorem dX9_within_87 : decode cX9_within 87 = .ok (.iload 4, 2) := by decide +kernel
theorem dX9_within_89 : decode cX9_within 89 = .ok (.ireturn, 1) := by decide +kernel
theorem zm_X9_within : ZMv "ClassOfMany" yX9_within cX9_within 6 (some .int) 2 := ⟨kw_5_154, kw_5_152, kw_5_153, kw_1_1, by decide +kernel, by decide⟩
def zf_X9_within_j23 : Option (Int32) :=
  some (-1 : Int32)
def zf_X9_within_j81 (R40 : Int32 → Int32 → Option (Int32)) (v33 : Int32) (v37 : Int32) : Option (Int32) :=
  (R40 v37 (v33 + (1 : Int32)))
def zf_X9_within_L40 (M : ZMem) (a1 : Int32) (n : Nat) (a2 : Int32) (v31 : Int32) (K87 : Int32 → Option (Int32)) : Nat → Int32 → Int32 → Option (Int32)
  | 0, _, _ => none
  | n40 + 1, v32, v33 =>
  zb1 (zf_X9_everyone M) (fun v35 => (if v35 < v33 then (K87 v32) else zb1 (zf_J6_bitCount_0f7a4 v33) (fun v36 => (if v36 = a1 then zb1 (zf_X9_estimateBy n v33 M) (fun v38 => (if (a2 * v31) < ((zabs (v38 - v31)) * (100 : Int32)) then (zf_X9_within_j81 (fun x0 x1 => zf_X9_within_L40 M a1 n a2 v31 K87 n40 x0 x1) v33 v32) else (zf_X9_within_j81 (fun x0 x1 => zf_X9_within_L40 M a1 n a2 v31 K87 n40 x0 x1) v33 (v32 + (1 : Int32))))) else (zf_X9_within_j81 (fun x0 x1 => zf_X9_within_L40 M a1 n a2 v31 K87 n40 x0 x1) v33 v32)))))
def zf_X9_within (n : Nat) (a1 : Int32) (a2 : Int32) (M : ZMem) : Option (Int32) :=
  (if a1 < (1 : Int32) then (zf_X9_within_j23) else zdy M 0 0 (7, 17) (fun o28 => (if (M o28 0) < a1 then (zf_X9_within_j23) else zb1 (zf_X9_isHundredths a2) (fun v29 => (if v29 = 0 then (zf_X9_within_j23) else zb1 (zf_X9_everyone M) (fun v30 => zb1 (zf_X9_claimsOf n v30 M) (fun v31 => (zf_X9_within_L40 M a1 n a2 v31 (fun v39 => some v39) n (0 : Int32) (1 : Int32)))))))))
set_option maxHeartbeats 4000000 in
set_option maxRecDepth 100000 in
theorem zc_X9_within {l : Launch} {D : va_G} {ad : Nat → Nat} {cA : Nat → ClassId} {n : Nat} {a1 : Int32} {a2 : Int32} {M : ZMem} {r : Int32} (hf : zf_X9_within n a1 a2 M = some r) : ZCt l D ad cA yX9_within cX9_within 6 (some .int) 4 [.ref (ad 0), .int a1, .int a2] M (some (.int r)) M := by
  refine zct (by decide +kernel) (Nat.le_of_ble_eq_true rfl) (lv := [(0, .ref (ad 0)), (1, .int a1), (2, .int a2)]) rfl (fun E hl hD had hcA hN hC hR => ?_)
  subst hl; subst hD; subst had; subst hcA
  unfold zf_X9_within at hf
  refine zw_iload_n hC dX9_within_0 rfl 1 rfl ?_
  refine zw_iconst hC (v := (1 : Int32)) dX9_within_1 (by decide) ?_
  have hj23 : zf_X9_within_j23 = some r → ZW E 23 [] [] M := by
    intro  hf
    unfold zf_X9_within_j23 at hf
    refine zw_iconst hC (v := (-1 : Int32)) dX9_within_23 (by decide) ?_
    have h1 := Option.some.inj hf
    subst h1
    exact zw_iret hC hR dX9_within_24
  refine zw_icmp_lt hC 23 hf dX9_within_2 (by decide) (fun hf => ?_) (fun hf => ?_)
  · exact zw_sub [] rfl (hj23 hf)
  · refine zw_iload_n hC dX9_within_5 rfl 1 rfl ?_
    refine zw_aload_n hC dX9_within_6 rfl 0 rfl ?_
    refine zw_getd hC hf zF_ClassOfMany_told zk_0 dX9_within_7 kw_2_168 (fun o28 ho28 hf => ?_)
    refine zw_geti hC zF_Told_members ho28 dX9_within_10 kw_1_38 ?_
    refine zw_icmp_gt hC 23 hf dX9_within_13 (by decide) (fun hf => ?_) (fun hf => ?_)
    · exact zw_sub [] rfl (hj23 hf)
    · refine zw_iload_n hC dX9_within_16 rfl 2 rfl ?_
      obtain ⟨v29, hc29, hf⟩ := zb1_some hf
      refine zw_cS hC [.int a2] [] (st1 := [.int v29]) zm_X9_isHundredths (zc_X9_isHundredths hc29) kw_5_31 dX9_within_17 rfl (by decide) (Nat.le_of_ble_eq_true rfl) rfl rfl ?_
      refine zw_if_ne hC 25 hf dX9_within_20 (by decide) (fun hf => ?_) (fun hf => ?_)
      · refine zw_aload_n hC dX9_within_25 rfl 0 rfl ?_
        refine zw_aload_n hC dX9_within_26 rfl 0 rfl ?_
        obtain ⟨v30, hc30, hf⟩ := zb1_some hf
        refine zw_cV hC [] [.ref (zad E 0)] (st1 := [.int v30, .ref (zad E 0)]) zm_X9_everyone (zc_X9_everyone hc30) zk_0 rfl kw_4_6 dX9_within_27 rfl (by decide) (Nat.le_of_ble_eq_true rfl) rfl rfl ?_
        obtain ⟨v31, hc31, hf⟩ := zb1_some hf
        refine zw_cV hC [.int v30] [] (st1 := [.int v31]) zm_X9_claimsOf (zc_X9_claimsOf hc31) zk_0 rfl kw_4_10 dX9_within_30 rfl (by decide) (Nat.le_of_ble_eq_true rfl) rfl rfl ?_
        refine zw_istore_n hC (lv' := [(3, .int v31), (0, .ref (zad E 0)), (1, .int a1), (2, .int a2)]) dX9_within_33 rfl hN (by decide) rfl ?_
        refine zw_iconst hC (v := (0 : Int32)) dX9_within_34 (by decide) ?_
        refine zw_istore hC (lv' := [(4, .int (0 : Int32)), (3, .int v31), (0, .ref (zad E 0)), (1, .int a1), (2, .int a2)]) dX9_within_35 hN (by decide) rfl ?_
        refine zw_iconst hC (v := (1 : Int32)) dX9_within_37 (by decide) ?_
        refine zw_istore hC (lv' := [(5, .int (1 : Int32)), (4, .int (0 : Int32)), (3, .int v31), (0, .ref (zad E 0)), (1, .int a1), (2, .int a2)]) dX9_within_38 hN (by decide) rfl ?_
        have hL40 : ∀ (K87 : Int32 → Option (Int32)), (∀ (v34 : Int32), K87 v34 = some r → ZW E 87 [(4, .int v34)] [] M) → ∀ (n40 : Nat), ∀ (v32 : Int32), ∀ (v33 : Int32), zf_X9_within_L40 M a1 n a2 v31 K87 n40 v32 v33 = some r → ZW E 40 [(0, .ref (zad E 0)), (1, .int a1), (2, .int a2), (3, .int v31), (4, .int v32), (5, .int v33)] [] M := by
          intro K87 hK87
          intro n40
          induction n40 with
          | zero => intro v32 v33 hf; rw [zf_X9_within_L40] at hf; cases hf
          | succ n40 ih40 =>
            intro v32 v33 hf
            rw [zf_X9_within_L40] at hf
            refine zw_iload hC dX9_within_40 5 rfl ?_
            refine zw_aload_n hC dX9_within_42 rfl 0 rfl ?_
            obtain ⟨v35, hc35, hf⟩ := zb1_some hf
            refine zw_cV hC [] [.int v33] (st1 := [.int v35, .int v33]) zm_X9_everyone (zc_X9_everyone hc35) zk_0 rfl kw_4_6 dX9_within_43 rfl (by decide) (Nat.le_of_ble_eq_true rfl) rfl rfl ?_
            refine zw_icmp_gt hC 87 hf dX9_within_46 (by decide) (fun hf => ?_) (fun hf => ?_)
            · exact zw_sub [4] rfl (hK87 v32 hf)
            · refine zw_iload hC dX9_within_49 5 rfl ?_
              obtain ⟨v36, hc36, hf⟩ := zb1_some hf
              refine zw_cS hC [.int v33] [] (st1 := [.int v36]) zm_J6_bitCount_0f7a4 (zc_J6_bitCount_0f7a4 hc36) kw_3_213 dX9_within_51 rfl (by decide) (Nat.le_of_ble_eq_true rfl) rfl rfl ?_
              refine zw_iload_n hC dX9_within_54 rfl 1 rfl ?_
              have hj81 : ∀ (v37 : Int32), zf_X9_within_j81 (fun x0 x1 => zf_X9_within_L40 M a1 n a2 v31 K87 n40 x0 x1) v33 v37 = some r → ZW E 81 [(0, .ref (zad E 0)), (1, .int a1), (2, .int a2), (3, .int v31), (4, .int v37), (5, .int v33)] [] M := by
                intro v37 hf
                unfold zf_X9_within_j81 at hf
                refine zw_iinc hC (v := (1 : Int32)) (lv' := [(5, .int (v33 + (1 : Int32))), (0, .ref (zad E 0)), (1, .int a1), (2, .int a2), (3, .int v31), (4, .int v37)]) dX9_within_81 5 rfl (by decide) hN (by decide) rfl ?_
                refine zw_goto hC 40 dX9_within_84 (by decide) ?_
                exact zw_sub [1, 2, 3, 4, 5, 0] rfl (ih40 v37 (v33 + (1 : Int32)) hf)
              refine zw_icmp_ne hC 81 hf dX9_within_55 (by decide) (fun hf => ?_) (fun hf => ?_)
              · exact hj81 v32 hf
              · refine zw_aload_n hC dX9_within_58 rfl 0 rfl ?_
                refine zw_iload hC dX9_within_59 5 rfl ?_
                obtain ⟨v38, hc38, hf⟩ := zb1_some hf
                refine zw_cV hC [.int v33] [] (st1 := [.int v38]) zm_X9_estimateBy (zc_X9_estimateBy hc38) zk_0 rfl kw_5_140 dX9_within_61 rfl (by decide) (Nat.le_of_ble_eq_true rfl) rfl rfl ?_
                refine zw_iload_n hC dX9_within_64 rfl 3 rfl ?_
                refine zw_isub hC dX9_within_65 ?_
                refine zw_mabs hC (by decide) (Nat.le_of_ble_eq_true rfl) dX9_within_66 kw_5_148 kw_5_149 kw_1_18 kw_5_150 ?_
                refine zw_bipush hC (v := (100 : Int32)) dX9_within_69 (by decide) ?_
                refine zw_imul hC dX9_within_71 ?_
                refine zw_iload_n hC dX9_within_72 rfl 2 rfl ?_
                refine zw_iload_n hC dX9_within_73 rfl 3 rfl ?_
                refine zw_imul hC dX9_within_74 ?_
                refine zw_icmp_gt hC 81 hf dX9_within_75 (by decide) (fun hf => ?_) (fun hf => ?_)
                · exact hj81 v32 hf
                · refine zw_iinc hC (v := (1 : Int32)) (lv' := [(4, .int (v32 + (1 : Int32))), (0, .ref (zad E 0)), (1, .int a1), (2, .int a2), (3, .int v31), (5, .int v33)]) dX9_within_78 4 rfl (by decide) hN (by decide) rfl ?_
                  exact zw_sub [1, 2, 3, 4, 0, 5] rfl (hj81 (v32 + (1 : Int32)) hf)
        refine zw_sub [3, 4, 5, 2, 1, 0] rfl (hL40 _ ?_ n (0 : Int32) (1 : Int32) hf)
        · intro v39 hf
          refine zw_iload hC dX9_within_87 0 rfl ?_
          have h1 := Option.some.inj hf
          subst h1
          exact zw_iret hC hR dX9_within_89
      · exact zw_sub [] rfl (hj23 hf)
/-! ClassOfMany.conflictCount()I -/
theorem dX9_conflictCount_0 : decode cX9_conflictCount 0 = .ok (.iconst 0, 1) := by decide +kernel
theorem dX9_conflictCount_1 : decode cX9_conflictCount 1 = .ok (.istore_n 1, 1) := by decide +kernel
theorem dX9_conflictCount_2 : decode cX9_conflictCount 2 = .ok (.iconst 0, 1) := by decide +kernel
theorem dX9_conflictCount_3 : decode cX9_conflictCount 3 = .ok (.istore_n 2, 1) := by decide +kernel
theorem dX9_conflictCount_4 : decode cX9_conflictCount 4 = .ok (.iload_n 2, 1) := by decide +kernel
theorem dX9_conflictCount_5 : decode cX9_conflictCount 5 = .ok (.aload_n 0, 1) := by decide +kernel
theorem dX9_conflictCount_6 : decode cX9_conflictCount 6 = .ok (.getfield 12, 3) := by decide +kernel
theorem dX9_conflictCount_9 : decode cX9_conflictCount 9 = .ok (.getfield 92, 3) := by decide +kernel
theorem dX9_conflictCount_12 : decode cX9_conflictCount 12 = .ok (.if_icmp .ge 24, 3) := by decide +kernel
theorem dX9_conflictCount_15 : decode cX9_conflictCount 15 = .ok (.iload_n 1, 1) := by decide +kernel
theorem dX9_conflictCount_16 : decode cX9_conflictCount 16 = .ok (.aload_n 0, 1) := by decide +kernel
theorem dX9_conflictCount_17 : decode cX9_conflictCount 17 = .ok (.getfield 19, 3) := by decide +kernel
theorem dX9_conflictCount_20 : decode cX9_conflictCount 20 = .ok (.getfield 190, 3) := by decide +kernel
theorem dX9_conflictCount_23 : decode cX9_conflictCount 23 = .ok (.iload_n 2, 1) := by decide +kernel
theorem dX9_conflictCount_24 : decode cX9_conflictCount 24 = .ok (.iaload, 1) := by decide +kernel
theorem dX9_conflictCount_25 : decode cX9_conflictCount 25 = .ok (.invokestatic 147, 3) := by decide +kernel
theorem dX9_conflictCount_28 : decode cX9_conflictCount 28 = .ok (.iadd, 1) := by decide +kernel
theorem dX9_conflictCount_29 : decode cX9_conflictCount 29 = .ok (.istore_n 1, 1) := by decide +kernel
theorem dX9_conflictCount_30 : decode cX9_conflictCount 30 = .ok (.iinc 2 1, 3) := by decide +kernel
theorem dX9_conflictCount_33 : decode cX9_conflictCount 33 = .ok (.goto (-29), 3) := by decide +kernel
theorem dX9_conflictCount_36 : decode cX9_conflictCount 36 = .ok (.iload_n 1, 1) := by decide +kernel
theorem dX9_conflictCount_37 : decode cX9_conflictCount 37 = .ok (.iconst 2, 1) := by decide +kernel
theorem dX9_conflictCount_38 : decode cX9_conflictCount 38 = .ok (.idiv, 1) := by decide +kernel
theorem dX9_conflictCount_39 : decode cX9_conflictCount 39 = .ok (.ireturn, 1) := by decide +kernel
theorem zm_X9_conflictCount : ZMv "ClassOfMany" yX9_conflictCount cX9_conflictCount 3 (some .int) 0 := ⟨kw_5_216, kw_5_215, kp_56, kw_1_1, by decide +kernel, by decide⟩
def zf_X9_conflictCount_L4 (M : ZMem) (K36 : Int32 → Option (Int32)) : Nat → Int32 → Int32 → Option (Int32)
  | 0, _, _ => none
  | n4 + 1, v24, v25 =>
  zdy M 0 0 (7, 17) (fun o27 => (if (M o27 0) ≤ v25 then (K36 v24) else zrd M 13 10 v25 (fun v28 => zb1 (zf_J6_bitCount_0f7a4 v28) (fun v29 => (zf_X9_conflictCount_L4 M K36 n4 (v24 + v29) (v25 + (1 : Int32)))))))
def zf_X9_conflictCount (n : Nat) (M : ZMem) : Option (Int32) :=
  (zf_X9_conflictCount_L4 M (fun v30 => some (v30 / (2 : Int32))) n (0 : Int32) (0 : Int32))
set_option maxHeartbeats 4000000 in
set_option maxRecDepth 100000 in
theorem zc_X9_conflictCount {l : Launch} {D : va_G} {ad : Nat → Nat} {cA : Nat → ClassId} {n : Nat} {M : ZMem} {r : Int32} (hf : zf_X9_conflictCount n M = some r) : ZCt l D ad cA yX9_conflictCount cX9_conflictCount 3 (some .int) 2 [.ref (ad 0)] M (some (.int r)) M := by
  refine zct (by decide +kernel) (Nat.le_of_ble_eq_true rfl) (lv := [(0, .ref (ad 0))]) rfl (fun E hl hD had hcA hN hC hR => ?_)
  subst hl; subst hD; subst had; subst hcA
  unfold zf_X9_conflictCount at hf
  refine zw_iconst hC (v := (0 : Int32)) dX9_conflictCount_0 (by decide) ?_
  refine zw_istore_n hC (lv' := [(1, .int (0 : Int32)), (0, .ref (zad E 0))]) dX9_conflictCount_1 rfl hN (by decide) rfl ?_
  refine zw_iconst hC (v := (0 : Int32)) dX9_conflictCount_2 (by decide) ?_
  refine zw_istore_n hC (lv' := [(2, .int (0 : Int32)), (1, .int (0 : Int32)), (0, .ref (zad E 0))]) dX9_conflictCount_3 rfl hN (by decide) rfl ?_
  have hL4 : ∀ (K36 : Int32 → Option (Int32)), (∀ (v26 : Int32), K36 v26 = some r → ZW E 36 [(1, .int v26)] [] M) → ∀ (n4 : Nat), ∀ (v24 : Int32), ∀ (v25 : Int32), zf_X9_conflictCount_L4 M K36 n4 v24 v25 = some r → ZW E 4 [(0, .ref (zad E 0)), (1, .int v24), (2, .int v25)] [] M := by
    intro K36 hK36
    intro n4
    induction n4 with
    | zero => intro v24 v25 hf; rw [zf_X9_conflictCount_L4] at hf; cases hf
    | succ n4 ih4 =>
      intro v24 v25 hf
      rw [zf_X9_conflictCount_L4] at hf
      refine zw_iload_n hC dX9_conflictCount_4 rfl 2 rfl ?_
      refine zw_aload_n hC dX9_conflictCount_5 rfl 0 rfl ?_
      refine zw_getd hC hf zF_ClassOfMany_told zk_0 dX9_conflictCount_6 kw_2_168 (fun o27 ho27 hf => ?_)
      refine zw_geti hC zF_Told_members ho27 dX9_conflictCount_9 kw_1_38 ?_
      refine zw_icmp_ge hC 36 hf dX9_conflictCount_12 (by decide) (fun hf => ?_) (fun hf => ?_)
      · exact zw_sub [1] rfl (hK36 v24 hf)
      · refine zw_iload_n hC dX9_conflictCount_15 rfl 1 rfl ?_
        refine zw_aload_n hC dX9_conflictCount_16 rfl 0 rfl ?_
        refine zw_getr (k' := 12) hC zF_ClassOfMany_now zk_0 rfl dX9_conflictCount_17 kw_2_169 ?_
        refine zw_getr (k' := 13) hC zF_Standing_foes zk_12 rfl dX9_conflictCount_20 kw_1_171 ?_
        refine zw_iload_n hC dX9_conflictCount_23 rfl 2 rfl ?_
        refine zw_iald hC hf zk_13 dX9_conflictCount_24 (fun v28 hf => ?_)
        obtain ⟨v29, hc29, hf⟩ := zb1_some hf
        refine zw_cS hC [.int v28] [.int v24] (st1 := [.int v29, .int v24]) zm_J6_bitCount_0f7a4 (zc_J6_bitCount_0f7a4 hc29) kw_3_213 dX9_conflictCount_25 rfl (by decide) (Nat.le_of_ble_eq_true rfl) rfl rfl ?_
        refine zw_iadd hC dX9_conflictCount_28 ?_
        refine zw_istore_n hC (lv' := [(1, .int (v24 + v29)), (0, .ref (zad E 0)), (2, .int v25)]) dX9_conflictCount_29 rfl hN (by decide) rfl ?_
        refine zw_iinc hC (v := (1 : Int32)) (lv' := [(2, .int (v25 + (1 : Int32))), (1, .int (v24 + v29)), (0, .ref (zad E 0))]) dX9_conflictCount_30 2 rfl (by decide) hN (by decide) rfl ?_
        refine zw_goto hC 4 dX9_conflictCount_33 (by decide) ?_
        exact zw_sub [2, 1, 0] rfl (ih4 (v24 + v29) (v25 + (1 : Int32)) hf)
  refine zw_sub [2, 1, 0] rfl (hL4 _ ?_ n (0 : Int32) (0 : Int32) hf)
  · intro v30 hf
    refine zw_iload_n hC dX9_conflictCount_36 rfl 0 rfl ?_
    refine zw_iconst hC (v := (2 : Int32)) dX9_conflictCount_37 (by decide) ?_
    refine zw_idivc hC dX9_conflictCount_38 (by decide) ?_
    have h1 := Option.some.inj hf
    subst h1
    exact zw_iret hC hR dX9_conflictCount_39
/-! ClassOfMany.count(I)I -/
theorem dX9_count_0 : decode cX9_count 0 = .ok (.iload_n 1, 1) := by decide +kernel
theorem dX9_count_1 : decode cX9_count 1 = .ok (.tableswitch 205 0 15 #[79, 87, 95, 100, 108, 116, 124, 132, 140, 148, 156, 164, 172, 181, 189, 197], 79) := by decide +kernel
theorem dX9_count_80 : decode cX9_count 80 = .ok (.aload_n 0, 1) := by decide +kernel
theorem dX9_count_81 : decode cX9_count 81 = .ok (.getfield 12, 3) := by decide +kernel
theorem dX9_count_84 : decode cX9_count 84 = .ok (.getfield 92, 3) := by decide +kernel
theorem dX9_count_87 : decode cX9_count 87 = .ok (.ireturn, 1) := by decide +kernel
theorem dX9_count_88 : decode cX9_count 88 = .ok (.aload_n 0, 1) := by decide +kernel
theorem dX9_count_89 : decode cX9_count 89 = .ok (.getfield 12, 3) := by decide +kernel
theorem dX9_count_92 : decode cX9_count 92 = .ok (.getfield 117, 3) := by decide +kernel
theorem dX9_count_95 : decode cX9_count 95 = .ok (.ireturn, 1) := by decide +kernel
theorem dX9_count_96 : decode cX9_count 96 = .ok (.aload_n 0, 1) := by decide +kernel
theorem dX9_count_97 : decode cX9_count 97 = .ok (.invokevirtual 430, 3) := by decide +kernel
theorem dX9_count_100 : decode cX9_count 100 = .ok (.ireturn, 1) := by decide +kernel
theorem dX9_count_101 : decode cX9_count 101 = .ok (.aload_n 0, 1) := by decide +kernel
theorem dX9_count_102 : decode cX9_count 102 = .ok (.getfield 19, 3) := by decide +kernel
theorem dX9_count_105 : decode cX9_count 105 = .ok (.getfield 98, 3) := by decide +kernel
theorem dX9_count_108 : decode cX9_count 108 = .ok (.ireturn, 1) := by decide +kernel
theorem dX9_count_109 : decode cX9_count 109 = .ok (.aload_n 0, 1) := by decide +kernel
theorem dX9_count_110 : decode cX9_count 110 = .ok (.getfield 19, 3) := by decide +kernel
theorem dX9_count_113 : decode cX9_count 113 = .ok (.getfield 162, 3) := by decide +kernel
theorem dX9_count_116 : decode cX9_count 116 = .ok (.ireturn, 1) := by decide +kernel
theorem dX9_count_117 : decode cX9_count 117 = .ok (.aload_n 0, 1) := by decide +kernel
theorem dX9_count_118 : decode cX9_count 118 = .ok (.getfield 19, 3) := by decide +kernel
theorem dX9_count_121 : decode cX9_count 121 = .ok (.getfield 168, 3) := by decide +kernel
theorem dX9_count_124 : decode cX9_count 124 = .ok (.ireturn, 1) := by decide +kernel
theorem dX9_count_125 : decode cX9_count 125 = .ok (.aload_n 0, 1) := by decide +kernel
theorem dX9_count_126 : decode cX9_count 126 = .ok (.getfield 19, 3) := by decide +kernel
theorem dX9_count_129 : decode cX9_count 129 = .ok (.getfield 127, 3) := by decide +kernel
theorem dX9_count_132 : decode cX9_count 132 = .ok (.ireturn, 1) := by decide +kernel
theorem dX9_count_133 : decode cX9_count 133 = .ok (.aload_n 0, 1) := by decide +kernel
theorem dX9_count_134 : decode cX9_count 134 = .ok (.getfield 19, 3) := by decide +kernel
theorem dX9_count_137 : decode cX9_count 137 = .ok (.getfield 120, 3) := by decide +kernel
theorem dX9_count_140 : decode cX9_count 140 = .ok (.ireturn, 1) := by decide +kernel
theorem dX9_count_141 : decode cX9_count 141 = .ok (.aload_n 0, 1) := by decide +kernel
theorem dX9_count_142 : decode cX9_count 142 = .ok (.getfield 19, 3) := by decide +kernel
theorem dX9_count_145 : decode cX9_count 145 = .ok (.getfield 110, 3) := by decide +kernel
theorem dX9_count_148 : decode cX9_count 148 = .ok (.ireturn, 1) := by decide +kernel
theorem dX9_count_149 : decode cX9_count 149 = .ok (.aload_n 0, 1) := by decide +kernel
theorem dX9_count_150 : decode cX9_count 150 = .ok (.getfield 19, 3) := by decide +kernel
theorem dX9_count_153 : decode cX9_count 153 = .ok (.getfield 134, 3) := by decide +kernel
theorem dX9_count_156 : decode cX9_count 156 = .ok (.ireturn, 1) := by decide +kernel
theorem dX9_count_157 : decode cX9_count 157 = .ok (.aload_n 0, 1) := by decide +kernel
theorem dX9_count_158 : decode cX9_count 158 = .ok (.getfield 19, 3) := by decide +kernel
theorem dX9_count_161 : decode cX9_count 161 = .ok (.getfield 153, 3) := by decide +kernel
theorem dX9_count_164 : decode cX9_count 164 = .ok (.ireturn, 1) := by decide +kernel
theorem dX9_count_165 : decode cX9_count 165 = .ok (.aload_n 0, 1) := by decide +kernel
theorem dX9_count_166 : decode cX9_count 166 = .ok (.getfield 19, 3) := by decide +kernel
theorem dX9_count_169 : decode cX9_count 169 = .ok (.getfield 156, 3) := by decide +kernel
theorem dX9_count_172 : decode cX9_count 172 = .ok (.ireturn, 1) := by decide +kernel
theorem dX9_count_173 : decode cX9_count 173 = .ok (.aload_n 0, 1) := by decide +kernel
theorem dX9_count_174 : decode cX9_count 174 = .ok (.aload_n 0, 1) := by decide +kernel
theorem dX9_count_175 : decode cX9_count 175 = .ok (.invokevirtual 177, 3) := by decide +kernel
theorem dX9_count_178 : decode cX9_count 178 = .ok (.invokevirtual 180, 3) := by decide +kernel
theorem dX9_count_181 : decode cX9_count 181 = .ok (.ireturn, 1) := by decide +kernel
theorem dX9_count_182 : decode cX9_count 182 = .ok (.aload_n 0, 1) := by decide +kernel
theorem dX9_count_183 : decode cX9_count 183 = .ok (.getfield 29, 3) := by decide +kernel
theorem dX9_count_186 : decode cX9_count 186 = .ok (.getfield 194, 3) := by decide +kernel
theorem dX9_count_189 : decode cX9_count 189 = .ok (.ireturn, 1) := by decide +kernel
theorem dX9_count_190 : decode cX9_count 190 = .ok (.aload_n 0, 1) := by decide +kernel
theorem dX9_count_191 : decode cX9_count 191 = .ok (.getfield 36, 3) := by decide +kernel
theorem dX9_count_194 : decode cX9_count 194 = .ok (.getfield 68, 3) := by decide +kernel
theorem dX9_count_197 : decode cX9_count 197 = .ok (.ireturn, 1) := by decide +kernel
theorem dX9_count_198 : decode cX9_count 198 = .ok (.aload_n 0, 1) := by decide +kernel
theorem dX9_count_199 : decode cX9_count 199 = .ok (.getfield 12, 3) := by decide +kernel
theorem dX9_count_202 : decode cX9_count 202 = .ok (.getfield 231, 3) := by decide +kernel
theorem dX9_count_205 : decode cX9_count 205 = .ok (.ireturn, 1) := by decide +kernel
theorem dX9_count_206 : decode cX9_count 206 = .ok (.iconst (-1), 1) := by decide +kernel
theorem dX9_count_207 : decode cX9_count 207 = .ok (.ireturn, 1) := by decide +kernel
theorem zm_X9_count : ZMv "ClassOfMany" yX9_count cX9_count 2 (some .int) 1 := ⟨kw_5_212, kw_5_210, kw_5_211, kw_1_1, by decide +kernel, by decide⟩
def zf_X9_count (n : Nat) (a1 : Int32) (M : ZMem) : Option (Int32) :=
  (if a1 = (0 : Int32) then zdy M 0 0 (7, 17) (fun o27 => some (M o27 0)) else (if a1 = (1 : Int32) then zdy M 0 0 (7, 17) (fun o28 => some (M o28 1)) else (if a1 = (2 : Int32) then zb1 (zf_X9_conflictCount n M) (fun v29 => some v29) else (if a1 = (3 : Int32) then some (M 12 0) else (if a1 = (4 : Int32) then some (M 12 7) else (if a1 = (5 : Int32) then some (M 12 8) else (if a1 = (6 : Int32) then some (M 12 3) else (if a1 = (7 : Int32) then some (M 12 2) else (if a1 = (8 : Int32) then some (M 12 1) else (if a1 = (9 : Int32) then some (M 12 4) else (if a1 = (10 : Int32) then some (M 12 5) else (if a1 = (11 : Int32) then some (M 12 6) else (if a1 = (12 : Int32) then zb1 (zf_X9_everyone M) (fun v30 => zb1 (zf_X9_claimsOf n v30 M) (fun v31 => some v31)) else (if a1 = (13 : Int32) then some (M 16 2) else (if a1 = (14 : Int32) then some (M 42 1) else (if a1 = (15 : Int32) then zdy M 0 0 (7, 17) (fun o32 => some (M o32 11)) else some (-1 : Int32)))))))))))))))))
set_option maxHeartbeats 4000000 in
set_option maxRecDepth 100000 in
theorem zc_X9_count {l : Launch} {D : va_G} {ad : Nat → Nat} {cA : Nat → ClassId} {n : Nat} {a1 : Int32} {M : ZMem} {r : Int32} (hf : zf_X9_count n a1 M = some r) : ZCt l D ad cA yX9_count cX9_count 2 (some .int) 3 [.ref (ad 0), .int a1] M (some (.int r)) M := by
  refine zct (by decide +kernel) (Nat.le_of_ble_eq_true rfl) (lv := [(0, .ref (ad 0)), (1, .int a1)]) rfl (fun E hl hD had hcA hN hC hR => ?_)
  subst hl; subst hD; subst had; subst hcA
  unfold zf_X9_count at hf
  refine zw_iload_n hC dX9_count_0 rfl 1 rfl ?_
  by_cases hx1_0 : a1 = (0 : Int32)
  · rw [if_pos hx1_0] at hf
    refine zw_tin hC hx1_0 (tgt := 80) dX9_count_1 (by decide) (by decide) rfl (by decide) ?_
    refine zw_aload_n hC dX9_count_80 rfl 0 rfl ?_
    refine zw_getd hC hf zF_ClassOfMany_told zk_0 dX9_count_81 kw_2_168 (fun o27 ho27 hf => ?_)
    refine zw_geti hC zF_Told_members ho27 dX9_count_84 kw_1_38 ?_
    have h1 := Option.some.inj hf
    subst h1
    exact zw_iret hC hR dX9_count_87
  rw [if_neg hx1_0] at hf
  by_cases hx1_1 : a1 = (1 : Int32)
  · rw [if_pos hx1_1] at hf
    refine zw_tin hC hx1_1 (tgt := 88) dX9_count_1 (by decide) (by decide) rfl (by decide) ?_
    refine zw_aload_n hC dX9_count_88 rfl 0 rfl ?_
    refine zw_getd hC hf zF_ClassOfMany_told zk_0 dX9_count_89 kw_2_168 (fun o28 ho28 hf => ?_)
    refine zw_geti hC zF_Told_channels ho28 dX9_count_92 kw_1_44 ?_
    have h1 := Option.some.inj hf
    subst h1
    exact zw_iret hC hR dX9_count_95
  rw [if_neg hx1_1] at hf
  by_cases hx1_2 : a1 = (2 : Int32)
  · rw [if_pos hx1_2] at hf
    refine zw_tin hC hx1_2 (tgt := 96) dX9_count_1 (by decide) (by decide) rfl (by decide) ?_
    refine zw_aload_n hC dX9_count_96 rfl 0 rfl ?_
    obtain ⟨v29, hc29, hf⟩ := zb1_some hf
    refine zw_cV hC [] [] (st1 := [.int v29]) zm_X9_conflictCount (zc_X9_conflictCount hc29) zk_0 rfl kw_5_213 dX9_count_97 rfl (by decide) (Nat.le_of_ble_eq_true rfl) rfl rfl ?_
    have h1 := Option.some.inj hf
    subst h1
    exact zw_iret hC hR dX9_count_100
  rw [if_neg hx1_2] at hf
  by_cases hx1_3 : a1 = (3 : Int32)
  · rw [if_pos hx1_3] at hf
    refine zw_tin hC hx1_3 (tgt := 101) dX9_count_1 (by decide) (by decide) rfl (by decide) ?_
    refine zw_aload_n hC dX9_count_101 rfl 0 rfl ?_
    refine zw_getr (k' := 12) hC zF_ClassOfMany_now zk_0 rfl dX9_count_102 kw_2_169 ?_
    refine zw_geti hC zF_Standing_today zk_12 dX9_count_105 kw_1_133 ?_
    have h1 := Option.some.inj hf
    subst h1
    exact zw_iret hC hR dX9_count_108
  rw [if_neg hx1_3] at hf
  by_cases hx1_4 : a1 = (4 : Int32)
  · rw [if_pos hx1_4] at hf
    refine zw_tin hC hx1_4 (tgt := 109) dX9_count_1 (by decide) (by decide) rfl (by decide) ?_
    refine zw_aload_n hC dX9_count_109 rfl 0 rfl ?_
    refine zw_getr (k' := 12) hC zF_ClassOfMany_now zk_0 rfl dX9_count_110 kw_2_169 ?_
    refine zw_geti hC zF_Standing_fund zk_12 dX9_count_113 kw_1_158 ?_
    have h1 := Option.some.inj hf
    subst h1
    exact zw_iret hC hR dX9_count_116
  rw [if_neg hx1_4] at hf
  by_cases hx1_5 : a1 = (5 : Int32)
  · rw [if_pos hx1_5] at hf
    refine zw_tin hC hx1_5 (tgt := 117) dX9_count_1 (by decide) (by decide) rfl (by decide) ?_
    refine zw_aload_n hC dX9_count_117 rfl 0 rfl ?_
    refine zw_getr (k' := 12) hC zF_ClassOfMany_now zk_0 rfl dX9_count_118 kw_2_169 ?_
    refine zw_geti hC zF_Standing_rule zk_12 dX9_count_121 kw_1_161 ?_
    have h1 := Option.some.inj hf
    subst h1
    exact zw_iret hC hR dX9_count_124
  rw [if_neg hx1_5] at hf
  by_cases hx1_6 : a1 = (6 : Int32)
  · rw [if_pos hx1_6] at hf
    refine zw_tin hC hx1_6 (tgt := 125) dX9_count_1 (by decide) (by decide) rfl (by decide) ?_
    refine zw_aload_n hC dX9_count_125 rfl 0 rfl ?_
    refine zw_getr (k' := 12) hC zF_ClassOfMany_now zk_0 rfl dX9_count_126 kw_2_169 ?_
    refine zw_geti hC zF_Standing_costs zk_12 dX9_count_129 kw_1_141 ?_
    have h1 := Option.some.inj hf
    subst h1
    exact zw_iret hC hR dX9_count_132
  rw [if_neg hx1_6] at hf
  by_cases hx1_7 : a1 = (7 : Int32)
  · rw [if_pos hx1_7] at hf
    refine zw_tin hC hx1_7 (tgt := 133) dX9_count_1 (by decide) (by decide) rfl (by decide) ?_
    refine zw_aload_n hC dX9_count_133 rfl 0 rfl ?_
    refine zw_getr (k' := 12) hC zF_ClassOfMany_now zk_0 rfl dX9_count_134 kw_2_169 ?_
    refine zw_geti hC zF_Standing_sentDay zk_12 dX9_count_137 kw_1_138 ?_
    have h1 := Option.some.inj hf
    subst h1
    exact zw_iret hC hR dX9_count_140
  rw [if_neg hx1_7] at hf
  by_cases hx1_8 : a1 = (8 : Int32)
  · rw [if_pos hx1_8] at hf
    refine zw_tin hC hx1_8 (tgt := 141) dX9_count_1 (by decide) (by decide) rfl (by decide) ?_
    refine zw_aload_n hC dX9_count_141 rfl 0 rfl ?_
    refine zw_getr (k' := 12) hC zF_ClassOfMany_now zk_0 rfl dX9_count_142 kw_2_169 ?_
    refine zw_geti hC zF_Standing_order zk_12 dX9_count_145 kw_1_136 ?_
    have h1 := Option.some.inj hf
    subst h1
    exact zw_iret hC hR dX9_count_148
  rw [if_neg hx1_8] at hf
  by_cases hx1_9 : a1 = (9 : Int32)
  · rw [if_pos hx1_9] at hf
    refine zw_tin hC hx1_9 (tgt := 149) dX9_count_1 (by decide) (by decide) rfl (by decide) ?_
    refine zw_aload_n hC dX9_count_149 rfl 0 rfl ?_
    refine zw_getr (k' := 12) hC zF_ClassOfMany_now zk_0 rfl dX9_count_150 kw_2_169 ?_
    refine zw_geti hC zF_Standing_out zk_12 dX9_count_153 kw_1_146 ?_
    have h1 := Option.some.inj hf
    subst h1
    exact zw_iret hC hR dX9_count_156
  rw [if_neg hx1_9] at hf
  by_cases hx1_10 : a1 = (10 : Int32)
  · rw [if_pos hx1_10] at hf
    refine zw_tin hC hx1_10 (tgt := 157) dX9_count_1 (by decide) (by decide) rfl (by decide) ?_
    refine zw_aload_n hC dX9_count_157 rfl 0 rfl ?_
    refine zw_getr (k' := 12) hC zF_ClassOfMany_now zk_0 rfl dX9_count_158 kw_2_169 ?_
    refine zw_geti hC zF_Standing_filed zk_12 dX9_count_161 kw_1_150 ?_
    have h1 := Option.some.inj hf
    subst h1
    exact zw_iret hC hR dX9_count_164
  rw [if_neg hx1_10] at hf
  by_cases hx1_11 : a1 = (11 : Int32)
  · rw [if_pos hx1_11] at hf
    refine zw_tin hC hx1_11 (tgt := 165) dX9_count_1 (by decide) (by decide) rfl (by decide) ?_
    refine zw_aload_n hC dX9_count_165 rfl 0 rfl ?_
    refine zw_getr (k' := 12) hC zF_ClassOfMany_now zk_0 rfl dX9_count_166 kw_2_169 ?_
    refine zw_geti hC zF_Standing_lazy zk_12 dX9_count_169 kw_1_154 ?_
    have h1 := Option.some.inj hf
    subst h1
    exact zw_iret hC hR dX9_count_172
  rw [if_neg hx1_11] at hf
  by_cases hx1_12 : a1 = (12 : Int32)
  · rw [if_pos hx1_12] at hf
    refine zw_tin hC hx1_12 (tgt := 173) dX9_count_1 (by decide) (by decide) rfl (by decide) ?_
    refine zw_aload_n hC dX9_count_173 rfl 0 rfl ?_
    refine zw_aload_n hC dX9_count_174 rfl 0 rfl ?_
    obtain ⟨v30, hc30, hf⟩ := zb1_some hf
    refine zw_cV hC [] [.ref (zad E 0)] (st1 := [.int v30, .ref (zad E 0)]) zm_X9_everyone (zc_X9_everyone hc30) zk_0 rfl kw_4_6 dX9_count_175 rfl (by decide) (Nat.le_of_ble_eq_true rfl) rfl rfl ?_
    obtain ⟨v31, hc31, hf⟩ := zb1_some hf
    refine zw_cV hC [.int v30] [] (st1 := [.int v31]) zm_X9_claimsOf (zc_X9_claimsOf hc31) zk_0 rfl kw_4_10 dX9_count_178 rfl (by decide) (Nat.le_of_ble_eq_true rfl) rfl rfl ?_
    have h1 := Option.some.inj hf
    subst h1
    exact zw_iret hC hR dX9_count_181
  rw [if_neg hx1_12] at hf
  by_cases hx1_13 : a1 = (13 : Int32)
  · rw [if_pos hx1_13] at hf
    refine zw_tin hC hx1_13 (tgt := 182) dX9_count_1 (by decide) (by decide) rfl (by decide) ?_
    refine zw_aload_n hC dX9_count_182 rfl 0 rfl ?_
    refine zw_getr (k' := 16) hC zF_ClassOfMany_journal zk_0 rfl dX9_count_183 kw_2_171 ?_
    refine zw_geti hC zF_Journal_size zk_16 dX9_count_186 kw_1_209 ?_
    have h1 := Option.some.inj hf
    subst h1
    exact zw_iret hC hR dX9_count_189
  rw [if_neg hx1_13] at hf
  by_cases hx1_14 : a1 = (14 : Int32)
  · rw [if_pos hx1_14] at hf
    refine zw_tin hC hx1_14 (tgt := 190) dX9_count_1 (by decide) (by decide) rfl (by decide) ?_
    refine zw_aload_n hC dX9_count_190 rfl 0 rfl ?_
    refine zw_getr (k' := 42) hC zF_ClassOfMany_reader zk_0 rfl dX9_count_191 kw_2_172 ?_
    refine zw_geti hC zF_Reader_length zk_42 dX9_count_194 kw_1_228 ?_
    have h1 := Option.some.inj hf
    subst h1
    exact zw_iret hC hR dX9_count_197
  rw [if_neg hx1_14] at hf
  by_cases hx1_15 : a1 = (15 : Int32)
  · rw [if_pos hx1_15] at hf
    refine zw_tin hC hx1_15 (tgt := 198) dX9_count_1 (by decide) (by decide) rfl (by decide) ?_
    refine zw_aload_n hC dX9_count_198 rfl 0 rfl ?_
    refine zw_getd hC hf zF_ClassOfMany_told zk_0 dX9_count_199 kw_2_168 (fun o32 ho32 hf => ?_)
    refine zw_geti hC zF_Told_lines ho32 dX9_count_202 kw_1_80 ?_
    have h1 := Option.some.inj hf
    subst h1
    exact zw_iret hC hR dX9_count_205
  rw [if_neg hx1_15] at hf
  refine zw_tout hC (tgt := 206) dX9_count_1 (ztout (n := 15) (fun k hk => by match k, hk with | 0, _ => exact hx1_0 | 1, _ => exact hx1_1 | 2, _ => exact hx1_2 | 3, _ => exact hx1_3 | 4, _ => exact hx1_4 | 5, _ => exact hx1_5 | 6, _ => exact hx1_6 | 7, _ => exact hx1_7 | 8, _ => exact hx1_8 | 9, _ => exact hx1_9 | 10, _ => exact hx1_10 | 11, _ => exact hx1_11 | 12, _ => exact hx1_12 | 13, _ => exact hx1_13 | 14, _ => exact hx1_14 | 15, _ => exact hx1_15 | k + 16, hk => exact absurd hk (by omega))) (by decide) ?_
  refine zw_iconst hC (v := (-1 : Int32)) dX9_count_206 (by decide) ?_
  have h1 := Option.some.inj hf
  subst h1
  exact zw_iret hC hR dX9_count_207
/-! ClassOfManyModel.anew()V -/
theorem dX10_anew_0 : decode cX10_anew 0 = .ok (.iconst 0, 1) := by decide +kernel
theorem dX10_anew_1 : decode cX10_anew 1 = .ok (.istore_n 1, 1) := by decide +kernel
theorem dX10_anew_2 : decode cX10_anew 2 = .ok (.iload_n 1, 1) := by decide +kernel
theorem dX10_anew_3 : decode cX10_anew 3 = .ok (.bipush 73, 2) := by decide +kernel
theorem dX10_anew_5 : decode cX10_anew 5 = .ok (.if_icmp .ge 16, 3) := by decide +kernel
theorem dX10_anew_8 : decode cX10_anew 8 = .ok (.aload_n 0, 1) := by decide +kernel
theorem dX10_anew_9 : decode cX10_anew 9 = .ok (.getfield 7, 3) := by decide +kernel
theorem dX10_anew_12 : decode cX10_anew 12 = .ok (.iload_n 1, 1) := by decide +kernel
theorem dX10_anew_13 : decode cX10_anew 13 = .ok (.iconst 0, 1) := by decide +kernel
theorem dX10_anew_14 : decode cX10_anew 14 = .ok (.iastore, 1) := by decide +kernel
theorem dX10_anew_15 : decode cX10_anew 15 = .ok (.iinc 1 1, 3) := by decide +kernel
theorem dX10_anew_18 : decode cX10_anew 18 = .ok (.goto (-16), 3) := by decide +kernel
theorem dX10_anew_21 : decode cX10_anew 21 = .ok (.aload_n 0, 1) := by decide +kernel
theorem dX10_anew_22 : decode cX10_anew 22 = .ok (.getfield 7, 3) := by decide +kernel
theorem dX10_anew_25 : decode cX10_anew 25 = .ok (.iconst 5, 1) := by decide +kernel
theorem dX10_anew_26 : decode cX10_anew 26 = .ok (.bipush 99, 2) := by decide +kernel
theorem dX10_anew_28 : decode cX10_anew 28 = .ok (.iastore, 1) := by decide +kernel
theorem dX10_anew_29 : decode cX10_anew 29 = .ok (.aload_n 0, 1) := by decide +kernel
theorem dX10_anew_30 : decode cX10_anew 30 = .ok (.getfield 7, 3) := by decide +kernel
theorem dX10_anew_33 : decode cX10_anew 33 = .ok (.bipush 7, 2) := by decide +kernel
theorem dX10_anew_35 : decode cX10_anew 35 = .ok (.bipush 99, 2) := by decide +kernel
theorem dX10_anew_37 : decode cX10_anew 37 = .ok (.iastore, 1) := by decide +kernel
theorem dX10_anew_38 : decode cX10_anew 38 = .ok (.aload_n 0, 1) := by decide +kernel
theorem dX10_anew_39 : decode cX10_anew 39 = .ok (.getfield 7, 3) := by decide +kernel
theorem dX10_anew_42 : decode cX10_anew 42 = .ok (.bipush 11, 2) := by decide +kernel
theorem dX10_anew_44 : decode cX10_anew 44 = .ok (.iconst (-1), 1) := by decide +kernel
theorem dX10_anew_45 : decode cX10_anew 45 = .ok (.iastore, 1) := by decide +kernel
theorem dX10_anew_46 : decode cX10_anew 46 = .ok (.return_, 1) := by decide +kernel
theorem zm_X10_anew : ZMv "ClassOfManyModel" yX10_anew cX10_anew 2 (none) 0 := ⟨kw_5_226, kw_5_225, kp_57, kw_1_10, by decide +kernel, by decide⟩
def zf_X10_anew_L2 (K21 : ZMem → Option (ZMem)) : Nat → Int32 → ZMem → Option (ZMem)
  | 0, _, _ => none
  | n2 + 1, v25, M26 =>
  (if (73 : Int32) ≤ v25 then (K21 M26) else zst M26 78 73 v25 (0 : Int32) (fun M28 => (zf_X10_anew_L2 K21 n2 (v25 + (1 : Int32)) M28)))
def zf_X10_anew (n : Nat) (M : ZMem) : Option (ZMem) :=
  (zf_X10_anew_L2 (fun M29 => zst M29 78 73 (5 : Int32) (99 : Int32) (fun M30 => zst M30 78 73 (7 : Int32) (99 : Int32) (fun M31 => zst M31 78 73 (11 : Int32) (-1 : Int32) (fun M32 => some M32)))) n (0 : Int32) M)
set_option maxHeartbeats 4000000 in
set_option maxRecDepth 100000 in
theorem zc_X10_anew {l : Launch} {D : va_G} {ad : Nat → Nat} {cA : Nat → ClassId} {n : Nat} {M : ZMem} {M' : ZMem} (hf : zf_X10_anew n M = some M') : ZCt l D ad cA yX10_anew cX10_anew 2 (none) 1 [.ref (ad 77)] M none M' := by
  refine zct (by decide +kernel) (Nat.le_of_ble_eq_true rfl) (lv := [(0, .ref (ad 77))]) rfl (fun E hl hD had hcA hN hC hR => ?_)
  subst hl; subst hD; subst had; subst hcA
  unfold zf_X10_anew at hf
  refine zw_iconst hC (v := (0 : Int32)) dX10_anew_0 (by decide) ?_
  refine zw_istore_n hC (lv' := [(1, .int (0 : Int32)), (0, .ref (zad E 77))]) dX10_anew_1 rfl hN (by decide) rfl ?_
  have hL2 : ∀ (K21 : ZMem → Option (ZMem)), (∀ (M27 : ZMem), K21 M27 = some M' → ZW E 21 [(0, .ref (zad E 77))] [] M27) → ∀ (n2 : Nat), ∀ (v25 : Int32), ∀ (M26 : ZMem), zf_X10_anew_L2 K21 n2 v25 M26 = some M' → ZW E 2 [(0, .ref (zad E 77)), (1, .int v25)] [] M26 := by
    intro K21 hK21
    intro n2
    induction n2 with
    | zero => intro v25 M26 hf; rw [zf_X10_anew_L2] at hf; cases hf
    | succ n2 ih2 =>
      intro v25 M26 hf
      rw [zf_X10_anew_L2] at hf
      refine zw_iload_n hC dX10_anew_2 rfl 1 rfl ?_
      refine zw_bipush hC (v := (73 : Int32)) dX10_anew_3 (by decide) ?_
      refine zw_icmp_ge hC 21 hf dX10_anew_5 (by decide) (fun hf => ?_) (fun hf => ?_)
      · exact zw_sub [0] rfl (hK21 M26 hf)
      · refine zw_aload_n hC dX10_anew_8 rfl 0 rfl ?_
        refine zw_getr (k' := 78) hC zF_Model_now zk_77 rfl dX10_anew_9 kw_5_227 ?_
        refine zw_iload_n hC dX10_anew_12 rfl 1 rfl ?_
        refine zw_iconst hC (v := (0 : Int32)) dX10_anew_13 (by decide) ?_
        refine zw_iast hC hf zk_78 dX10_anew_14 (fun M28 hf => ?_)
        refine zw_iinc hC (v := (1 : Int32)) (lv' := [(1, .int (v25 + (1 : Int32))), (0, .ref (zad E 77))]) dX10_anew_15 1 rfl (by decide) hN (by decide) rfl ?_
        refine zw_goto hC 2 dX10_anew_18 (by decide) ?_
        exact zw_sub [1, 0] rfl (ih2 (v25 + (1 : Int32)) M28 hf)
  refine zw_sub [1, 0] rfl (hL2 _ ?_ n (0 : Int32) M hf)
  · intro M29 hf
    refine zw_aload_n hC dX10_anew_21 rfl 0 rfl ?_
    refine zw_getr (k' := 78) hC zF_Model_now zk_77 rfl dX10_anew_22 kw_5_227 ?_
    refine zw_iconst hC (v := (5 : Int32)) dX10_anew_25 (by decide) ?_
    refine zw_bipush hC (v := (99 : Int32)) dX10_anew_26 (by decide) ?_
    refine zw_iast hC hf zk_78 dX10_anew_28 (fun M30 hf => ?_)
    refine zw_aload_n hC dX10_anew_29 rfl 0 rfl ?_
    refine zw_getr (k' := 78) hC zF_Model_now zk_77 rfl dX10_anew_30 kw_5_227 ?_
    refine zw_bipush hC (v := (7 : Int32)) dX10_anew_33 (by decide) ?_
    refine zw_bipush hC (v := (99 : Int32)) dX10_anew_35 (by decide) ?_
    refine zw_iast hC hf zk_78 dX10_anew_37 (fun M31 hf => ?_)
    refine zw_aload_n hC dX10_anew_38 rfl 0 rfl ?_
    refine zw_getr (k' := 78) hC zF_Model_now zk_77 rfl dX10_anew_39 kw_5_227 ?_
    refine zw_bipush hC (v := (11 : Int32)) dX10_anew_42 (by decide) ?_
    refine zw_iconst hC (v := (-1 : Int32)) dX10_anew_44 (by decide) ?_
    refine zw_iast hC hf zk_78 dX10_anew_45 (fun M32 hf => ?_)
    have h1 := Option.some.inj hf
    subst h1
    exact zw_vret hC hR dX10_anew_46
/-! ClassOfManyModel.isIn(III)Z -/
theorem dX10_isIn_0 : decode cX10_isIn 0 = .ok (.iload_n 0, 1) := by decide +kernel
theorem dX10_isIn_1 : decode cX10_isIn 1 = .ok (.iload_n 1, 1) := by decide +kernel
theorem dX10_isIn_2 : decode cX10_isIn 2 = .ok (.if_icmp .lt 12, 3) := by decide +kernel
theorem dX10_isIn_5 : decode cX10_isIn 5 = .ok (.iload_n 0, 1) := by decide +kernel
theorem dX10_isIn_6 : decode cX10_isIn 6 = .ok (.iload_n 2, 1) := by decide +kernel
theorem dX10_isIn_7 : decode cX10_isIn 7 = .ok (.if_icmp .gt 7, 3) := by decide +kernel
theorem dX10_isIn_10 : decode cX10_isIn 10 = .ok (.iconst 1, 1) := by decide +kernel
theorem dX10_isIn_11 : decode cX10_isIn 11 = .ok (.goto 4, 3) := by decide +kernel
theorem dX10_isIn_14 : decode cX10_isIn 14 = .ok (.iconst 0, 1) := by decide +kernel
theorem dX10_isIn_15 : decode cX10_isIn 15 = .ok (.ireturn, 1) := by decide +kernel
theorem zm_X10_isIn : ZMs yX10_isIn cX10_isIn 3 (some .boolean) 3 := ⟨kw_6_108, kw_6_107, kw_1_10, by decide +kernel, by decide⟩
def zf_X10_isIn_j15 (v21 : Int32) : Option (Int32) :=
  zbz v21 (some v21)
def zf_X10_isIn_j14 : Option (Int32) :=
  (zf_X10_isIn_j15 (0 : Int32))
def zf_X10_isIn (a0 : Int32) (a1 : Int32) (a2 : Int32) : Option (Int32) :=
  (if a0 < a1 then (zf_X10_isIn_j14) else (if a2 < a0 then (zf_X10_isIn_j14) else (zf_X10_isIn_j15 (1 : Int32))))
set_option maxHeartbeats 4000000 in
set_option maxRecDepth 100000 in
theorem zc_X10_isIn {l : Launch} {D : va_G} {ad : Nat → Nat} {cA : Nat → ClassId} {a0 : Int32} {a1 : Int32} {a2 : Int32} {M : ZMem} {r : Int32} (hf : zf_X10_isIn a0 a1 a2 = some r) : ZCt l D ad cA yX10_isIn cX10_isIn 3 (some .boolean) 1 [.int a0, .int a1, .int a2] M (some (.int r)) M := by
  refine zct (by decide +kernel) (Nat.le_of_ble_eq_true rfl) (lv := [(0, .int a0), (1, .int a1), (2, .int a2)]) rfl (fun E hl hD had hcA hN hC hR => ?_)
  subst hl; subst hD; subst had; subst hcA
  unfold zf_X10_isIn at hf
  refine zw_iload_n hC dX10_isIn_0 rfl 0 rfl ?_
  refine zw_iload_n hC dX10_isIn_1 rfl 1 rfl ?_
  have hj15 : ∀ (v21 : Int32), zf_X10_isIn_j15 v21 = some r → ZW E 15 [] [.int v21] M := by
    intro v21 hf
    unfold zf_X10_isIn_j15 at hf
    obtain ⟨hz, hf⟩ := zbz_some hf
    have h1 := Option.some.inj hf
    subst h1
    exact zw_zret hC hR hz dX10_isIn_15
  have hj14 : zf_X10_isIn_j14 = some r → ZW E 14 [] [] M := by
    intro  hf
    unfold zf_X10_isIn_j14 at hf
    refine zw_iconst hC (v := (0 : Int32)) dX10_isIn_14 (by decide) ?_
    exact hj15 (0 : Int32) hf
  refine zw_icmp_lt hC 14 hf dX10_isIn_2 (by decide) (fun hf => ?_) (fun hf => ?_)
  · exact zw_sub [] rfl (hj14 hf)
  · refine zw_iload_n hC dX10_isIn_5 rfl 0 rfl ?_
    refine zw_iload_n hC dX10_isIn_6 rfl 2 rfl ?_
    refine zw_icmp_gt hC 14 hf dX10_isIn_7 (by decide) (fun hf => ?_) (fun hf => ?_)
    · exact zw_sub [] rfl (hj14 hf)
    · refine zw_iconst hC (v := (1 : Int32)) dX10_isIn_10 (by decide) ?_
      refine zw_goto hC 15 dX10_isIn_11 (by decide) ?_
      exact zw_sub [] rfl (hj15 (1 : Int32) hf)
/-! ClassOfManyModel.has(II)Z -/
theorem dX10_has_0 : decode cX10_has 0 = .ok (.iload_n 0, 1) := by decide +kernel
theorem dX10_has_1 : decode cX10_has 1 = .ok (.iload_n 1, 1) := by decide +kernel
theorem dX10_has_2 : decode cX10_has 2 = .ok (.ishr, 1) := by decide +kernel
theorem dX10_has_3 : decode cX10_has 3 = .ok (.iconst 1, 1) := by decide +kernel
theorem dX10_has_4 : decode cX10_has 4 = .ok (.iand, 1) := by decide +kernel
theorem dX10_has_5 : decode cX10_has 5 = .ok (.iconst 1, 1) := by decide +kernel
theorem dX10_has_6 : decode cX10_has 6 = .ok (.if_icmp .ne 7, 3) := by decide +kernel
theorem dX10_has_9 : decode cX10_has 9 = .ok (.iconst 1, 1) := by decide +kernel
theorem dX10_has_10 : decode cX10_has 10 = .ok (.goto 4, 3) := by decide +kernel
theorem dX10_has_13 : decode cX10_has 13 = .ok (.iconst 0, 1) := by decide +kernel
theorem dX10_has_14 : decode cX10_has 14 = .ok (.ireturn, 1) := by decide +kernel
theorem zm_X10_has : ZMs yX10_has cX10_has 2 (some .boolean) 2 := ⟨kw_6_152, kw_6_151, kw_1_10, by decide +kernel, by decide⟩
def zf_X10_has_j14 (v21 : Int32) : Option (Int32) :=
  zbz v21 (some v21)
def zf_X10_has (a0 : Int32) (a1 : Int32) : Option (Int32) :=
  (if ((a0 >>> (a1 &&& 31)) &&& (1 : Int32)) = (1 : Int32) then (zf_X10_has_j14 (1 : Int32)) else (zf_X10_has_j14 (0 : Int32)))
set_option maxHeartbeats 4000000 in
set_option maxRecDepth 100000 in
theorem zc_X10_has {l : Launch} {D : va_G} {ad : Nat → Nat} {cA : Nat → ClassId} {a0 : Int32} {a1 : Int32} {M : ZMem} {r : Int32} (hf : zf_X10_has a0 a1 = some r) : ZCt l D ad cA yX10_has cX10_has 2 (some .boolean) 1 [.int a0, .int a1] M (some (.int r)) M := by
  refine zct (by decide +kernel) (Nat.le_of_ble_eq_true rfl) (lv := [(0, .int a0), (1, .int a1)]) rfl (fun E hl hD had hcA hN hC hR => ?_)
  subst hl; subst hD; subst had; subst hcA
  unfold zf_X10_has at hf
  refine zw_iload_n hC dX10_has_0 rfl 0 rfl ?_
  refine zw_iload_n hC dX10_has_1 rfl 1 rfl ?_
  refine zw_ishr hC dX10_has_2 ?_
  refine zw_iconst hC (v := (1 : Int32)) dX10_has_3 (by decide) ?_
  refine zw_iand hC dX10_has_4 ?_
  refine zw_iconst hC (v := (1 : Int32)) dX10_has_5 (by decide) ?_
  have hj14 : ∀ (v21 : Int32), zf_X10_has_j14 v21 = some r → ZW E 14 [] [.int v21] M := by
    intro v21 hf
    unfold zf_X10_has_j14 at hf
    obtain ⟨hz, hf⟩ := zbz_some hf
    have h1 := Option.some.inj hf
    subst h1
    exact zw_zret hC hR hz dX10_has_14
  refine zw_icmp_ne hC 13 hf dX10_has_6 (by decide) (fun hf => ?_) (fun hf => ?_)
  · refine zw_iconst hC (v := (0 : Int32)) dX10_has_13 (by decide) ?_
    exact zw_sub [] rfl (hj14 (0 : Int32) hf)
  · refine zw_iconst hC (v := (1 : Int32)) dX10_has_9 (by decide) ?_
    refine zw_goto hC 14 dX10_has_10 (by decide) ?_
    exact zw_sub [] rfl (hj14 (1 : Int32) hf)
/-! ClassOfManyModel.bits(I)I -/
theorem dX10_bits_0 : decode cX10_bits 0 = .ok (.iconst 0, 1) := by decide +kernel
theorem dX10_bits_1 : decode cX10_bits 1 = .ok (.istore_n 1, 1) := by decide +kernel
theorem dX10_bits_2 : decode cX10_bits 2 = .ok (.iconst 0, 1) := by decide +kernel
theorem dX10_bits_3 : decode cX10_bits 3 = .ok (.istore_n 2, 1) := by decide +kernel
theorem dX10_bits_4 : decode cX10_bits 4 = .ok (.iload_n 2, 1) := by decide +kernel
theorem dX10_bits_5 : decode cX10_bits 5 = .ok (.bipush 10, 2) := by decide +kernel
theorem dX10_bits_7 : decode cX10_bits 7 = .ok (.if_icmp .ge 17, 3) := by decide +kernel
theorem dX10_bits_10 : decode cX10_bits 10 = .ok (.iload_n 1, 1) := by decide +kernel
theorem dX10_bits_11 : decode cX10_bits 11 = .ok (.iload_n 0, 1) := by decide +kernel
theorem dX10_bits_12 : decode cX10_bits 12 = .ok (.iload_n 2, 1) := by decide +kernel
theorem dX10_bits_13 : decode cX10_bits 13 = .ok (.ishr, 1) := by decide +kernel
theorem dX10_bits_14 : decode cX10_bits 14 = .ok (.iconst 1, 1) := by decide +kernel
theorem dX10_bits_15 : decode cX10_bits 15 = .ok (.iand, 1) := by decide +kernel
theorem dX10_bits_16 : decode cX10_bits 16 = .ok (.iadd, 1) := by decide +kernel
theorem dX10_bits_17 : decode cX10_bits 17 = .ok (.istore_n 1, 1) := by decide +kernel
theorem dX10_bits_18 : decode cX10_bits 18 = .ok (.iinc 2 1, 3) := by decide +kernel
theorem dX10_bits_21 : decode cX10_bits 21 = .ok (.goto (-17), 3) := by decide +kernel
theorem dX10_bits_24 : decode cX10_bits 24 = .ok (.iload_n 1, 1) := by decide +kernel
theorem dX10_bits_25 : decode cX10_bits 25 = .ok (.ireturn, 1) := by decide +kernel
theorem zm_X10_bits : ZMs yX10_bits cX10_bits 3 (some .int) 1 := ⟨kw_7_23, kw_7_22, kw_1_10, by decide +kernel, by decide⟩
def zf_X10_bits_L4 (a0 : Int32) (K24 : Int32 → Option (Int32)) : Nat → Int32 → Int32 → Option (Int32)
  | 0, _, _ => none
  | n4 + 1, v21, v22 =>
  (if (10 : Int32) ≤ v22 then (K24 v21) else (zf_X10_bits_L4 a0 K24 n4 (v21 + ((a0 >>> (v22 &&& 31)) &&& (1 : Int32))) (v22 + (1 : Int32))))
def zf_X10_bits (n : Nat) (a0 : Int32) : Option (Int32) :=
  (zf_X10_bits_L4 a0 (fun v24 => some v24) n (0 : Int32) (0 : Int32))
set_option maxHeartbeats 4000000 in
set_option maxRecDepth 100000 in
theorem zc_X10_bits {l : Launch} {D : va_G} {ad : Nat → Nat} {cA : Nat → ClassId} {n : Nat} {a0 : Int32} {M : ZMem} {r : Int32} (hf : zf_X10_bits n a0 = some r) : ZCt l D ad cA yX10_bits cX10_bits 3 (some .int) 1 [.int a0] M (some (.int r)) M := by
  refine zct (by decide +kernel) (Nat.le_of_ble_eq_true rfl) (lv := [(0, .int a0)]) rfl (fun E hl hD had hcA hN hC hR => ?_)
  subst hl; subst hD; subst had; subst hcA
  unfold zf_X10_bits at hf
  refine zw_iconst hC (v := (0 : Int32)) dX10_bits_0 (by decide) ?_
  refine zw_istore_n hC (lv' := [(1, .int (0 : Int32)), (0, .int a0)]) dX10_bits_1 rfl hN (by decide) rfl ?_
  refine zw_iconst hC (v := (0 : Int32)) dX10_bits_2 (by decide) ?_
  refine zw_istore_n hC (lv' := [(2, .int (0 : Int32)), (1, .int (0 : Int32)), (0, .int a0)]) dX10_bits_3 rfl hN (by decide) rfl ?_
  have hL4 : ∀ (K24 : Int32 → Option (Int32)), (∀ (v23 : Int32), K24 v23 = some r → ZW E 24 [(1, .int v23)] [] M) → ∀ (n4 : Nat), ∀ (v21 : Int32), ∀ (v22 : Int32), zf_X10_bits_L4 a0 K24 n4 v21 v22 = some r → ZW E 4 [(0, .int a0), (1, .int v21), (2, .int v22)] [] M := by
    intro K24 hK24
    intro n4
    induction n4 with
    | zero => intro v21 v22 hf; rw [zf_X10_bits_L4] at hf; cases hf
    | succ n4 ih4 =>
      intro v21 v22 hf
      rw [zf_X10_bits_L4] at hf
      refine zw_iload_n hC dX10_bits_4 rfl 2 rfl ?_
      refine zw_bipush hC (v := (10 : Int32)) dX10_bits_5 (by decide) ?_
      refine zw_icmp_ge hC 24 hf dX10_bits_7 (by decide) (fun hf => ?_) (fun hf => ?_)
      · exact zw_sub [1] rfl (hK24 v21 hf)
      · refine zw_iload_n hC dX10_bits_10 rfl 1 rfl ?_
        refine zw_iload_n hC dX10_bits_11 rfl 0 rfl ?_
        refine zw_iload_n hC dX10_bits_12 rfl 2 rfl ?_
        refine zw_ishr hC dX10_bits_13 ?_
        refine zw_iconst hC (v := (1 : Int32)) dX10_bits_14 (by decide) ?_
        refine zw_iand hC dX10_bits_15 ?_
        refine zw_iadd hC dX10_bits_16 ?_
        refine zw_istore_n hC (lv' := [(1, .int (v21 + ((a0 >>> (v22 &&& 31)) &&& (1 : Int32)))), (0, .int a0), (2, .int v22)]) dX10_bits_17 rfl hN (by decide) rfl ?_
        refine zw_iinc hC (v := (1 : Int32)) (lv' := [(2, .int (v22 + (1 : Int32))), (1, .int (v21 + ((a0 >>> (v22 &&& 31)) &&& (1 : Int32)))), (0, .int a0)]) dX10_bits_18 2 rfl (by decide) hN (by decide) rfl ?_
        refine zw_goto hC 4 dX10_bits_21 (by decide) ?_
        exact zw_sub [2, 1, 0] rfl (ih4 (v21 + ((a0 >>> (v22 &&& 31)) &&& (1 : Int32))) (v22 + (1 : Int32)) hf)
  refine zw_sub [2, 1, 0] rfl (hL4 _ ?_ n (0 : Int32) (0 : Int32) hf)
  · intro v24 hf
    refine zw_iload_n hC dX10_bits_24 rfl 0 rfl ?_
    have h1 := Option.some.inj hf
    subst h1
    exact zw_iret hC hR dX10_bits_25
/-! ClassOfManyModel.isMember(I)Z -/
theorem dX10_isMember_0 : decode cX10_isMember 0 = .ok (.iload_n 1, 1) := by decide +kernel
theorem dX10_isMember_1 : decode cX10_isMember 1 = .ok (.iconst 0, 1) := by decide +kernel
theorem dX10_isMember_2 : decode cX10_isMember 2 = .ok (.aload_n 0, 1) := by decide +kernel
theorem dX10_isMember_3 : decode cX10_isMember 3 = .ok (.getfield 7, 3) := by decide +kernel
theorem dX10_isMember_6 : decode cX10_isMember 6 = .ok (.iconst 0, 1) := by decide +kernel
theorem dX10_isMember_7 : decode cX10_isMember 7 = .ok (.iaload, 1) := by decide +kernel
theorem dX10_isMember_8 : decode cX10_isMember 8 = .ok (.iconst 1, 1) := by decide +kernel
theorem dX10_isMember_9 : decode cX10_isMember 9 = .ok (.isub, 1) := by decide +kernel
theorem dX10_isMember_10 : decode cX10_isMember 10 = .ok (.invokestatic 65, 3) := by decide +kernel
theorem dX10_isMember_13 : decode cX10_isMember 13 = .ok (.ireturn, 1) := by decide +kernel
theorem zm_X10_isMember : ZMv "ClassOfManyModel" yX10_isMember cX10_isMember 2 (some .boolean) 1 := ⟨kw_7_8, kw_7_7, kp_83, kw_1_10, by decide +kernel, by decide⟩
def zf_X10_isMember (a1 : Int32) (M : ZMem) : Option (Int32) :=
  zrd M 78 73 (0 : Int32) (fun v23 => zb1 (zf_X10_isIn a1 (0 : Int32) (v23 - (1 : Int32))) (fun v24 => zbz v24 (some v24)))
set_option maxHeartbeats 4000000 in
set_option maxRecDepth 100000 in
theorem zc_X10_isMember {l : Launch} {D : va_G} {ad : Nat → Nat} {cA : Nat → ClassId} {a1 : Int32} {M : ZMem} {r : Int32} (hf : zf_X10_isMember a1 M = some r) : ZCt l D ad cA yX10_isMember cX10_isMember 2 (some .boolean) 2 [.ref (ad 77), .int a1] M (some (.int r)) M := by
  refine zct (by decide +kernel) (Nat.le_of_ble_eq_true rfl) (lv := [(0, .ref (ad 77)), (1, .int a1)]) rfl (fun E hl hD had hcA hN hC hR => ?_)
  subst hl; subst hD; subst had; subst hcA
  unfold zf_X10_isMember at hf
  refine zw_iload_n hC dX10_isMember_0 rfl 1 rfl ?_
  refine zw_iconst hC (v := (0 : Int32)) dX10_isMember_1 (by decide) ?_
  refine zw_aload_n hC dX10_isMember_2 rfl 0 rfl ?_
  refine zw_getr (k' := 78) hC zF_Model_now zk_77 rfl dX10_isMember_3 kw_5_227 ?_
  refine zw_iconst hC (v := (0 : Int32)) dX10_isMember_6 (by decide) ?_
  refine zw_iald hC hf zk_78 dX10_isMember_7 (fun v23 hf => ?_)
  refine zw_iconst hC (v := (1 : Int32)) dX10_isMember_8 (by decide) ?_
  refine zw_isub hC dX10_isMember_9 ?_
  obtain ⟨v24, hc24, hf⟩ := zb1_some hf
  refine zw_cS hC [.int a1, .int (0 : Int32), .int (v23 - (1 : Int32))] [] (st1 := [.int v24]) zm_X10_isIn (zc_X10_isIn hc24) kw_6_106 dX10_isMember_10 rfl (by decide) (Nat.le_of_ble_eq_true rfl) rfl rfl ?_
  obtain ⟨hz, hf⟩ := zbz_some hf
  have h1 := Option.some.inj hf
  subst h1
  exact zw_zret hC hR hz dX10_isMember_13
/-! ClassOfManyModel.all()I -/
theorem dX10_all_0 : decode cX10_all 0 = .ok (.iconst 1, 1) := by decide +kernel
theorem dX10_all_1 : decode cX10_all 1 = .ok (.aload_n 0, 1) := by decide +kernel
theorem dX10_all_2 : decode cX10_all 2 = .ok (.getfield 7, 3) := by decide +kernel
theorem dX10_all_5 : decode cX10_all 5 = .ok (.iconst 0, 1) := by decide +kernel
theorem dX10_all_6 : decode cX10_all 6 = .ok (.iaload, 1) := by decide +kernel
theorem dX10_all_7 : decode cX10_all 7 = .ok (.ishl, 1) := by decide +kernel
theorem dX10_all_8 : decode cX10_all 8 = .ok (.iconst 1, 1) := by decide +kernel
theorem dX10_all_9 : decode cX10_all 9 = .ok (.isub, 1) := by decide +kernel
theorem dX10_all_10 : decode cX10_all 10 = .ok (.ireturn, 1) := by decide +kernel
theorem zm_X10_all : ZMv "ClassOfManyModel" yX10_all cX10_all 1 (some .int) 0 := ⟨kw_7_47, kw_7_46, kp_87, kw_1_10, by decide +kernel, by decide⟩
def zf_X10_all (M : ZMem) : Option (Int32) :=
  zrd M 78 73 (0 : Int32) (fun v22 => some (((1 : Int32) <<< (v22 &&& 31)) - (1 : Int32)))
set_option maxHeartbeats 4000000 in
set_option maxRecDepth 100000 in
theorem zc_X10_all {l : Launch} {D : va_G} {ad : Nat → Nat} {cA : Nat → ClassId} {M : ZMem} {r : Int32} (hf : zf_X10_all M = some r) : ZCt l D ad cA yX10_all cX10_all 1 (some .int) 1 [.ref (ad 77)] M (some (.int r)) M := by
  refine zct (by decide +kernel) (Nat.le_of_ble_eq_true rfl) (lv := [(0, .ref (ad 77))]) rfl (fun E hl hD had hcA hN hC hR => ?_)
  subst hl; subst hD; subst had; subst hcA
  unfold zf_X10_all at hf
  refine zw_iconst hC (v := (1 : Int32)) dX10_all_0 (by decide) ?_
  refine zw_aload_n hC dX10_all_1 rfl 0 rfl ?_
  refine zw_getr (k' := 78) hC zF_Model_now zk_77 rfl dX10_all_2 kw_5_227 ?_
  refine zw_iconst hC (v := (0 : Int32)) dX10_all_5 (by decide) ?_
  refine zw_iald hC hf zk_78 dX10_all_6 (fun v22 hf => ?_)
  refine zw_ishl hC dX10_all_7 ?_
  refine zw_iconst hC (v := (1 : Int32)) dX10_all_8 (by decide) ?_
  refine zw_isub hC dX10_all_9 ?_
  have h1 := Option.some.inj hf
  subst h1
  exact zw_iret hC hR dX10_all_10
/-! ClassOfManyModel.feed(IIIII)I -/
theorem dX10_feed_0 : decode cX10_feed 0 = .ok (.aload_n 0, 1) := by decide +kernel
theorem dX10_feed_1 : decode cX10_feed 1 = .ok (.getfield 69, 3) := by decide +kernel
theorem dX10_feed_4 : decode cX10_feed 4 = .ok (.bipush 20, 2) := by decide +kernel
theorem dX10_feed_6 : decode cX10_feed 6 = .ok (.iadd, 1) := by decide +kernel
theorem dX10_feed_7 : decode cX10_feed 7 = .ok (.sipush 400, 3) := by decide +kernel
theorem dX10_feed_10 : decode cX10_feed 10 = .ok (.if_icmp .le 5, 3) := by decide +kernel
theorem dX10_feed_13 : decode cX10_feed 13 = .ok (.iconst (-1), 1) := by decide +kernel
theorem dX10_feed_14 : decode cX10_feed 14 = .ok (.ireturn, 1) := by decide +kernel
theorem dX10_feed_15 : decode cX10_feed 15 = .ok (.iconst 0, 1) := by decide +kernel
theorem dX10_feed_16 : decode cX10_feed 16 = .ok (.istore 6, 2) := by decide +kernel
theorem dX10_feed_18 : decode cX10_feed 18 = .ok (.iload 6, 2) := by decide +kernel
theorem dX10_feed_20 : decode cX10_feed 20 = .ok (.bipush 20, 2) := by decide +kernel
theorem dX10_feed_22 : decode cX10_feed 22 = .ok (.if_icmp .ge 93, 3) := by decide +kernel
theorem dX10_feed_25 : decode cX10_feed 25 = .ok (.iload 6, 2) := by decide +kernel
theorem dX10_feed_27 : decode cX10_feed 27 = .ok (.iconst 4, 1) := by decide +kernel
theorem dX10_feed_28 : decode cX10_feed 28 = .ok (.if_icmp .ge 7, 3) := by decide +kernel
theorem dX10_feed_31 : decode cX10_feed 31 = .ok (.iload_n 1, 1) := by decide +kernel
theorem dX10_feed_32 : decode cX10_feed 32 = .ok (.goto 39, 3) := by decide +kernel
theorem dX10_feed_35 : decode cX10_feed 35 = .ok (.iload 6, 2) := by decide +kernel
theorem dX10_feed_37 : decode cX10_feed 37 = .ok (.bipush 8, 2) := by decide +kernel
theorem dX10_feed_39 : decode cX10_feed 39 = .ok (.if_icmp .ge 7, 3) := by decide +kernel
theorem dX10_feed_42 : decode cX10_feed 42 = .ok (.iload_n 2, 1) := by decide +kernel
theorem dX10_feed_43 : decode cX10_feed 43 = .ok (.goto 28, 3) := by decide +kernel
theorem dX10_feed_46 : decode cX10_feed 46 = .ok (.iload 6, 2) := by decide +kernel
theorem dX10_feed_48 : decode cX10_feed 48 = .ok (.bipush 12, 2) := by decide +kernel
theorem dX10_feed_50 : decode cX10_feed 50 = .ok (.if_icmp .ge 7, 3) := by decide +kernel
theorem dX10_feed_53 : decode cX10_feed 53 = .ok (.iload_n 3, 1) := by decide +kernel
theorem dX10_feed_54 : decode cX10_feed 54 = .ok (.goto 17, 3) := by decide +kernel
theorem dX10_feed_57 : decode cX10_feed 57 = .ok (.iload 6, 2) := by decide +kernel
theorem dX10_feed_59 : decode cX10_feed 59 = .ok (.bipush 16, 2) := by decide +kernel
theorem dX10_feed_61 : decode cX10_feed 61 = .ok (.if_icmp .ge 8, 3) := by decide +kernel
theorem dX10_feed_64 : decode cX10_feed 64 = .ok (.iload 4, 2) := by decide +kernel
theorem dX10_feed_66 : decode cX10_feed 66 = .ok (.goto 5, 3) := by decide +kernel
theorem dX10_feed_69 : decode cX10_feed 69 = .ok (.iload 5, 2) := by decide +kernel
theorem dX10_feed_71 : decode cX10_feed 71 = .ok (.istore 7, 2) := by decide +kernel
theorem dX10_feed_73 : decode cX10_feed 73 = .ok (.aload_n 0, 1) := by decide +kernel
theorem dX10_feed_74 : decode cX10_feed 74 = .ok (.getfield 19, 3) := by decide +kernel
theorem dX10_feed_77 : decode cX10_feed 77 = .ok (.aload_n 0, 1) := by decide +kernel
theorem dX10_feed_78 : decode cX10_feed 78 = .ok (.getfield 69, 3) := by decide +kernel
theorem dX10_feed_81 : decode cX10_feed 81 = .ok (.iload 7, 2) := by decide +kernel
theorem dX10_feed_83 : decode cX10_feed 83 = .ok (.bipush 24, 2) := by decide +kernel
theorem dX10_feed_85 : decode cX10_feed 85 = .ok (.bipush 8, 2) := by decide +kernel
theorem dX10_feed_87 : decode cX10_feed 87 = .ok (.iload 6, 2) := by decide +kernel
theorem dX10_feed_89 : decode cX10_feed 89 = .ok (.iconst 4, 1) := by decide +kernel
theorem dX10_feed_90 : decode cX10_feed 90 = .ok (.irem, 1) := by decide +kernel
theorem dX10_feed_91 : decode cX10_feed 91 = .ok (.imul, 1) := by decide +kernel
theorem dX10_feed_92 : decode cX10_feed 92 = .ok (.isub, 1) := by decide +kernel
theorem dX10_feed_93 : decode cX10_feed 93 = .ok (.ishr, 1) := by decide +kernel
theorem dX10_feed_94 : decode cX10_feed 94 = .ok (.sipush 255, 3) := by decide +kernel
theorem dX10_feed_97 : decode cX10_feed 97 = .ok (.iand, 1) := by decide +kernel
theorem dX10_feed_98 : decode cX10_feed 98 = .ok (.iastore, 1) := by decide +kernel
theorem dX10_feed_99 : decode cX10_feed 99 = .ok (.aload_n 0, 1) := by decide +kernel
theorem dX10_feed_100 : decode cX10_feed 100 = .ok (.dup, 1) := by decide +kernel
theorem dX10_feed_101 : decode cX10_feed 101 = .ok (.getfield 69, 3) := by decide +kernel
theorem dX10_feed_104 : decode cX10_feed 104 = .ok (.iconst 1, 1) := by decide +kernel
theorem dX10_feed_105 : decode cX10_feed 105 = .ok (.iadd, 1) := by decide +kernel
theorem dX10_feed_106 : decode cX10_feed 106 = .ok (.putfield 69, 3) := by decide +kernel
theorem dX10_feed_109 : decode cX10_feed 109 = .ok (.iinc 6 1, 3) := by decide +kernel
theorem dX10_feed_112 : decode cX10_feed 112 = .ok (.goto (-94), 3) := by decide +kernel
theorem dX10_feed_115 : decode cX10_feed 115 = .ok (.aload_n 0, 1) := by decide +kernel
theorem dX10_feed_116 : decode cX10_feed 116 = .ok (.getfield 69, 3) := by decide +kernel
theorem dX10_feed_119 : decode cX10_feed 119 = .ok (.ireturn, 1) := by decide +kernel
theorem zm_X10_feed : ZMv "ClassOfManyModel" yX10_feed cX10_feed 8 (some .int) 5 := ⟨kw_6_101, kw_6_99, kw_6_100, kw_1_10, by decide +kernel, by decide⟩
def zf_X10_feed_j71 (M24 : ZMem) (v23 : Int32) (R18 : Int32 → ZMem → Option (Int32 × ZMem)) (v26 : Int32) : Option (Int32 × ZMem) :=
  zst M24 81 400 (M24 77 6) ((v26 >>> (((24 : Int32) - ((8 : Int32) * (v23 - v23 / (4 : Int32) * (4 : Int32)))) &&& 31)) &&& (255 : Int32)) (fun M27 => zput M27 77 6 ((M27 77 6) + (1 : Int32)) (fun M28 => (R18 (v23 + (1 : Int32)) M28)))
def zf_X10_feed_L18 (a5 : Int32) (a4 : Int32) (a3 : Int32) (a2 : Int32) (a1 : Int32) (K115 : ZMem → Option (Int32 × ZMem)) : Nat → Int32 → ZMem → Option (Int32 × ZMem)
  | 0, _, _ => none
  | n18 + 1, v23, M24 =>
  (if (20 : Int32) ≤ v23 then (K115 M24) else (if (4 : Int32) ≤ v23 then (if (8 : Int32) ≤ v23 then (if (12 : Int32) ≤ v23 then (if (16 : Int32) ≤ v23 then (zf_X10_feed_j71 M24 v23 (fun x0 x1 => zf_X10_feed_L18 a5 a4 a3 a2 a1 K115 n18 x0 x1) a5) else (zf_X10_feed_j71 M24 v23 (fun x0 x1 => zf_X10_feed_L18 a5 a4 a3 a2 a1 K115 n18 x0 x1) a4)) else (zf_X10_feed_j71 M24 v23 (fun x0 x1 => zf_X10_feed_L18 a5 a4 a3 a2 a1 K115 n18 x0 x1) a3)) else (zf_X10_feed_j71 M24 v23 (fun x0 x1 => zf_X10_feed_L18 a5 a4 a3 a2 a1 K115 n18 x0 x1) a2)) else (zf_X10_feed_j71 M24 v23 (fun x0 x1 => zf_X10_feed_L18 a5 a4 a3 a2 a1 K115 n18 x0 x1) a1)))
def zf_X10_feed (n : Nat) (a1 : Int32) (a2 : Int32) (a3 : Int32) (a4 : Int32) (a5 : Int32) (M : ZMem) : Option (Int32 × ZMem) :=
  (if ((M 77 6) + (20 : Int32)) ≤ (400 : Int32) then (zf_X10_feed_L18 a5 a4 a3 a2 a1 (fun M29 => some ((M29 77 6), M29)) n (0 : Int32) M) else some ((-1 : Int32), M))
set_option maxHeartbeats 4000000 in
set_option maxRecDepth 100000 in
theorem zc_X10_feed {l : Launch} {D : va_G} {ad : Nat → Nat} {cA : Nat → ClassId} {n : Nat} {a1 : Int32} {a2 : Int32} {a3 : Int32} {a4 : Int32} {a5 : Int32} {M : ZMem} {r : Int32} {M' : ZMem} (hf : zf_X10_feed n a1 a2 a3 a4 a5 M = some (r, M')) : ZCt l D ad cA yX10_feed cX10_feed 8 (some .int) 1 [.ref (ad 77), .int a1, .int a2, .int a3, .int a4, .int a5] M (some (.int r)) M' := by
  refine zct (by decide +kernel) (Nat.le_of_ble_eq_true rfl) (lv := [(0, .ref (ad 77)), (1, .int a1), (2, .int a2), (3, .int a3), (4, .int a4), (5, .int a5)]) rfl (fun E hl hD had hcA hN hC hR => ?_)
  subst hl; subst hD; subst had; subst hcA
  unfold zf_X10_feed at hf
  refine zw_aload_n hC dX10_feed_0 rfl 0 rfl ?_
  refine zw_geti hC zF_Model_taped zk_77 dX10_feed_1 kw_5_232 ?_
  refine zw_bipush hC (v := (20 : Int32)) dX10_feed_4 (by decide) ?_
  refine zw_iadd hC dX10_feed_6 ?_
  refine zw_sipush hC (v := (400 : Int32)) dX10_feed_7 (by decide) ?_
  refine zw_icmp_le hC 15 hf dX10_feed_10 (by decide) (fun hf => ?_) (fun hf => ?_)
  · refine zw_iconst hC (v := (0 : Int32)) dX10_feed_15 (by decide) ?_
    refine zw_istore hC (lv' := [(6, .int (0 : Int32)), (0, .ref (zad E 77)), (1, .int a1), (2, .int a2), (3, .int a3), (4, .int a4), (5, .int a5)]) dX10_feed_16 hN (by decide) rfl ?_
    have hL18 : ∀ (K115 : ZMem → Option (Int32 × ZMem)), (∀ (M25 : ZMem), K115 M25 = some (r, M') → ZW E 115 [(0, .ref (zad E 77))] [] M25) → ∀ (n18 : Nat), ∀ (v23 : Int32), ∀ (M24 : ZMem), zf_X10_feed_L18 a5 a4 a3 a2 a1 K115 n18 v23 M24 = some (r, M') → ZW E 18 [(0, .ref (zad E 77)), (1, .int a1), (2, .int a2), (3, .int a3), (4, .int a4), (5, .int a5), (6, .int v23)] [] M24 := by
      intro K115 hK115
      intro n18
      induction n18 with
      | zero => intro v23 M24 hf; rw [zf_X10_feed_L18] at hf; cases hf
      | succ n18 ih18 =>
        intro v23 M24 hf
        rw [zf_X10_feed_L18] at hf
        refine zw_iload hC dX10_feed_18 6 rfl ?_
        refine zw_bipush hC (v := (20 : Int32)) dX10_feed_20 (by decide) ?_
        refine zw_icmp_ge hC 115 hf dX10_feed_22 (by decide) (fun hf => ?_) (fun hf => ?_)
        · exact zw_sub [0] rfl (hK115 M24 hf)
        · refine zw_iload hC dX10_feed_25 6 rfl ?_
          refine zw_iconst hC (v := (4 : Int32)) dX10_feed_27 (by decide) ?_
          have hj71 : ∀ (v26 : Int32), zf_X10_feed_j71 M24 v23 (fun x0 x1 => zf_X10_feed_L18 a5 a4 a3 a2 a1 K115 n18 x0 x1) v26 = some (r, M') → ZW E 71 [(0, .ref (zad E 77)), (1, .int a1), (2, .int a2), (3, .int a3), (4, .int a4), (5, .int a5), (6, .int v23)] [.int v26] M24 := by
            intro v26 hf
            unfold zf_X10_feed_j71 at hf
            refine zw_istore hC (lv' := [(7, .int v26), (0, .ref (zad E 77)), (1, .int a1), (2, .int a2), (3, .int a3), (4, .int a4), (5, .int a5), (6, .int v23)]) dX10_feed_71 hN (by decide) rfl ?_
            refine zw_aload_n hC dX10_feed_73 rfl 1 rfl ?_
            refine zw_getr (k' := 81) hC zF_Model_tape zk_77 rfl dX10_feed_74 kw_5_231 ?_
            refine zw_aload_n hC dX10_feed_77 rfl 1 rfl ?_
            refine zw_geti hC zF_Model_taped zk_77 dX10_feed_78 kw_5_232 ?_
            refine zw_iload hC dX10_feed_81 0 rfl ?_
            refine zw_bipush hC (v := (24 : Int32)) dX10_feed_83 (by decide) ?_
            refine zw_bipush hC (v := (8 : Int32)) dX10_feed_85 (by decide) ?_
            refine zw_iload hC dX10_feed_87 7 rfl ?_
            refine zw_iconst hC (v := (4 : Int32)) dX10_feed_89 (by decide) ?_
            refine zw_iremc hC dX10_feed_90 (by decide) ?_
            refine zw_imul hC dX10_feed_91 ?_
            refine zw_isub hC dX10_feed_92 ?_
            refine zw_ishr hC dX10_feed_93 ?_
            refine zw_sipush hC (v := (255 : Int32)) dX10_feed_94 (by decide) ?_
            refine zw_iand hC dX10_feed_97 ?_
            refine zw_iast hC hf zk_81 dX10_feed_98 (fun M27 hf => ?_)
            refine zw_aload_n hC dX10_feed_99 rfl 1 rfl ?_
            refine zw_dup hC dX10_feed_100 rfl ?_
            refine zw_geti hC zF_Model_taped zk_77 dX10_feed_101 kw_5_232 ?_
            refine zw_iconst hC (v := (1 : Int32)) dX10_feed_104 (by decide) ?_
            refine zw_iadd hC dX10_feed_105 ?_
            refine zw_puti hC hf zF_Model_taped zk_77 dX10_feed_106 kw_5_232 (fun M28 hf => ?_)
            refine zw_iinc hC (v := (1 : Int32)) (lv' := [(6, .int (v23 + (1 : Int32))), (7, .int v26), (0, .ref (zad E 77)), (1, .int a1), (2, .int a2), (3, .int a3), (4, .int a4), (5, .int a5)]) dX10_feed_109 7 rfl (by decide) hN (by decide) rfl ?_
            refine zw_goto hC 18 dX10_feed_112 (by decide) ?_
            exact zw_sub [2, 3, 4, 5, 6, 7, 0] rfl (ih18 (v23 + (1 : Int32)) M28 hf)
          refine zw_icmp_ge hC 35 hf dX10_feed_28 (by decide) (fun hf => ?_) (fun hf => ?_)
          · refine zw_iload hC dX10_feed_35 6 rfl ?_
            refine zw_bipush hC (v := (8 : Int32)) dX10_feed_37 (by decide) ?_
            refine zw_icmp_ge hC 46 hf dX10_feed_39 (by decide) (fun hf => ?_) (fun hf => ?_)
            · refine zw_iload hC dX10_feed_46 6 rfl ?_
              refine zw_bipush hC (v := (12 : Int32)) dX10_feed_48 (by decide) ?_
              refine zw_icmp_ge hC 57 hf dX10_feed_50 (by decide) (fun hf => ?_) (fun hf => ?_)
              · refine zw_iload hC dX10_feed_57 6 rfl ?_
                refine zw_bipush hC (v := (16 : Int32)) dX10_feed_59 (by decide) ?_
                refine zw_icmp_ge hC 69 hf dX10_feed_61 (by decide) (fun hf => ?_) (fun hf => ?_)
                · refine zw_iload hC dX10_feed_69 5 rfl ?_
                  exact hj71 a5 hf
                · refine zw_iload hC dX10_feed_64 4 rfl ?_
                  refine zw_goto hC 71 dX10_feed_66 (by decide) ?_
                  exact hj71 a4 hf
              · refine zw_iload_n hC dX10_feed_53 rfl 3 rfl ?_
                refine zw_goto hC 71 dX10_feed_54 (by decide) ?_
                exact hj71 a3 hf
            · refine zw_iload_n hC dX10_feed_42 rfl 2 rfl ?_
              refine zw_goto hC 71 dX10_feed_43 (by decide) ?_
              exact hj71 a2 hf
          · refine zw_iload_n hC dX10_feed_31 rfl 1 rfl ?_
            refine zw_goto hC 71 dX10_feed_32 (by decide) ?_
            exact hj71 a1 hf
    refine zw_sub [1, 2, 3, 4, 5, 6, 0] rfl (hL18 _ ?_ n (0 : Int32) M hf)
    · intro M29 hf
      refine zw_aload_n hC dX10_feed_115 rfl 0 rfl ?_
      refine zw_geti hC zF_Model_taped zk_77 dX10_feed_116 kw_5_232 ?_
      obtain ⟨h1, h2⟩ := Prod.mk.inj (Option.some.inj hf)
      subst h1; subst h2
      exact zw_iret hC hR dX10_feed_119
  · refine zw_iconst hC (v := (-1 : Int32)) dX10_feed_13 (by decide) ?_
    obtain ⟨h1, h2⟩ := Prod.mk.inj (Option.some.inj hf)
    subst h1; subst h2
    exact zw_iret hC hR dX10_feed_14
/-! ClassOfManyModel.back(I)I -/
theorem dX10_back_0 : decode cX10_back 0 = .ok (.iload_n 1, 1) := by decide +kernel
theorem dX10_back_1 : decode cX10_back 1 = .ok (.iconst 0, 1) := by decide +kernel
theorem dX10_back_2 : decode cX10_back 2 = .ok (.aload_n 0, 1) := by decide +kernel
theorem dX10_back_3 : decode cX10_back 3 = .ok (.getfield 69, 3) := by decide +kernel
theorem dX10_back_6 : decode cX10_back 6 = .ok (.invokestatic 65, 3) := by decide +kernel
theorem dX10_back_9 : decode cX10_back 9 = .ok (.ifCond .ne 5, 3) := by decide +kernel
theorem dX10_back_12 : decode cX10_back 12 = .ok (.iconst (-1), 1) := by decide +kernel
theorem dX10_back_13 : decode cX10_back 13 = .ok (.ireturn, 1) := by decide +kernel
theorem dX10_back_14 : decode cX10_back 14 = .ok (.aload_n 0, 1) := by decide +kernel
theorem dX10_back_15 : decode cX10_back 15 = .ok (.dup, 1) := by decide +kernel
theorem dX10_back_16 : decode cX10_back 16 = .ok (.getfield 69, 3) := by decide +kernel
theorem dX10_back_19 : decode cX10_back 19 = .ok (.iload_n 1, 1) := by decide +kernel
theorem dX10_back_20 : decode cX10_back 20 = .ok (.isub, 1) := by decide +kernel
theorem dX10_back_21 : decode cX10_back 21 = .ok (.putfield 69, 3) := by decide +kernel
theorem dX10_back_24 : decode cX10_back 24 = .ok (.aload_n 0, 1) := by decide +kernel
theorem dX10_back_25 : decode cX10_back 25 = .ok (.getfield 69, 3) := by decide +kernel
theorem dX10_back_28 : decode cX10_back 28 = .ok (.ireturn, 1) := by decide +kernel
theorem zm_X10_back : ZMv "ClassOfManyModel" yX10_back cX10_back 2 (some .int) 1 := ⟨kw_6_105, kw_6_103, kw_6_104, kw_1_10, by decide +kernel, by decide⟩
def zf_X10_back (a1 : Int32) (M : ZMem) : Option (Int32 × ZMem) :=
  zb1 (zf_X10_isIn a1 (0 : Int32) (M 77 6)) (fun v23 => (if v23 = 0 then some ((-1 : Int32), M) else zput M 77 6 ((M 77 6) - a1) (fun M24 => some ((M24 77 6), M24))))
set_option maxHeartbeats 4000000 in
set_option maxRecDepth 100000 in
theorem zc_X10_back {l : Launch} {D : va_G} {ad : Nat → Nat} {cA : Nat → ClassId} {a1 : Int32} {M : ZMem} {r : Int32} {M' : ZMem} (hf : zf_X10_back a1 M = some (r, M')) : ZCt l D ad cA yX10_back cX10_back 2 (some .int) 2 [.ref (ad 77), .int a1] M (some (.int r)) M' := by
  refine zct (by decide +kernel) (Nat.le_of_ble_eq_true rfl) (lv := [(0, .ref (ad 77)), (1, .int a1)]) rfl (fun E hl hD had hcA hN hC hR => ?_)
  subst hl; subst hD; subst had; subst hcA
  unfold zf_X10_back at hf
  refine zw_iload_n hC dX10_back_0 rfl 1 rfl ?_
  refine zw_iconst hC (v := (0 : Int32)) dX10_back_1 (by decide) ?_
  refine zw_aload_n hC dX10_back_2 rfl 0 rfl ?_
  refine zw_geti hC zF_Model_taped zk_77 dX10_back_3 kw_5_232 ?_
  obtain ⟨v23, hc23, hf⟩ := zb1_some hf
  refine zw_cS hC [.int a1, .int (0 : Int32), .int (M 77 6)] [] (st1 := [.int v23]) zm_X10_isIn (zc_X10_isIn hc23) kw_6_106 dX10_back_6 rfl (by decide) (Nat.le_of_ble_eq_true rfl) rfl rfl ?_
  refine zw_if_ne hC 14 hf dX10_back_9 (by decide) (fun hf => ?_) (fun hf => ?_)
  · refine zw_aload_n hC dX10_back_14 rfl 0 rfl ?_
    refine zw_dup hC dX10_back_15 rfl ?_
    refine zw_geti hC zF_Model_taped zk_77 dX10_back_16 kw_5_232 ?_
    refine zw_iload_n hC dX10_back_19 rfl 1 rfl ?_
    refine zw_isub hC dX10_back_20 ?_
    refine zw_puti hC hf zF_Model_taped zk_77 dX10_back_21 kw_5_232 (fun M24 hf => ?_)
    refine zw_aload_n hC dX10_back_24 rfl 0 rfl ?_
    refine zw_geti hC zF_Model_taped zk_77 dX10_back_25 kw_5_232 ?_
    obtain ⟨h1, h2⟩ := Prod.mk.inj (Option.some.inj hf)
    subst h1; subst h2
    exact zw_iret hC hR dX10_back_28
  · refine zw_iconst hC (v := (-1 : Int32)) dX10_back_12 (by decide) ?_
    obtain ⟨h1, h2⟩ := Prod.mk.inj (Option.some.inj hf)
    subst h1; subst h2
    exact zw_iret hC hR dX10_back_13
/-! ClassOfManyModel.isLetter(I)Z -/
theorem dX10_isLetter_0 : decode cX10_isLetter 0 = .ok (.iload_n 1, 1) := by decide +kernel
theorem dX10_isLetter_1 : decode cX10_isLetter 1 = .ok (.aload_n 0, 1) := by decide +kernel
theorem dX10_isLetter_2 : decode cX10_isLetter 2 = .ok (.getfield 72, 3) := by decide +kernel
theorem dX10_isLetter_5 : decode cX10_isLetter 5 = .ok (.if_icmp .ge 23, 3) := by decide +kernel
theorem dX10_isLetter_8 : decode cX10_isLetter 8 = .ok (.aload_n 0, 1) := by decide +kernel
theorem dX10_isLetter_9 : decode cX10_isLetter 9 = .ok (.getfield 19, 3) := by decide +kernel
theorem dX10_isLetter_12 : decode cX10_isLetter 12 = .ok (.iload_n 1, 1) := by decide +kernel
theorem dX10_isLetter_13 : decode cX10_isLetter 13 = .ok (.iaload, 1) := by decide +kernel
theorem dX10_isLetter_14 : decode cX10_isLetter 14 = .ok (.bipush 97, 2) := by decide +kernel
theorem dX10_isLetter_16 : decode cX10_isLetter 16 = .ok (.bipush 122, 2) := by decide +kernel
theorem dX10_isLetter_18 : decode cX10_isLetter 18 = .ok (.invokestatic 65, 3) := by decide +kernel
theorem dX10_isLetter_21 : decode cX10_isLetter 21 = .ok (.ifCond .eq 7, 3) := by decide +kernel
theorem dX10_isLetter_24 : decode cX10_isLetter 24 = .ok (.iconst 1, 1) := by decide +kernel
theorem dX10_isLetter_25 : decode cX10_isLetter 25 = .ok (.goto 4, 3) := by decide +kernel
theorem dX10_isLetter_28 : decode cX10_isLetter 28 = .ok (.iconst 0, 1) := by decide +kernel
theorem dX10_isLetter_29 : decode cX10_isLetter 29 = .ok (.ireturn, 1) := by decide +kernel
theorem zm_X10_isLetter : ZMv "ClassOfManyModel" yX10_isLetter cX10_isLetter 2 (some .boolean) 1 := ⟨kw_6_120, kw_6_119, kp_59, kw_1_10, by decide +kernel, by decide⟩
def zf_X10_isLetter_j29 (v23 : Int32) : Option (Int32) :=
  zbz v23 (some v23)
def zf_X10_isLetter_j28 : Option (Int32) :=
  (zf_X10_isLetter_j29 (0 : Int32))
def zf_X10_isLetter (a1 : Int32) (M : ZMem) : Option (Int32) :=
  (if (M 77 7) ≤ a1 then (zf_X10_isLetter_j28) else zrd M 81 400 a1 (fun v24 => zb1 (zf_X10_isIn v24 (97 : Int32) (122 : Int32)) (fun v25 => (if v25 = 0 then (zf_X10_isLetter_j28) else (zf_X10_isLetter_j29 (1 : Int32))))))
set_option maxHeartbeats 4000000 in
set_option maxRecDepth 100000 in
theorem zc_X10_isLetter {l : Launch} {D : va_G} {ad : Nat → Nat} {cA : Nat → ClassId} {a1 : Int32} {M : ZMem} {r : Int32} (hf : zf_X10_isLetter a1 M = some r) : ZCt l D ad cA yX10_isLetter cX10_isLetter 2 (some .boolean) 2 [.ref (ad 77), .int a1] M (some (.int r)) M := by
  refine zct (by decide +kernel) (Nat.le_of_ble_eq_true rfl) (lv := [(0, .ref (ad 77)), (1, .int a1)]) rfl (fun E hl hD had hcA hN hC hR => ?_)
  subst hl; subst hD; subst had; subst hcA
  unfold zf_X10_isLetter at hf
  refine zw_iload_n hC dX10_isLetter_0 rfl 1 rfl ?_
  refine zw_aload_n hC dX10_isLetter_1 rfl 0 rfl ?_
  refine zw_geti hC zF_Model_size zk_77 dX10_isLetter_2 kw_5_233 ?_
  have hj29 : ∀ (v23 : Int32), zf_X10_isLetter_j29 v23 = some r → ZW E 29 [] [.int v23] M := by
    intro v23 hf
    unfold zf_X10_isLetter_j29 at hf
    obtain ⟨hz, hf⟩ := zbz_some hf
    have h1 := Option.some.inj hf
    subst h1
    exact zw_zret hC hR hz dX10_isLetter_29
  have hj28 : zf_X10_isLetter_j28 = some r → ZW E 28 [] [] M := by
    intro  hf
    unfold zf_X10_isLetter_j28 at hf
    refine zw_iconst hC (v := (0 : Int32)) dX10_isLetter_28 (by decide) ?_
    exact hj29 (0 : Int32) hf
  refine zw_icmp_ge hC 28 hf dX10_isLetter_5 (by decide) (fun hf => ?_) (fun hf => ?_)
  · exact zw_sub [] rfl (hj28 hf)
  · refine zw_aload_n hC dX10_isLetter_8 rfl 0 rfl ?_
    refine zw_getr (k' := 81) hC zF_Model_tape zk_77 rfl dX10_isLetter_9 kw_5_231 ?_
    refine zw_iload_n hC dX10_isLetter_12 rfl 1 rfl ?_
    refine zw_iald hC hf zk_81 dX10_isLetter_13 (fun v24 hf => ?_)
    refine zw_bipush hC (v := (97 : Int32)) dX10_isLetter_14 (by decide) ?_
    refine zw_bipush hC (v := (122 : Int32)) dX10_isLetter_16 (by decide) ?_
    obtain ⟨v25, hc25, hf⟩ := zb1_some hf
    refine zw_cS hC [.int v24, .int (97 : Int32), .int (122 : Int32)] [] (st1 := [.int v25]) zm_X10_isIn (zc_X10_isIn hc25) kw_6_106 dX10_isLetter_18 rfl (by decide) (Nat.le_of_ble_eq_true rfl) rfl rfl ?_
    refine zw_if_eq hC 28 hf dX10_isLetter_21 (by decide) (fun hf => ?_) (fun hf => ?_)
    · exact zw_sub [] rfl (hj28 hf)
    · refine zw_iconst hC (v := (1 : Int32)) dX10_isLetter_24 (by decide) ?_
      refine zw_goto hC 29 dX10_isLetter_25 (by decide) ?_
      exact zw_sub [] rfl (hj29 (1 : Int32) hf)
/-! ClassOfManyModel.isDigit(I)Z -/
theorem dX10_isDigit_0 : decode cX10_isDigit 0 = .ok (.iload_n 1, 1) := by decide +kernel
theorem dX10_isDigit_1 : decode cX10_isDigit 1 = .ok (.aload_n 0, 1) := by decide +kernel
theorem dX10_isDigit_2 : decode cX10_isDigit 2 = .ok (.getfield 72, 3) := by decide +kernel
theorem dX10_isDigit_5 : decode cX10_isDigit 5 = .ok (.if_icmp .ge 23, 3) := by decide +kernel
theorem dX10_isDigit_8 : decode cX10_isDigit 8 = .ok (.aload_n 0, 1) := by decide +kernel
theorem dX10_isDigit_9 : decode cX10_isDigit 9 = .ok (.getfield 19, 3) := by decide +kernel
theorem dX10_isDigit_12 : decode cX10_isDigit 12 = .ok (.iload_n 1, 1) := by decide +kernel
theorem dX10_isDigit_13 : decode cX10_isDigit 13 = .ok (.iaload, 1) := by decide +kernel
theorem dX10_isDigit_14 : decode cX10_isDigit 14 = .ok (.bipush 48, 2) := by decide +kernel
theorem dX10_isDigit_16 : decode cX10_isDigit 16 = .ok (.bipush 57, 2) := by decide +kernel
theorem dX10_isDigit_18 : decode cX10_isDigit 18 = .ok (.invokestatic 65, 3) := by decide +kernel
theorem dX10_isDigit_21 : decode cX10_isDigit 21 = .ok (.ifCond .eq 7, 3) := by decide +kernel
theorem dX10_isDigit_24 : decode cX10_isDigit 24 = .ok (.iconst 1, 1) := by decide +kernel
theorem dX10_isDigit_25 : decode cX10_isDigit 25 = .ok (.goto 4, 3) := by decide +kernel
theorem dX10_isDigit_28 : decode cX10_isDigit 28 = .ok (.iconst 0, 1) := by decide +kernel
theorem dX10_isDigit_29 : decode cX10_isDigit 29 = .ok (.ireturn, 1) := by decide +kernel
theorem zm_X10_isDigit : ZMv "ClassOfManyModel" yX10_isDigit cX10_isDigit 2 (some .boolean) 1 := ⟨kw_6_124, kw_6_123, kp_60, kw_1_10, by decide +kernel, by decide⟩
def zf_X10_isDigit_j29 (v23 : Int32) : Option (Int32) :=
  zbz v23 (some v23)
def zf_X10_isDigit_j28 : Option (Int32) :=
  (zf_X10_isDigit_j29 (0 : Int32))
def zf_X10_isDigit (a1 : Int32) (M : ZMem) : Option (Int32) :=
  (if (M 77 7) ≤ a1 then (zf_X10_isDigit_j28) else zrd M 81 400 a1 (fun v24 => zb1 (zf_X10_isIn v24 (48 : Int32) (57 : Int32)) (fun v25 => (if v25 = 0 then (zf_X10_isDigit_j28) else (zf_X10_isDigit_j29 (1 : Int32))))))
set_option maxHeartbeats 4000000 in
set_option maxRecDepth 100000 in
theorem zc_X10_isDigit {l : Launch} {D : va_G} {ad : Nat → Nat} {cA : Nat → ClassId} {a1 : Int32} {M : ZMem} {r : Int32} (hf : zf_X10_isDigit a1 M = some r) : ZCt l D ad cA yX10_isDigit cX10_isDigit 2 (some .boolean) 2 [.ref (ad 77), .int a1] M (some (.int r)) M := by
  refine zct (by decide +kernel) (Nat.le_of_ble_eq_true rfl) (lv := [(0, .ref (ad 77)), (1, .int a1)]) rfl (fun E hl hD had hcA hN hC hR => ?_)
  subst hl; subst hD; subst had; subst hcA
  unfold zf_X10_isDigit at hf
  refine zw_iload_n hC dX10_isDigit_0 rfl 1 rfl ?_
  refine zw_aload_n hC dX10_isDigit_1 rfl 0 rfl ?_
  refine zw_geti hC zF_Model_size zk_77 dX10_isDigit_2 kw_5_233 ?_
  have hj29 : ∀ (v23 : Int32), zf_X10_isDigit_j29 v23 = some r → ZW E 29 [] [.int v23] M := by
    intro v23 hf
    unfold zf_X10_isDigit_j29 at hf
    obtain ⟨hz, hf⟩ := zbz_some hf
    have h1 := Option.some.inj hf
    subst h1
    exact zw_zret hC hR hz dX10_isDigit_29
  have hj28 : zf_X10_isDigit_j28 = some r → ZW E 28 [] [] M := by
    intro  hf
    unfold zf_X10_isDigit_j28 at hf
    refine zw_iconst hC (v := (0 : Int32)) dX10_isDigit_28 (by decide) ?_
    exact hj29 (0 : Int32) hf
  refine zw_icmp_ge hC 28 hf dX10_isDigit_5 (by decide) (fun hf => ?_) (fun hf => ?_)
  · exact zw_sub [] rfl (hj28 hf)
  · refine zw_aload_n hC dX10_isDigit_8 rfl 0 rfl ?_
    refine zw_getr (k' := 81) hC zF_Model_tape zk_77 rfl dX10_isDigit_9 kw_5_231 ?_
    refine zw_iload_n hC dX10_isDigit_12 rfl 1 rfl ?_
    refine zw_iald hC hf zk_81 dX10_isDigit_13 (fun v24 hf => ?_)
    refine zw_bipush hC (v := (48 : Int32)) dX10_isDigit_14 (by decide) ?_
    refine zw_bipush hC (v := (57 : Int32)) dX10_isDigit_16 (by decide) ?_
    obtain ⟨v25, hc25, hf⟩ := zb1_some hf
    refine zw_cS hC [.int v24, .int (48 : Int32), .int (57 : Int32)] [] (st1 := [.int v25]) zm_X10_isIn (zc_X10_isIn hc25) kw_6_106 dX10_isDigit_18 rfl (by decide) (Nat.le_of_ble_eq_true rfl) rfl rfl ?_
    refine zw_if_eq hC 28 hf dX10_isDigit_21 (by decide) (fun hf => ?_) (fun hf => ?_)
    · exact zw_sub [] rfl (hj28 hf)
    · refine zw_iconst hC (v := (1 : Int32)) dX10_isDigit_24 (by decide) ?_
      refine zw_goto hC 29 dX10_isDigit_25 (by decide) ?_
      exact zw_sub [] rfl (hj29 (1 : Int32) hf)
/-! ClassOfManyModel.wrong(I)V -/
theorem dX10_wrong_0 : decode cX10_wrong 0 = .ok (.aload_n 0, 1) := by decide +kernel
theorem dX10_wrong_1 : decode cX10_wrong 1 = .ok (.getfield 75, 3) := by decide +kernel
theorem dX10_wrong_4 : decode cX10_wrong 4 = .ok (.iconst (-1), 1) := by decide +kernel
theorem dX10_wrong_5 : decode cX10_wrong 5 = .ok (.if_icmp .ne 8, 3) := by decide +kernel
theorem dX10_wrong_8 : decode cX10_wrong 8 = .ok (.aload_n 0, 1) := by decide +kernel
theorem dX10_wrong_9 : decode cX10_wrong 9 = .ok (.iload_n 1, 1) := by decide +kernel
theorem dX10_wrong_10 : decode cX10_wrong 10 = .ok (.putfield 75, 3) := by decide +kernel
theorem dX10_wrong_13 : decode cX10_wrong 13 = .ok (.return_, 1) := by decide +kernel
theorem zm_X10_wrong : ZMv "ClassOfManyModel" yX10_wrong cX10_wrong 2 (none) 1 := ⟨kw_6_128, kw_6_127, kp_61, kw_1_10, by decide +kernel, by decide⟩
def zf_X10_wrong_j13 (M22 : ZMem) : Option (ZMem) :=
  some M22
def zf_X10_wrong (a1 : Int32) (M : ZMem) : Option (ZMem) :=
  (if (M 77 12) = (-1 : Int32) then zput M 77 12 a1 (fun M23 => (zf_X10_wrong_j13 M23)) else (zf_X10_wrong_j13 M))
set_option maxHeartbeats 4000000 in
set_option maxRecDepth 100000 in
theorem zc_X10_wrong {l : Launch} {D : va_G} {ad : Nat → Nat} {cA : Nat → ClassId} {a1 : Int32} {M : ZMem} {M' : ZMem} (hf : zf_X10_wrong a1 M = some M') : ZCt l D ad cA yX10_wrong cX10_wrong 2 (none) 1 [.ref (ad 77), .int a1] M none M' := by
  refine zct (by decide +kernel) (Nat.le_of_ble_eq_true rfl) (lv := [(0, .ref (ad 77)), (1, .int a1)]) rfl (fun E hl hD had hcA hN hC hR => ?_)
  subst hl; subst hD; subst had; subst hcA
  unfold zf_X10_wrong at hf
  refine zw_aload_n hC dX10_wrong_0 rfl 0 rfl ?_
  refine zw_geti hC zF_Model_fault zk_77 dX10_wrong_1 kw_5_238 ?_
  refine zw_iconst hC (v := (-1 : Int32)) dX10_wrong_4 (by decide) ?_
  have hj13 : ∀ (M22 : ZMem), zf_X10_wrong_j13 M22 = some M' → ZW E 13 [] [] M22 := by
    intro M22 hf
    unfold zf_X10_wrong_j13 at hf
    have h1 := Option.some.inj hf
    subst h1
    exact zw_vret hC hR dX10_wrong_13
  refine zw_icmp_ne hC 13 hf dX10_wrong_5 (by decide) (fun hf => ?_) (fun hf => ?_)
  · exact zw_sub [] rfl (hj13 M hf)
  · refine zw_aload_n hC dX10_wrong_8 rfl 0 rfl ?_
    refine zw_iload_n hC dX10_wrong_9 rfl 1 rfl ?_
    refine zw_puti hC hf zF_Model_fault zk_77 dX10_wrong_10 kw_5_238 (fun M23 hf => ?_)
    exact zw_sub [] rfl (hj13 M23 hf)
/-! ClassOfManyModel.nextToken()V -/
theorem dX10_nextToken_0 : decode cX10_nextToken 0 = .ok (.aload_n 0, 1) := by decide +kernel
theorem dX10_nextToken_1 : decode cX10_nextToken 1 = .ok (.getfield 78, 3) := by decide +kernel
theorem dX10_nextToken_4 : decode cX10_nextToken 4 = .ok (.istore_n 1, 1) := by decide +kernel
theorem dX10_nextToken_5 : decode cX10_nextToken 5 = .ok (.aload_n 0, 1) := by decide +kernel
theorem dX10_nextToken_6 : decode cX10_nextToken 6 = .ok (.getfield 78, 3) := by decide +kernel
theorem dX10_nextToken_9 : decode cX10_nextToken 9 = .ok (.aload_n 0, 1) := by decide +kernel
theorem dX10_nextToken_10 : decode cX10_nextToken 10 = .ok (.getfield 72, 3) := by decide +kernel
theorem dX10_nextToken_13 : decode cX10_nextToken 13 = .ok (.if_icmp .ge 44, 3) := by decide +kernel
theorem dX10_nextToken_16 : decode cX10_nextToken 16 = .ok (.aload_n 0, 1) := by decide +kernel
theorem dX10_nextToken_17 : decode cX10_nextToken 17 = .ok (.getfield 19, 3) := by decide +kernel
theorem dX10_nextToken_20 : decode cX10_nextToken 20 = .ok (.aload_n 0, 1) := by decide +kernel
theorem dX10_nextToken_21 : decode cX10_nextToken 21 = .ok (.getfield 78, 3) := by decide +kernel
theorem dX10_nextToken_24 : decode cX10_nextToken 24 = .ok (.iaload, 1) := by decide +kernel
theorem dX10_nextToken_25 : decode cX10_nextToken 25 = .ok (.bipush 32, 2) := by decide +kernel
theorem dX10_nextToken_27 : decode cX10_nextToken 27 = .ok (.if_icmp .eq 17, 3) := by decide +kernel
theorem dX10_nextToken_30 : decode cX10_nextToken 30 = .ok (.aload_n 0, 1) := by decide +kernel
theorem dX10_nextToken_31 : decode cX10_nextToken 31 = .ok (.getfield 19, 3) := by decide +kernel
theorem dX10_nextToken_34 : decode cX10_nextToken 34 = .ok (.aload_n 0, 1) := by decide +kernel
theorem dX10_nextToken_35 : decode cX10_nextToken 35 = .ok (.getfield 78, 3) := by decide +kernel
theorem dX10_nextToken_38 : decode cX10_nextToken 38 = .ok (.iaload, 1) := by decide +kernel
theorem dX10_nextToken_39 : decode cX10_nextToken 39 = .ok (.bipush 10, 2) := by decide +kernel
theorem dX10_nextToken_41 : decode cX10_nextToken 41 = .ok (.if_icmp .ne 16, 3) := by decide +kernel
theorem dX10_nextToken_44 : decode cX10_nextToken 44 = .ok (.aload_n 0, 1) := by decide +kernel
theorem dX10_nextToken_45 : decode cX10_nextToken 45 = .ok (.dup, 1) := by decide +kernel
theorem dX10_nextToken_46 : decode cX10_nextToken 46 = .ok (.getfield 78, 3) := by decide +kernel
theorem dX10_nextToken_49 : decode cX10_nextToken 49 = .ok (.iconst 1, 1) := by decide +kernel
theorem dX10_nextToken_50 : decode cX10_nextToken 50 = .ok (.iadd, 1) := by decide +kernel
theorem dX10_nextToken_51 : decode cX10_nextToken 51 = .ok (.putfield 78, 3) := by decide +kernel
theorem dX10_nextToken_54 : decode cX10_nextToken 54 = .ok (.goto (-49), 3) := by decide +kernel
theorem dX10_nextToken_57 : decode cX10_nextToken 57 = .ok (.aload_n 0, 1) := by decide +kernel
theorem dX10_nextToken_58 : decode cX10_nextToken 58 = .ok (.aload_n 0, 1) := by decide +kernel
theorem dX10_nextToken_59 : decode cX10_nextToken 59 = .ok (.getfield 78, 3) := by decide +kernel
theorem dX10_nextToken_62 : decode cX10_nextToken 62 = .ok (.putfield 81, 3) := by decide +kernel
theorem dX10_nextToken_65 : decode cX10_nextToken 65 = .ok (.aload_n 0, 1) := by decide +kernel
theorem dX10_nextToken_66 : decode cX10_nextToken 66 = .ok (.iconst 0, 1) := by decide +kernel
theorem dX10_nextToken_67 : decode cX10_nextToken 67 = .ok (.putfield 84, 3) := by decide +kernel
theorem dX10_nextToken_70 : decode cX10_nextToken 70 = .ok (.aload_n 0, 1) := by decide +kernel
theorem dX10_nextToken_71 : decode cX10_nextToken 71 = .ok (.getfield 78, 3) := by decide +kernel
theorem dX10_nextToken_74 : decode cX10_nextToken 74 = .ok (.iload_n 1, 1) := by decide +kernel
theorem dX10_nextToken_75 : decode cX10_nextToken 75 = .ok (.if_icmp .ne 66, 3) := by decide +kernel
theorem dX10_nextToken_78 : decode cX10_nextToken 78 = .ok (.aload_n 0, 1) := by decide +kernel
theorem dX10_nextToken_79 : decode cX10_nextToken 79 = .ok (.getfield 78, 3) := by decide +kernel
theorem dX10_nextToken_82 : decode cX10_nextToken 82 = .ok (.ifCond .le 59, 3) := by decide +kernel
theorem dX10_nextToken_85 : decode cX10_nextToken 85 = .ok (.aload_n 0, 1) := by decide +kernel
theorem dX10_nextToken_86 : decode cX10_nextToken 86 = .ok (.aload_n 0, 1) := by decide +kernel
theorem dX10_nextToken_87 : decode cX10_nextToken 87 = .ok (.getfield 78, 3) := by decide +kernel
theorem dX10_nextToken_90 : decode cX10_nextToken 90 = .ok (.invokevirtual 87, 3) := by decide +kernel
theorem dX10_nextToken_93 : decode cX10_nextToken 93 = .ok (.ifCond .ne 14, 3) := by decide +kernel
theorem dX10_nextToken_96 : decode cX10_nextToken 96 = .ok (.aload_n 0, 1) := by decide +kernel
theorem dX10_nextToken_97 : decode cX10_nextToken 97 = .ok (.aload_n 0, 1) := by decide +kernel
theorem dX10_nextToken_98 : decode cX10_nextToken 98 = .ok (.getfield 78, 3) := by decide +kernel
theorem dX10_nextToken_101 : decode cX10_nextToken 101 = .ok (.invokevirtual 91, 3) := by decide +kernel
theorem dX10_nextToken_104 : decode cX10_nextToken 104 = .ok (.ifCond .eq 37, 3) := by decide +kernel
theorem dX10_nextToken_107 : decode cX10_nextToken 107 = .ok (.aload_n 0, 1) := by decide +kernel
theorem dX10_nextToken_108 : decode cX10_nextToken 108 = .ok (.aload_n 0, 1) := by decide +kernel
theorem dX10_nextToken_109 : decode cX10_nextToken 109 = .ok (.getfield 78, 3) := by decide +kernel
theorem dX10_nextToken_112 : decode cX10_nextToken 112 = .ok (.iconst 1, 1) := by decide +kernel
theorem dX10_nextToken_113 : decode cX10_nextToken 113 = .ok (.isub, 1) := by decide +kernel
theorem dX10_nextToken_114 : decode cX10_nextToken 114 = .ok (.invokevirtual 87, 3) := by decide +kernel
theorem dX10_nextToken_117 : decode cX10_nextToken 117 = .ok (.ifCond .ne 16, 3) := by decide +kernel
theorem dX10_nextToken_120 : decode cX10_nextToken 120 = .ok (.aload_n 0, 1) := by decide +kernel
theorem dX10_nextToken_121 : decode cX10_nextToken 121 = .ok (.aload_n 0, 1) := by decide +kernel
theorem dX10_nextToken_122 : decode cX10_nextToken 122 = .ok (.getfield 78, 3) := by decide +kernel
theorem dX10_nextToken_125 : decode cX10_nextToken 125 = .ok (.iconst 1, 1) := by decide +kernel
theorem dX10_nextToken_126 : decode cX10_nextToken 126 = .ok (.isub, 1) := by decide +kernel
theorem dX10_nextToken_127 : decode cX10_nextToken 127 = .ok (.invokevirtual 91, 3) := by decide +kernel
theorem dX10_nextToken_130 : decode cX10_nextToken 130 = .ok (.ifCond .eq 11, 3) := by decide +kernel
theorem dX10_nextToken_133 : decode cX10_nextToken 133 = .ok (.aload_n 0, 1) := by decide +kernel
theorem dX10_nextToken_134 : decode cX10_nextToken 134 = .ok (.aload_n 0, 1) := by decide +kernel
theorem dX10_nextToken_135 : decode cX10_nextToken 135 = .ok (.getfield 78, 3) := by decide +kernel
theorem dX10_nextToken_138 : decode cX10_nextToken 138 = .ok (.invokevirtual 94, 3) := by decide +kernel
theorem dX10_nextToken_141 : decode cX10_nextToken 141 = .ok (.aload_n 0, 1) := by decide +kernel
theorem dX10_nextToken_142 : decode cX10_nextToken 142 = .ok (.getfield 78, 3) := by decide +kernel
theorem dX10_nextToken_145 : decode cX10_nextToken 145 = .ok (.aload_n 0, 1) := by decide +kernel
theorem dX10_nextToken_146 : decode cX10_nextToken 146 = .ok (.getfield 72, 3) := by decide +kernel
theorem dX10_nextToken_149 : decode cX10_nextToken 149 = .ok (.if_icmp .ne 11, 3) := by decide +kernel
theorem dX10_nextToken_152 : decode cX10_nextToken 152 = .ok (.aload_n 0, 1) := by decide +kernel
theorem dX10_nextToken_153 : decode cX10_nextToken 153 = .ok (.iconst 0, 1) := by decide +kernel
theorem dX10_nextToken_154 : decode cX10_nextToken 154 = .ok (.putfield 98, 3) := by decide +kernel
theorem dX10_nextToken_157 : decode cX10_nextToken 157 = .ok (.goto 153, 3) := by decide +kernel
theorem dX10_nextToken_160 : decode cX10_nextToken 160 = .ok (.aload_n 0, 1) := by decide +kernel
theorem dX10_nextToken_161 : decode cX10_nextToken 161 = .ok (.aload_n 0, 1) := by decide +kernel
theorem dX10_nextToken_162 : decode cX10_nextToken 162 = .ok (.getfield 78, 3) := by decide +kernel
theorem dX10_nextToken_165 : decode cX10_nextToken 165 = .ok (.invokevirtual 87, 3) := by decide +kernel
theorem dX10_nextToken_168 : decode cX10_nextToken 168 = .ok (.ifCond .eq 32, 3) := by decide +kernel
theorem dX10_nextToken_171 : decode cX10_nextToken 171 = .ok (.aload_n 0, 1) := by decide +kernel
theorem dX10_nextToken_172 : decode cX10_nextToken 172 = .ok (.iconst 1, 1) := by decide +kernel
theorem dX10_nextToken_173 : decode cX10_nextToken 173 = .ok (.putfield 98, 3) := by decide +kernel
theorem dX10_nextToken_176 : decode cX10_nextToken 176 = .ok (.aload_n 0, 1) := by decide +kernel
theorem dX10_nextToken_177 : decode cX10_nextToken 177 = .ok (.aload_n 0, 1) := by decide +kernel
theorem dX10_nextToken_178 : decode cX10_nextToken 178 = .ok (.getfield 78, 3) := by decide +kernel
theorem dX10_nextToken_181 : decode cX10_nextToken 181 = .ok (.invokevirtual 87, 3) := by decide +kernel
theorem dX10_nextToken_184 : decode cX10_nextToken 184 = .ok (.ifCond .eq 126, 3) := by decide +kernel
theorem dX10_nextToken_187 : decode cX10_nextToken 187 = .ok (.aload_n 0, 1) := by decide +kernel
theorem dX10_nextToken_188 : decode cX10_nextToken 188 = .ok (.dup, 1) := by decide +kernel
theorem dX10_nextToken_189 : decode cX10_nextToken 189 = .ok (.getfield 78, 3) := by decide +kernel
theorem dX10_nextToken_192 : decode cX10_nextToken 192 = .ok (.iconst 1, 1) := by decide +kernel
theorem dX10_nextToken_193 : decode cX10_nextToken 193 = .ok (.iadd, 1) := by decide +kernel
theorem dX10_nextToken_194 : decode cX10_nextToken 194 = .ok (.putfield 78, 3) := by decide +kernel
theorem dX10_nextToken_197 : decode cX10_nextToken 197 = .ok (.goto (-21), 3) := by decide +kernel
theorem dX10_nextToken_200 : decode cX10_nextToken 200 = .ok (.aload_n 0, 1) := by decide +kernel
theorem dX10_nextToken_201 : decode cX10_nextToken 201 = .ok (.aload_n 0, 1) := by decide +kernel
theorem dX10_nextToken_202 : decode cX10_nextToken 202 = .ok (.getfield 78, 3) := by decide +kernel
theorem dX10_nextToken_205 : decode cX10_nextToken 205 = .ok (.invokevirtual 91, 3) := by decide +kernel
theorem dX10_nextToken_208 : decode cX10_nextToken 208 = .ok (.ifCond .eq 74, 3) := by decide +kernel
theorem dX10_nextToken_211 : decode cX10_nextToken 211 = .ok (.aload_n 0, 1) := by decide +kernel
theorem dX10_nextToken_212 : decode cX10_nextToken 212 = .ok (.iconst 2, 1) := by decide +kernel
theorem dX10_nextToken_213 : decode cX10_nextToken 213 = .ok (.putfield 98, 3) := by decide +kernel
theorem dX10_nextToken_216 : decode cX10_nextToken 216 = .ok (.aload_n 0, 1) := by decide +kernel
theorem dX10_nextToken_217 : decode cX10_nextToken 217 = .ok (.aload_n 0, 1) := by decide +kernel
theorem dX10_nextToken_218 : decode cX10_nextToken 218 = .ok (.getfield 78, 3) := by decide +kernel
theorem dX10_nextToken_221 : decode cX10_nextToken 221 = .ok (.invokevirtual 91, 3) := by decide +kernel
theorem dX10_nextToken_224 : decode cX10_nextToken 224 = .ok (.ifCond .eq 86, 3) := by decide +kernel
theorem dX10_nextToken_227 : decode cX10_nextToken 227 = .ok (.aload_n 0, 1) := by decide +kernel
theorem dX10_nextToken_228 : decode cX10_nextToken 228 = .ok (.aload_n 0, 1) := by decide +kernel
theorem dX10_nextToken_229 : decode cX10_nextToken 229 = .ok (.getfield 78, 3) := by decide +kernel
theorem dX10_nextToken_232 : decode cX10_nextToken 232 = .ok (.aload_n 0, 1) := by decide +kernel
theorem dX10_nextToken_233 : decode cX10_nextToken 233 = .ok (.getfield 81, 3) := by decide +kernel
theorem dX10_nextToken_236 : decode cX10_nextToken 236 = .ok (.isub, 1) := by decide +kernel
theorem dX10_nextToken_237 : decode cX10_nextToken 237 = .ok (.iconst 4, 1) := by decide +kernel
theorem dX10_nextToken_238 : decode cX10_nextToken 238 = .ok (.if_icmp .le 8, 3) := by decide +kernel
theorem dX10_nextToken_241 : decode cX10_nextToken 241 = .ok (.ldc 101, 2) := by decide +kernel
theorem dX10_nextToken_243 : decode cX10_nextToken 243 = .ok (.goto 23, 3) := by decide +kernel
theorem dX10_nextToken_246 : decode cX10_nextToken 246 = .ok (.bipush 10, 2) := by decide +kernel
theorem dX10_nextToken_248 : decode cX10_nextToken 248 = .ok (.aload_n 0, 1) := by decide +kernel
theorem dX10_nextToken_249 : decode cX10_nextToken 249 = .ok (.getfield 84, 3) := by decide +kernel
theorem dX10_nextToken_252 : decode cX10_nextToken 252 = .ok (.imul, 1) := by decide +kernel
theorem dX10_nextToken_253 : decode cX10_nextToken 253 = .ok (.aload_n 0, 1) := by decide +kernel
theorem dX10_nextToken_254 : decode cX10_nextToken 254 = .ok (.getfield 19, 3) := by decide +kernel
theorem dX10_nextToken_257 : decode cX10_nextToken 257 = .ok (.aload_n 0, 1) := by decide +kernel
theorem dX10_nextToken_258 : decode cX10_nextToken 258 = .ok (.getfield 78, 3) := by decide +kernel
theorem dX10_nextToken_261 : decode cX10_nextToken 261 = .ok (.iaload, 1) := by decide +kernel
theorem dX10_nextToken_262 : decode cX10_nextToken 262 = .ok (.iadd, 1) := by decide +kernel
theorem dX10_nextToken_263 : decode cX10_nextToken 263 = .ok (.bipush 48, 2) := by decide +kernel
theorem dX10_nextToken_265 : decode cX10_nextToken 265 = .ok (.isub, 1) := by decide +kernel
theorem dX10_nextToken_266 : decode cX10_nextToken 266 = .ok (.putfield 84, 3) := by decide +kernel
theorem dX10_nextToken_269 : decode cX10_nextToken 269 = .ok (.aload_n 0, 1) := by decide +kernel
theorem dX10_nextToken_270 : decode cX10_nextToken 270 = .ok (.dup, 1) := by decide +kernel
theorem dX10_nextToken_271 : decode cX10_nextToken 271 = .ok (.getfield 78, 3) := by decide +kernel
theorem dX10_nextToken_274 : decode cX10_nextToken 274 = .ok (.iconst 1, 1) := by decide +kernel
theorem dX10_nextToken_275 : decode cX10_nextToken 275 = .ok (.iadd, 1) := by decide +kernel
theorem dX10_nextToken_276 : decode cX10_nextToken 276 = .ok (.putfield 78, 3) := by decide +kernel
theorem dX10_nextToken_279 : decode cX10_nextToken 279 = .ok (.goto (-63), 3) := by decide +kernel
theorem dX10_nextToken_282 : decode cX10_nextToken 282 = .ok (.aload_n 0, 1) := by decide +kernel
theorem dX10_nextToken_283 : decode cX10_nextToken 283 = .ok (.iconst 3, 1) := by decide +kernel
theorem dX10_nextToken_284 : decode cX10_nextToken 284 = .ok (.putfield 98, 3) := by decide +kernel
theorem dX10_nextToken_287 : decode cX10_nextToken 287 = .ok (.aload_n 0, 1) := by decide +kernel
theorem dX10_nextToken_288 : decode cX10_nextToken 288 = .ok (.aload_n 0, 1) := by decide +kernel
theorem dX10_nextToken_289 : decode cX10_nextToken 289 = .ok (.getfield 19, 3) := by decide +kernel
theorem dX10_nextToken_292 : decode cX10_nextToken 292 = .ok (.aload_n 0, 1) := by decide +kernel
theorem dX10_nextToken_293 : decode cX10_nextToken 293 = .ok (.getfield 78, 3) := by decide +kernel
theorem dX10_nextToken_296 : decode cX10_nextToken 296 = .ok (.iaload, 1) := by decide +kernel
theorem dX10_nextToken_297 : decode cX10_nextToken 297 = .ok (.putfield 84, 3) := by decide +kernel
theorem dX10_nextToken_300 : decode cX10_nextToken 300 = .ok (.aload_n 0, 1) := by decide +kernel
theorem dX10_nextToken_301 : decode cX10_nextToken 301 = .ok (.dup, 1) := by decide +kernel
theorem dX10_nextToken_302 : decode cX10_nextToken 302 = .ok (.getfield 78, 3) := by decide +kernel
theorem dX10_nextToken_305 : decode cX10_nextToken 305 = .ok (.iconst 1, 1) := by decide +kernel
theorem dX10_nextToken_306 : decode cX10_nextToken 306 = .ok (.iadd, 1) := by decide +kernel
theorem dX10_nextToken_307 : decode cX10_nextToken 307 = .ok (.putfield 78, 3) := by decide +kernel
theorem dX10_nextToken_310 : decode cX10_nextToken 310 = .ok (.return_, 1) := by decide +kernel
theorem zm_X10_nextToken : ZMv "ClassOfManyModel" yX10_nextToken cX10_nextToken 2 (none) 0 := ⟨kw_6_116, kw_6_115, kp_58, kw_1_10, by decide +kernel, by decide⟩
def zf_X10_nextToken_j44 (M46 : ZMem) (R5 : ZMem → Option (ZMem)) : Option (ZMem) :=
  zput M46 77 8 ((M46 77 8) + (1 : Int32)) (fun M49 => (R5 M49))
def zf_X10_nextToken_L5 (K57 : ZMem → Option (ZMem)) : Nat → ZMem → Option (ZMem)
  | 0, _ => none
  | n5 + 1, M46 =>
  (if (M46 77 7) ≤ (M46 77 8) then (K57 M46) else zrd M46 81 400 (M46 77 8) (fun v48 => (if v48 = (32 : Int32) then (zf_X10_nextToken_j44 M46 (fun x0 => zf_X10_nextToken_L5 K57 n5 x0)) else zrd M46 81 400 (M46 77 8) (fun v50 => (if v50 = (10 : Int32) then (zf_X10_nextToken_j44 M46 (fun x0 => zf_X10_nextToken_L5 K57 n5 x0)) else (K57 M46))))))
def zf_X10_nextToken_j310 (M55 : ZMem) : Option (ZMem) :=
  some M55
def zf_X10_nextToken_j266 (M63 : ZMem) (R216 : ZMem → Option (ZMem)) (v66 : Int32) : Option (ZMem) :=
  zput M63 77 11 v66 (fun M67 => zput M67 77 8 ((M67 77 8) + (1 : Int32)) (fun M68 => (R216 M68)))
def zf_X10_nextToken_L216 (K310 : ZMem → Option (ZMem)) : Nat → ZMem → Option (ZMem)
  | 0, _ => none
  | n216 + 1, M63 =>
  zb1 (zf_X10_isDigit (M63 77 8) M63) (fun v65 => (if v65 = 0 then (K310 M63) else (if ((M63 77 8) - (M63 77 10)) ≤ (4 : Int32) then zrd M63 81 400 (M63 77 8) (fun v69 => (zf_X10_nextToken_j266 M63 (fun x0 => zf_X10_nextToken_L216 K310 n216 x0) ((((10 : Int32) * (M63 77 11)) + v69) - (48 : Int32)))) else (zf_X10_nextToken_j266 M63 (fun x0 => zf_X10_nextToken_L216 K310 n216 x0) (1000000 : Int32)))))
def zf_X10_nextToken_L176 (K310 : ZMem → Option (ZMem)) : Nat → ZMem → Option (ZMem)
  | 0, _ => none
  | n176 + 1, M72 =>
  zb1 (zf_X10_isLetter (M72 77 8) M72) (fun v74 => (if v74 = 0 then (K310 M72) else zput M72 77 8 ((M72 77 8) + (1 : Int32)) (fun M75 => (zf_X10_nextToken_L176 K310 n176 M75))))
def zf_X10_nextToken_j141 (n : Nat) (M54 : ZMem) : Option (ZMem) :=
  (if (M54 77 8) = (M54 77 7) then zput M54 77 9 (0 : Int32) (fun M77 => (zf_X10_nextToken_j310 M77)) else zb1 (zf_X10_isLetter (M54 77 8) M54) (fun v56 => (if v56 = 0 then zb1 (zf_X10_isDigit (M54 77 8) M54) (fun v57 => (if v57 = 0 then zput M54 77 9 (3 : Int32) (fun M58 => zrd M58 81 400 (M58 77 8) (fun v59 => zput M58 77 11 v59 (fun M60 => zput M60 77 8 ((M60 77 8) + (1 : Int32)) (fun M61 => (zf_X10_nextToken_j310 M61))))) else zput M54 77 9 (2 : Int32) (fun M62 => (zf_X10_nextToken_L216 (fun M70 => (zf_X10_nextToken_j310 M70)) n M62)))) else zput M54 77 9 (1 : Int32) (fun M71 => (zf_X10_nextToken_L176 (fun M76 => (zf_X10_nextToken_j310 M76)) n M71)))))
def zf_X10_nextToken_j133 (M53 : ZMem) (n : Nat) : Option (ZMem) :=
  zb1 (zf_X10_wrong (M53 77 8) M53) (fun M80 => (zf_X10_nextToken_j141 n M80))
def zf_X10_nextToken_j107 (M53 : ZMem) (n : Nat) : Option (ZMem) :=
  zb1 (zf_X10_isLetter ((M53 77 8) - (1 : Int32)) M53) (fun v79 => (if v79 = 0 then zb1 (zf_X10_isDigit ((M53 77 8) - (1 : Int32)) M53) (fun v81 => (if v81 = 0 then (zf_X10_nextToken_j141 n M53) else (zf_X10_nextToken_j133 M53 n))) else (zf_X10_nextToken_j133 M53 n)))
def zf_X10_nextToken (n : Nat) (M : ZMem) : Option (ZMem) :=
  (zf_X10_nextToken_L5 (fun M51 => zput M51 77 10 (M51 77 8) (fun M52 => zput M52 77 11 (0 : Int32) (fun M53 => (if (M53 77 8) = (M 77 8) then (if (M53 77 8) ≤ 0 then (zf_X10_nextToken_j141 n M53) else zb1 (zf_X10_isLetter (M53 77 8) M53) (fun v78 => (if v78 = 0 then zb1 (zf_X10_isDigit (M53 77 8) M53) (fun v82 => (if v82 = 0 then (zf_X10_nextToken_j141 n M53) else (zf_X10_nextToken_j107 M53 n))) else (zf_X10_nextToken_j107 M53 n)))) else (zf_X10_nextToken_j141 n M53))))) n M)
set_option maxHeartbeats 4000000 in
set_option maxRecDepth 100000 in
theorem zc_X10_nextToken {l : Launch} {D : va_G} {ad : Nat → Nat} {cA : Nat → ClassId} {n : Nat} {M : ZMem} {M' : ZMem} (hf : zf_X10_nextToken n M = some M') : ZCt l D ad cA yX10_nextToken cX10_nextToken 2 (none) 3 [.ref (ad 77)] M none M' := by
  refine zct (by decide +kernel) (Nat.le_of_ble_eq_true rfl) (lv := [(0, .ref (ad 77))]) rfl (fun E hl hD had hcA hN hC hR => ?_)
  subst hl; subst hD; subst had; subst hcA
  unfold zf_X10_nextToken at hf
  refine zw_aload_n hC dX10_nextToken_0 rfl 0 rfl ?_
  refine zw_geti hC zF_Model_at zk_77 dX10_nextToken_1 kw_5_234 ?_
  refine zw_istore_n hC (lv' := [(1, .int (M 77 8)), (0, .ref (zad E 77))]) dX10_nextToken_4 rfl hN (by decide) rfl ?_
  have hL5 : ∀ (K57 : ZMem → Option (ZMem)), (∀ (M47 : ZMem), K57 M47 = some M' → ZW E 57 [(0, .ref (zad E 77)), (1, .int (M 77 8))] [] M47) → ∀ (n5 : Nat), ∀ (M46 : ZMem), zf_X10_nextToken_L5 K57 n5 M46 = some M' → ZW E 5 [(0, .ref (zad E 77)), (1, .int (M 77 8))] [] M46 := by
    intro K57 hK57
    intro n5
    induction n5 with
    | zero => intro M46 hf; rw [zf_X10_nextToken_L5] at hf; cases hf
    | succ n5 ih5 =>
      intro M46 hf
      rw [zf_X10_nextToken_L5] at hf
      refine zw_aload_n hC dX10_nextToken_5 rfl 0 rfl ?_
      refine zw_geti hC zF_Model_at zk_77 dX10_nextToken_6 kw_5_234 ?_
      refine zw_aload_n hC dX10_nextToken_9 rfl 0 rfl ?_
      refine zw_geti hC zF_Model_size zk_77 dX10_nextToken_10 kw_5_233 ?_
      refine zw_icmp_ge hC 57 hf dX10_nextToken_13 (by decide) (fun hf => ?_) (fun hf => ?_)
      · exact hK57 M46 hf
      · refine zw_aload_n hC dX10_nextToken_16 rfl 0 rfl ?_
        refine zw_getr (k' := 81) hC zF_Model_tape zk_77 rfl dX10_nextToken_17 kw_5_231 ?_
        refine zw_aload_n hC dX10_nextToken_20 rfl 0 rfl ?_
        refine zw_geti hC zF_Model_at zk_77 dX10_nextToken_21 kw_5_234 ?_
        refine zw_iald hC hf zk_81 dX10_nextToken_24 (fun v48 hf => ?_)
        refine zw_bipush hC (v := (32 : Int32)) dX10_nextToken_25 (by decide) ?_
        have hj44 : zf_X10_nextToken_j44 M46 (fun x0 => zf_X10_nextToken_L5 K57 n5 x0) = some M' → ZW E 44 [(0, .ref (zad E 77)), (1, .int (M 77 8))] [] M46 := by
          intro  hf
          unfold zf_X10_nextToken_j44 at hf
          refine zw_aload_n hC dX10_nextToken_44 rfl 0 rfl ?_
          refine zw_dup hC dX10_nextToken_45 rfl ?_
          refine zw_geti hC zF_Model_at zk_77 dX10_nextToken_46 kw_5_234 ?_
          refine zw_iconst hC (v := (1 : Int32)) dX10_nextToken_49 (by decide) ?_
          refine zw_iadd hC dX10_nextToken_50 ?_
          refine zw_puti hC hf zF_Model_at zk_77 dX10_nextToken_51 kw_5_234 (fun M49 hf => ?_)
          refine zw_goto hC 5 dX10_nextToken_54 (by decide) ?_
          exact ih5 M49 hf
        refine zw_icmp_eq hC 44 hf dX10_nextToken_27 (by decide) (fun hf => ?_) (fun hf => ?_)
        · exact hj44 hf
        · refine zw_aload_n hC dX10_nextToken_30 rfl 0 rfl ?_
          refine zw_getr (k' := 81) hC zF_Model_tape zk_77 rfl dX10_nextToken_31 kw_5_231 ?_
          refine zw_aload_n hC dX10_nextToken_34 rfl 0 rfl ?_
          refine zw_geti hC zF_Model_at zk_77 dX10_nextToken_35 kw_5_234 ?_
          refine zw_iald hC hf zk_81 dX10_nextToken_38 (fun v50 hf => ?_)
          refine zw_bipush hC (v := (10 : Int32)) dX10_nextToken_39 (by decide) ?_
          refine zw_icmp_ne hC 57 hf dX10_nextToken_41 (by decide) (fun hf => ?_) (fun hf => ?_)
          · exact hK57 M46 hf
          · exact hj44 hf
  refine zw_sub [1, 0] rfl (hL5 _ ?_ n M hf)
  · intro M51 hf
    refine zw_aload_n hC dX10_nextToken_57 rfl 0 rfl ?_
    refine zw_aload_n hC dX10_nextToken_58 rfl 0 rfl ?_
    refine zw_geti hC zF_Model_at zk_77 dX10_nextToken_59 kw_5_234 ?_
    refine zw_puti hC hf zF_Model_from zk_77 dX10_nextToken_62 kw_5_236 (fun M52 hf => ?_)
    refine zw_aload_n hC dX10_nextToken_65 rfl 0 rfl ?_
    refine zw_iconst hC (v := (0 : Int32)) dX10_nextToken_66 (by decide) ?_
    refine zw_puti hC hf zF_Model_value zk_77 dX10_nextToken_67 kw_5_237 (fun M53 hf => ?_)
    refine zw_aload_n hC dX10_nextToken_70 rfl 0 rfl ?_
    refine zw_geti hC zF_Model_at zk_77 dX10_nextToken_71 kw_5_234 ?_
    refine zw_iload_n hC dX10_nextToken_74 rfl 1 rfl ?_
    have hj141 : ∀ (M54 : ZMem), zf_X10_nextToken_j141 n M54 = some M' → ZW E 141 [(0, .ref (zad E 77))] [] M54 := by
      intro M54 hf
      unfold zf_X10_nextToken_j141 at hf
      refine zw_aload_n hC dX10_nextToken_141 rfl 0 rfl ?_
      refine zw_geti hC zF_Model_at zk_77 dX10_nextToken_142 kw_5_234 ?_
      refine zw_aload_n hC dX10_nextToken_145 rfl 0 rfl ?_
      refine zw_geti hC zF_Model_size zk_77 dX10_nextToken_146 kw_5_233 ?_
      have hj310 : ∀ (M55 : ZMem), zf_X10_nextToken_j310 M55 = some M' → ZW E 310 [] [] M55 := by
        intro M55 hf
        unfold zf_X10_nextToken_j310 at hf
        have h1 := Option.some.inj hf
        subst h1
        exact zw_vret hC hR dX10_nextToken_310
      refine zw_icmp_ne hC 160 hf dX10_nextToken_149 (by decide) (fun hf => ?_) (fun hf => ?_)
      · refine zw_aload_n hC dX10_nextToken_160 rfl 0 rfl ?_
        refine zw_aload_n hC dX10_nextToken_161 rfl 0 rfl ?_
        refine zw_geti hC zF_Model_at zk_77 dX10_nextToken_162 kw_5_234 ?_
        obtain ⟨v56, hc56, hf⟩ := zb1_some hf
        refine zw_cV hC [.int (M54 77 8)] [] (st1 := [.int v56]) zm_X10_isLetter (zc_X10_isLetter hc56) zk_77 rfl kw_6_117 dX10_nextToken_165 rfl (by decide) (Nat.le_of_ble_eq_true rfl) rfl rfl ?_
        refine zw_if_eq hC 200 hf dX10_nextToken_168 (by decide) (fun hf => ?_) (fun hf => ?_)
        · refine zw_aload_n hC dX10_nextToken_200 rfl 0 rfl ?_
          refine zw_aload_n hC dX10_nextToken_201 rfl 0 rfl ?_
          refine zw_geti hC zF_Model_at zk_77 dX10_nextToken_202 kw_5_234 ?_
          obtain ⟨v57, hc57, hf⟩ := zb1_some hf
          refine zw_cV hC [.int (M54 77 8)] [] (st1 := [.int v57]) zm_X10_isDigit (zc_X10_isDigit hc57) zk_77 rfl kw_6_121 dX10_nextToken_205 rfl (by decide) (Nat.le_of_ble_eq_true rfl) rfl rfl ?_
          refine zw_if_eq hC 282 hf dX10_nextToken_208 (by decide) (fun hf => ?_) (fun hf => ?_)
          · refine zw_aload_n hC dX10_nextToken_282 rfl 0 rfl ?_
            refine zw_iconst hC (v := (3 : Int32)) dX10_nextToken_283 (by decide) ?_
            refine zw_puti hC hf zF_Model_token zk_77 dX10_nextToken_284 kw_5_235 (fun M58 hf => ?_)
            refine zw_aload_n hC dX10_nextToken_287 rfl 0 rfl ?_
            refine zw_aload_n hC dX10_nextToken_288 rfl 0 rfl ?_
            refine zw_getr (k' := 81) hC zF_Model_tape zk_77 rfl dX10_nextToken_289 kw_5_231 ?_
            refine zw_aload_n hC dX10_nextToken_292 rfl 0 rfl ?_
            refine zw_geti hC zF_Model_at zk_77 dX10_nextToken_293 kw_5_234 ?_
            refine zw_iald hC hf zk_81 dX10_nextToken_296 (fun v59 hf => ?_)
            refine zw_puti hC hf zF_Model_value zk_77 dX10_nextToken_297 kw_5_237 (fun M60 hf => ?_)
            refine zw_aload_n hC dX10_nextToken_300 rfl 0 rfl ?_
            refine zw_dup hC dX10_nextToken_301 rfl ?_
            refine zw_geti hC zF_Model_at zk_77 dX10_nextToken_302 kw_5_234 ?_
            refine zw_iconst hC (v := (1 : Int32)) dX10_nextToken_305 (by decide) ?_
            refine zw_iadd hC dX10_nextToken_306 ?_
            refine zw_puti hC hf zF_Model_at zk_77 dX10_nextToken_307 kw_5_234 (fun M61 hf => ?_)
            exact zw_sub [] rfl (hj310 M61 hf)
          · refine zw_aload_n hC dX10_nextToken_211 rfl 0 rfl ?_
            refine zw_iconst hC (v := (2 : Int32)) dX10_nextToken_212 (by decide) ?_
            refine zw_puti hC hf zF_Model_token zk_77 dX10_nextToken_213 kw_5_235 (fun M62 hf => ?_)
            have hL216 : ∀ (K310 : ZMem → Option (ZMem)), (∀ (M64 : ZMem), K310 M64 = some M' → ZW E 310 [] [] M64) → ∀ (n216 : Nat), ∀ (M63 : ZMem), zf_X10_nextToken_L216 K310 n216 M63 = some M' → ZW E 216 [(0, .ref (zad E 77))] [] M63 := by
              intro K310 hK310
              intro n216
              induction n216 with
              | zero => intro M63 hf; rw [zf_X10_nextToken_L216] at hf; cases hf
              | succ n216 ih216 =>
                intro M63 hf
                rw [zf_X10_nextToken_L216] at hf
                refine zw_aload_n hC dX10_nextToken_216 rfl 0 rfl ?_
                refine zw_aload_n hC dX10_nextToken_217 rfl 0 rfl ?_
                refine zw_geti hC zF_Model_at zk_77 dX10_nextToken_218 kw_5_234 ?_
                obtain ⟨v65, hc65, hf⟩ := zb1_some hf
                refine zw_cV hC [.int (M63 77 8)] [] (st1 := [.int v65]) zm_X10_isDigit (zc_X10_isDigit hc65) zk_77 rfl kw_6_121 dX10_nextToken_221 rfl (by decide) (Nat.le_of_ble_eq_true rfl) rfl rfl ?_
                refine zw_if_eq hC 310 hf dX10_nextToken_224 (by decide) (fun hf => ?_) (fun hf => ?_)
                · exact zw_sub [] rfl (hK310 M63 hf)
                · refine zw_aload_n hC dX10_nextToken_227 rfl 0 rfl ?_
                  refine zw_aload_n hC dX10_nextToken_228 rfl 0 rfl ?_
                  refine zw_geti hC zF_Model_at zk_77 dX10_nextToken_229 kw_5_234 ?_
                  refine zw_aload_n hC dX10_nextToken_232 rfl 0 rfl ?_
                  refine zw_geti hC zF_Model_from zk_77 dX10_nextToken_233 kw_5_236 ?_
                  refine zw_isub hC dX10_nextToken_236 ?_
                  refine zw_iconst hC (v := (4 : Int32)) dX10_nextToken_237 (by decide) ?_
                  have hj266 : ∀ (v66 : Int32), zf_X10_nextToken_j266 M63 (fun x0 => zf_X10_nextToken_L216 K310 n216 x0) v66 = some M' → ZW E 266 [(0, .ref (zad E 77))] [.int v66, .ref (zad E 77)] M63 := by
                    intro v66 hf
                    unfold zf_X10_nextToken_j266 at hf
                    refine zw_puti hC hf zF_Model_value zk_77 dX10_nextToken_266 kw_5_237 (fun M67 hf => ?_)
                    refine zw_aload_n hC dX10_nextToken_269 rfl 0 rfl ?_
                    refine zw_dup hC dX10_nextToken_270 rfl ?_
                    refine zw_geti hC zF_Model_at zk_77 dX10_nextToken_271 kw_5_234 ?_
                    refine zw_iconst hC (v := (1 : Int32)) dX10_nextToken_274 (by decide) ?_
                    refine zw_iadd hC dX10_nextToken_275 ?_
                    refine zw_puti hC hf zF_Model_at zk_77 dX10_nextToken_276 kw_5_234 (fun M68 hf => ?_)
                    refine zw_goto hC 216 dX10_nextToken_279 (by decide) ?_
                    exact ih216 M68 hf
                  refine zw_icmp_le hC 246 hf dX10_nextToken_238 (by decide) (fun hf => ?_) (fun hf => ?_)
                  · refine zw_bipush hC (v := (10 : Int32)) dX10_nextToken_246 (by decide) ?_
                    refine zw_aload_n hC dX10_nextToken_248 rfl 0 rfl ?_
                    refine zw_geti hC zF_Model_value zk_77 dX10_nextToken_249 kw_5_237 ?_
                    refine zw_imul hC dX10_nextToken_252 ?_
                    refine zw_aload_n hC dX10_nextToken_253 rfl 0 rfl ?_
                    refine zw_getr (k' := 81) hC zF_Model_tape zk_77 rfl dX10_nextToken_254 kw_5_231 ?_
                    refine zw_aload_n hC dX10_nextToken_257 rfl 0 rfl ?_
                    refine zw_geti hC zF_Model_at zk_77 dX10_nextToken_258 kw_5_234 ?_
                    refine zw_iald hC hf zk_81 dX10_nextToken_261 (fun v69 hf => ?_)
                    refine zw_iadd hC dX10_nextToken_262 ?_
                    refine zw_bipush hC (v := (48 : Int32)) dX10_nextToken_263 (by decide) ?_
                    refine zw_isub hC dX10_nextToken_265 ?_
                    exact hj266 ((((10 : Int32) * (M63 77 11)) + v69) - (48 : Int32)) hf
                  · refine zw_ldc hC dX10_nextToken_241 kw_6_129 ?_
                    refine zw_goto hC 266 dX10_nextToken_243 (by decide) ?_
                    exact hj266 (1000000 : Int32) hf
            refine hL216 _ ?_ n M62 hf
            · intro M70 hf
              exact hj310 M70 hf
        · refine zw_aload_n hC dX10_nextToken_171 rfl 0 rfl ?_
          refine zw_iconst hC (v := (1 : Int32)) dX10_nextToken_172 (by decide) ?_
          refine zw_puti hC hf zF_Model_token zk_77 dX10_nextToken_173 kw_5_235 (fun M71 hf => ?_)
          have hL176 : ∀ (K310 : ZMem → Option (ZMem)), (∀ (M73 : ZMem), K310 M73 = some M' → ZW E 310 [] [] M73) → ∀ (n176 : Nat), ∀ (M72 : ZMem), zf_X10_nextToken_L176 K310 n176 M72 = some M' → ZW E 176 [(0, .ref (zad E 77))] [] M72 := by
            intro K310 hK310
            intro n176
            induction n176 with
            | zero => intro M72 hf; rw [zf_X10_nextToken_L176] at hf; cases hf
            | succ n176 ih176 =>
              intro M72 hf
              rw [zf_X10_nextToken_L176] at hf
              refine zw_aload_n hC dX10_nextToken_176 rfl 0 rfl ?_
              refine zw_aload_n hC dX10_nextToken_177 rfl 0 rfl ?_
              refine zw_geti hC zF_Model_at zk_77 dX10_nextToken_178 kw_5_234 ?_
              obtain ⟨v74, hc74, hf⟩ := zb1_some hf
              refine zw_cV hC [.int (M72 77 8)] [] (st1 := [.int v74]) zm_X10_isLetter (zc_X10_isLetter hc74) zk_77 rfl kw_6_117 dX10_nextToken_181 rfl (by decide) (Nat.le_of_ble_eq_true rfl) rfl rfl ?_
              refine zw_if_eq hC 310 hf dX10_nextToken_184 (by decide) (fun hf => ?_) (fun hf => ?_)
              · exact zw_sub [] rfl (hK310 M72 hf)
              · refine zw_aload_n hC dX10_nextToken_187 rfl 0 rfl ?_
                refine zw_dup hC dX10_nextToken_188 rfl ?_
                refine zw_geti hC zF_Model_at zk_77 dX10_nextToken_189 kw_5_234 ?_
                refine zw_iconst hC (v := (1 : Int32)) dX10_nextToken_192 (by decide) ?_
                refine zw_iadd hC dX10_nextToken_193 ?_
                refine zw_puti hC hf zF_Model_at zk_77 dX10_nextToken_194 kw_5_234 (fun M75 hf => ?_)
                refine zw_goto hC 176 dX10_nextToken_197 (by decide) ?_
                exact ih176 M75 hf
          refine hL176 _ ?_ n M71 hf
          · intro M76 hf
            exact hj310 M76 hf
      · refine zw_aload_n hC dX10_nextToken_152 rfl 0 rfl ?_
        refine zw_iconst hC (v := (0 : Int32)) dX10_nextToken_153 (by decide) ?_
        refine zw_puti hC hf zF_Model_token zk_77 dX10_nextToken_154 kw_5_235 (fun M77 hf => ?_)
        refine zw_goto hC 310 dX10_nextToken_157 (by decide) ?_
        exact zw_sub [] rfl (hj310 M77 hf)
    refine zw_icmp_ne hC 141 hf dX10_nextToken_75 (by decide) (fun hf => ?_) (fun hf => ?_)
    · exact zw_sub [0] rfl (hj141 M53 hf)
    · refine zw_aload_n hC dX10_nextToken_78 rfl 0 rfl ?_
      refine zw_geti hC zF_Model_at zk_77 dX10_nextToken_79 kw_5_234 ?_
      refine zw_if_le hC 141 hf dX10_nextToken_82 (by decide) (fun hf => ?_) (fun hf => ?_)
      · exact zw_sub [0] rfl (hj141 M53 hf)
      · refine zw_aload_n hC dX10_nextToken_85 rfl 0 rfl ?_
        refine zw_aload_n hC dX10_nextToken_86 rfl 0 rfl ?_
        refine zw_geti hC zF_Model_at zk_77 dX10_nextToken_87 kw_5_234 ?_
        obtain ⟨v78, hc78, hf⟩ := zb1_some hf
        refine zw_cV hC [.int (M53 77 8)] [] (st1 := [.int v78]) zm_X10_isLetter (zc_X10_isLetter hc78) zk_77 rfl kw_6_117 dX10_nextToken_90 rfl (by decide) (Nat.le_of_ble_eq_true rfl) rfl rfl ?_
        have hj107 : zf_X10_nextToken_j107 M53 n = some M' → ZW E 107 [(0, .ref (zad E 77))] [] M53 := by
          intro  hf
          unfold zf_X10_nextToken_j107 at hf
          refine zw_aload_n hC dX10_nextToken_107 rfl 0 rfl ?_
          refine zw_aload_n hC dX10_nextToken_108 rfl 0 rfl ?_
          refine zw_geti hC zF_Model_at zk_77 dX10_nextToken_109 kw_5_234 ?_
          refine zw_iconst hC (v := (1 : Int32)) dX10_nextToken_112 (by decide) ?_
          refine zw_isub hC dX10_nextToken_113 ?_
          obtain ⟨v79, hc79, hf⟩ := zb1_some hf
          refine zw_cV hC [.int ((M53 77 8) - (1 : Int32))] [] (st1 := [.int v79]) zm_X10_isLetter (zc_X10_isLetter hc79) zk_77 rfl kw_6_117 dX10_nextToken_114 rfl (by decide) (Nat.le_of_ble_eq_true rfl) rfl rfl ?_
          have hj133 : zf_X10_nextToken_j133 M53 n = some M' → ZW E 133 [(0, .ref (zad E 77))] [] M53 := by
            intro  hf
            unfold zf_X10_nextToken_j133 at hf
            refine zw_aload_n hC dX10_nextToken_133 rfl 0 rfl ?_
            refine zw_aload_n hC dX10_nextToken_134 rfl 0 rfl ?_
            refine zw_geti hC zF_Model_at zk_77 dX10_nextToken_135 kw_5_234 ?_
            obtain ⟨M80, hcM80, hf⟩ := zb1_some hf
            refine zw_cV hC [.int (M53 77 8)] [] (st1 := []) zm_X10_wrong (zc_X10_wrong hcM80) zk_77 rfl kw_6_125 dX10_nextToken_138 rfl (by decide) (Nat.le_of_ble_eq_true rfl) rfl rfl ?_
            exact hj141 M80 hf
          refine zw_if_ne hC 133 hf dX10_nextToken_117 (by decide) (fun hf => ?_) (fun hf => ?_)
          · exact hj133 hf
          · refine zw_aload_n hC dX10_nextToken_120 rfl 0 rfl ?_
            refine zw_aload_n hC dX10_nextToken_121 rfl 0 rfl ?_
            refine zw_geti hC zF_Model_at zk_77 dX10_nextToken_122 kw_5_234 ?_
            refine zw_iconst hC (v := (1 : Int32)) dX10_nextToken_125 (by decide) ?_
            refine zw_isub hC dX10_nextToken_126 ?_
            obtain ⟨v81, hc81, hf⟩ := zb1_some hf
            refine zw_cV hC [.int ((M53 77 8) - (1 : Int32))] [] (st1 := [.int v81]) zm_X10_isDigit (zc_X10_isDigit hc81) zk_77 rfl kw_6_121 dX10_nextToken_127 rfl (by decide) (Nat.le_of_ble_eq_true rfl) rfl rfl ?_
            refine zw_if_eq hC 141 hf dX10_nextToken_130 (by decide) (fun hf => ?_) (fun hf => ?_)
            · exact hj141 M53 hf
            · exact hj133 hf
        refine zw_if_ne hC 107 hf dX10_nextToken_93 (by decide) (fun hf => ?_) (fun hf => ?_)
        · exact zw_sub [0] rfl (hj107 hf)
        · refine zw_aload_n hC dX10_nextToken_96 rfl 0 rfl ?_
          refine zw_aload_n hC dX10_nextToken_97 rfl 0 rfl ?_
          refine zw_geti hC zF_Model_at zk_77 dX10_nextToken_98 kw_5_234 ?_
          obtain ⟨v82, hc82, hf⟩ := zb1_some hf
          refine zw_cV hC [.int (M53 77 8)] [] (st1 := [.int v82]) zm_X10_isDigit (zc_X10_isDigit hc82) zk_77 rfl kw_6_121 dX10_nextToken_101 rfl (by decide) (Nat.le_of_ble_eq_true rfl) rfl rfl ?_
          refine zw_if_eq hC 141 hf dX10_nextToken_104 (by decide) (fun hf => ?_) (fun hf => ?_)
          · exact zw_sub [0] rfl (hj141 M53 hf)
          · exact zw_sub [0] rfl (hj107 hf)
