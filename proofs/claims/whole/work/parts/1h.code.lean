/-! ClassOfManyModel.settles()I -/
theorem dX10_settles_0 : decode cX10_settles 0 = .ok (.aload_n 0, 1) := by decide +kernel
theorem dX10_settles_1 : decode cX10_settles 1 = .ok (.aload_n 0, 1) := by decide +kernel
theorem dX10_settles_2 : decode cX10_settles 2 = .ok (.invokevirtual 226, 3) := by decide +kernel
theorem dX10_settles_5 : decode cX10_settles 5 = .ok (.invokevirtual 247, 3) := by decide +kernel
theorem dX10_settles_8 : decode cX10_settles 8 = .ok (.aload_n 0, 1) := by decide +kernel
theorem dX10_settles_9 : decode cX10_settles 9 = .ok (.getfield 217, 3) := by decide +kernel
theorem dX10_settles_12 : decode cX10_settles 12 = .ok (.istore_n 1, 1) := by decide +kernel
theorem dX10_settles_13 : decode cX10_settles 13 = .ok (.iconst 0, 1) := by decide +kernel
theorem dX10_settles_14 : decode cX10_settles 14 = .ok (.istore_n 2, 1) := by decide +kernel
theorem dX10_settles_15 : decode cX10_settles 15 = .ok (.iload_n 2, 1) := by decide +kernel
theorem dX10_settles_16 : decode cX10_settles 16 = .ok (.aload_n 0, 1) := by decide +kernel
theorem dX10_settles_17 : decode cX10_settles 17 = .ok (.getfield 7, 3) := by decide +kernel
theorem dX10_settles_20 : decode cX10_settles 20 = .ok (.iconst 0, 1) := by decide +kernel
theorem dX10_settles_21 : decode cX10_settles 21 = .ok (.iaload, 1) := by decide +kernel
theorem dX10_settles_22 : decode cX10_settles 22 = .ok (.if_icmp .ge 83, 3) := by decide +kernel
theorem dX10_settles_25 : decode cX10_settles 25 = .ok (.iload_n 2, 1) := by decide +kernel
theorem dX10_settles_26 : decode cX10_settles 26 = .ok (.iconst 1, 1) := by decide +kernel
theorem dX10_settles_27 : decode cX10_settles 27 = .ok (.iadd, 1) := by decide +kernel
theorem dX10_settles_28 : decode cX10_settles 28 = .ok (.istore_n 3, 1) := by decide +kernel
theorem dX10_settles_29 : decode cX10_settles 29 = .ok (.iload_n 3, 1) := by decide +kernel
theorem dX10_settles_30 : decode cX10_settles 30 = .ok (.aload_n 0, 1) := by decide +kernel
theorem dX10_settles_31 : decode cX10_settles 31 = .ok (.getfield 7, 3) := by decide +kernel
theorem dX10_settles_34 : decode cX10_settles 34 = .ok (.iconst 0, 1) := by decide +kernel
theorem dX10_settles_35 : decode cX10_settles 35 = .ok (.iaload, 1) := by decide +kernel
theorem dX10_settles_36 : decode cX10_settles 36 = .ok (.if_icmp .ge 63, 3) := by decide +kernel
theorem dX10_settles_39 : decode cX10_settles 39 = .ok (.aload_n 0, 1) := by decide +kernel
theorem dX10_settles_40 : decode cX10_settles 40 = .ok (.getfield 7, 3) := by decide +kernel
theorem dX10_settles_43 : decode cX10_settles 43 = .ok (.bipush 63, 2) := by decide +kernel
theorem dX10_settles_45 : decode cX10_settles 45 = .ok (.iload_n 2, 1) := by decide +kernel
theorem dX10_settles_46 : decode cX10_settles 46 = .ok (.iadd, 1) := by decide +kernel
theorem dX10_settles_47 : decode cX10_settles 47 = .ok (.iaload, 1) := by decide +kernel
theorem dX10_settles_48 : decode cX10_settles 48 = .ok (.iload_n 3, 1) := by decide +kernel
theorem dX10_settles_49 : decode cX10_settles 49 = .ok (.invokestatic 118, 3) := by decide +kernel
theorem dX10_settles_52 : decode cX10_settles 52 = .ok (.ifCond .ne 6, 3) := by decide +kernel
theorem dX10_settles_55 : decode cX10_settles 55 = .ok (.goto 38, 3) := by decide +kernel
theorem dX10_settles_58 : decode cX10_settles 58 = .ok (.aload_n 0, 1) := by decide +kernel
theorem dX10_settles_59 : decode cX10_settles 59 = .ok (.iload_n 2, 1) := by decide +kernel
theorem dX10_settles_60 : decode cX10_settles 60 = .ok (.iload_n 3, 1) := by decide +kernel
theorem dX10_settles_61 : decode cX10_settles 61 = .ok (.invokevirtual 138, 3) := by decide +kernel
theorem dX10_settles_64 : decode cX10_settles 64 = .ok (.aload_n 0, 1) := by decide +kernel
theorem dX10_settles_65 : decode cX10_settles 65 = .ok (.aload_n 0, 1) := by decide +kernel
theorem dX10_settles_66 : decode cX10_settles 66 = .ok (.invokevirtual 226, 3) := by decide +kernel
theorem dX10_settles_69 : decode cX10_settles 69 = .ok (.invokevirtual 247, 3) := by decide +kernel
theorem dX10_settles_72 : decode cX10_settles 72 = .ok (.aload_n 0, 1) := by decide +kernel
theorem dX10_settles_73 : decode cX10_settles 73 = .ok (.iload_n 2, 1) := by decide +kernel
theorem dX10_settles_74 : decode cX10_settles 74 = .ok (.iload_n 3, 1) := by decide +kernel
theorem dX10_settles_75 : decode cX10_settles 75 = .ok (.invokevirtual 138, 3) := by decide +kernel
theorem dX10_settles_78 : decode cX10_settles 78 = .ok (.aload_n 0, 1) := by decide +kernel
theorem dX10_settles_79 : decode cX10_settles 79 = .ok (.getfield 217, 3) := by decide +kernel
theorem dX10_settles_82 : decode cX10_settles 82 = .ok (.iload_n 1, 1) := by decide +kernel
theorem dX10_settles_83 : decode cX10_settles 83 = .ok (.if_icmp .ge 10, 3) := by decide +kernel
theorem dX10_settles_86 : decode cX10_settles 86 = .ok (.bipush 10, 2) := by decide +kernel
theorem dX10_settles_88 : decode cX10_settles 88 = .ok (.iload_n 2, 1) := by decide +kernel
theorem dX10_settles_89 : decode cX10_settles 89 = .ok (.imul, 1) := by decide +kernel
theorem dX10_settles_90 : decode cX10_settles 90 = .ok (.iload_n 3, 1) := by decide +kernel
theorem dX10_settles_91 : decode cX10_settles 91 = .ok (.iadd, 1) := by decide +kernel
theorem dX10_settles_92 : decode cX10_settles 92 = .ok (.ireturn, 1) := by decide +kernel
theorem dX10_settles_93 : decode cX10_settles 93 = .ok (.iinc 3 1, 3) := by decide +kernel
theorem dX10_settles_96 : decode cX10_settles 96 = .ok (.goto (-67), 3) := by decide +kernel
theorem dX10_settles_99 : decode cX10_settles 99 = .ok (.iinc 2 1, 3) := by decide +kernel
theorem dX10_settles_102 : decode cX10_settles 102 = .ok (.goto (-87), 3) := by decide +kernel
theorem dX10_settles_105 : decode cX10_settles 105 = .ok (.bipush (-2), 2) := by decide +kernel
theorem dX10_settles_107 : decode cX10_settles 107 = .ok (.ireturn, 1) := by decide +kernel
theorem zm_X10_settles : ZMv "ClassOfManyModel" yX10_settles cX10_settles 4 (some .int) 0 := ⟨kw_7_149, kw_7_147, kw_7_148, kw_1_10, by decide +kernel, by decide⟩
def zf_X10_settles_j93 (R29 : Int32 → ZMem → Option (Int32 × ZMem)) (v37 : Int32) (M43 : ZMem) : Option (Int32 × ZMem) :=
  (R29 (v37 + (1 : Int32)) M43)
def zf_X10_settles_L29 (v33 : Int32) (n : Nat) (M32 : ZMem) (K99 : ZMem → Option (Int32 × ZMem)) : Nat → Int32 → ZMem → Option (Int32 × ZMem)
  | 0, _, _ => none
  | n29 + 1, v37, M38 =>
  zrd M38 78 73 (0 : Int32) (fun v40 => (if v40 ≤ v37 then (K99 M38) else zrd M38 78 73 ((63 : Int32) + v33) (fun v41 => zb1 (zf_X10_has v41 v37) (fun v42 => (if v42 = 0 then (zf_X10_settles_j93 (fun x0 x1 => zf_X10_settles_L29 v33 n M32 K99 n29 x0 x1) v37 M38) else zb1 (zf_X10_quarrels v33 v37 M38) (fun M44 => zb1 (zf_X10_inNow M44) (fun v45 => zb1 (zf_X10_divides n v45 M44) (fun M46 => zb1 (zf_X10_quarrels v33 v37 M46) (fun M47 => (if (M32 77 20) ≤ (M47 77 20) then (zf_X10_settles_j93 (fun x0 x1 => zf_X10_settles_L29 v33 n M32 K99 n29 x0 x1) v37 M47) else some ((((10 : Int32) * v33) + v37), M47)))))))))))
def zf_X10_settles_L15 (n : Nat) (M32 : ZMem) (K105 : ZMem → Option (Int32 × ZMem)) : Nat → Int32 → ZMem → Option (Int32 × ZMem)
  | 0, _, _ => none
  | n15 + 1, v33, M34 =>
  zrd M34 78 73 (0 : Int32) (fun v36 => (if v36 ≤ v33 then (K105 M34) else (zf_X10_settles_L29 v33 n M32 (fun M48 => (zf_X10_settles_L15 n M32 K105 n15 (v33 + (1 : Int32)) M48)) n (v33 + (1 : Int32)) M34)))
def zf_X10_settles (n : Nat) (M : ZMem) : Option (Int32 × ZMem) :=
  zb1 (zf_X10_inNow M) (fun v31 => zb1 (zf_X10_divides n v31 M) (fun M32 => (zf_X10_settles_L15 n M32 (fun M49 => some ((-2 : Int32), M49)) n (0 : Int32) M32)))
set_option maxHeartbeats 4000000 in
set_option maxRecDepth 100000 in
theorem zc_X10_settles {l : Launch} {D : va_G} {ad : Nat → Nat} {cA : Nat → ClassId} {n : Nat} {M : ZMem} {r : Int32} {M' : ZMem} (hf : zf_X10_settles n M = some (r, M')) : ZCt l D ad cA yX10_settles cX10_settles 4 (some .int) 5 [.ref (ad 77)] M (some (.int r)) M' := by
  refine zct (by decide +kernel) (Nat.le_of_ble_eq_true rfl) (lv := [(0, .ref (ad 77))]) rfl (fun E hl hD had hcA hN hC hR => ?_)
  subst hl; subst hD; subst had; subst hcA
  unfold zf_X10_settles at hf
  refine zw_aload_n hC dX10_settles_0 rfl 0 rfl ?_
  refine zw_aload_n hC dX10_settles_1 rfl 0 rfl ?_
  obtain ⟨v31, hc31, hf⟩ := zb1_some hf
  refine zw_cV hC [] [.ref (zad E 77)] (st1 := [.int v31, .ref (zad E 77)]) zm_X10_inNow (zc_X10_inNow hc31) zk_77 rfl kw_7_103 dX10_settles_2 rfl (by decide) (Nat.le_of_ble_eq_true rfl) rfl rfl ?_
  obtain ⟨M32, hcM32, hf⟩ := zb1_some hf
  refine zw_cV hC [.int v31] [] (st1 := []) zm_X10_divides (zc_X10_divides hcM32) zk_77 rfl kw_7_107 dX10_settles_5 rfl (by decide) (Nat.le_of_ble_eq_true rfl) rfl rfl ?_
  refine zw_aload_n hC dX10_settles_8 rfl 0 rfl ?_
  refine zw_geti hC zF_Model_parts zk_77 dX10_settles_9 kw_6_6 ?_
  refine zw_istore_n hC (lv' := [(1, .int (M32 77 20)), (0, .ref (zad E 77))]) dX10_settles_12 rfl hN (by decide) rfl ?_
  refine zw_iconst hC (v := (0 : Int32)) dX10_settles_13 (by decide) ?_
  refine zw_istore_n hC (lv' := [(2, .int (0 : Int32)), (1, .int (M32 77 20)), (0, .ref (zad E 77))]) dX10_settles_14 rfl hN (by decide) rfl ?_
  have hL15 : ∀ (K105 : ZMem → Option (Int32 × ZMem)), (∀ (M35 : ZMem), K105 M35 = some (r, M') → ZW E 105 [] [] M35) → ∀ (n15 : Nat), ∀ (v33 : Int32), ∀ (M34 : ZMem), zf_X10_settles_L15 n M32 K105 n15 v33 M34 = some (r, M') → ZW E 15 [(0, .ref (zad E 77)), (1, .int (M32 77 20)), (2, .int v33)] [] M34 := by
    intro K105 hK105
    intro n15
    induction n15 with
    | zero => intro v33 M34 hf; rw [zf_X10_settles_L15] at hf; cases hf
    | succ n15 ih15 =>
      intro v33 M34 hf
      rw [zf_X10_settles_L15] at hf
      refine zw_iload_n hC dX10_settles_15 rfl 2 rfl ?_
      refine zw_aload_n hC dX10_settles_16 rfl 0 rfl ?_
      refine zw_getr (k' := 78) hC zF_Model_now zk_77 rfl dX10_settles_17 kw_5_227 ?_
      refine zw_iconst hC (v := (0 : Int32)) dX10_settles_20 (by decide) ?_
      refine zw_iald hC hf zk_78 dX10_settles_21 (fun v36 hf => ?_)
      refine zw_icmp_ge hC 105 hf dX10_settles_22 (by decide) (fun hf => ?_) (fun hf => ?_)
      · exact zw_sub [] rfl (hK105 M34 hf)
      · refine zw_iload_n hC dX10_settles_25 rfl 2 rfl ?_
        refine zw_iconst hC (v := (1 : Int32)) dX10_settles_26 (by decide) ?_
        refine zw_iadd hC dX10_settles_27 ?_
        refine zw_istore_n hC (lv' := [(3, .int (v33 + (1 : Int32))), (0, .ref (zad E 77)), (1, .int (M32 77 20)), (2, .int v33)]) dX10_settles_28 rfl hN (by decide) rfl ?_
        have hL29 : ∀ (K99 : ZMem → Option (Int32 × ZMem)), (∀ (M39 : ZMem), K99 M39 = some (r, M') → ZW E 99 [(0, .ref (zad E 77)), (1, .int (M32 77 20)), (2, .int v33)] [] M39) → ∀ (n29 : Nat), ∀ (v37 : Int32), ∀ (M38 : ZMem), zf_X10_settles_L29 v33 n M32 K99 n29 v37 M38 = some (r, M') → ZW E 29 [(0, .ref (zad E 77)), (1, .int (M32 77 20)), (2, .int v33), (3, .int v37)] [] M38 := by
          intro K99 hK99
          intro n29
          induction n29 with
          | zero => intro v37 M38 hf; rw [zf_X10_settles_L29] at hf; cases hf
          | succ n29 ih29 =>
            intro v37 M38 hf
            rw [zf_X10_settles_L29] at hf
            refine zw_iload_n hC dX10_settles_29 rfl 3 rfl ?_
            refine zw_aload_n hC dX10_settles_30 rfl 0 rfl ?_
            refine zw_getr (k' := 78) hC zF_Model_now zk_77 rfl dX10_settles_31 kw_5_227 ?_
            refine zw_iconst hC (v := (0 : Int32)) dX10_settles_34 (by decide) ?_
            refine zw_iald hC hf zk_78 dX10_settles_35 (fun v40 hf => ?_)
            refine zw_icmp_ge hC 99 hf dX10_settles_36 (by decide) (fun hf => ?_) (fun hf => ?_)
            · exact zw_sub [0, 1, 2] rfl (hK99 M38 hf)
            · refine zw_aload_n hC dX10_settles_39 rfl 0 rfl ?_
              refine zw_getr (k' := 78) hC zF_Model_now zk_77 rfl dX10_settles_40 kw_5_227 ?_
              refine zw_bipush hC (v := (63 : Int32)) dX10_settles_43 (by decide) ?_
              refine zw_iload_n hC dX10_settles_45 rfl 2 rfl ?_
              refine zw_iadd hC dX10_settles_46 ?_
              refine zw_iald hC hf zk_78 dX10_settles_47 (fun v41 hf => ?_)
              refine zw_iload_n hC dX10_settles_48 rfl 3 rfl ?_
              obtain ⟨v42, hc42, hf⟩ := zb1_some hf
              refine zw_cS hC [.int v41, .int v37] [] (st1 := [.int v42]) zm_X10_has (zc_X10_has hc42) kw_6_150 dX10_settles_49 rfl (by decide) (Nat.le_of_ble_eq_true rfl) rfl rfl ?_
              have hj93 : ∀ (M43 : ZMem), zf_X10_settles_j93 (fun x0 x1 => zf_X10_settles_L29 v33 n M32 K99 n29 x0 x1) v37 M43 = some (r, M') → ZW E 93 [(0, .ref (zad E 77)), (1, .int (M32 77 20)), (2, .int v33), (3, .int v37)] [] M43 := by
                intro M43 hf
                unfold zf_X10_settles_j93 at hf
                refine zw_iinc hC (v := (1 : Int32)) (lv' := [(3, .int (v37 + (1 : Int32))), (0, .ref (zad E 77)), (1, .int (M32 77 20)), (2, .int v33)]) dX10_settles_93 3 rfl (by decide) hN (by decide) rfl ?_
                refine zw_goto hC 29 dX10_settles_96 (by decide) ?_
                exact zw_sub [1, 2, 3, 0] rfl (ih29 (v37 + (1 : Int32)) M43 hf)
              refine zw_if_ne hC 58 hf dX10_settles_52 (by decide) (fun hf => ?_) (fun hf => ?_)
              · refine zw_aload_n hC dX10_settles_58 rfl 0 rfl ?_
                refine zw_iload_n hC dX10_settles_59 rfl 2 rfl ?_
                refine zw_iload_n hC dX10_settles_60 rfl 3 rfl ?_
                obtain ⟨M44, hcM44, hf⟩ := zb1_some hf
                refine zw_cV hC [.int v33, .int v37] [] (st1 := []) zm_X10_quarrels (zc_X10_quarrels hcM44) zk_77 rfl kw_6_193 dX10_settles_61 rfl (by decide) (Nat.le_of_ble_eq_true rfl) rfl rfl ?_
                refine zw_aload_n hC dX10_settles_64 rfl 0 rfl ?_
                refine zw_aload_n hC dX10_settles_65 rfl 0 rfl ?_
                obtain ⟨v45, hc45, hf⟩ := zb1_some hf
                refine zw_cV hC [] [.ref (zad E 77)] (st1 := [.int v45, .ref (zad E 77)]) zm_X10_inNow (zc_X10_inNow hc45) zk_77 rfl kw_7_103 dX10_settles_66 rfl (by decide) (Nat.le_of_ble_eq_true rfl) rfl rfl ?_
                obtain ⟨M46, hcM46, hf⟩ := zb1_some hf
                refine zw_cV hC [.int v45] [] (st1 := []) zm_X10_divides (zc_X10_divides hcM46) zk_77 rfl kw_7_107 dX10_settles_69 rfl (by decide) (Nat.le_of_ble_eq_true rfl) rfl rfl ?_
                refine zw_aload_n hC dX10_settles_72 rfl 0 rfl ?_
                refine zw_iload_n hC dX10_settles_73 rfl 2 rfl ?_
                refine zw_iload_n hC dX10_settles_74 rfl 3 rfl ?_
                obtain ⟨M47, hcM47, hf⟩ := zb1_some hf
                refine zw_cV hC [.int v33, .int v37] [] (st1 := []) zm_X10_quarrels (zc_X10_quarrels hcM47) zk_77 rfl kw_6_193 dX10_settles_75 rfl (by decide) (Nat.le_of_ble_eq_true rfl) rfl rfl ?_
                refine zw_aload_n hC dX10_settles_78 rfl 0 rfl ?_
                refine zw_geti hC zF_Model_parts zk_77 dX10_settles_79 kw_6_6 ?_
                refine zw_iload_n hC dX10_settles_82 rfl 1 rfl ?_
                refine zw_icmp_ge hC 93 hf dX10_settles_83 (by decide) (fun hf => ?_) (fun hf => ?_)
                · exact hj93 M47 hf
                · refine zw_bipush hC (v := (10 : Int32)) dX10_settles_86 (by decide) ?_
                  refine zw_iload_n hC dX10_settles_88 rfl 2 rfl ?_
                  refine zw_imul hC dX10_settles_89 ?_
                  refine zw_iload_n hC dX10_settles_90 rfl 3 rfl ?_
                  refine zw_iadd hC dX10_settles_91 ?_
                  obtain ⟨h1, h2⟩ := Prod.mk.inj (Option.some.inj hf)
                  subst h1; subst h2
                  exact zw_iret hC hR dX10_settles_92
              · refine zw_goto hC 93 dX10_settles_55 (by decide) ?_
                exact hj93 M38 hf
        refine zw_sub [1, 2, 3, 0] rfl (hL29 _ ?_ n (v33 + (1 : Int32)) M34 hf)
        · intro M48 hf
          refine zw_iinc hC (v := (1 : Int32)) (lv' := [(2, .int (v33 + (1 : Int32))), (0, .ref (zad E 77)), (1, .int (M32 77 20))]) dX10_settles_99 2 rfl (by decide) hN (by decide) rfl ?_
          refine zw_goto hC 15 dX10_settles_102 (by decide) ?_
          exact zw_sub [1, 2, 0] rfl (ih15 (v33 + (1 : Int32)) M48 hf)
  refine zw_sub [2, 1, 0] rfl (hL15 _ ?_ n (0 : Int32) M32 hf)
  · intro M49 hf
    refine zw_bipush hC (v := (-2 : Int32)) dX10_settles_105 (by decide) ?_
    obtain ⟨h1, h2⟩ := Prod.mk.inj (Option.some.inj hf)
    subst h1; subst h2
    exact zw_iret hC hR dX10_settles_107
/-! ClassOfManyModel.lead(I)I -/
theorem dX10_lead_0 : decode cX10_lead 0 = .ok (.aload_n 0, 1) := by decide +kernel
theorem dX10_lead_1 : decode cX10_lead 1 = .ok (.aload_n 0, 1) := by decide +kernel
theorem dX10_lead_2 : decode cX10_lead 2 = .ok (.invokevirtual 226, 3) := by decide +kernel
theorem dX10_lead_5 : decode cX10_lead 5 = .ok (.invokevirtual 247, 3) := by decide +kernel
theorem dX10_lead_8 : decode cX10_lead 8 = .ok (.iload_n 1, 1) := by decide +kernel
theorem dX10_lead_9 : decode cX10_lead 9 = .ok (.iconst 0, 1) := by decide +kernel
theorem dX10_lead_10 : decode cX10_lead 10 = .ok (.aload_n 0, 1) := by decide +kernel
theorem dX10_lead_11 : decode cX10_lead 11 = .ok (.getfield 217, 3) := by decide +kernel
theorem dX10_lead_14 : decode cX10_lead 14 = .ok (.iconst 1, 1) := by decide +kernel
theorem dX10_lead_15 : decode cX10_lead 15 = .ok (.isub, 1) := by decide +kernel
theorem dX10_lead_16 : decode cX10_lead 16 = .ok (.invokestatic 65, 3) := by decide +kernel
theorem dX10_lead_19 : decode cX10_lead 19 = .ok (.ifCond .ne 5, 3) := by decide +kernel
theorem dX10_lead_22 : decode cX10_lead 22 = .ok (.iconst (-1), 1) := by decide +kernel
theorem dX10_lead_23 : decode cX10_lead 23 = .ok (.ireturn, 1) := by decide +kernel
theorem dX10_lead_24 : decode cX10_lead 24 = .ok (.iconst (-1), 1) := by decide +kernel
theorem dX10_lead_25 : decode cX10_lead 25 = .ok (.istore_n 2, 1) := by decide +kernel
theorem dX10_lead_26 : decode cX10_lead 26 = .ok (.iconst 0, 1) := by decide +kernel
theorem dX10_lead_27 : decode cX10_lead 27 = .ok (.istore_n 3, 1) := by decide +kernel
theorem dX10_lead_28 : decode cX10_lead 28 = .ok (.iload_n 3, 1) := by decide +kernel
theorem dX10_lead_29 : decode cX10_lead 29 = .ok (.aload_n 0, 1) := by decide +kernel
theorem dX10_lead_30 : decode cX10_lead 30 = .ok (.getfield 7, 3) := by decide +kernel
theorem dX10_lead_33 : decode cX10_lead 33 = .ok (.iconst 0, 1) := by decide +kernel
theorem dX10_lead_34 : decode cX10_lead 34 = .ok (.iaload, 1) := by decide +kernel
theorem dX10_lead_35 : decode cX10_lead 35 = .ok (.if_icmp .ge 43, 3) := by decide +kernel
theorem dX10_lead_38 : decode cX10_lead 38 = .ok (.aload_n 0, 1) := by decide +kernel
theorem dX10_lead_39 : decode cX10_lead 39 = .ok (.getfield 31, 3) := by decide +kernel
theorem dX10_lead_42 : decode cX10_lead 42 = .ok (.iload_n 3, 1) := by decide +kernel
theorem dX10_lead_43 : decode cX10_lead 43 = .ok (.iaload, 1) := by decide +kernel
theorem dX10_lead_44 : decode cX10_lead 44 = .ok (.iload_n 1, 1) := by decide +kernel
theorem dX10_lead_45 : decode cX10_lead 45 = .ok (.if_icmp .ne 25, 3) := by decide +kernel
theorem dX10_lead_48 : decode cX10_lead 48 = .ok (.iload_n 2, 1) := by decide +kernel
theorem dX10_lead_49 : decode cX10_lead 49 = .ok (.iconst (-1), 1) := by decide +kernel
theorem dX10_lead_50 : decode cX10_lead 50 = .ok (.if_icmp .eq 16, 3) := by decide +kernel
theorem dX10_lead_53 : decode cX10_lead 53 = .ok (.aload_n 0, 1) := by decide +kernel
theorem dX10_lead_54 : decode cX10_lead 54 = .ok (.iload_n 3, 1) := by decide +kernel
theorem dX10_lead_55 : decode cX10_lead 55 = .ok (.invokevirtual 211, 3) := by decide +kernel
theorem dX10_lead_58 : decode cX10_lead 58 = .ok (.aload_n 0, 1) := by decide +kernel
theorem dX10_lead_59 : decode cX10_lead 59 = .ok (.iload_n 2, 1) := by decide +kernel
theorem dX10_lead_60 : decode cX10_lead 60 = .ok (.invokevirtual 211, 3) := by decide +kernel
theorem dX10_lead_63 : decode cX10_lead 63 = .ok (.if_icmp .le 7, 3) := by decide +kernel
theorem dX10_lead_66 : decode cX10_lead 66 = .ok (.iload_n 3, 1) := by decide +kernel
theorem dX10_lead_67 : decode cX10_lead 67 = .ok (.goto 4, 3) := by decide +kernel
theorem dX10_lead_70 : decode cX10_lead 70 = .ok (.iload_n 2, 1) := by decide +kernel
theorem dX10_lead_71 : decode cX10_lead 71 = .ok (.istore_n 2, 1) := by decide +kernel
theorem dX10_lead_72 : decode cX10_lead 72 = .ok (.iinc 3 1, 3) := by decide +kernel
theorem dX10_lead_75 : decode cX10_lead 75 = .ok (.goto (-47), 3) := by decide +kernel
theorem dX10_lead_78 : decode cX10_lead 78 = .ok (.iload_n 2, 1) := by decide +kernel
theorem dX10_lead_79 : decode cX10_lead 79 = .ok (.ireturn, 1) := by decide +kernel
theorem zm_X10_lead : ZMv "ClassOfManyModel" yX10_lead cX10_lead 4 (some .int) 1 := ⟨kw_7_153, kw_7_151, kw_7_152, kw_1_10, by decide +kernel, by decide⟩
def zf_X10_lead_j71 (R28 : Int32 → Int32 → Option (Int32 × ZMem)) (v32 : Int32) (v36 : Int32) : Option (Int32 × ZMem) :=
  (R28 v36 (v32 + (1 : Int32)))
def zf_X10_lead_j70 (R28 : Int32 → Int32 → Option (Int32 × ZMem)) (v32 : Int32) (v31 : Int32) : Option (Int32 × ZMem) :=
  (zf_X10_lead_j71 R28 v32 v31)
def zf_X10_lead_j66 (R28 : Int32 → Int32 → Option (Int32 × ZMem)) (v32 : Int32) : Option (Int32 × ZMem) :=
  (zf_X10_lead_j71 R28 v32 v32)
def zf_X10_lead_L28 (M29 : ZMem) (a1 : Int32) (K78 : Int32 → Option (Int32 × ZMem)) : Nat → Int32 → Int32 → Option (Int32 × ZMem)
  | 0, _, _ => none
  | n28 + 1, v31, v32 =>
  zrd M29 78 73 (0 : Int32) (fun v34 => (if v34 ≤ v32 then (K78 v31) else zrd M29 85 10 v32 (fun v35 => (if v35 = a1 then (if v31 = (-1 : Int32) then (zf_X10_lead_j66 (fun x0 x1 => zf_X10_lead_L28 M29 a1 K78 n28 x0 x1) v32) else zb1 (zf_X10_claim v32 M29) (fun v37 => zb1 (zf_X10_claim v31 M29) (fun v38 => (if v37 ≤ v38 then (zf_X10_lead_j70 (fun x0 x1 => zf_X10_lead_L28 M29 a1 K78 n28 x0 x1) v32 v31) else (zf_X10_lead_j66 (fun x0 x1 => zf_X10_lead_L28 M29 a1 K78 n28 x0 x1) v32))))) else (zf_X10_lead_j70 (fun x0 x1 => zf_X10_lead_L28 M29 a1 K78 n28 x0 x1) v32 v31)))))
def zf_X10_lead (n : Nat) (a1 : Int32) (M : ZMem) : Option (Int32 × ZMem) :=
  zb1 (zf_X10_inNow M) (fun v28 => zb1 (zf_X10_divides n v28 M) (fun M29 => zb1 (zf_X10_isIn a1 (0 : Int32) ((M29 77 20) - (1 : Int32))) (fun v30 => (if v30 = 0 then some ((-1 : Int32), M29) else (zf_X10_lead_L28 M29 a1 (fun v39 => some (v39, M29)) n (-1 : Int32) (0 : Int32))))))
set_option maxHeartbeats 4000000 in
set_option maxRecDepth 100000 in
theorem zc_X10_lead {l : Launch} {D : va_G} {ad : Nat → Nat} {cA : Nat → ClassId} {n : Nat} {a1 : Int32} {M : ZMem} {r : Int32} {M' : ZMem} (hf : zf_X10_lead n a1 M = some (r, M')) : ZCt l D ad cA yX10_lead cX10_lead 4 (some .int) 5 [.ref (ad 77), .int a1] M (some (.int r)) M' := by
  refine zct (by decide +kernel) (Nat.le_of_ble_eq_true rfl) (lv := [(0, .ref (ad 77)), (1, .int a1)]) rfl (fun E hl hD had hcA hN hC hR => ?_)
  subst hl; subst hD; subst had; subst hcA
  unfold zf_X10_lead at hf
  refine zw_aload_n hC dX10_lead_0 rfl 0 rfl ?_
  refine zw_aload_n hC dX10_lead_1 rfl 0 rfl ?_
  obtain ⟨v28, hc28, hf⟩ := zb1_some hf
  refine zw_cV hC [] [.ref (zad E 77)] (st1 := [.int v28, .ref (zad E 77)]) zm_X10_inNow (zc_X10_inNow hc28) zk_77 rfl kw_7_103 dX10_lead_2 rfl (by decide) (Nat.le_of_ble_eq_true rfl) rfl rfl ?_
  obtain ⟨M29, hcM29, hf⟩ := zb1_some hf
  refine zw_cV hC [.int v28] [] (st1 := []) zm_X10_divides (zc_X10_divides hcM29) zk_77 rfl kw_7_107 dX10_lead_5 rfl (by decide) (Nat.le_of_ble_eq_true rfl) rfl rfl ?_
  refine zw_iload_n hC dX10_lead_8 rfl 1 rfl ?_
  refine zw_iconst hC (v := (0 : Int32)) dX10_lead_9 (by decide) ?_
  refine zw_aload_n hC dX10_lead_10 rfl 0 rfl ?_
  refine zw_geti hC zF_Model_parts zk_77 dX10_lead_11 kw_6_6 ?_
  refine zw_iconst hC (v := (1 : Int32)) dX10_lead_14 (by decide) ?_
  refine zw_isub hC dX10_lead_15 ?_
  obtain ⟨v30, hc30, hf⟩ := zb1_some hf
  refine zw_cS hC [.int a1, .int (0 : Int32), .int ((M29 77 20) - (1 : Int32))] [] (st1 := [.int v30]) zm_X10_isIn (zc_X10_isIn hc30) kw_6_106 dX10_lead_16 rfl (by decide) (Nat.le_of_ble_eq_true rfl) rfl rfl ?_
  refine zw_if_ne hC 24 hf dX10_lead_19 (by decide) (fun hf => ?_) (fun hf => ?_)
  · refine zw_iconst hC (v := (-1 : Int32)) dX10_lead_24 (by decide) ?_
    refine zw_istore_n hC (lv' := [(2, .int (-1 : Int32)), (0, .ref (zad E 77)), (1, .int a1)]) dX10_lead_25 rfl hN (by decide) rfl ?_
    refine zw_iconst hC (v := (0 : Int32)) dX10_lead_26 (by decide) ?_
    refine zw_istore_n hC (lv' := [(3, .int (0 : Int32)), (2, .int (-1 : Int32)), (0, .ref (zad E 77)), (1, .int a1)]) dX10_lead_27 rfl hN (by decide) rfl ?_
    have hL28 : ∀ (K78 : Int32 → Option (Int32 × ZMem)), (∀ (v33 : Int32), K78 v33 = some (r, M') → ZW E 78 [(2, .int v33)] [] M29) → ∀ (n28 : Nat), ∀ (v31 : Int32), ∀ (v32 : Int32), zf_X10_lead_L28 M29 a1 K78 n28 v31 v32 = some (r, M') → ZW E 28 [(0, .ref (zad E 77)), (1, .int a1), (2, .int v31), (3, .int v32)] [] M29 := by
      intro K78 hK78
      intro n28
      induction n28 with
      | zero => intro v31 v32 hf; rw [zf_X10_lead_L28] at hf; cases hf
      | succ n28 ih28 =>
        intro v31 v32 hf
        rw [zf_X10_lead_L28] at hf
        refine zw_iload_n hC dX10_lead_28 rfl 3 rfl ?_
        refine zw_aload_n hC dX10_lead_29 rfl 0 rfl ?_
        refine zw_getr (k' := 78) hC zF_Model_now zk_77 rfl dX10_lead_30 kw_5_227 ?_
        refine zw_iconst hC (v := (0 : Int32)) dX10_lead_33 (by decide) ?_
        refine zw_iald hC hf zk_78 dX10_lead_34 (fun v34 hf => ?_)
        refine zw_icmp_ge hC 78 hf dX10_lead_35 (by decide) (fun hf => ?_) (fun hf => ?_)
        · exact zw_sub [2] rfl (hK78 v31 hf)
        · refine zw_aload_n hC dX10_lead_38 rfl 0 rfl ?_
          refine zw_getr (k' := 85) hC zF_Model_part zk_77 rfl dX10_lead_39 kw_6_5 ?_
          refine zw_iload_n hC dX10_lead_42 rfl 3 rfl ?_
          refine zw_iald hC hf zk_85 dX10_lead_43 (fun v35 hf => ?_)
          refine zw_iload_n hC dX10_lead_44 rfl 1 rfl ?_
          have hj71 : ∀ (v36 : Int32), zf_X10_lead_j71 (fun x0 x1 => zf_X10_lead_L28 M29 a1 K78 n28 x0 x1) v32 v36 = some (r, M') → ZW E 71 [(0, .ref (zad E 77)), (1, .int a1), (3, .int v32)] [.int v36] M29 := by
            intro v36 hf
            unfold zf_X10_lead_j71 at hf
            refine zw_istore_n hC (lv' := [(2, .int v36), (0, .ref (zad E 77)), (1, .int a1), (3, .int v32)]) dX10_lead_71 rfl hN (by decide) rfl ?_
            refine zw_iinc hC (v := (1 : Int32)) (lv' := [(3, .int (v32 + (1 : Int32))), (2, .int v36), (0, .ref (zad E 77)), (1, .int a1)]) dX10_lead_72 3 rfl (by decide) hN (by decide) rfl ?_
            refine zw_goto hC 28 dX10_lead_75 (by decide) ?_
            exact zw_sub [2, 3, 1, 0] rfl (ih28 v36 (v32 + (1 : Int32)) hf)
          have hj70 : zf_X10_lead_j70 (fun x0 x1 => zf_X10_lead_L28 M29 a1 K78 n28 x0 x1) v32 v31 = some (r, M') → ZW E 70 [(0, .ref (zad E 77)), (1, .int a1), (2, .int v31), (3, .int v32)] [] M29 := by
            intro  hf
            unfold zf_X10_lead_j70 at hf
            refine zw_iload_n hC dX10_lead_70 rfl 2 rfl ?_
            exact zw_sub [0, 1, 3] rfl (hj71 v31 hf)
          refine zw_icmp_ne hC 70 hf dX10_lead_45 (by decide) (fun hf => ?_) (fun hf => ?_)
          · exact hj70 hf
          · refine zw_iload_n hC dX10_lead_48 rfl 2 rfl ?_
            refine zw_iconst hC (v := (-1 : Int32)) dX10_lead_49 (by decide) ?_
            have hj66 : zf_X10_lead_j66 (fun x0 x1 => zf_X10_lead_L28 M29 a1 K78 n28 x0 x1) v32 = some (r, M') → ZW E 66 [(0, .ref (zad E 77)), (1, .int a1), (3, .int v32)] [] M29 := by
              intro  hf
              unfold zf_X10_lead_j66 at hf
              refine zw_iload_n hC dX10_lead_66 rfl 2 rfl ?_
              refine zw_goto hC 71 dX10_lead_67 (by decide) ?_
              exact hj71 v32 hf
            refine zw_icmp_eq hC 66 hf dX10_lead_50 (by decide) (fun hf => ?_) (fun hf => ?_)
            · exact zw_sub [0, 1, 3] rfl (hj66 hf)
            · refine zw_aload_n hC dX10_lead_53 rfl 0 rfl ?_
              refine zw_iload_n hC dX10_lead_54 rfl 3 rfl ?_
              obtain ⟨v37, hc37, hf⟩ := zb1_some hf
              refine zw_cV hC [.int v32] [] (st1 := [.int v37]) zm_X10_claim (zc_X10_claim hc37) zk_77 rfl kw_7_52 dX10_lead_55 rfl (by decide) (Nat.le_of_ble_eq_true rfl) rfl rfl ?_
              refine zw_aload_n hC dX10_lead_58 rfl 0 rfl ?_
              refine zw_iload_n hC dX10_lead_59 rfl 2 rfl ?_
              obtain ⟨v38, hc38, hf⟩ := zb1_some hf
              refine zw_cV hC [.int v31] [.int v37] (st1 := [.int v38, .int v37]) zm_X10_claim (zc_X10_claim hc38) zk_77 rfl kw_7_52 dX10_lead_60 rfl (by decide) (Nat.le_of_ble_eq_true rfl) rfl rfl ?_
              refine zw_icmp_le hC 70 hf dX10_lead_63 (by decide) (fun hf => ?_) (fun hf => ?_)
              · exact hj70 hf
              · exact zw_sub [0, 1, 3] rfl (hj66 hf)
    refine zw_sub [2, 3, 1, 0] rfl (hL28 _ ?_ n (-1 : Int32) (0 : Int32) hf)
    · intro v39 hf
      refine zw_iload_n hC dX10_lead_78 rfl 0 rfl ?_
      obtain ⟨h1, h2⟩ := Prod.mk.inj (Option.some.inj hf)
      subst h1; subst h2
      exact zw_iret hC hR dX10_lead_79
  · refine zw_iconst hC (v := (-1 : Int32)) dX10_lead_22 (by decide) ?_
    obtain ⟨h1, h2⟩ := Prod.mk.inj (Option.some.inj hf)
    subst h1; subst h2
    exact zw_iret hC hR dX10_lead_23
/-! ClassOfManyModel.costFor(I)I -/
theorem dX10_costFor_0 : decode cX10_costFor 0 = .ok (.aload_n 0, 1) := by decide +kernel
theorem dX10_costFor_1 : decode cX10_costFor 1 = .ok (.iload_n 1, 1) := by decide +kernel
theorem dX10_costFor_2 : decode cX10_costFor 2 = .ok (.invokevirtual 293, 3) := by decide +kernel
theorem dX10_costFor_5 : decode cX10_costFor 5 = .ok (.ifCond .eq 11, 3) := by decide +kernel
theorem dX10_costFor_8 : decode cX10_costFor 8 = .ok (.aload_n 0, 1) := by decide +kernel
theorem dX10_costFor_9 : decode cX10_costFor 9 = .ok (.iload_n 1, 1) := by decide +kernel
theorem dX10_costFor_10 : decode cX10_costFor 10 = .ok (.invokevirtual 197, 3) := by decide +kernel
theorem dX10_costFor_13 : decode cX10_costFor 13 = .ok (.goto 4, 3) := by decide +kernel
theorem dX10_costFor_16 : decode cX10_costFor 16 = .ok (.iconst (-1), 1) := by decide +kernel
theorem dX10_costFor_17 : decode cX10_costFor 17 = .ok (.ireturn, 1) := by decide +kernel
theorem zm_X10_costFor : ZMv "ClassOfManyModel" yX10_costFor cX10_costFor 2 (some .int) 1 := ⟨kw_7_157, kw_7_155, kw_7_156, kw_1_10, by decide +kernel, by decide⟩
def zf_X10_costFor_j17 (v24 : Int32) : Option (Int32) :=
  some v24
def zf_X10_costFor (n : Nat) (a1 : Int32) (M : ZMem) : Option (Int32) :=
  zb1 (zf_X10_isOrder n a1 M) (fun v23 => (if v23 = 0 then (zf_X10_costFor_j17 (-1 : Int32)) else zb1 (zf_X10_costsFor n a1 M) (fun v25 => (zf_X10_costFor_j17 v25))))
set_option maxHeartbeats 4000000 in
set_option maxRecDepth 100000 in
theorem zc_X10_costFor {l : Launch} {D : va_G} {ad : Nat → Nat} {cA : Nat → ClassId} {n : Nat} {a1 : Int32} {M : ZMem} {r : Int32} (hf : zf_X10_costFor n a1 M = some r) : ZCt l D ad cA yX10_costFor cX10_costFor 2 (some .int) 3 [.ref (ad 77), .int a1] M (some (.int r)) M := by
  refine zct (by decide +kernel) (Nat.le_of_ble_eq_true rfl) (lv := [(0, .ref (ad 77)), (1, .int a1)]) rfl (fun E hl hD had hcA hN hC hR => ?_)
  subst hl; subst hD; subst had; subst hcA
  unfold zf_X10_costFor at hf
  refine zw_aload_n hC dX10_costFor_0 rfl 0 rfl ?_
  refine zw_iload_n hC dX10_costFor_1 rfl 1 rfl ?_
  obtain ⟨v23, hc23, hf⟩ := zb1_some hf
  refine zw_cV hC [.int a1] [] (st1 := [.int v23]) zm_X10_isOrder (zc_X10_isOrder hc23) zk_77 rfl kw_6_217 dX10_costFor_2 rfl (by decide) (Nat.le_of_ble_eq_true rfl) rfl rfl ?_
  have hj17 : ∀ (v24 : Int32), zf_X10_costFor_j17 v24 = some r → ZW E 17 [] [.int v24] M := by
    intro v24 hf
    unfold zf_X10_costFor_j17 at hf
    have h1 := Option.some.inj hf
    subst h1
    exact zw_iret hC hR dX10_costFor_17
  refine zw_if_eq hC 16 hf dX10_costFor_5 (by decide) (fun hf => ?_) (fun hf => ?_)
  · refine zw_iconst hC (v := (-1 : Int32)) dX10_costFor_16 (by decide) ?_
    exact zw_sub [] rfl (hj17 (-1 : Int32) hf)
  · refine zw_aload_n hC dX10_costFor_8 rfl 0 rfl ?_
    refine zw_iload_n hC dX10_costFor_9 rfl 1 rfl ?_
    obtain ⟨v25, hc25, hf⟩ := zb1_some hf
    refine zw_cV hC [.int a1] [] (st1 := [.int v25]) zm_X10_costsFor (zc_X10_costsFor hc25) zk_77 rfl kw_6_237 dX10_costFor_10 rfl (by decide) (Nat.le_of_ble_eq_true rfl) rfl rfl ?_
    refine zw_goto hC 17 dX10_costFor_13 (by decide) ?_
    exact zw_sub [] rfl (hj17 v25 hf)
/-! ClassOfManyModel.reachFor(II)I -/
theorem dX10_reachFor_0 : decode cX10_reachFor 0 = .ok (.aload_n 0, 1) := by decide +kernel
theorem dX10_reachFor_1 : decode cX10_reachFor 1 = .ok (.iload_n 1, 1) := by decide +kernel
theorem dX10_reachFor_2 : decode cX10_reachFor 2 = .ok (.invokevirtual 293, 3) := by decide +kernel
theorem dX10_reachFor_5 : decode cX10_reachFor 5 = .ok (.ifCond .eq 20, 3) := by decide +kernel
theorem dX10_reachFor_8 : decode cX10_reachFor 8 = .ok (.aload_n 0, 1) := by decide +kernel
theorem dX10_reachFor_9 : decode cX10_reachFor 9 = .ok (.iload_n 2, 1) := by decide +kernel
theorem dX10_reachFor_10 : decode cX10_reachFor 10 = .ok (.invokevirtual 296, 3) := by decide +kernel
theorem dX10_reachFor_13 : decode cX10_reachFor 13 = .ok (.ifCond .eq 12, 3) := by decide +kernel
theorem dX10_reachFor_16 : decode cX10_reachFor 16 = .ok (.aload_n 0, 1) := by decide +kernel
theorem dX10_reachFor_17 : decode cX10_reachFor 17 = .ok (.iload_n 1, 1) := by decide +kernel
theorem dX10_reachFor_18 : decode cX10_reachFor 18 = .ok (.iload_n 2, 1) := by decide +kernel
theorem dX10_reachFor_19 : decode cX10_reachFor 19 = .ok (.invokevirtual 201, 3) := by decide +kernel
theorem dX10_reachFor_22 : decode cX10_reachFor 22 = .ok (.goto 4, 3) := by decide +kernel
theorem dX10_reachFor_25 : decode cX10_reachFor 25 = .ok (.iconst (-1), 1) := by decide +kernel
theorem dX10_reachFor_26 : decode cX10_reachFor 26 = .ok (.ireturn, 1) := by decide +kernel
theorem zm_X10_reachFor : ZMv "ClassOfManyModel" yX10_reachFor cX10_reachFor 3 (some .int) 2 := ⟨kw_7_161, kw_7_159, kw_7_160, kw_1_10, by decide +kernel, by decide⟩
def zf_X10_reachFor_j26 (v25 : Int32) : Option (Int32) :=
  some v25
def zf_X10_reachFor_j25 : Option (Int32) :=
  (zf_X10_reachFor_j26 (-1 : Int32))
def zf_X10_reachFor (n : Nat) (a1 : Int32) (a2 : Int32) (M : ZMem) : Option (Int32) :=
  zb1 (zf_X10_isOrder n a1 M) (fun v24 => (if v24 = 0 then (zf_X10_reachFor_j25) else zb1 (zf_X10_isMember a2 M) (fun v26 => (if v26 = 0 then (zf_X10_reachFor_j25) else zb1 (zf_X10_waitFor n a1 a2 M) (fun v27 => (zf_X10_reachFor_j26 v27))))))
set_option maxHeartbeats 4000000 in
set_option maxRecDepth 100000 in
theorem zc_X10_reachFor {l : Launch} {D : va_G} {ad : Nat → Nat} {cA : Nat → ClassId} {n : Nat} {a1 : Int32} {a2 : Int32} {M : ZMem} {r : Int32} (hf : zf_X10_reachFor n a1 a2 M = some r) : ZCt l D ad cA yX10_reachFor cX10_reachFor 3 (some .int) 3 [.ref (ad 77), .int a1, .int a2] M (some (.int r)) M := by
  refine zct (by decide +kernel) (Nat.le_of_ble_eq_true rfl) (lv := [(0, .ref (ad 77)), (1, .int a1), (2, .int a2)]) rfl (fun E hl hD had hcA hN hC hR => ?_)
  subst hl; subst hD; subst had; subst hcA
  unfold zf_X10_reachFor at hf
  refine zw_aload_n hC dX10_reachFor_0 rfl 0 rfl ?_
  refine zw_iload_n hC dX10_reachFor_1 rfl 1 rfl ?_
  obtain ⟨v24, hc24, hf⟩ := zb1_some hf
  refine zw_cV hC [.int a1] [] (st1 := [.int v24]) zm_X10_isOrder (zc_X10_isOrder hc24) zk_77 rfl kw_6_217 dX10_reachFor_2 rfl (by decide) (Nat.le_of_ble_eq_true rfl) rfl rfl ?_
  have hj26 : ∀ (v25 : Int32), zf_X10_reachFor_j26 v25 = some r → ZW E 26 [] [.int v25] M := by
    intro v25 hf
    unfold zf_X10_reachFor_j26 at hf
    have h1 := Option.some.inj hf
    subst h1
    exact zw_iret hC hR dX10_reachFor_26
  have hj25 : zf_X10_reachFor_j25 = some r → ZW E 25 [] [] M := by
    intro  hf
    unfold zf_X10_reachFor_j25 at hf
    refine zw_iconst hC (v := (-1 : Int32)) dX10_reachFor_25 (by decide) ?_
    exact hj26 (-1 : Int32) hf
  refine zw_if_eq hC 25 hf dX10_reachFor_5 (by decide) (fun hf => ?_) (fun hf => ?_)
  · exact zw_sub [] rfl (hj25 hf)
  · refine zw_aload_n hC dX10_reachFor_8 rfl 0 rfl ?_
    refine zw_iload_n hC dX10_reachFor_9 rfl 2 rfl ?_
    obtain ⟨v26, hc26, hf⟩ := zb1_some hf
    refine zw_cV hC [.int a2] [] (st1 := [.int v26]) zm_X10_isMember (zc_X10_isMember hc26) zk_77 rfl kw_7_5 dX10_reachFor_10 rfl (by decide) (Nat.le_of_ble_eq_true rfl) rfl rfl ?_
    refine zw_if_eq hC 25 hf dX10_reachFor_13 (by decide) (fun hf => ?_) (fun hf => ?_)
    · exact zw_sub [] rfl (hj25 hf)
    · refine zw_aload_n hC dX10_reachFor_16 rfl 0 rfl ?_
      refine zw_iload_n hC dX10_reachFor_17 rfl 1 rfl ?_
      refine zw_iload_n hC dX10_reachFor_18 rfl 2 rfl ?_
      obtain ⟨v27, hc27, hf⟩ := zb1_some hf
      refine zw_cV hC [.int a1, .int a2] [] (st1 := [.int v27]) zm_X10_waitFor (zc_X10_waitFor hc27) zk_77 rfl kw_7_17 dX10_reachFor_19 rfl (by decide) (Nat.le_of_ble_eq_true rfl) rfl rfl ?_
      refine zw_goto hC 26 dX10_reachFor_22 (by decide) ?_
      exact zw_sub [] rfl (hj26 v27 hf)
/-! ClassOfManyModel.isSoon(II)Z -/
theorem dX10_isSoon_0 : decode cX10_isSoon 0 = .ok (.iconst 1, 1) := by decide +kernel
theorem dX10_isSoon_1 : decode cX10_isSoon 1 = .ok (.istore_n 3, 1) := by decide +kernel
theorem dX10_isSoon_2 : decode cX10_isSoon 2 = .ok (.iconst 0, 1) := by decide +kernel
theorem dX10_isSoon_3 : decode cX10_isSoon 3 = .ok (.istore 4, 2) := by decide +kernel
theorem dX10_isSoon_5 : decode cX10_isSoon 5 = .ok (.iload 4, 2) := by decide +kernel
theorem dX10_isSoon_7 : decode cX10_isSoon 7 = .ok (.aload_n 0, 1) := by decide +kernel
theorem dX10_isSoon_8 : decode cX10_isSoon 8 = .ok (.getfield 7, 3) := by decide +kernel
theorem dX10_isSoon_11 : decode cX10_isSoon 11 = .ok (.iconst 0, 1) := by decide +kernel
theorem dX10_isSoon_12 : decode cX10_isSoon 12 = .ok (.iaload, 1) := by decide +kernel
theorem dX10_isSoon_13 : decode cX10_isSoon 13 = .ok (.if_icmp .ge 43, 3) := by decide +kernel
theorem dX10_isSoon_16 : decode cX10_isSoon 16 = .ok (.iload_n 3, 1) := by decide +kernel
theorem dX10_isSoon_17 : decode cX10_isSoon 17 = .ok (.ifCond .eq 31, 3) := by decide +kernel
theorem dX10_isSoon_20 : decode cX10_isSoon 20 = .ok (.aload_n 0, 1) := by decide +kernel
theorem dX10_isSoon_21 : decode cX10_isSoon 21 = .ok (.getfield 7, 3) := by decide +kernel
theorem dX10_isSoon_24 : decode cX10_isSoon 24 = .ok (.bipush 45, 2) := by decide +kernel
theorem dX10_isSoon_26 : decode cX10_isSoon 26 = .ok (.iload 4, 2) := by decide +kernel
theorem dX10_isSoon_28 : decode cX10_isSoon 28 = .ok (.iadd, 1) := by decide +kernel
theorem dX10_isSoon_29 : decode cX10_isSoon 29 = .ok (.iaload, 1) := by decide +kernel
theorem dX10_isSoon_30 : decode cX10_isSoon 30 = .ok (.ifCond .eq 14, 3) := by decide +kernel
theorem dX10_isSoon_33 : decode cX10_isSoon 33 = .ok (.aload_n 0, 1) := by decide +kernel
theorem dX10_isSoon_34 : decode cX10_isSoon 34 = .ok (.iload_n 1, 1) := by decide +kernel
theorem dX10_isSoon_35 : decode cX10_isSoon 35 = .ok (.iload 4, 2) := by decide +kernel
theorem dX10_isSoon_37 : decode cX10_isSoon 37 = .ok (.invokevirtual 201, 3) := by decide +kernel
theorem dX10_isSoon_40 : decode cX10_isSoon 40 = .ok (.iload_n 2, 1) := by decide +kernel
theorem dX10_isSoon_41 : decode cX10_isSoon 41 = .ok (.if_icmp .gt 7, 3) := by decide +kernel
theorem dX10_isSoon_44 : decode cX10_isSoon 44 = .ok (.iconst 1, 1) := by decide +kernel
theorem dX10_isSoon_45 : decode cX10_isSoon 45 = .ok (.goto 4, 3) := by decide +kernel
theorem dX10_isSoon_48 : decode cX10_isSoon 48 = .ok (.iconst 0, 1) := by decide +kernel
theorem dX10_isSoon_49 : decode cX10_isSoon 49 = .ok (.istore_n 3, 1) := by decide +kernel
theorem dX10_isSoon_50 : decode cX10_isSoon 50 = .ok (.iinc 4 1, 3) := by decide +kernel
theorem dX10_isSoon_53 : decode cX10_isSoon 53 = .ok (.goto (-48), 3) := by decide +kernel
theorem dX10_isSoon_56 : decode cX10_isSoon 56 = .ok (.iload_n 3, 1) := by decide +kernel
theorem dX10_isSoon_57 : decode cX10_isSoon 57 = .ok (.ireturn, 1) := by decide +kernel
theorem zm_X10_isSoon : ZMv "ClassOfManyModel" yX10_isSoon cX10_isSoon 5 (some .boolean) 2 := ⟨kw_7_169, kw_7_168, kp_98, kw_1_10, by decide +kernel, by decide⟩
def zf_X10_isSoon_j49 (R5 : Int32 → Int32 → Option (Int32)) (v25 : Int32) (v28 : Int32) : Option (Int32) :=
  (R5 v28 (v25 + (1 : Int32)))
def zf_X10_isSoon_j48 (R5 : Int32 → Int32 → Option (Int32)) (v25 : Int32) : Option (Int32) :=
  (zf_X10_isSoon_j49 R5 v25 (0 : Int32))
def zf_X10_isSoon_j44 (R5 : Int32 → Int32 → Option (Int32)) (v25 : Int32) : Option (Int32) :=
  (zf_X10_isSoon_j49 R5 v25 (1 : Int32))
def zf_X10_isSoon_L5 (M : ZMem) (n : Nat) (a1 : Int32) (a2 : Int32) (K56 : Int32 → Option (Int32)) : Nat → Int32 → Int32 → Option (Int32)
  | 0, _, _ => none
  | n5 + 1, v24, v25 =>
  zrd M 78 73 (0 : Int32) (fun v27 => (if v27 ≤ v25 then (K56 v24) else (if v24 = 0 then (zf_X10_isSoon_j48 (fun x0 x1 => zf_X10_isSoon_L5 M n a1 a2 K56 n5 x0 x1) v25) else zrd M 78 73 ((45 : Int32) + v25) (fun v29 => (if v29 = 0 then (zf_X10_isSoon_j44 (fun x0 x1 => zf_X10_isSoon_L5 M n a1 a2 K56 n5 x0 x1) v25) else zb1 (zf_X10_waitFor n a1 v25 M) (fun v30 => (if a2 < v30 then (zf_X10_isSoon_j48 (fun x0 x1 => zf_X10_isSoon_L5 M n a1 a2 K56 n5 x0 x1) v25) else (zf_X10_isSoon_j44 (fun x0 x1 => zf_X10_isSoon_L5 M n a1 a2 K56 n5 x0 x1) v25))))))))
def zf_X10_isSoon (n : Nat) (a1 : Int32) (a2 : Int32) (M : ZMem) : Option (Int32) :=
  (zf_X10_isSoon_L5 M n a1 a2 (fun v31 => zbz v31 (some v31)) n (1 : Int32) (0 : Int32))
set_option maxHeartbeats 4000000 in
set_option maxRecDepth 100000 in
theorem zc_X10_isSoon {l : Launch} {D : va_G} {ad : Nat → Nat} {cA : Nat → ClassId} {n : Nat} {a1 : Int32} {a2 : Int32} {M : ZMem} {r : Int32} (hf : zf_X10_isSoon n a1 a2 M = some r) : ZCt l D ad cA yX10_isSoon cX10_isSoon 5 (some .boolean) 3 [.ref (ad 77), .int a1, .int a2] M (some (.int r)) M := by
  refine zct (by decide +kernel) (Nat.le_of_ble_eq_true rfl) (lv := [(0, .ref (ad 77)), (1, .int a1), (2, .int a2)]) rfl (fun E hl hD had hcA hN hC hR => ?_)
  subst hl; subst hD; subst had; subst hcA
  unfold zf_X10_isSoon at hf
  refine zw_iconst hC (v := (1 : Int32)) dX10_isSoon_0 (by decide) ?_
  refine zw_istore_n hC (lv' := [(3, .int (1 : Int32)), (0, .ref (zad E 77)), (1, .int a1), (2, .int a2)]) dX10_isSoon_1 rfl hN (by decide) rfl ?_
  refine zw_iconst hC (v := (0 : Int32)) dX10_isSoon_2 (by decide) ?_
  refine zw_istore hC (lv' := [(4, .int (0 : Int32)), (3, .int (1 : Int32)), (0, .ref (zad E 77)), (1, .int a1), (2, .int a2)]) dX10_isSoon_3 hN (by decide) rfl ?_
  have hL5 : ∀ (K56 : Int32 → Option (Int32)), (∀ (v26 : Int32), K56 v26 = some r → ZW E 56 [(3, .int v26)] [] M) → ∀ (n5 : Nat), ∀ (v24 : Int32), ∀ (v25 : Int32), zf_X10_isSoon_L5 M n a1 a2 K56 n5 v24 v25 = some r → ZW E 5 [(0, .ref (zad E 77)), (1, .int a1), (2, .int a2), (3, .int v24), (4, .int v25)] [] M := by
    intro K56 hK56
    intro n5
    induction n5 with
    | zero => intro v24 v25 hf; rw [zf_X10_isSoon_L5] at hf; cases hf
    | succ n5 ih5 =>
      intro v24 v25 hf
      rw [zf_X10_isSoon_L5] at hf
      refine zw_iload hC dX10_isSoon_5 4 rfl ?_
      refine zw_aload_n hC dX10_isSoon_7 rfl 0 rfl ?_
      refine zw_getr (k' := 78) hC zF_Model_now zk_77 rfl dX10_isSoon_8 kw_5_227 ?_
      refine zw_iconst hC (v := (0 : Int32)) dX10_isSoon_11 (by decide) ?_
      refine zw_iald hC hf zk_78 dX10_isSoon_12 (fun v27 hf => ?_)
      refine zw_icmp_ge hC 56 hf dX10_isSoon_13 (by decide) (fun hf => ?_) (fun hf => ?_)
      · exact zw_sub [3] rfl (hK56 v24 hf)
      · refine zw_iload_n hC dX10_isSoon_16 rfl 3 rfl ?_
        have hj49 : ∀ (v28 : Int32), zf_X10_isSoon_j49 (fun x0 x1 => zf_X10_isSoon_L5 M n a1 a2 K56 n5 x0 x1) v25 v28 = some r → ZW E 49 [(0, .ref (zad E 77)), (1, .int a1), (2, .int a2), (4, .int v25)] [.int v28] M := by
          intro v28 hf
          unfold zf_X10_isSoon_j49 at hf
          refine zw_istore_n hC (lv' := [(3, .int v28), (0, .ref (zad E 77)), (1, .int a1), (2, .int a2), (4, .int v25)]) dX10_isSoon_49 rfl hN (by decide) rfl ?_
          refine zw_iinc hC (v := (1 : Int32)) (lv' := [(4, .int (v25 + (1 : Int32))), (3, .int v28), (0, .ref (zad E 77)), (1, .int a1), (2, .int a2)]) dX10_isSoon_50 4 rfl (by decide) hN (by decide) rfl ?_
          refine zw_goto hC 5 dX10_isSoon_53 (by decide) ?_
          exact zw_sub [2, 3, 4, 1, 0] rfl (ih5 v28 (v25 + (1 : Int32)) hf)
        have hj48 : zf_X10_isSoon_j48 (fun x0 x1 => zf_X10_isSoon_L5 M n a1 a2 K56 n5 x0 x1) v25 = some r → ZW E 48 [(0, .ref (zad E 77)), (1, .int a1), (2, .int a2), (4, .int v25)] [] M := by
          intro  hf
          unfold zf_X10_isSoon_j48 at hf
          refine zw_iconst hC (v := (0 : Int32)) dX10_isSoon_48 (by decide) ?_
          exact hj49 (0 : Int32) hf
        refine zw_if_eq hC 48 hf dX10_isSoon_17 (by decide) (fun hf => ?_) (fun hf => ?_)
        · exact zw_sub [0, 1, 2, 4] rfl (hj48 hf)
        · refine zw_aload_n hC dX10_isSoon_20 rfl 0 rfl ?_
          refine zw_getr (k' := 78) hC zF_Model_now zk_77 rfl dX10_isSoon_21 kw_5_227 ?_
          refine zw_bipush hC (v := (45 : Int32)) dX10_isSoon_24 (by decide) ?_
          refine zw_iload hC dX10_isSoon_26 4 rfl ?_
          refine zw_iadd hC dX10_isSoon_28 ?_
          refine zw_iald hC hf zk_78 dX10_isSoon_29 (fun v29 hf => ?_)
          have hj44 : zf_X10_isSoon_j44 (fun x0 x1 => zf_X10_isSoon_L5 M n a1 a2 K56 n5 x0 x1) v25 = some r → ZW E 44 [(0, .ref (zad E 77)), (1, .int a1), (2, .int a2), (4, .int v25)] [] M := by
            intro  hf
            unfold zf_X10_isSoon_j44 at hf
            refine zw_iconst hC (v := (1 : Int32)) dX10_isSoon_44 (by decide) ?_
            refine zw_goto hC 49 dX10_isSoon_45 (by decide) ?_
            exact hj49 (1 : Int32) hf
          refine zw_if_eq hC 44 hf dX10_isSoon_30 (by decide) (fun hf => ?_) (fun hf => ?_)
          · exact zw_sub [0, 1, 2, 4] rfl (hj44 hf)
          · refine zw_aload_n hC dX10_isSoon_33 rfl 0 rfl ?_
            refine zw_iload_n hC dX10_isSoon_34 rfl 1 rfl ?_
            refine zw_iload hC dX10_isSoon_35 4 rfl ?_
            obtain ⟨v30, hc30, hf⟩ := zb1_some hf
            refine zw_cV hC [.int a1, .int v25] [] (st1 := [.int v30]) zm_X10_waitFor (zc_X10_waitFor hc30) zk_77 rfl kw_7_17 dX10_isSoon_37 rfl (by decide) (Nat.le_of_ble_eq_true rfl) rfl rfl ?_
            refine zw_iload_n hC dX10_isSoon_40 rfl 2 rfl ?_
            refine zw_icmp_gt hC 48 hf dX10_isSoon_41 (by decide) (fun hf => ?_) (fun hf => ?_)
            · exact zw_sub [0, 1, 2, 4] rfl (hj48 hf)
            · exact zw_sub [0, 1, 2, 4] rfl (hj44 hf)
  refine zw_sub [2, 3, 4, 1, 0] rfl (hL5 _ ?_ n (1 : Int32) (0 : Int32) hf)
  · intro v31 hf
    refine zw_iload_n hC dX10_isSoon_56 rfl 0 rfl ?_
    obtain ⟨hz, hf⟩ := zbz_some hf
    have h1 := Option.some.inj hf
    subst h1
    exact zw_zret hC hR hz dX10_isSoon_57
/-! ClassOfManyModel.cheapest(II)I -/
theorem dX10_cheapest_0 : decode cX10_cheapest 0 = .ok (.aload_n 0, 1) := by decide +kernel
theorem dX10_cheapest_1 : decode cX10_cheapest 1 = .ok (.getfield 7, 3) := by decide +kernel
theorem dX10_cheapest_4 : decode cX10_cheapest 4 = .ok (.iconst 1, 1) := by decide +kernel
theorem dX10_cheapest_5 : decode cX10_cheapest 5 = .ok (.iaload, 1) := by decide +kernel
theorem dX10_cheapest_6 : decode cX10_cheapest 6 = .ok (.ifCond .eq 16, 3) := by decide +kernel
theorem dX10_cheapest_9 : decode cX10_cheapest 9 = .ok (.iload_n 1, 1) := by decide +kernel
theorem dX10_cheapest_10 : decode cX10_cheapest 10 = .ok (.ifCond .lt 12, 3) := by decide +kernel
theorem dX10_cheapest_13 : decode cX10_cheapest 13 = .ok (.iload_n 2, 1) := by decide +kernel
theorem dX10_cheapest_14 : decode cX10_cheapest 14 = .ok (.iconst 0, 1) := by decide +kernel
theorem dX10_cheapest_15 : decode cX10_cheapest 15 = .ok (.iconst 1, 1) := by decide +kernel
theorem dX10_cheapest_16 : decode cX10_cheapest 16 = .ok (.invokestatic 65, 3) := by decide +kernel
theorem dX10_cheapest_19 : decode cX10_cheapest 19 = .ok (.ifCond .ne 5, 3) := by decide +kernel
theorem dX10_cheapest_22 : decode cX10_cheapest 22 = .ok (.iconst (-1), 1) := by decide +kernel
theorem dX10_cheapest_23 : decode cX10_cheapest 23 = .ok (.ireturn, 1) := by decide +kernel
theorem dX10_cheapest_24 : decode cX10_cheapest 24 = .ok (.bipush (-2), 2) := by decide +kernel
theorem dX10_cheapest_26 : decode cX10_cheapest 26 = .ok (.istore_n 3, 1) := by decide +kernel
theorem dX10_cheapest_27 : decode cX10_cheapest 27 = .ok (.iconst 0, 1) := by decide +kernel
theorem dX10_cheapest_28 : decode cX10_cheapest 28 = .ok (.istore 4, 2) := by decide +kernel
theorem dX10_cheapest_30 : decode cX10_cheapest 30 = .ok (.iload 4, 2) := by decide +kernel
theorem dX10_cheapest_32 : decode cX10_cheapest 32 = .ok (.aload_n 0, 1) := by decide +kernel
theorem dX10_cheapest_33 : decode cX10_cheapest 33 = .ok (.invokevirtual 191, 3) := by decide +kernel
theorem dX10_cheapest_36 : decode cX10_cheapest 36 = .ok (.if_icmp .ge 51, 3) := by decide +kernel
theorem dX10_cheapest_39 : decode cX10_cheapest 39 = .ok (.aload_n 0, 1) := by decide +kernel
theorem dX10_cheapest_40 : decode cX10_cheapest 40 = .ok (.iload 4, 2) := by decide +kernel
theorem dX10_cheapest_42 : decode cX10_cheapest 42 = .ok (.invokevirtual 293, 3) := by decide +kernel
theorem dX10_cheapest_45 : decode cX10_cheapest 45 = .ok (.ifCond .eq 36, 3) := by decide +kernel
theorem dX10_cheapest_48 : decode cX10_cheapest 48 = .ok (.aload_n 0, 1) := by decide +kernel
theorem dX10_cheapest_49 : decode cX10_cheapest 49 = .ok (.iload 4, 2) := by decide +kernel
theorem dX10_cheapest_51 : decode cX10_cheapest 51 = .ok (.iload_n 1, 1) := by decide +kernel
theorem dX10_cheapest_52 : decode cX10_cheapest 52 = .ok (.invokevirtual 318, 3) := by decide +kernel
theorem dX10_cheapest_55 : decode cX10_cheapest 55 = .ok (.ifCond .eq 26, 3) := by decide +kernel
theorem dX10_cheapest_58 : decode cX10_cheapest 58 = .ok (.iload_n 3, 1) := by decide +kernel
theorem dX10_cheapest_59 : decode cX10_cheapest 59 = .ok (.bipush (-2), 2) := by decide +kernel
theorem dX10_cheapest_61 : decode cX10_cheapest 61 = .ok (.if_icmp .eq 17, 3) := by decide +kernel
theorem dX10_cheapest_64 : decode cX10_cheapest 64 = .ok (.aload_n 0, 1) := by decide +kernel
theorem dX10_cheapest_65 : decode cX10_cheapest 65 = .ok (.iload 4, 2) := by decide +kernel
theorem dX10_cheapest_67 : decode cX10_cheapest 67 = .ok (.invokevirtual 197, 3) := by decide +kernel
theorem dX10_cheapest_70 : decode cX10_cheapest 70 = .ok (.aload_n 0, 1) := by decide +kernel
theorem dX10_cheapest_71 : decode cX10_cheapest 71 = .ok (.iload_n 3, 1) := by decide +kernel
theorem dX10_cheapest_72 : decode cX10_cheapest 72 = .ok (.invokevirtual 197, 3) := by decide +kernel
theorem dX10_cheapest_75 : decode cX10_cheapest 75 = .ok (.if_icmp .ge 6, 3) := by decide +kernel
theorem dX10_cheapest_78 : decode cX10_cheapest 78 = .ok (.iload 4, 2) := by decide +kernel
theorem dX10_cheapest_80 : decode cX10_cheapest 80 = .ok (.istore_n 3, 1) := by decide +kernel
theorem dX10_cheapest_81 : decode cX10_cheapest 81 = .ok (.iinc 4 1, 3) := by decide +kernel
theorem dX10_cheapest_84 : decode cX10_cheapest 84 = .ok (.goto (-54), 3) := by decide +kernel
theorem dX10_cheapest_87 : decode cX10_cheapest 87 = .ok (.iload_n 3, 1) := by decide +kernel
theorem dX10_cheapest_88 : decode cX10_cheapest 88 = .ok (.bipush (-2), 2) := by decide +kernel
theorem dX10_cheapest_90 : decode cX10_cheapest 90 = .ok (.if_icmp .ne 8, 3) := by decide +kernel
theorem dX10_cheapest_93 : decode cX10_cheapest 93 = .ok (.bipush (-2), 2) := by decide +kernel
theorem dX10_cheapest_95 : decode cX10_cheapest 95 = .ok (.goto 16, 3) := by decide +kernel
theorem dX10_cheapest_98 : decode cX10_cheapest 98 = .ok (.iload_n 2, 1) := by decide +kernel
theorem dX10_cheapest_99 : decode cX10_cheapest 99 = .ok (.ifCond .ne 11, 3) := by decide +kernel
theorem dX10_cheapest_102 : decode cX10_cheapest 102 = .ok (.aload_n 0, 1) := by decide +kernel
theorem dX10_cheapest_103 : decode cX10_cheapest 103 = .ok (.iload_n 3, 1) := by decide +kernel
theorem dX10_cheapest_104 : decode cX10_cheapest 104 = .ok (.invokevirtual 197, 3) := by decide +kernel
theorem dX10_cheapest_107 : decode cX10_cheapest 107 = .ok (.goto 4, 3) := by decide +kernel
theorem dX10_cheapest_110 : decode cX10_cheapest 110 = .ok (.iload_n 3, 1) := by decide +kernel
theorem dX10_cheapest_111 : decode cX10_cheapest 111 = .ok (.ireturn, 1) := by decide +kernel
theorem zm_X10_cheapest : ZMv "ClassOfManyModel" yX10_cheapest cX10_cheapest 5 (some .int) 2 := ⟨kw_7_165, kw_7_163, kw_7_164, kw_1_10, by decide +kernel, by decide⟩
def zf_X10_cheapest_j22 : Option (Int32) :=
  some (-1 : Int32)
def zf_X10_cheapest_j81 (R30 : Int32 → Int32 → Option (Int32)) (v32 : Int32) (v36 : Int32) : Option (Int32) :=
  (R30 v36 (v32 + (1 : Int32)))
def zf_X10_cheapest_j78 (R30 : Int32 → Int32 → Option (Int32)) (v32 : Int32) : Option (Int32) :=
  (zf_X10_cheapest_j81 R30 v32 v32)
def zf_X10_cheapest_L30 (M : ZMem) (n : Nat) (a1 : Int32) (K87 : Int32 → Option (Int32)) : Nat → Int32 → Int32 → Option (Int32)
  | 0, _, _ => none
  | n30 + 1, v31, v32 =>
  zb1 (zf_X10_orders M) (fun v34 => (if v34 ≤ v32 then (K87 v31) else zb1 (zf_X10_isOrder n v32 M) (fun v35 => (if v35 = 0 then (zf_X10_cheapest_j81 (fun x0 x1 => zf_X10_cheapest_L30 M n a1 K87 n30 x0 x1) v32 v31) else zb1 (zf_X10_isSoon n v32 a1 M) (fun v37 => (if v37 = 0 then (zf_X10_cheapest_j81 (fun x0 x1 => zf_X10_cheapest_L30 M n a1 K87 n30 x0 x1) v32 v31) else (if v31 = (-2 : Int32) then (zf_X10_cheapest_j78 (fun x0 x1 => zf_X10_cheapest_L30 M n a1 K87 n30 x0 x1) v32) else zb1 (zf_X10_costsFor n v32 M) (fun v38 => zb1 (zf_X10_costsFor n v31 M) (fun v39 => (if v39 ≤ v38 then (zf_X10_cheapest_j81 (fun x0 x1 => zf_X10_cheapest_L30 M n a1 K87 n30 x0 x1) v32 v31) else (zf_X10_cheapest_j78 (fun x0 x1 => zf_X10_cheapest_L30 M n a1 K87 n30 x0 x1) v32)))))))))))
def zf_X10_cheapest_j111 (v41 : Int32) : Option (Int32) :=
  some v41
def zf_X10_cheapest (n : Nat) (a1 : Int32) (a2 : Int32) (M : ZMem) : Option (Int32) :=
  zrd M 78 73 (1 : Int32) (fun v29 => (if v29 = 0 then (zf_X10_cheapest_j22) else (if a1 < 0 then (zf_X10_cheapest_j22) else zb1 (zf_X10_isIn a2 (0 : Int32) (1 : Int32)) (fun v30 => (if v30 = 0 then (zf_X10_cheapest_j22) else (zf_X10_cheapest_L30 M n a1 (fun v40 => (if v40 = (-2 : Int32) then (zf_X10_cheapest_j111 (-2 : Int32)) else (if a2 = 0 then zb1 (zf_X10_costsFor n v40 M) (fun v42 => (zf_X10_cheapest_j111 v42)) else (zf_X10_cheapest_j111 v40)))) n (-2 : Int32) (0 : Int32)))))))
set_option maxHeartbeats 4000000 in
set_option maxRecDepth 100000 in
theorem zc_X10_cheapest {l : Launch} {D : va_G} {ad : Nat → Nat} {cA : Nat → ClassId} {n : Nat} {a1 : Int32} {a2 : Int32} {M : ZMem} {r : Int32} (hf : zf_X10_cheapest n a1 a2 M = some r) : ZCt l D ad cA yX10_cheapest cX10_cheapest 5 (some .int) 4 [.ref (ad 77), .int a1, .int a2] M (some (.int r)) M := by
  refine zct (by decide +kernel) (Nat.le_of_ble_eq_true rfl) (lv := [(0, .ref (ad 77)), (1, .int a1), (2, .int a2)]) rfl (fun E hl hD had hcA hN hC hR => ?_)
  subst hl; subst hD; subst had; subst hcA
  unfold zf_X10_cheapest at hf
  refine zw_aload_n hC dX10_cheapest_0 rfl 0 rfl ?_
  refine zw_getr (k' := 78) hC zF_Model_now zk_77 rfl dX10_cheapest_1 kw_5_227 ?_
  refine zw_iconst hC (v := (1 : Int32)) dX10_cheapest_4 (by decide) ?_
  refine zw_iald hC hf zk_78 dX10_cheapest_5 (fun v29 hf => ?_)
  have hj22 : zf_X10_cheapest_j22 = some r → ZW E 22 [] [] M := by
    intro  hf
    unfold zf_X10_cheapest_j22 at hf
    refine zw_iconst hC (v := (-1 : Int32)) dX10_cheapest_22 (by decide) ?_
    have h1 := Option.some.inj hf
    subst h1
    exact zw_iret hC hR dX10_cheapest_23
  refine zw_if_eq hC 22 hf dX10_cheapest_6 (by decide) (fun hf => ?_) (fun hf => ?_)
  · exact zw_sub [] rfl (hj22 hf)
  · refine zw_iload_n hC dX10_cheapest_9 rfl 1 rfl ?_
    refine zw_if_lt hC 22 hf dX10_cheapest_10 (by decide) (fun hf => ?_) (fun hf => ?_)
    · exact zw_sub [] rfl (hj22 hf)
    · refine zw_iload_n hC dX10_cheapest_13 rfl 2 rfl ?_
      refine zw_iconst hC (v := (0 : Int32)) dX10_cheapest_14 (by decide) ?_
      refine zw_iconst hC (v := (1 : Int32)) dX10_cheapest_15 (by decide) ?_
      obtain ⟨v30, hc30, hf⟩ := zb1_some hf
      refine zw_cS hC [.int a2, .int (0 : Int32), .int (1 : Int32)] [] (st1 := [.int v30]) zm_X10_isIn (zc_X10_isIn hc30) kw_6_106 dX10_cheapest_16 rfl (by decide) (Nat.le_of_ble_eq_true rfl) rfl rfl ?_
      refine zw_if_ne hC 24 hf dX10_cheapest_19 (by decide) (fun hf => ?_) (fun hf => ?_)
      · refine zw_bipush hC (v := (-2 : Int32)) dX10_cheapest_24 (by decide) ?_
        refine zw_istore_n hC (lv' := [(3, .int (-2 : Int32)), (0, .ref (zad E 77)), (1, .int a1), (2, .int a2)]) dX10_cheapest_26 rfl hN (by decide) rfl ?_
        refine zw_iconst hC (v := (0 : Int32)) dX10_cheapest_27 (by decide) ?_
        refine zw_istore hC (lv' := [(4, .int (0 : Int32)), (3, .int (-2 : Int32)), (0, .ref (zad E 77)), (1, .int a1), (2, .int a2)]) dX10_cheapest_28 hN (by decide) rfl ?_
        have hL30 : ∀ (K87 : Int32 → Option (Int32)), (∀ (v33 : Int32), K87 v33 = some r → ZW E 87 [(0, .ref (zad E 77)), (2, .int a2), (3, .int v33)] [] M) → ∀ (n30 : Nat), ∀ (v31 : Int32), ∀ (v32 : Int32), zf_X10_cheapest_L30 M n a1 K87 n30 v31 v32 = some r → ZW E 30 [(0, .ref (zad E 77)), (1, .int a1), (2, .int a2), (3, .int v31), (4, .int v32)] [] M := by
          intro K87 hK87
          intro n30
          induction n30 with
          | zero => intro v31 v32 hf; rw [zf_X10_cheapest_L30] at hf; cases hf
          | succ n30 ih30 =>
            intro v31 v32 hf
            rw [zf_X10_cheapest_L30] at hf
            refine zw_iload hC dX10_cheapest_30 4 rfl ?_
            refine zw_aload_n hC dX10_cheapest_32 rfl 0 rfl ?_
            obtain ⟨v34, hc34, hf⟩ := zb1_some hf
            refine zw_cV hC [] [.int v32] (st1 := [.int v34, .int v32]) zm_X10_orders (zc_X10_orders hc34) zk_77 rfl kw_6_221 dX10_cheapest_33 rfl (by decide) (Nat.le_of_ble_eq_true rfl) rfl rfl ?_
            refine zw_icmp_ge hC 87 hf dX10_cheapest_36 (by decide) (fun hf => ?_) (fun hf => ?_)
            · exact zw_sub [0, 2, 3] rfl (hK87 v31 hf)
            · refine zw_aload_n hC dX10_cheapest_39 rfl 0 rfl ?_
              refine zw_iload hC dX10_cheapest_40 4 rfl ?_
              obtain ⟨v35, hc35, hf⟩ := zb1_some hf
              refine zw_cV hC [.int v32] [] (st1 := [.int v35]) zm_X10_isOrder (zc_X10_isOrder hc35) zk_77 rfl kw_6_217 dX10_cheapest_42 rfl (by decide) (Nat.le_of_ble_eq_true rfl) rfl rfl ?_
              have hj81 : ∀ (v36 : Int32), zf_X10_cheapest_j81 (fun x0 x1 => zf_X10_cheapest_L30 M n a1 K87 n30 x0 x1) v32 v36 = some r → ZW E 81 [(0, .ref (zad E 77)), (1, .int a1), (2, .int a2), (3, .int v36), (4, .int v32)] [] M := by
                intro v36 hf
                unfold zf_X10_cheapest_j81 at hf
                refine zw_iinc hC (v := (1 : Int32)) (lv' := [(4, .int (v32 + (1 : Int32))), (0, .ref (zad E 77)), (1, .int a1), (2, .int a2), (3, .int v36)]) dX10_cheapest_81 4 rfl (by decide) hN (by decide) rfl ?_
                refine zw_goto hC 30 dX10_cheapest_84 (by decide) ?_
                exact zw_sub [1, 2, 3, 4, 0] rfl (ih30 v36 (v32 + (1 : Int32)) hf)
              refine zw_if_eq hC 81 hf dX10_cheapest_45 (by decide) (fun hf => ?_) (fun hf => ?_)
              · exact hj81 v31 hf
              · refine zw_aload_n hC dX10_cheapest_48 rfl 0 rfl ?_
                refine zw_iload hC dX10_cheapest_49 4 rfl ?_
                refine zw_iload_n hC dX10_cheapest_51 rfl 1 rfl ?_
                obtain ⟨v37, hc37, hf⟩ := zb1_some hf
                refine zw_cV hC [.int v32, .int a1] [] (st1 := [.int v37]) zm_X10_isSoon (zc_X10_isSoon hc37) zk_77 rfl kw_7_166 dX10_cheapest_52 rfl (by decide) (Nat.le_of_ble_eq_true rfl) rfl rfl ?_
                refine zw_if_eq hC 81 hf dX10_cheapest_55 (by decide) (fun hf => ?_) (fun hf => ?_)
                · exact hj81 v31 hf
                · refine zw_iload_n hC dX10_cheapest_58 rfl 3 rfl ?_
                  refine zw_bipush hC (v := (-2 : Int32)) dX10_cheapest_59 (by decide) ?_
                  have hj78 : zf_X10_cheapest_j78 (fun x0 x1 => zf_X10_cheapest_L30 M n a1 K87 n30 x0 x1) v32 = some r → ZW E 78 [(0, .ref (zad E 77)), (1, .int a1), (2, .int a2), (4, .int v32)] [] M := by
                    intro  hf
                    unfold zf_X10_cheapest_j78 at hf
                    refine zw_iload hC dX10_cheapest_78 3 rfl ?_
                    refine zw_istore_n hC (lv' := [(3, .int v32), (0, .ref (zad E 77)), (1, .int a1), (2, .int a2), (4, .int v32)]) dX10_cheapest_80 rfl hN (by decide) rfl ?_
                    exact zw_sub [1, 2, 3, 0, 4] rfl (hj81 v32 hf)
                  refine zw_icmp_eq hC 78 hf dX10_cheapest_61 (by decide) (fun hf => ?_) (fun hf => ?_)
                  · exact zw_sub [0, 1, 2, 4] rfl (hj78 hf)
                  · refine zw_aload_n hC dX10_cheapest_64 rfl 0 rfl ?_
                    refine zw_iload hC dX10_cheapest_65 4 rfl ?_
                    obtain ⟨v38, hc38, hf⟩ := zb1_some hf
                    refine zw_cV hC [.int v32] [] (st1 := [.int v38]) zm_X10_costsFor (zc_X10_costsFor hc38) zk_77 rfl kw_6_237 dX10_cheapest_67 rfl (by decide) (Nat.le_of_ble_eq_true rfl) rfl rfl ?_
                    refine zw_aload_n hC dX10_cheapest_70 rfl 0 rfl ?_
                    refine zw_iload_n hC dX10_cheapest_71 rfl 3 rfl ?_
                    obtain ⟨v39, hc39, hf⟩ := zb1_some hf
                    refine zw_cV hC [.int v31] [.int v38] (st1 := [.int v39, .int v38]) zm_X10_costsFor (zc_X10_costsFor hc39) zk_77 rfl kw_6_237 dX10_cheapest_72 rfl (by decide) (Nat.le_of_ble_eq_true rfl) rfl rfl ?_
                    refine zw_icmp_ge hC 81 hf dX10_cheapest_75 (by decide) (fun hf => ?_) (fun hf => ?_)
                    · exact hj81 v31 hf
                    · exact zw_sub [0, 1, 2, 4] rfl (hj78 hf)
        refine zw_sub [2, 3, 4, 1, 0] rfl (hL30 _ ?_ n (-2 : Int32) (0 : Int32) hf)
        · intro v40 hf
          refine zw_iload_n hC dX10_cheapest_87 rfl 2 rfl ?_
          refine zw_bipush hC (v := (-2 : Int32)) dX10_cheapest_88 (by decide) ?_
          have hj111 : ∀ (v41 : Int32), zf_X10_cheapest_j111 v41 = some r → ZW E 111 [] [.int v41] M := by
            intro v41 hf
            unfold zf_X10_cheapest_j111 at hf
            have h1 := Option.some.inj hf
            subst h1
            exact zw_iret hC hR dX10_cheapest_111
          refine zw_icmp_ne hC 98 hf dX10_cheapest_90 (by decide) (fun hf => ?_) (fun hf => ?_)
          · refine zw_iload_n hC dX10_cheapest_98 rfl 1 rfl ?_
            refine zw_if_ne hC 110 hf dX10_cheapest_99 (by decide) (fun hf => ?_) (fun hf => ?_)
            · refine zw_iload_n hC dX10_cheapest_110 rfl 2 rfl ?_
              exact zw_sub [] rfl (hj111 v40 hf)
            · refine zw_aload_n hC dX10_cheapest_102 rfl 0 rfl ?_
              refine zw_iload_n hC dX10_cheapest_103 rfl 2 rfl ?_
              obtain ⟨v42, hc42, hf⟩ := zb1_some hf
              refine zw_cV hC [.int v40] [] (st1 := [.int v42]) zm_X10_costsFor (zc_X10_costsFor hc42) zk_77 rfl kw_6_237 dX10_cheapest_104 rfl (by decide) (Nat.le_of_ble_eq_true rfl) rfl rfl ?_
              refine zw_goto hC 111 dX10_cheapest_107 (by decide) ?_
              exact zw_sub [] rfl (hj111 v42 hf)
          · refine zw_bipush hC (v := (-2 : Int32)) dX10_cheapest_93 (by decide) ?_
            refine zw_goto hC 111 dX10_cheapest_95 (by decide) ?_
            exact zw_sub [] rfl (hj111 (-2 : Int32) hf)
      · exact zw_sub [] rfl (hj22 hf)
/-! ClassOfManyModel.reachedBy(I)I -/
theorem dX10_reachedBy_0 : decode cX10_reachedBy 0 = .ok (.iload_n 1, 1) := by decide +kernel
theorem dX10_reachedBy_1 : decode cX10_reachedBy 1 = .ok (.iconst 0, 1) := by decide +kernel
theorem dX10_reachedBy_2 : decode cX10_reachedBy 2 = .ok (.sipush 199, 3) := by decide +kernel
theorem dX10_reachedBy_5 : decode cX10_reachedBy 5 = .ok (.invokestatic 65, 3) := by decide +kernel
theorem dX10_reachedBy_8 : decode cX10_reachedBy 8 = .ok (.ifCond .ne 5, 3) := by decide +kernel
theorem dX10_reachedBy_11 : decode cX10_reachedBy 11 = .ok (.iconst (-1), 1) := by decide +kernel
theorem dX10_reachedBy_12 : decode cX10_reachedBy 12 = .ok (.ireturn, 1) := by decide +kernel
theorem dX10_reachedBy_13 : decode cX10_reachedBy 13 = .ok (.iconst 0, 1) := by decide +kernel
theorem dX10_reachedBy_14 : decode cX10_reachedBy 14 = .ok (.istore_n 2, 1) := by decide +kernel
theorem dX10_reachedBy_15 : decode cX10_reachedBy 15 = .ok (.iconst 0, 1) := by decide +kernel
theorem dX10_reachedBy_16 : decode cX10_reachedBy 16 = .ok (.istore_n 3, 1) := by decide +kernel
theorem dX10_reachedBy_17 : decode cX10_reachedBy 17 = .ok (.iload_n 3, 1) := by decide +kernel
theorem dX10_reachedBy_18 : decode cX10_reachedBy 18 = .ok (.aload_n 0, 1) := by decide +kernel
theorem dX10_reachedBy_19 : decode cX10_reachedBy 19 = .ok (.getfield 7, 3) := by decide +kernel
theorem dX10_reachedBy_22 : decode cX10_reachedBy 22 = .ok (.iconst 0, 1) := by decide +kernel
theorem dX10_reachedBy_23 : decode cX10_reachedBy 23 = .ok (.iaload, 1) := by decide +kernel
theorem dX10_reachedBy_24 : decode cX10_reachedBy 24 = .ok (.if_icmp .ge 36, 3) := by decide +kernel
theorem dX10_reachedBy_27 : decode cX10_reachedBy 27 = .ok (.iload_n 2, 1) := by decide +kernel
theorem dX10_reachedBy_28 : decode cX10_reachedBy 28 = .ok (.aload_n 0, 1) := by decide +kernel
theorem dX10_reachedBy_29 : decode cX10_reachedBy 29 = .ok (.iload_n 3, 1) := by decide +kernel
theorem dX10_reachedBy_30 : decode cX10_reachedBy 30 = .ok (.invokevirtual 204, 3) := by decide +kernel
theorem dX10_reachedBy_33 : decode cX10_reachedBy 33 = .ok (.ifCond .lt 18, 3) := by decide +kernel
theorem dX10_reachedBy_36 : decode cX10_reachedBy 36 = .ok (.aload_n 0, 1) := by decide +kernel
theorem dX10_reachedBy_37 : decode cX10_reachedBy 37 = .ok (.iload_n 3, 1) := by decide +kernel
theorem dX10_reachedBy_38 : decode cX10_reachedBy 38 = .ok (.invokevirtual 204, 3) := by decide +kernel
theorem dX10_reachedBy_41 : decode cX10_reachedBy 41 = .ok (.iload_n 1, 1) := by decide +kernel
theorem dX10_reachedBy_42 : decode cX10_reachedBy 42 = .ok (.if_icmp .gt 9, 3) := by decide +kernel
theorem dX10_reachedBy_45 : decode cX10_reachedBy 45 = .ok (.iconst 1, 1) := by decide +kernel
theorem dX10_reachedBy_46 : decode cX10_reachedBy 46 = .ok (.iload_n 3, 1) := by decide +kernel
theorem dX10_reachedBy_47 : decode cX10_reachedBy 47 = .ok (.ishl, 1) := by decide +kernel
theorem dX10_reachedBy_48 : decode cX10_reachedBy 48 = .ok (.goto 4, 3) := by decide +kernel
theorem dX10_reachedBy_51 : decode cX10_reachedBy 51 = .ok (.iconst 0, 1) := by decide +kernel
theorem dX10_reachedBy_52 : decode cX10_reachedBy 52 = .ok (.ior, 1) := by decide +kernel
theorem dX10_reachedBy_53 : decode cX10_reachedBy 53 = .ok (.istore_n 2, 1) := by decide +kernel
theorem dX10_reachedBy_54 : decode cX10_reachedBy 54 = .ok (.iinc 3 1, 3) := by decide +kernel
theorem dX10_reachedBy_57 : decode cX10_reachedBy 57 = .ok (.goto (-40), 3) := by decide +kernel
theorem dX10_reachedBy_60 : decode cX10_reachedBy 60 = .ok (.iload_n 2, 1) := by decide +kernel
theorem dX10_reachedBy_61 : decode cX10_reachedBy 61 = .ok (.ireturn, 1) := by decide +kernel
theorem zm_X10_reachedBy : ZMv "ClassOfManyModel" yX10_reachedBy cX10_reachedBy 4 (some .int) 1 := ⟨kw_7_173, kw_7_171, kw_7_172, kw_1_10, by decide +kernel, by decide⟩
def zf_X10_reachedBy_j52 (R17 : Int32 → Int32 → Option (Int32)) (v26 : Int32) (v27 : Int32) (v31 : Int32) : Option (Int32) :=
  (R17 (v26 ||| v31) (v27 + (1 : Int32)))
def zf_X10_reachedBy_j51 (R17 : Int32 → Int32 → Option (Int32)) (v26 : Int32) (v27 : Int32) : Option (Int32) :=
  (zf_X10_reachedBy_j52 R17 v26 v27 (0 : Int32))
def zf_X10_reachedBy_L17 (M : ZMem) (n : Nat) (a1 : Int32) (K60 : Int32 → Option (Int32)) : Nat → Int32 → Int32 → Option (Int32)
  | 0, _, _ => none
  | n17 + 1, v26, v27 =>
  zrd M 78 73 (0 : Int32) (fun v29 => (if v29 ≤ v27 then (K60 v26) else zb1 (zf_X10_reachedOn n v27 M) (fun v30 => (if v30 < 0 then (zf_X10_reachedBy_j51 (fun x0 x1 => zf_X10_reachedBy_L17 M n a1 K60 n17 x0 x1) v26 v27) else zb1 (zf_X10_reachedOn n v27 M) (fun v32 => (if a1 < v32 then (zf_X10_reachedBy_j51 (fun x0 x1 => zf_X10_reachedBy_L17 M n a1 K60 n17 x0 x1) v26 v27) else (zf_X10_reachedBy_j52 (fun x0 x1 => zf_X10_reachedBy_L17 M n a1 K60 n17 x0 x1) v26 v27 ((1 : Int32) <<< (v27 &&& 31)))))))))
def zf_X10_reachedBy (n : Nat) (a1 : Int32) (M : ZMem) : Option (Int32) :=
  zb1 (zf_X10_isIn a1 (0 : Int32) (199 : Int32)) (fun v25 => (if v25 = 0 then some (-1 : Int32) else (zf_X10_reachedBy_L17 M n a1 (fun v33 => some v33) n (0 : Int32) (0 : Int32))))
set_option maxHeartbeats 4000000 in
set_option maxRecDepth 100000 in
theorem zc_X10_reachedBy {l : Launch} {D : va_G} {ad : Nat → Nat} {cA : Nat → ClassId} {n : Nat} {a1 : Int32} {M : ZMem} {r : Int32} (hf : zf_X10_reachedBy n a1 M = some r) : ZCt l D ad cA yX10_reachedBy cX10_reachedBy 4 (some .int) 4 [.ref (ad 77), .int a1] M (some (.int r)) M := by
  refine zct (by decide +kernel) (Nat.le_of_ble_eq_true rfl) (lv := [(0, .ref (ad 77)), (1, .int a1)]) rfl (fun E hl hD had hcA hN hC hR => ?_)
  subst hl; subst hD; subst had; subst hcA
  unfold zf_X10_reachedBy at hf
  refine zw_iload_n hC dX10_reachedBy_0 rfl 1 rfl ?_
  refine zw_iconst hC (v := (0 : Int32)) dX10_reachedBy_1 (by decide) ?_
  refine zw_sipush hC (v := (199 : Int32)) dX10_reachedBy_2 (by decide) ?_
  obtain ⟨v25, hc25, hf⟩ := zb1_some hf
  refine zw_cS hC [.int a1, .int (0 : Int32), .int (199 : Int32)] [] (st1 := [.int v25]) zm_X10_isIn (zc_X10_isIn hc25) kw_6_106 dX10_reachedBy_5 rfl (by decide) (Nat.le_of_ble_eq_true rfl) rfl rfl ?_
  refine zw_if_ne hC 13 hf dX10_reachedBy_8 (by decide) (fun hf => ?_) (fun hf => ?_)
  · refine zw_iconst hC (v := (0 : Int32)) dX10_reachedBy_13 (by decide) ?_
    refine zw_istore_n hC (lv' := [(2, .int (0 : Int32)), (0, .ref (zad E 77)), (1, .int a1)]) dX10_reachedBy_14 rfl hN (by decide) rfl ?_
    refine zw_iconst hC (v := (0 : Int32)) dX10_reachedBy_15 (by decide) ?_
    refine zw_istore_n hC (lv' := [(3, .int (0 : Int32)), (2, .int (0 : Int32)), (0, .ref (zad E 77)), (1, .int a1)]) dX10_reachedBy_16 rfl hN (by decide) rfl ?_
    have hL17 : ∀ (K60 : Int32 → Option (Int32)), (∀ (v28 : Int32), K60 v28 = some r → ZW E 60 [(2, .int v28)] [] M) → ∀ (n17 : Nat), ∀ (v26 : Int32), ∀ (v27 : Int32), zf_X10_reachedBy_L17 M n a1 K60 n17 v26 v27 = some r → ZW E 17 [(0, .ref (zad E 77)), (1, .int a1), (2, .int v26), (3, .int v27)] [] M := by
      intro K60 hK60
      intro n17
      induction n17 with
      | zero => intro v26 v27 hf; rw [zf_X10_reachedBy_L17] at hf; cases hf
      | succ n17 ih17 =>
        intro v26 v27 hf
        rw [zf_X10_reachedBy_L17] at hf
        refine zw_iload_n hC dX10_reachedBy_17 rfl 3 rfl ?_
        refine zw_aload_n hC dX10_reachedBy_18 rfl 0 rfl ?_
        refine zw_getr (k' := 78) hC zF_Model_now zk_77 rfl dX10_reachedBy_19 kw_5_227 ?_
        refine zw_iconst hC (v := (0 : Int32)) dX10_reachedBy_22 (by decide) ?_
        refine zw_iald hC hf zk_78 dX10_reachedBy_23 (fun v29 hf => ?_)
        refine zw_icmp_ge hC 60 hf dX10_reachedBy_24 (by decide) (fun hf => ?_) (fun hf => ?_)
        · exact zw_sub [2] rfl (hK60 v26 hf)
        · refine zw_iload_n hC dX10_reachedBy_27 rfl 2 rfl ?_
          refine zw_aload_n hC dX10_reachedBy_28 rfl 0 rfl ?_
          refine zw_iload_n hC dX10_reachedBy_29 rfl 3 rfl ?_
          obtain ⟨v30, hc30, hf⟩ := zb1_some hf
          refine zw_cV hC [.int v27] [.int v26] (st1 := [.int v30, .int v26]) zm_X10_reachedOn (zc_X10_reachedOn hc30) zk_77 rfl kw_7_13 dX10_reachedBy_30 rfl (by decide) (Nat.le_of_ble_eq_true rfl) rfl rfl ?_
          have hj52 : ∀ (v31 : Int32), zf_X10_reachedBy_j52 (fun x0 x1 => zf_X10_reachedBy_L17 M n a1 K60 n17 x0 x1) v26 v27 v31 = some r → ZW E 52 [(0, .ref (zad E 77)), (1, .int a1), (3, .int v27)] [.int v31, .int v26] M := by
            intro v31 hf
            unfold zf_X10_reachedBy_j52 at hf
            refine zw_ior hC dX10_reachedBy_52 ?_
            refine zw_istore_n hC (lv' := [(2, .int (v26 ||| v31)), (0, .ref (zad E 77)), (1, .int a1), (3, .int v27)]) dX10_reachedBy_53 rfl hN (by decide) rfl ?_
            refine zw_iinc hC (v := (1 : Int32)) (lv' := [(3, .int (v27 + (1 : Int32))), (2, .int (v26 ||| v31)), (0, .ref (zad E 77)), (1, .int a1)]) dX10_reachedBy_54 3 rfl (by decide) hN (by decide) rfl ?_
            refine zw_goto hC 17 dX10_reachedBy_57 (by decide) ?_
            exact zw_sub [2, 3, 1, 0] rfl (ih17 (v26 ||| v31) (v27 + (1 : Int32)) hf)
          have hj51 : zf_X10_reachedBy_j51 (fun x0 x1 => zf_X10_reachedBy_L17 M n a1 K60 n17 x0 x1) v26 v27 = some r → ZW E 51 [(0, .ref (zad E 77)), (1, .int a1), (3, .int v27)] [.int v26] M := by
            intro  hf
            unfold zf_X10_reachedBy_j51 at hf
            refine zw_iconst hC (v := (0 : Int32)) dX10_reachedBy_51 (by decide) ?_
            exact hj52 (0 : Int32) hf
          refine zw_if_lt hC 51 hf dX10_reachedBy_33 (by decide) (fun hf => ?_) (fun hf => ?_)
          · exact zw_sub [0, 1, 3] rfl (hj51 hf)
          · refine zw_aload_n hC dX10_reachedBy_36 rfl 0 rfl ?_
            refine zw_iload_n hC dX10_reachedBy_37 rfl 3 rfl ?_
            obtain ⟨v32, hc32, hf⟩ := zb1_some hf
            refine zw_cV hC [.int v27] [.int v26] (st1 := [.int v32, .int v26]) zm_X10_reachedOn (zc_X10_reachedOn hc32) zk_77 rfl kw_7_13 dX10_reachedBy_38 rfl (by decide) (Nat.le_of_ble_eq_true rfl) rfl rfl ?_
            refine zw_iload_n hC dX10_reachedBy_41 rfl 1 rfl ?_
            refine zw_icmp_gt hC 51 hf dX10_reachedBy_42 (by decide) (fun hf => ?_) (fun hf => ?_)
            · exact zw_sub [0, 1, 3] rfl (hj51 hf)
            · refine zw_iconst hC (v := (1 : Int32)) dX10_reachedBy_45 (by decide) ?_
              refine zw_iload_n hC dX10_reachedBy_46 rfl 3 rfl ?_
              refine zw_ishl hC dX10_reachedBy_47 ?_
              refine zw_goto hC 52 dX10_reachedBy_48 (by decide) ?_
              exact zw_sub [0, 1, 3] rfl (hj52 ((1 : Int32) <<< (v27 &&& 31)) hf)
    refine zw_sub [2, 3, 1, 0] rfl (hL17 _ ?_ n (0 : Int32) (0 : Int32) hf)
    · intro v33 hf
      refine zw_iload_n hC dX10_reachedBy_60 rfl 0 rfl ?_
      have h1 := Option.some.inj hf
      subst h1
      exact zw_iret hC hR dX10_reachedBy_61
  · refine zw_iconst hC (v := (-1 : Int32)) dX10_reachedBy_11 (by decide) ?_
    have h1 := Option.some.inj hf
    subst h1
    exact zw_iret hC hR dX10_reachedBy_12
/-! ClassOfManyModel.fundOf(I)I -/
theorem dX10_fundOf_0 : decode cX10_fundOf 0 = .ok (.aload_n 0, 1) := by decide +kernel
theorem dX10_fundOf_1 : decode cX10_fundOf 1 = .ok (.invokevirtual 321, 3) := by decide +kernel
theorem dX10_fundOf_4 : decode cX10_fundOf 4 = .ok (.iload_n 1, 1) := by decide +kernel
theorem dX10_fundOf_5 : decode cX10_fundOf 5 = .ok (.tableswitch 126 0 5 #[39, 44, 53, 58, 63, 71], 39) := by decide +kernel
theorem dX10_fundOf_44 : decode cX10_fundOf 44 = .ok (.aload_n 0, 1) := by decide +kernel
theorem dX10_fundOf_45 : decode cX10_fundOf 45 = .ok (.invokevirtual 256, 3) := by decide +kernel
theorem dX10_fundOf_48 : decode cX10_fundOf 48 = .ok (.ireturn, 1) := by decide +kernel
theorem dX10_fundOf_49 : decode cX10_fundOf 49 = .ok (.aload_n 0, 1) := by decide +kernel
theorem dX10_fundOf_50 : decode cX10_fundOf 50 = .ok (.aload_n 0, 1) := by decide +kernel
theorem dX10_fundOf_51 : decode cX10_fundOf 51 = .ok (.invokevirtual 223, 3) := by decide +kernel
theorem dX10_fundOf_54 : decode cX10_fundOf 54 = .ok (.invokevirtual 324, 3) := by decide +kernel
theorem dX10_fundOf_57 : decode cX10_fundOf 57 = .ok (.ireturn, 1) := by decide +kernel
theorem dX10_fundOf_58 : decode cX10_fundOf 58 = .ok (.aload_n 0, 1) := by decide +kernel
theorem dX10_fundOf_59 : decode cX10_fundOf 59 = .ok (.getfield 268, 3) := by decide +kernel
theorem dX10_fundOf_62 : decode cX10_fundOf 62 = .ok (.ireturn, 1) := by decide +kernel
theorem dX10_fundOf_63 : decode cX10_fundOf 63 = .ok (.aload_n 0, 1) := by decide +kernel
theorem dX10_fundOf_64 : decode cX10_fundOf 64 = .ok (.getfield 265, 3) := by decide +kernel
theorem dX10_fundOf_67 : decode cX10_fundOf 67 = .ok (.ireturn, 1) := by decide +kernel
theorem dX10_fundOf_68 : decode cX10_fundOf 68 = .ok (.aload_n 0, 1) := by decide +kernel
theorem dX10_fundOf_69 : decode cX10_fundOf 69 = .ok (.getfield 235, 3) := by decide +kernel
theorem dX10_fundOf_72 : decode cX10_fundOf 72 = .ok (.invokestatic 262, 3) := by decide +kernel
theorem dX10_fundOf_75 : decode cX10_fundOf 75 = .ok (.ireturn, 1) := by decide +kernel
theorem dX10_fundOf_76 : decode cX10_fundOf 76 = .ok (.iconst 0, 1) := by decide +kernel
theorem dX10_fundOf_77 : decode cX10_fundOf 77 = .ok (.istore_n 2, 1) := by decide +kernel
theorem dX10_fundOf_78 : decode cX10_fundOf 78 = .ok (.iconst 0, 1) := by decide +kernel
theorem dX10_fundOf_79 : decode cX10_fundOf 79 = .ok (.istore_n 3, 1) := by decide +kernel
theorem dX10_fundOf_80 : decode cX10_fundOf 80 = .ok (.iload_n 3, 1) := by decide +kernel
theorem dX10_fundOf_81 : decode cX10_fundOf 81 = .ok (.aload_n 0, 1) := by decide +kernel
theorem dX10_fundOf_82 : decode cX10_fundOf 82 = .ok (.getfield 7, 3) := by decide +kernel
theorem dX10_fundOf_85 : decode cX10_fundOf 85 = .ok (.iconst 0, 1) := by decide +kernel
theorem dX10_fundOf_86 : decode cX10_fundOf 86 = .ok (.iaload, 1) := by decide +kernel
theorem dX10_fundOf_87 : decode cX10_fundOf 87 = .ok (.if_icmp .ge 42, 3) := by decide +kernel
theorem dX10_fundOf_90 : decode cX10_fundOf 90 = .ok (.iload_n 2, 1) := by decide +kernel
theorem dX10_fundOf_91 : decode cX10_fundOf 91 = .ok (.aload_n 0, 1) := by decide +kernel
theorem dX10_fundOf_92 : decode cX10_fundOf 92 = .ok (.getfield 235, 3) := by decide +kernel
theorem dX10_fundOf_95 : decode cX10_fundOf 95 = .ok (.iload_n 3, 1) := by decide +kernel
theorem dX10_fundOf_96 : decode cX10_fundOf 96 = .ok (.invokestatic 118, 3) := by decide +kernel
theorem dX10_fundOf_99 : decode cX10_fundOf 99 = .ok (.ifCond .eq 21, 3) := by decide +kernel
theorem dX10_fundOf_102 : decode cX10_fundOf 102 = .ok (.aload_n 0, 1) := by decide +kernel
theorem dX10_fundOf_103 : decode cX10_fundOf 103 = .ok (.getfield 34, 3) := by decide +kernel
theorem dX10_fundOf_106 : decode cX10_fundOf 106 = .ok (.iload_n 3, 1) := by decide +kernel
theorem dX10_fundOf_107 : decode cX10_fundOf 107 = .ok (.iaload, 1) := by decide +kernel
theorem dX10_fundOf_108 : decode cX10_fundOf 108 = .ok (.aload_n 0, 1) := by decide +kernel
theorem dX10_fundOf_109 : decode cX10_fundOf 109 = .ok (.iload_n 3, 1) := by decide +kernel
theorem dX10_fundOf_110 : decode cX10_fundOf 110 = .ok (.invokevirtual 211, 3) := by decide +kernel
theorem dX10_fundOf_113 : decode cX10_fundOf 113 = .ok (.if_icmp .ne 7, 3) := by decide +kernel
theorem dX10_fundOf_116 : decode cX10_fundOf 116 = .ok (.iconst 1, 1) := by decide +kernel
theorem dX10_fundOf_117 : decode cX10_fundOf 117 = .ok (.goto 4, 3) := by decide +kernel
theorem dX10_fundOf_120 : decode cX10_fundOf 120 = .ok (.iconst 0, 1) := by decide +kernel
theorem dX10_fundOf_121 : decode cX10_fundOf 121 = .ok (.iadd, 1) := by decide +kernel
theorem dX10_fundOf_122 : decode cX10_fundOf 122 = .ok (.istore_n 2, 1) := by decide +kernel
theorem dX10_fundOf_123 : decode cX10_fundOf 123 = .ok (.iinc 3 1, 3) := by decide +kernel
theorem dX10_fundOf_126 : decode cX10_fundOf 126 = .ok (.goto (-46), 3) := by decide +kernel
theorem dX10_fundOf_129 : decode cX10_fundOf 129 = .ok (.iload_n 2, 1) := by decide +kernel
theorem dX10_fundOf_130 : decode cX10_fundOf 130 = .ok (.ireturn, 1) := by decide +kernel
theorem dX10_fundOf_131 : decode cX10_fundOf 131 = .ok (.iconst (-1), 1) := by decide +kernel
theorem dX10_fundOf_132 : decode cX10_fundOf 132 = .ok (.ireturn, 1) := by decide +kernel
theorem zm_X10_fundOf : ZMv "ClassOfManyModel" yX10_fundOf cX10_fundOf 4 (some .int) 1 := ⟨kw_7_177, kw_7_175, kw_7_176, kw_1_10, by decide +kernel, by decide⟩
def zf_X10_fundOf_j121 (R80 : Int32 → Int32 → Option (Int32 × ZMem)) (v35 : Int32) (v36 : Int32) (v40 : Int32) : Option (Int32 × ZMem) :=
  (R80 (v35 + v40) (v36 + (1 : Int32)))
def zf_X10_fundOf_j120 (R80 : Int32 → Int32 → Option (Int32 × ZMem)) (v35 : Int32) (v36 : Int32) : Option (Int32 × ZMem) :=
  (zf_X10_fundOf_j121 R80 v35 v36 (0 : Int32))
def zf_X10_fundOf_L80 (M30 : ZMem) (K129 : Int32 → Option (Int32 × ZMem)) : Nat → Int32 → Int32 → Option (Int32 × ZMem)
  | 0, _, _ => none
  | n80 + 1, v35, v36 =>
  zrd M30 78 73 (0 : Int32) (fun v38 => (if v38 ≤ v36 then (K129 v35) else zb1 (zf_X10_has (M30 77 22) v36) (fun v39 => (if v39 = 0 then (zf_X10_fundOf_j120 (fun x0 x1 => zf_X10_fundOf_L80 M30 K129 n80 x0 x1) v35 v36) else zrd M30 86 10 v36 (fun v41 => zb1 (zf_X10_claim v36 M30) (fun v42 => (if v41 = v42 then (zf_X10_fundOf_j121 (fun x0 x1 => zf_X10_fundOf_L80 M30 K129 n80 x0 x1) v35 v36 (1 : Int32)) else (zf_X10_fundOf_j120 (fun x0 x1 => zf_X10_fundOf_L80 M30 K129 n80 x0 x1) v35 v36))))))))
def zf_X10_fundOf (n : Nat) (a1 : Int32) (M : ZMem) : Option (Int32 × ZMem) :=
  zb1 (zf_X10_paysNow n M) (fun M30 => (if a1 = (0 : Int32) then zb1 (zf_X10_net n M30) (fun v31 => some (v31, M30)) else (if a1 = (1 : Int32) then zb1 (zf_X10_all M30) (fun v32 => zb1 (zf_X10_paidAll n v32 M30) (fun v33 => some (v33, M30))) else (if a1 = (2 : Int32) then some ((M30 77 28), M30) else (if a1 = (3 : Int32) then some ((M30 77 29), M30) else (if a1 = (4 : Int32) then zb1 (zf_X10_bits n (M30 77 22)) (fun v34 => some (v34, M30)) else (if a1 = (5 : Int32) then (zf_X10_fundOf_L80 M30 (fun v43 => some (v43, M30)) n (0 : Int32) (0 : Int32)) else some ((-1 : Int32), M30))))))))
set_option maxHeartbeats 4000000 in
set_option maxRecDepth 100000 in
theorem zc_X10_fundOf {l : Launch} {D : va_G} {ad : Nat → Nat} {cA : Nat → ClassId} {n : Nat} {a1 : Int32} {M : ZMem} {r : Int32} {M' : ZMem} (hf : zf_X10_fundOf n a1 M = some (r, M')) : ZCt l D ad cA yX10_fundOf cX10_fundOf 4 (some .int) 8 [.ref (ad 77), .int a1] M (some (.int r)) M' := by
  refine zct (by decide +kernel) (Nat.le_of_ble_eq_true rfl) (lv := [(0, .ref (ad 77)), (1, .int a1)]) rfl (fun E hl hD had hcA hN hC hR => ?_)
  subst hl; subst hD; subst had; subst hcA
  unfold zf_X10_fundOf at hf
  refine zw_aload_n hC dX10_fundOf_0 rfl 0 rfl ?_
  obtain ⟨M30, hcM30, hf⟩ := zb1_some hf
  refine zw_cV hC [] [] (st1 := []) zm_X10_paysNow (zc_X10_paysNow hcM30) zk_77 rfl kw_7_178 dX10_fundOf_1 rfl (by decide) (Nat.le_of_ble_eq_true rfl) rfl rfl ?_
  refine zw_iload_n hC dX10_fundOf_4 rfl 1 rfl ?_
  by_cases hx5_0 : a1 = (0 : Int32)
  · rw [if_pos hx5_0] at hf
    refine zw_tin hC hx5_0 (tgt := 44) dX10_fundOf_5 (by decide) (by decide) rfl (by decide) ?_
    refine zw_aload_n hC dX10_fundOf_44 rfl 0 rfl ?_
    obtain ⟨v31, hc31, hf⟩ := zb1_some hf
    refine zw_cV hC [] [] (st1 := [.int v31]) zm_X10_net (zc_X10_net hc31) zk_77 rfl kw_7_194 dX10_fundOf_45 rfl (by decide) (Nat.le_of_ble_eq_true rfl) rfl rfl ?_
    obtain ⟨h1, h2⟩ := Prod.mk.inj (Option.some.inj hf)
    subst h1; subst h2
    exact zw_iret hC hR dX10_fundOf_48
  rw [if_neg hx5_0] at hf
  by_cases hx5_1 : a1 = (1 : Int32)
  · rw [if_pos hx5_1] at hf
    refine zw_tin hC hx5_1 (tgt := 49) dX10_fundOf_5 (by decide) (by decide) rfl (by decide) ?_
    refine zw_aload_n hC dX10_fundOf_49 rfl 0 rfl ?_
    refine zw_aload_n hC dX10_fundOf_50 rfl 0 rfl ?_
    obtain ⟨v32, hc32, hf⟩ := zb1_some hf
    refine zw_cV hC [] [.ref (zad E 77)] (st1 := [.int v32, .ref (zad E 77)]) zm_X10_all (zc_X10_all hc32) zk_77 rfl kw_7_44 dX10_fundOf_51 rfl (by decide) (Nat.le_of_ble_eq_true rfl) rfl rfl ?_
    obtain ⟨v33, hc33, hf⟩ := zb1_some hf
    refine zw_cV hC [.int v32] [] (st1 := [.int v33]) zm_X10_paidAll (zc_X10_paidAll hc33) zk_77 rfl kw_7_214 dX10_fundOf_54 rfl (by decide) (Nat.le_of_ble_eq_true rfl) rfl rfl ?_
    obtain ⟨h1, h2⟩ := Prod.mk.inj (Option.some.inj hf)
    subst h1; subst h2
    exact zw_iret hC hR dX10_fundOf_57
  rw [if_neg hx5_1] at hf
  by_cases hx5_2 : a1 = (2 : Int32)
  · rw [if_pos hx5_2] at hf
    refine zw_tin hC hx5_2 (tgt := 58) dX10_fundOf_5 (by decide) (by decide) rfl (by decide) ?_
    refine zw_aload_n hC dX10_fundOf_58 rfl 0 rfl ?_
    refine zw_geti hC zF_Model_rounds zk_77 dX10_fundOf_59 kw_6_14 ?_
    obtain ⟨h1, h2⟩ := Prod.mk.inj (Option.some.inj hf)
    subst h1; subst h2
    exact zw_iret hC hR dX10_fundOf_62
  rw [if_neg hx5_2] at hf
  by_cases hx5_3 : a1 = (3 : Int32)
  · rw [if_pos hx5_3] at hf
    refine zw_tin hC hx5_3 (tgt := 63) dX10_fundOf_5 (by decide) (by decide) rfl (by decide) ?_
    refine zw_aload_n hC dX10_fundOf_63 rfl 0 rfl ?_
    refine zw_geti hC zF_Model_left zk_77 dX10_fundOf_64 kw_6_15 ?_
    obtain ⟨h1, h2⟩ := Prod.mk.inj (Option.some.inj hf)
    subst h1; subst h2
    exact zw_iret hC hR dX10_fundOf_67
  rw [if_neg hx5_3] at hf
  by_cases hx5_4 : a1 = (4 : Int32)
  · rw [if_pos hx5_4] at hf
    refine zw_tin hC hx5_4 (tgt := 68) dX10_fundOf_5 (by decide) (by decide) rfl (by decide) ?_
    refine zw_aload_n hC dX10_fundOf_68 rfl 0 rfl ?_
    refine zw_geti hC zF_Model_nowCounted zk_77 dX10_fundOf_69 kw_6_8 ?_
    obtain ⟨v34, hc34, hf⟩ := zb1_some hf
    refine zw_cS hC [.int (M30 77 22)] [] (st1 := [.int v34]) zm_X10_bits (zc_X10_bits hc34) kw_7_21 dX10_fundOf_72 rfl (by decide) (Nat.le_of_ble_eq_true rfl) rfl rfl ?_
    obtain ⟨h1, h2⟩ := Prod.mk.inj (Option.some.inj hf)
    subst h1; subst h2
    exact zw_iret hC hR dX10_fundOf_75
  rw [if_neg hx5_4] at hf
  by_cases hx5_5 : a1 = (5 : Int32)
  · rw [if_pos hx5_5] at hf
    refine zw_tin hC hx5_5 (tgt := 76) dX10_fundOf_5 (by decide) (by decide) rfl (by decide) ?_
    refine zw_iconst hC (v := (0 : Int32)) dX10_fundOf_76 (by decide) ?_
    refine zw_istore_n hC (lv' := [(2, .int (0 : Int32)), (0, .ref (zad E 77)), (1, .int a1)]) dX10_fundOf_77 rfl hN (by decide) rfl ?_
    refine zw_iconst hC (v := (0 : Int32)) dX10_fundOf_78 (by decide) ?_
    refine zw_istore_n hC (lv' := [(3, .int (0 : Int32)), (2, .int (0 : Int32)), (0, .ref (zad E 77)), (1, .int a1)]) dX10_fundOf_79 rfl hN (by decide) rfl ?_
    have hL80 : ∀ (K129 : Int32 → Option (Int32 × ZMem)), (∀ (v37 : Int32), K129 v37 = some (r, M') → ZW E 129 [(2, .int v37)] [] M30) → ∀ (n80 : Nat), ∀ (v35 : Int32), ∀ (v36 : Int32), zf_X10_fundOf_L80 M30 K129 n80 v35 v36 = some (r, M') → ZW E 80 [(0, .ref (zad E 77)), (2, .int v35), (3, .int v36)] [] M30 := by
      intro K129 hK129
      intro n80
      induction n80 with
      | zero => intro v35 v36 hf; rw [zf_X10_fundOf_L80] at hf; cases hf
      | succ n80 ih80 =>
        intro v35 v36 hf
        rw [zf_X10_fundOf_L80] at hf
        refine zw_iload_n hC dX10_fundOf_80 rfl 2 rfl ?_
        refine zw_aload_n hC dX10_fundOf_81 rfl 0 rfl ?_
        refine zw_getr (k' := 78) hC zF_Model_now zk_77 rfl dX10_fundOf_82 kw_5_227 ?_
        refine zw_iconst hC (v := (0 : Int32)) dX10_fundOf_85 (by decide) ?_
        refine zw_iald hC hf zk_78 dX10_fundOf_86 (fun v38 hf => ?_)
        refine zw_icmp_ge hC 129 hf dX10_fundOf_87 (by decide) (fun hf => ?_) (fun hf => ?_)
        · exact zw_sub [1] rfl (hK129 v35 hf)
        · refine zw_iload_n hC dX10_fundOf_90 rfl 1 rfl ?_
          refine zw_aload_n hC dX10_fundOf_91 rfl 0 rfl ?_
          refine zw_geti hC zF_Model_nowCounted zk_77 dX10_fundOf_92 kw_6_8 ?_
          refine zw_iload_n hC dX10_fundOf_95 rfl 2 rfl ?_
          obtain ⟨v39, hc39, hf⟩ := zb1_some hf
          refine zw_cS hC [.int (M30 77 22), .int v36] [.int v35] (st1 := [.int v39, .int v35]) zm_X10_has (zc_X10_has hc39) kw_6_150 dX10_fundOf_96 rfl (by decide) (Nat.le_of_ble_eq_true rfl) rfl rfl ?_
          have hj121 : ∀ (v40 : Int32), zf_X10_fundOf_j121 (fun x0 x1 => zf_X10_fundOf_L80 M30 K129 n80 x0 x1) v35 v36 v40 = some (r, M') → ZW E 121 [(0, .ref (zad E 77)), (3, .int v36)] [.int v40, .int v35] M30 := by
            intro v40 hf
            unfold zf_X10_fundOf_j121 at hf
            refine zw_iadd hC dX10_fundOf_121 ?_
            refine zw_istore_n hC (lv' := [(2, .int (v35 + v40)), (0, .ref (zad E 77)), (3, .int v36)]) dX10_fundOf_122 rfl hN (by decide) rfl ?_
            refine zw_iinc hC (v := (1 : Int32)) (lv' := [(3, .int (v36 + (1 : Int32))), (2, .int (v35 + v40)), (0, .ref (zad E 77))]) dX10_fundOf_123 2 rfl (by decide) hN (by decide) rfl ?_
            refine zw_goto hC 80 dX10_fundOf_126 (by decide) ?_
            exact zw_sub [2, 1, 0] rfl (ih80 (v35 + v40) (v36 + (1 : Int32)) hf)
          have hj120 : zf_X10_fundOf_j120 (fun x0 x1 => zf_X10_fundOf_L80 M30 K129 n80 x0 x1) v35 v36 = some (r, M') → ZW E 120 [(0, .ref (zad E 77)), (3, .int v36)] [.int v35] M30 := by
            intro  hf
            unfold zf_X10_fundOf_j120 at hf
            refine zw_iconst hC (v := (0 : Int32)) dX10_fundOf_120 (by decide) ?_
            exact hj121 (0 : Int32) hf
          refine zw_if_eq hC 120 hf dX10_fundOf_99 (by decide) (fun hf => ?_) (fun hf => ?_)
          · exact zw_sub [0, 2] rfl (hj120 hf)
          · refine zw_aload_n hC dX10_fundOf_102 rfl 0 rfl ?_
            refine zw_getr (k' := 86) hC zF_Model_paid zk_77 rfl dX10_fundOf_103 kw_6_12 ?_
            refine zw_iload_n hC dX10_fundOf_106 rfl 2 rfl ?_
            refine zw_iald hC hf zk_86 dX10_fundOf_107 (fun v41 hf => ?_)
            refine zw_aload_n hC dX10_fundOf_108 rfl 0 rfl ?_
            refine zw_iload_n hC dX10_fundOf_109 rfl 2 rfl ?_
            obtain ⟨v42, hc42, hf⟩ := zb1_some hf
            refine zw_cV hC [.int v36] [.int v41, .int v35] (st1 := [.int v42, .int v41, .int v35]) zm_X10_claim (zc_X10_claim hc42) zk_77 rfl kw_7_52 dX10_fundOf_110 rfl (by decide) (Nat.le_of_ble_eq_true rfl) rfl rfl ?_
            refine zw_icmp_ne hC 120 hf dX10_fundOf_113 (by decide) (fun hf => ?_) (fun hf => ?_)
            · exact zw_sub [0, 2] rfl (hj120 hf)
            · refine zw_iconst hC (v := (1 : Int32)) dX10_fundOf_116 (by decide) ?_
              refine zw_goto hC 121 dX10_fundOf_117 (by decide) ?_
              exact zw_sub [0, 2] rfl (hj121 (1 : Int32) hf)
    refine zw_sub [2, 1, 0] rfl (hL80 _ ?_ n (0 : Int32) (0 : Int32) hf)
    · intro v43 hf
      refine zw_iload_n hC dX10_fundOf_129 rfl 0 rfl ?_
      obtain ⟨h1, h2⟩ := Prod.mk.inj (Option.some.inj hf)
      subst h1; subst h2
      exact zw_iret hC hR dX10_fundOf_130
  rw [if_neg hx5_5] at hf
  refine zw_tout hC (tgt := 131) dX10_fundOf_5 (ztout (n := 5) (fun k hk => by match k, hk with | 0, _ => exact hx5_0 | 1, _ => exact hx5_1 | 2, _ => exact hx5_2 | 3, _ => exact hx5_3 | 4, _ => exact hx5_4 | 5, _ => exact hx5_5 | k + 6, hk => exact absurd hk (by omega))) (by decide) ?_
  refine zw_iconst hC (v := (-1 : Int32)) dX10_fundOf_131 (by decide) ?_
  obtain ⟨h1, h2⟩ := Prod.mk.inj (Option.some.inj hf)
  subst h1; subst h2
  exact zw_iret hC hR dX10_fundOf_132
/-! ClassOfManyModel.pot(I)I -/
theorem dX10_pot_0 : decode cX10_pot 0 = .ok (.aload_n 0, 1) := by decide +kernel
theorem dX10_pot_1 : decode cX10_pot 1 = .ok (.invokevirtual 281, 3) := by decide +kernel
theorem dX10_pot_4 : decode cX10_pot 4 = .ok (.iload_n 1, 1) := by decide +kernel
theorem dX10_pot_5 : decode cX10_pot 5 = .ok (.iconst 0, 1) := by decide +kernel
theorem dX10_pot_6 : decode cX10_pot 6 = .ok (.aload_n 0, 1) := by decide +kernel
theorem dX10_pot_7 : decode cX10_pot 7 = .ok (.getfield 217, 3) := by decide +kernel
theorem dX10_pot_10 : decode cX10_pot 10 = .ok (.iconst 1, 1) := by decide +kernel
theorem dX10_pot_11 : decode cX10_pot 11 = .ok (.isub, 1) := by decide +kernel
theorem dX10_pot_12 : decode cX10_pot 12 = .ok (.invokestatic 65, 3) := by decide +kernel
theorem dX10_pot_15 : decode cX10_pot 15 = .ok (.ifCond .eq 11, 3) := by decide +kernel
theorem dX10_pot_18 : decode cX10_pot 18 = .ok (.aload_n 0, 1) := by decide +kernel
theorem dX10_pot_19 : decode cX10_pot 19 = .ok (.iload_n 1, 1) := by decide +kernel
theorem dX10_pot_20 : decode cX10_pot 20 = .ok (.invokevirtual 271, 3) := by decide +kernel
theorem dX10_pot_23 : decode cX10_pot 23 = .ok (.goto 4, 3) := by decide +kernel
theorem dX10_pot_26 : decode cX10_pot 26 = .ok (.iconst (-1), 1) := by decide +kernel
theorem dX10_pot_27 : decode cX10_pot 27 = .ok (.ireturn, 1) := by decide +kernel
theorem zm_X10_pot : ZMv "ClassOfManyModel" yX10_pot cX10_pot 2 (some .int) 1 := ⟨kw_7_221, kw_7_219, kw_7_220, kw_1_10, by decide +kernel, by decide⟩
def zf_X10_pot_j27 (M24 : ZMem) (v26 : Int32) : Option (Int32 × ZMem) :=
  some (v26, M24)
def zf_X10_pot (n : Nat) (a1 : Int32) (M : ZMem) : Option (Int32 × ZMem) :=
  zb1 (zf_X10_setsNow n M) (fun M24 => zb1 (zf_X10_isIn a1 (0 : Int32) ((M24 77 20) - (1 : Int32))) (fun v25 => (if v25 = 0 then (zf_X10_pot_j27 M24 (-1 : Int32)) else zb1 (zf_X10_potOf n a1 M24) (fun v27 => (zf_X10_pot_j27 M24 v27)))))
set_option maxHeartbeats 4000000 in
set_option maxRecDepth 100000 in
theorem zc_X10_pot {l : Launch} {D : va_G} {ad : Nat → Nat} {cA : Nat → ClassId} {n : Nat} {a1 : Int32} {M : ZMem} {r : Int32} {M' : ZMem} (hf : zf_X10_pot n a1 M = some (r, M')) : ZCt l D ad cA yX10_pot cX10_pot 2 (some .int) 6 [.ref (ad 77), .int a1] M (some (.int r)) M' := by
  refine zct (by decide +kernel) (Nat.le_of_ble_eq_true rfl) (lv := [(0, .ref (ad 77)), (1, .int a1)]) rfl (fun E hl hD had hcA hN hC hR => ?_)
  subst hl; subst hD; subst had; subst hcA
  unfold zf_X10_pot at hf
  refine zw_aload_n hC dX10_pot_0 rfl 0 rfl ?_
  obtain ⟨M24, hcM24, hf⟩ := zb1_some hf
  refine zw_cV hC [] [] (st1 := []) zm_X10_setsNow (zc_X10_setsNow hcM24) zk_77 rfl kw_7_182 dX10_pot_1 rfl (by decide) (Nat.le_of_ble_eq_true rfl) rfl rfl ?_
  refine zw_iload_n hC dX10_pot_4 rfl 1 rfl ?_
  refine zw_iconst hC (v := (0 : Int32)) dX10_pot_5 (by decide) ?_
  refine zw_aload_n hC dX10_pot_6 rfl 0 rfl ?_
  refine zw_geti hC zF_Model_parts zk_77 dX10_pot_7 kw_6_6 ?_
  refine zw_iconst hC (v := (1 : Int32)) dX10_pot_10 (by decide) ?_
  refine zw_isub hC dX10_pot_11 ?_
  obtain ⟨v25, hc25, hf⟩ := zb1_some hf
  refine zw_cS hC [.int a1, .int (0 : Int32), .int ((M24 77 20) - (1 : Int32))] [] (st1 := [.int v25]) zm_X10_isIn (zc_X10_isIn hc25) kw_6_106 dX10_pot_12 rfl (by decide) (Nat.le_of_ble_eq_true rfl) rfl rfl ?_
  have hj27 : ∀ (v26 : Int32), zf_X10_pot_j27 M24 v26 = some (r, M') → ZW E 27 [] [.int v26] M24 := by
    intro v26 hf
    unfold zf_X10_pot_j27 at hf
    obtain ⟨h1, h2⟩ := Prod.mk.inj (Option.some.inj hf)
    subst h1; subst h2
    exact zw_iret hC hR dX10_pot_27
  refine zw_if_eq hC 26 hf dX10_pot_15 (by decide) (fun hf => ?_) (fun hf => ?_)
  · refine zw_iconst hC (v := (-1 : Int32)) dX10_pot_26 (by decide) ?_
    exact zw_sub [] rfl (hj27 (-1 : Int32) hf)
  · refine zw_aload_n hC dX10_pot_18 rfl 0 rfl ?_
    refine zw_iload_n hC dX10_pot_19 rfl 1 rfl ?_
    obtain ⟨v27, hc27, hf⟩ := zb1_some hf
    refine zw_cV hC [.int a1] [] (st1 := [.int v27]) zm_X10_potOf (zc_X10_potOf hc27) zk_77 rfl kw_7_198 dX10_pot_20 rfl (by decide) (Nat.le_of_ble_eq_true rfl) rfl rfl ?_
    refine zw_goto hC 27 dX10_pot_23 (by decide) ?_
    exact zw_sub [] rfl (hj27 v27 hf)
/-! ClassOfManyModel.paid(I)I -/
theorem dX10_paid_0 : decode cX10_paid 0 = .ok (.aload_n 0, 1) := by decide +kernel
theorem dX10_paid_1 : decode cX10_paid 1 = .ok (.iload_n 1, 1) := by decide +kernel
theorem dX10_paid_2 : decode cX10_paid 2 = .ok (.invokevirtual 296, 3) := by decide +kernel
theorem dX10_paid_5 : decode cX10_paid 5 = .ok (.ifCond .ne 5, 3) := by decide +kernel
theorem dX10_paid_8 : decode cX10_paid 8 = .ok (.iconst (-1), 1) := by decide +kernel
theorem dX10_paid_9 : decode cX10_paid 9 = .ok (.ireturn, 1) := by decide +kernel
theorem dX10_paid_10 : decode cX10_paid 10 = .ok (.aload_n 0, 1) := by decide +kernel
theorem dX10_paid_11 : decode cX10_paid 11 = .ok (.invokevirtual 321, 3) := by decide +kernel
theorem dX10_paid_14 : decode cX10_paid 14 = .ok (.aload_n 0, 1) := by decide +kernel
theorem dX10_paid_15 : decode cX10_paid 15 = .ok (.getfield 34, 3) := by decide +kernel
theorem dX10_paid_18 : decode cX10_paid 18 = .ok (.iload_n 1, 1) := by decide +kernel
theorem dX10_paid_19 : decode cX10_paid 19 = .ok (.iaload, 1) := by decide +kernel
theorem dX10_paid_20 : decode cX10_paid 20 = .ok (.ireturn, 1) := by decide +kernel
theorem zm_X10_paid : ZMv "ClassOfManyModel" yX10_paid cX10_paid 2 (some .int) 1 := ⟨kw_7_225, kw_7_223, kw_7_224, kw_1_10, by decide +kernel, by decide⟩
def zf_X10_paid (n : Nat) (a1 : Int32) (M : ZMem) : Option (Int32 × ZMem) :=
  zb1 (zf_X10_isMember a1 M) (fun v24 => (if v24 = 0 then some ((-1 : Int32), M) else zb1 (zf_X10_paysNow n M) (fun M25 => zrd M25 86 10 a1 (fun v26 => some (v26, M25)))))
set_option maxHeartbeats 4000000 in
set_option maxRecDepth 100000 in
theorem zc_X10_paid {l : Launch} {D : va_G} {ad : Nat → Nat} {cA : Nat → ClassId} {n : Nat} {a1 : Int32} {M : ZMem} {r : Int32} {M' : ZMem} (hf : zf_X10_paid n a1 M = some (r, M')) : ZCt l D ad cA yX10_paid cX10_paid 2 (some .int) 8 [.ref (ad 77), .int a1] M (some (.int r)) M' := by
  refine zct (by decide +kernel) (Nat.le_of_ble_eq_true rfl) (lv := [(0, .ref (ad 77)), (1, .int a1)]) rfl (fun E hl hD had hcA hN hC hR => ?_)
  subst hl; subst hD; subst had; subst hcA
  unfold zf_X10_paid at hf
  refine zw_aload_n hC dX10_paid_0 rfl 0 rfl ?_
  refine zw_iload_n hC dX10_paid_1 rfl 1 rfl ?_
  obtain ⟨v24, hc24, hf⟩ := zb1_some hf
  refine zw_cV hC [.int a1] [] (st1 := [.int v24]) zm_X10_isMember (zc_X10_isMember hc24) zk_77 rfl kw_7_5 dX10_paid_2 rfl (by decide) (Nat.le_of_ble_eq_true rfl) rfl rfl ?_
  refine zw_if_ne hC 10 hf dX10_paid_5 (by decide) (fun hf => ?_) (fun hf => ?_)
  · refine zw_aload_n hC dX10_paid_10 rfl 0 rfl ?_
    obtain ⟨M25, hcM25, hf⟩ := zb1_some hf
    refine zw_cV hC [] [] (st1 := []) zm_X10_paysNow (zc_X10_paysNow hcM25) zk_77 rfl kw_7_178 dX10_paid_11 rfl (by decide) (Nat.le_of_ble_eq_true rfl) rfl rfl ?_
    refine zw_aload_n hC dX10_paid_14 rfl 0 rfl ?_
    refine zw_getr (k' := 86) hC zF_Model_paid zk_77 rfl dX10_paid_15 kw_6_12 ?_
    refine zw_iload_n hC dX10_paid_18 rfl 1 rfl ?_
    refine zw_iald hC hf zk_86 dX10_paid_19 (fun v26 hf => ?_)
    obtain ⟨h1, h2⟩ := Prod.mk.inj (Option.some.inj hf)
    subst h1; subst h2
    exact zw_iret hC hR dX10_paid_20
  · refine zw_iconst hC (v := (-1 : Int32)) dX10_paid_8 (by decide) ?_
    obtain ⟨h1, h2⟩ := Prod.mk.inj (Option.some.inj hf)
    subst h1; subst h2
    exact zw_iret hC hR dX10_paid_9
/-! ClassOfManyModel.had(II)I -/
theorem dX10_had_0 : decode cX10_had 0 = .ok (.aload_n 0, 1) := by decide +kernel
theorem dX10_had_1 : decode cX10_had 1 = .ok (.iload_n 1, 1) := by decide +kernel
theorem dX10_had_2 : decode cX10_had 2 = .ok (.invokevirtual 296, 3) := by decide +kernel
theorem dX10_had_5 : decode cX10_had 5 = .ok (.ifCond .eq 13, 3) := by decide +kernel
theorem dX10_had_8 : decode cX10_had 8 = .ok (.iload_n 2, 1) := by decide +kernel
theorem dX10_had_9 : decode cX10_had 9 = .ok (.iconst 1, 1) := by decide +kernel
theorem dX10_had_10 : decode cX10_had 10 = .ok (.bipush 9, 2) := by decide +kernel
theorem dX10_had_12 : decode cX10_had 12 = .ok (.invokestatic 65, 3) := by decide +kernel
theorem dX10_had_15 : decode cX10_had 15 = .ok (.ifCond .ne 5, 3) := by decide +kernel
theorem dX10_had_18 : decode cX10_had 18 = .ok (.iconst (-1), 1) := by decide +kernel
theorem dX10_had_19 : decode cX10_had 19 = .ok (.ireturn, 1) := by decide +kernel
theorem dX10_had_20 : decode cX10_had 20 = .ok (.aload_n 0, 1) := by decide +kernel
theorem dX10_had_21 : decode cX10_had 21 = .ok (.invokevirtual 321, 3) := by decide +kernel
theorem dX10_had_24 : decode cX10_had 24 = .ok (.iload_n 2, 1) := by decide +kernel
theorem dX10_had_25 : decode cX10_had 25 = .ok (.aload_n 0, 1) := by decide +kernel
theorem dX10_had_26 : decode cX10_had 26 = .ok (.getfield 268, 3) := by decide +kernel
theorem dX10_had_29 : decode cX10_had 29 = .ok (.if_icmp .gt 19, 3) := by decide +kernel
theorem dX10_had_32 : decode cX10_had 32 = .ok (.aload_n 0, 1) := by decide +kernel
theorem dX10_had_33 : decode cX10_had 33 = .ok (.getfield 37, 3) := by decide +kernel
theorem dX10_had_36 : decode cX10_had 36 = .ok (.bipush 10, 2) := by decide +kernel
theorem dX10_had_38 : decode cX10_had 38 = .ok (.iload_n 2, 1) := by decide +kernel
theorem dX10_had_39 : decode cX10_had 39 = .ok (.iconst 1, 1) := by decide +kernel
theorem dX10_had_40 : decode cX10_had 40 = .ok (.isub, 1) := by decide +kernel
theorem dX10_had_41 : decode cX10_had 41 = .ok (.imul, 1) := by decide +kernel
theorem dX10_had_42 : decode cX10_had 42 = .ok (.iload_n 1, 1) := by decide +kernel
theorem dX10_had_43 : decode cX10_had 43 = .ok (.iadd, 1) := by decide +kernel
theorem dX10_had_44 : decode cX10_had 44 = .ok (.iaload, 1) := by decide +kernel
theorem dX10_had_45 : decode cX10_had 45 = .ok (.goto 4, 3) := by decide +kernel
theorem dX10_had_48 : decode cX10_had 48 = .ok (.iconst 0, 1) := by decide +kernel
theorem dX10_had_49 : decode cX10_had 49 = .ok (.ireturn, 1) := by decide +kernel
theorem zm_X10_had : ZMv "ClassOfManyModel" yX10_had cX10_had 3 (some .int) 2 := ⟨kw_7_229, kw_7_227, kw_7_228, kw_1_10, by decide +kernel, by decide⟩
def zf_X10_had_j18 (M : ZMem) : Option (Int32 × ZMem) :=
  some ((-1 : Int32), M)
def zf_X10_had_j49 (M27 : ZMem) (v28 : Int32) : Option (Int32 × ZMem) :=
  some (v28, M27)
def zf_X10_had (n : Nat) (a1 : Int32) (a2 : Int32) (M : ZMem) : Option (Int32 × ZMem) :=
  zb1 (zf_X10_isMember a1 M) (fun v25 => (if v25 = 0 then (zf_X10_had_j18 M) else zb1 (zf_X10_isIn a2 (1 : Int32) (9 : Int32)) (fun v26 => (if v26 = 0 then (zf_X10_had_j18 M) else zb1 (zf_X10_paysNow n M) (fun M27 => (if (M27 77 28) < a2 then (zf_X10_had_j49 M27 (0 : Int32)) else zrd M27 87 90 (((10 : Int32) * (a2 - (1 : Int32))) + a1) (fun v29 => (zf_X10_had_j49 M27 v29))))))))
set_option maxHeartbeats 4000000 in
set_option maxRecDepth 100000 in
theorem zc_X10_had {l : Launch} {D : va_G} {ad : Nat → Nat} {cA : Nat → ClassId} {n : Nat} {a1 : Int32} {a2 : Int32} {M : ZMem} {r : Int32} {M' : ZMem} (hf : zf_X10_had n a1 a2 M = some (r, M')) : ZCt l D ad cA yX10_had cX10_had 3 (some .int) 8 [.ref (ad 77), .int a1, .int a2] M (some (.int r)) M' := by
  refine zct (by decide +kernel) (Nat.le_of_ble_eq_true rfl) (lv := [(0, .ref (ad 77)), (1, .int a1), (2, .int a2)]) rfl (fun E hl hD had hcA hN hC hR => ?_)
  subst hl; subst hD; subst had; subst hcA
  unfold zf_X10_had at hf
  refine zw_aload_n hC dX10_had_0 rfl 0 rfl ?_
  refine zw_iload_n hC dX10_had_1 rfl 1 rfl ?_
  obtain ⟨v25, hc25, hf⟩ := zb1_some hf
  refine zw_cV hC [.int a1] [] (st1 := [.int v25]) zm_X10_isMember (zc_X10_isMember hc25) zk_77 rfl kw_7_5 dX10_had_2 rfl (by decide) (Nat.le_of_ble_eq_true rfl) rfl rfl ?_
  have hj18 : zf_X10_had_j18 M = some (r, M') → ZW E 18 [] [] M := by
    intro  hf
    unfold zf_X10_had_j18 at hf
    refine zw_iconst hC (v := (-1 : Int32)) dX10_had_18 (by decide) ?_
    obtain ⟨h1, h2⟩ := Prod.mk.inj (Option.some.inj hf)
    subst h1; subst h2
    exact zw_iret hC hR dX10_had_19
  refine zw_if_eq hC 18 hf dX10_had_5 (by decide) (fun hf => ?_) (fun hf => ?_)
  · exact zw_sub [] rfl (hj18 hf)
  · refine zw_iload_n hC dX10_had_8 rfl 2 rfl ?_
    refine zw_iconst hC (v := (1 : Int32)) dX10_had_9 (by decide) ?_
    refine zw_bipush hC (v := (9 : Int32)) dX10_had_10 (by decide) ?_
    obtain ⟨v26, hc26, hf⟩ := zb1_some hf
    refine zw_cS hC [.int a2, .int (1 : Int32), .int (9 : Int32)] [] (st1 := [.int v26]) zm_X10_isIn (zc_X10_isIn hc26) kw_6_106 dX10_had_12 rfl (by decide) (Nat.le_of_ble_eq_true rfl) rfl rfl ?_
    refine zw_if_ne hC 20 hf dX10_had_15 (by decide) (fun hf => ?_) (fun hf => ?_)
    · refine zw_aload_n hC dX10_had_20 rfl 0 rfl ?_
      obtain ⟨M27, hcM27, hf⟩ := zb1_some hf
      refine zw_cV hC [] [] (st1 := []) zm_X10_paysNow (zc_X10_paysNow hcM27) zk_77 rfl kw_7_178 dX10_had_21 rfl (by decide) (Nat.le_of_ble_eq_true rfl) rfl rfl ?_
      refine zw_iload_n hC dX10_had_24 rfl 2 rfl ?_
      refine zw_aload_n hC dX10_had_25 rfl 0 rfl ?_
      refine zw_geti hC zF_Model_rounds zk_77 dX10_had_26 kw_6_14 ?_
      have hj49 : ∀ (v28 : Int32), zf_X10_had_j49 M27 v28 = some (r, M') → ZW E 49 [] [.int v28] M27 := by
        intro v28 hf
        unfold zf_X10_had_j49 at hf
        obtain ⟨h1, h2⟩ := Prod.mk.inj (Option.some.inj hf)
        subst h1; subst h2
        exact zw_iret hC hR dX10_had_49
      refine zw_icmp_gt hC 48 hf dX10_had_29 (by decide) (fun hf => ?_) (fun hf => ?_)
      · refine zw_iconst hC (v := (0 : Int32)) dX10_had_48 (by decide) ?_
        exact zw_sub [] rfl (hj49 (0 : Int32) hf)
      · refine zw_aload_n hC dX10_had_32 rfl 0 rfl ?_
        refine zw_getr (k' := 87) hC zF_Model_hadIn zk_77 rfl dX10_had_33 kw_6_13 ?_
        refine zw_bipush hC (v := (10 : Int32)) dX10_had_36 (by decide) ?_
        refine zw_iload_n hC dX10_had_38 rfl 2 rfl ?_
        refine zw_iconst hC (v := (1 : Int32)) dX10_had_39 (by decide) ?_
        refine zw_isub hC dX10_had_40 ?_
        refine zw_imul hC dX10_had_41 ?_
        refine zw_iload_n hC dX10_had_42 rfl 1 rfl ?_
        refine zw_iadd hC dX10_had_43 ?_
        refine zw_iald hC hf zk_87 dX10_had_44 (fun v29 hf => ?_)
        refine zw_goto hC 49 dX10_had_45 (by decide) ?_
        exact zw_sub [] rfl (hj49 v29 hf)
    · exact zw_sub [] rfl (hj18 hf)
/-! ClassOfManyModel.share()I -/
theorem dX10_share_0 : decode cX10_share 0 = .ok (.aload_n 0, 1) := by decide +kernel
theorem dX10_share_1 : decode cX10_share 1 = .ok (.invokevirtual 321, 3) := by decide +kernel
theorem dX10_share_4 : decode cX10_share 4 = .ok (.aload_n 0, 1) := by decide +kernel
theorem dX10_share_5 : decode cX10_share 5 = .ok (.getfield 235, 3) := by decide +kernel
theorem dX10_share_8 : decode cX10_share 8 = .ok (.ifCond .ne 8, 3) := by decide +kernel
theorem dX10_share_11 : decode cX10_share 11 = .ok (.bipush (-2), 2) := by decide +kernel
theorem dX10_share_13 : decode cX10_share 13 = .ok (.goto 27, 3) := by decide +kernel
theorem dX10_share_16 : decode cX10_share 16 = .ok (.ldc2_w 327, 3) := by decide +kernel
theorem dX10_share_19 : decode cX10_share 19 = .ok (.aload_n 0, 1) := by decide +kernel
theorem dX10_share_20 : decode cX10_share 20 = .ok (.aload_n 0, 1) := by decide +kernel
theorem dX10_share_21 : decode cX10_share 21 = .ok (.invokevirtual 223, 3) := by decide +kernel
theorem dX10_share_24 : decode cX10_share 24 = .ok (.invokevirtual 324, 3) := by decide +kernel
theorem dX10_share_27 : decode cX10_share 27 = .ok (.i2l, 1) := by decide +kernel
theorem dX10_share_28 : decode cX10_share 28 = .ok (.lmul, 1) := by decide +kernel
theorem dX10_share_29 : decode cX10_share 29 = .ok (.aload_n 0, 1) := by decide +kernel
theorem dX10_share_30 : decode cX10_share 30 = .ok (.aload_n 0, 1) := by decide +kernel
theorem dX10_share_31 : decode cX10_share 31 = .ok (.getfield 235, 3) := by decide +kernel
theorem dX10_share_34 : decode cX10_share 34 = .ok (.invokevirtual 259, 3) := by decide +kernel
theorem dX10_share_37 : decode cX10_share 37 = .ok (.i2l, 1) := by decide +kernel
theorem dX10_share_38 : decode cX10_share 38 = .ok (.ldiv, 1) := by decide +kernel
theorem dX10_share_39 : decode cX10_share 39 = .ok (.l2i, 1) := by decide +kernel
theorem dX10_share_40 : decode cX10_share 40 = .ok (.ireturn, 1) := by decide +kernel
theorem zm_X10_share : ZMv "ClassOfManyModel" yX10_share cX10_share 1 (some .int) 0 := ⟨kw_7_233, kw_7_231, kw_7_232, kw_1_10, by decide +kernel, by decide⟩
def zf_X10_share_j40 (M26 : ZMem) (v27 : Int32) : Option (Int32 × ZMem) :=
  some (v27, M26)
def zf_X10_share (n : Nat) (M : ZMem) : Option (Int32 × ZMem) :=
  zb1 (zf_X10_paysNow n M) (fun M26 => (if (M26 77 22) = 0 then (zf_X10_share_j40 M26 (-2 : Int32)) else zb1 (zf_X10_all M26) (fun v28 => zb1 (zf_X10_paidAll n v28 M26) (fun v29 => zb1 (zf_X10_claims n (M26 77 22) M26) (fun v30 => zldiv ((100 : Int64) * (v29.toInt64)) (v30.toInt64) (fun w31 => (zf_X10_share_j40 M26 (w31.toInt32))))))))
set_option maxHeartbeats 4000000 in
set_option maxRecDepth 100000 in
theorem zc_X10_share {l : Launch} {D : va_G} {ad : Nat → Nat} {cA : Nat → ClassId} {n : Nat} {M : ZMem} {r : Int32} {M' : ZMem} (hf : zf_X10_share n M = some (r, M')) : ZCt l D ad cA yX10_share cX10_share 1 (some .int) 8 [.ref (ad 77)] M (some (.int r)) M' := by
  refine zct (by decide +kernel) (Nat.le_of_ble_eq_true rfl) (lv := [(0, .ref (ad 77))]) rfl (fun E hl hD had hcA hN hC hR => ?_)
  subst hl; subst hD; subst had; subst hcA
  unfold zf_X10_share at hf
  refine zw_aload_n hC dX10_share_0 rfl 0 rfl ?_
  obtain ⟨M26, hcM26, hf⟩ := zb1_some hf
  refine zw_cV hC [] [] (st1 := []) zm_X10_paysNow (zc_X10_paysNow hcM26) zk_77 rfl kw_7_178 dX10_share_1 rfl (by decide) (Nat.le_of_ble_eq_true rfl) rfl rfl ?_
  refine zw_aload_n hC dX10_share_4 rfl 0 rfl ?_
  refine zw_geti hC zF_Model_nowCounted zk_77 dX10_share_5 kw_6_8 ?_
  have hj40 : ∀ (v27 : Int32), zf_X10_share_j40 M26 v27 = some (r, M') → ZW E 40 [] [.int v27] M26 := by
    intro v27 hf
    unfold zf_X10_share_j40 at hf
    obtain ⟨h1, h2⟩ := Prod.mk.inj (Option.some.inj hf)
    subst h1; subst h2
    exact zw_iret hC hR dX10_share_40
  refine zw_if_ne hC 16 hf dX10_share_8 (by decide) (fun hf => ?_) (fun hf => ?_)
  · refine zw_ldc2 hC dX10_share_16 kw_7_234 ?_
    refine zw_aload_n hC dX10_share_19 rfl 0 rfl ?_
    refine zw_aload_n hC dX10_share_20 rfl 0 rfl ?_
    obtain ⟨v28, hc28, hf⟩ := zb1_some hf
    refine zw_cV hC [] [.ref (zad E 77), .long (100 : Int64)] (st1 := [.int v28, .ref (zad E 77), .long (100 : Int64)]) zm_X10_all (zc_X10_all hc28) zk_77 rfl kw_7_44 dX10_share_21 rfl (by decide) (Nat.le_of_ble_eq_true rfl) rfl rfl ?_
    obtain ⟨v29, hc29, hf⟩ := zb1_some hf
    refine zw_cV hC [.int v28] [.long (100 : Int64)] (st1 := [.int v29, .long (100 : Int64)]) zm_X10_paidAll (zc_X10_paidAll hc29) zk_77 rfl kw_7_214 dX10_share_24 rfl (by decide) (Nat.le_of_ble_eq_true rfl) rfl rfl ?_
    refine zw_i2l hC dX10_share_27 ?_
    refine zw_lmul hC dX10_share_28 ?_
    refine zw_aload_n hC dX10_share_29 rfl 0 rfl ?_
    refine zw_aload_n hC dX10_share_30 rfl 0 rfl ?_
    refine zw_geti hC zF_Model_nowCounted zk_77 dX10_share_31 kw_6_8 ?_
    obtain ⟨v30, hc30, hf⟩ := zb1_some hf
    refine zw_cV hC [.int (M26 77 22)] [.long ((100 : Int64) * (v29.toInt64))] (st1 := [.int v30, .long ((100 : Int64) * (v29.toInt64))]) zm_X10_claims (zc_X10_claims hc30) zk_77 rfl kw_7_48 dX10_share_34 rfl (by decide) (Nat.le_of_ble_eq_true rfl) rfl rfl ?_
    refine zw_i2l hC dX10_share_37 ?_
    refine zw_ldiv hC hf dX10_share_38 (fun w31 hf => ?_)
    refine zw_l2i hC dX10_share_39 ?_
    exact zw_sub [] rfl (hj40 (w31.toInt32) hf)
  · refine zw_bipush hC (v := (-2 : Int32)) dX10_share_11 (by decide) ?_
    refine zw_goto hC 40 dX10_share_13 (by decide) ?_
    exact zw_sub [] rfl (hj40 (-2 : Int32) hf)
/-! ClassOfManyModel.votes(I)I -/
theorem dX10_votes_0 : decode cX10_votes 0 = .ok (.iload_n 1, 1) := by decide +kernel
theorem dX10_votes_1 : decode cX10_votes 1 = .ok (.iconst 0, 1) := by decide +kernel
theorem dX10_votes_2 : decode cX10_votes 2 = .ok (.bipush 100, 2) := by decide +kernel
theorem dX10_votes_4 : decode cX10_votes 4 = .ok (.invokestatic 65, 3) := by decide +kernel
theorem dX10_votes_7 : decode cX10_votes 7 = .ok (.ifCond .ne 5, 3) := by decide +kernel
theorem dX10_votes_10 : decode cX10_votes 10 = .ok (.iconst (-1), 1) := by decide +kernel
theorem dX10_votes_11 : decode cX10_votes 11 = .ok (.ireturn, 1) := by decide +kernel
theorem dX10_votes_12 : decode cX10_votes 12 = .ok (.aload_n 0, 1) := by decide +kernel
theorem dX10_votes_13 : decode cX10_votes 13 = .ok (.invokevirtual 321, 3) := by decide +kernel
theorem dX10_votes_16 : decode cX10_votes 16 = .ok (.aload_n 0, 1) := by decide +kernel
theorem dX10_votes_17 : decode cX10_votes 17 = .ok (.getfield 235, 3) := by decide +kernel
theorem dX10_votes_20 : decode cX10_votes 20 = .ok (.ifCond .ne 6, 3) := by decide +kernel
theorem dX10_votes_23 : decode cX10_votes 23 = .ok (.bipush (-2), 2) := by decide +kernel
theorem dX10_votes_25 : decode cX10_votes 25 = .ok (.ireturn, 1) := by decide +kernel
theorem dX10_votes_26 : decode cX10_votes 26 = .ok (.iconst 0, 1) := by decide +kernel
theorem dX10_votes_27 : decode cX10_votes 27 = .ok (.istore_n 2, 1) := by decide +kernel
theorem dX10_votes_28 : decode cX10_votes 28 = .ok (.iconst 0, 1) := by decide +kernel
theorem dX10_votes_29 : decode cX10_votes 29 = .ok (.istore_n 3, 1) := by decide +kernel
theorem dX10_votes_30 : decode cX10_votes 30 = .ok (.iload_n 3, 1) := by decide +kernel
theorem dX10_votes_31 : decode cX10_votes 31 = .ok (.aload_n 0, 1) := by decide +kernel
theorem dX10_votes_32 : decode cX10_votes 32 = .ok (.getfield 7, 3) := by decide +kernel
theorem dX10_votes_35 : decode cX10_votes 35 = .ok (.iconst 0, 1) := by decide +kernel
theorem dX10_votes_36 : decode cX10_votes 36 = .ok (.iaload, 1) := by decide +kernel
theorem dX10_votes_37 : decode cX10_votes 37 = .ok (.if_icmp .ge 51, 3) := by decide +kernel
theorem dX10_votes_40 : decode cX10_votes 40 = .ok (.iload_n 2, 1) := by decide +kernel
theorem dX10_votes_41 : decode cX10_votes 41 = .ok (.aload_n 0, 1) := by decide +kernel
theorem dX10_votes_42 : decode cX10_votes 42 = .ok (.getfield 235, 3) := by decide +kernel
theorem dX10_votes_45 : decode cX10_votes 45 = .ok (.iload_n 3, 1) := by decide +kernel
theorem dX10_votes_46 : decode cX10_votes 46 = .ok (.invokestatic 118, 3) := by decide +kernel
theorem dX10_votes_49 : decode cX10_votes 49 = .ok (.ifCond .eq 30, 3) := by decide +kernel
theorem dX10_votes_52 : decode cX10_votes 52 = .ok (.bipush 100, 2) := by decide +kernel
theorem dX10_votes_54 : decode cX10_votes 54 = .ok (.aload_n 0, 1) := by decide +kernel
theorem dX10_votes_55 : decode cX10_votes 55 = .ok (.getfield 34, 3) := by decide +kernel
theorem dX10_votes_58 : decode cX10_votes 58 = .ok (.iload_n 3, 1) := by decide +kernel
theorem dX10_votes_59 : decode cX10_votes 59 = .ok (.iaload, 1) := by decide +kernel
theorem dX10_votes_60 : decode cX10_votes 60 = .ok (.imul, 1) := by decide +kernel
theorem dX10_votes_61 : decode cX10_votes 61 = .ok (.iload_n 1, 1) := by decide +kernel
theorem dX10_votes_62 : decode cX10_votes 62 = .ok (.aload_n 0, 1) := by decide +kernel
theorem dX10_votes_63 : decode cX10_votes 63 = .ok (.iload_n 3, 1) := by decide +kernel
theorem dX10_votes_64 : decode cX10_votes 64 = .ok (.invokevirtual 211, 3) := by decide +kernel
theorem dX10_votes_67 : decode cX10_votes 67 = .ok (.imul, 1) := by decide +kernel
theorem dX10_votes_68 : decode cX10_votes 68 = .ok (.if_icmp .lt 11, 3) := by decide +kernel
theorem dX10_votes_71 : decode cX10_votes 71 = .ok (.aload_n 0, 1) := by decide +kernel
theorem dX10_votes_72 : decode cX10_votes 72 = .ok (.iload_n 3, 1) := by decide +kernel
theorem dX10_votes_73 : decode cX10_votes 73 = .ok (.invokevirtual 211, 3) := by decide +kernel
theorem dX10_votes_76 : decode cX10_votes 76 = .ok (.goto 4, 3) := by decide +kernel
theorem dX10_votes_79 : decode cX10_votes 79 = .ok (.iconst 0, 1) := by decide +kernel
theorem dX10_votes_80 : decode cX10_votes 80 = .ok (.iadd, 1) := by decide +kernel
theorem dX10_votes_81 : decode cX10_votes 81 = .ok (.istore_n 2, 1) := by decide +kernel
theorem dX10_votes_82 : decode cX10_votes 82 = .ok (.iinc 3 1, 3) := by decide +kernel
theorem dX10_votes_85 : decode cX10_votes 85 = .ok (.goto (-55), 3) := by decide +kernel
theorem dX10_votes_88 : decode cX10_votes 88 = .ok (.iconst 2, 1) := by decide +kernel
theorem dX10_votes_89 : decode cX10_votes 89 = .ok (.iload_n 2, 1) := by decide +kernel
theorem dX10_votes_90 : decode cX10_votes 90 = .ok (.imul, 1) := by decide +kernel
theorem dX10_votes_91 : decode cX10_votes 91 = .ok (.aload_n 0, 1) := by decide +kernel
theorem dX10_votes_92 : decode cX10_votes 92 = .ok (.aload_n 0, 1) := by decide +kernel
theorem dX10_votes_93 : decode cX10_votes 93 = .ok (.getfield 235, 3) := by decide +kernel
theorem dX10_votes_96 : decode cX10_votes 96 = .ok (.invokevirtual 259, 3) := by decide +kernel
theorem dX10_votes_99 : decode cX10_votes 99 = .ok (.if_icmp .le 7, 3) := by decide +kernel
theorem dX10_votes_102 : decode cX10_votes 102 = .ok (.iconst 1, 1) := by decide +kernel
theorem dX10_votes_103 : decode cX10_votes 103 = .ok (.goto 4, 3) := by decide +kernel
theorem dX10_votes_106 : decode cX10_votes 106 = .ok (.iconst 0, 1) := by decide +kernel
theorem dX10_votes_107 : decode cX10_votes 107 = .ok (.ireturn, 1) := by decide +kernel
theorem zm_X10_votes : ZMv "ClassOfManyModel" yX10_votes cX10_votes 4 (some .int) 1 := ⟨kw_7_238, kw_7_236, kw_7_237, kw_1_10, by decide +kernel, by decide⟩
def zf_X10_votes_j80 (R30 : Int32 → Int32 → Option (Int32 × ZMem)) (v31 : Int32) (v32 : Int32) (v36 : Int32) : Option (Int32 × ZMem) :=
  (R30 (v31 + v36) (v32 + (1 : Int32)))
def zf_X10_votes_j79 (R30 : Int32 → Int32 → Option (Int32 × ZMem)) (v31 : Int32) (v32 : Int32) : Option (Int32 × ZMem) :=
  (zf_X10_votes_j80 R30 v31 v32 (0 : Int32))
def zf_X10_votes_L30 (M30 : ZMem) (a1 : Int32) (K88 : Int32 → Option (Int32 × ZMem)) : Nat → Int32 → Int32 → Option (Int32 × ZMem)
  | 0, _, _ => none
  | n30 + 1, v31, v32 =>
  zrd M30 78 73 (0 : Int32) (fun v34 => (if v34 ≤ v32 then (K88 v31) else zb1 (zf_X10_has (M30 77 22) v32) (fun v35 => (if v35 = 0 then (zf_X10_votes_j79 (fun x0 x1 => zf_X10_votes_L30 M30 a1 K88 n30 x0 x1) v31 v32) else zrd M30 86 10 v32 (fun v37 => zb1 (zf_X10_claim v32 M30) (fun v38 => (if ((100 : Int32) * v37) < (a1 * v38) then (zf_X10_votes_j79 (fun x0 x1 => zf_X10_votes_L30 M30 a1 K88 n30 x0 x1) v31 v32) else zb1 (zf_X10_claim v32 M30) (fun v39 => (zf_X10_votes_j80 (fun x0 x1 => zf_X10_votes_L30 M30 a1 K88 n30 x0 x1) v31 v32 v39)))))))))
def zf_X10_votes_j107 (M30 : ZMem) (v42 : Int32) : Option (Int32 × ZMem) :=
  some (v42, M30)
def zf_X10_votes (n : Nat) (a1 : Int32) (M : ZMem) : Option (Int32 × ZMem) :=
  zb1 (zf_X10_isIn a1 (0 : Int32) (100 : Int32)) (fun v29 => (if v29 = 0 then some ((-1 : Int32), M) else zb1 (zf_X10_paysNow n M) (fun M30 => (if (M30 77 22) = 0 then some ((-2 : Int32), M30) else (zf_X10_votes_L30 M30 a1 (fun v40 => zb1 (zf_X10_claims n (M30 77 22) M30) (fun v41 => (if ((2 : Int32) * v40) ≤ v41 then (zf_X10_votes_j107 M30 (0 : Int32)) else (zf_X10_votes_j107 M30 (1 : Int32))))) n (0 : Int32) (0 : Int32))))))
set_option maxHeartbeats 4000000 in
set_option maxRecDepth 100000 in
theorem zc_X10_votes {l : Launch} {D : va_G} {ad : Nat → Nat} {cA : Nat → ClassId} {n : Nat} {a1 : Int32} {M : ZMem} {r : Int32} {M' : ZMem} (hf : zf_X10_votes n a1 M = some (r, M')) : ZCt l D ad cA yX10_votes cX10_votes 4 (some .int) 8 [.ref (ad 77), .int a1] M (some (.int r)) M' := by
  refine zct (by decide +kernel) (Nat.le_of_ble_eq_true rfl) (lv := [(0, .ref (ad 77)), (1, .int a1)]) rfl (fun E hl hD had hcA hN hC hR => ?_)
  subst hl; subst hD; subst had; subst hcA
  unfold zf_X10_votes at hf
  refine zw_iload_n hC dX10_votes_0 rfl 1 rfl ?_
  refine zw_iconst hC (v := (0 : Int32)) dX10_votes_1 (by decide) ?_
  refine zw_bipush hC (v := (100 : Int32)) dX10_votes_2 (by decide) ?_
  obtain ⟨v29, hc29, hf⟩ := zb1_some hf
  refine zw_cS hC [.int a1, .int (0 : Int32), .int (100 : Int32)] [] (st1 := [.int v29]) zm_X10_isIn (zc_X10_isIn hc29) kw_6_106 dX10_votes_4 rfl (by decide) (Nat.le_of_ble_eq_true rfl) rfl rfl ?_
  refine zw_if_ne hC 12 hf dX10_votes_7 (by decide) (fun hf => ?_) (fun hf => ?_)
  · refine zw_aload_n hC dX10_votes_12 rfl 0 rfl ?_
    obtain ⟨M30, hcM30, hf⟩ := zb1_some hf
    refine zw_cV hC [] [] (st1 := []) zm_X10_paysNow (zc_X10_paysNow hcM30) zk_77 rfl kw_7_178 dX10_votes_13 rfl (by decide) (Nat.le_of_ble_eq_true rfl) rfl rfl ?_
    refine zw_aload_n hC dX10_votes_16 rfl 0 rfl ?_
    refine zw_geti hC zF_Model_nowCounted zk_77 dX10_votes_17 kw_6_8 ?_
    refine zw_if_ne hC 26 hf dX10_votes_20 (by decide) (fun hf => ?_) (fun hf => ?_)
    · refine zw_iconst hC (v := (0 : Int32)) dX10_votes_26 (by decide) ?_
      refine zw_istore_n hC (lv' := [(2, .int (0 : Int32)), (0, .ref (zad E 77)), (1, .int a1)]) dX10_votes_27 rfl hN (by decide) rfl ?_
      refine zw_iconst hC (v := (0 : Int32)) dX10_votes_28 (by decide) ?_
      refine zw_istore_n hC (lv' := [(3, .int (0 : Int32)), (2, .int (0 : Int32)), (0, .ref (zad E 77)), (1, .int a1)]) dX10_votes_29 rfl hN (by decide) rfl ?_
      have hL30 : ∀ (K88 : Int32 → Option (Int32 × ZMem)), (∀ (v33 : Int32), K88 v33 = some (r, M') → ZW E 88 [(0, .ref (zad E 77)), (2, .int v33)] [] M30) → ∀ (n30 : Nat), ∀ (v31 : Int32), ∀ (v32 : Int32), zf_X10_votes_L30 M30 a1 K88 n30 v31 v32 = some (r, M') → ZW E 30 [(0, .ref (zad E 77)), (1, .int a1), (2, .int v31), (3, .int v32)] [] M30 := by
        intro K88 hK88
        intro n30
        induction n30 with
        | zero => intro v31 v32 hf; rw [zf_X10_votes_L30] at hf; cases hf
        | succ n30 ih30 =>
          intro v31 v32 hf
          rw [zf_X10_votes_L30] at hf
          refine zw_iload_n hC dX10_votes_30 rfl 3 rfl ?_
          refine zw_aload_n hC dX10_votes_31 rfl 0 rfl ?_
          refine zw_getr (k' := 78) hC zF_Model_now zk_77 rfl dX10_votes_32 kw_5_227 ?_
          refine zw_iconst hC (v := (0 : Int32)) dX10_votes_35 (by decide) ?_
          refine zw_iald hC hf zk_78 dX10_votes_36 (fun v34 hf => ?_)
          refine zw_icmp_ge hC 88 hf dX10_votes_37 (by decide) (fun hf => ?_) (fun hf => ?_)
          · exact zw_sub [0, 2] rfl (hK88 v31 hf)
          · refine zw_iload_n hC dX10_votes_40 rfl 2 rfl ?_
            refine zw_aload_n hC dX10_votes_41 rfl 0 rfl ?_
            refine zw_geti hC zF_Model_nowCounted zk_77 dX10_votes_42 kw_6_8 ?_
            refine zw_iload_n hC dX10_votes_45 rfl 3 rfl ?_
            obtain ⟨v35, hc35, hf⟩ := zb1_some hf
            refine zw_cS hC [.int (M30 77 22), .int v32] [.int v31] (st1 := [.int v35, .int v31]) zm_X10_has (zc_X10_has hc35) kw_6_150 dX10_votes_46 rfl (by decide) (Nat.le_of_ble_eq_true rfl) rfl rfl ?_
            have hj80 : ∀ (v36 : Int32), zf_X10_votes_j80 (fun x0 x1 => zf_X10_votes_L30 M30 a1 K88 n30 x0 x1) v31 v32 v36 = some (r, M') → ZW E 80 [(0, .ref (zad E 77)), (1, .int a1), (3, .int v32)] [.int v36, .int v31] M30 := by
              intro v36 hf
              unfold zf_X10_votes_j80 at hf
              refine zw_iadd hC dX10_votes_80 ?_
              refine zw_istore_n hC (lv' := [(2, .int (v31 + v36)), (0, .ref (zad E 77)), (1, .int a1), (3, .int v32)]) dX10_votes_81 rfl hN (by decide) rfl ?_
              refine zw_iinc hC (v := (1 : Int32)) (lv' := [(3, .int (v32 + (1 : Int32))), (2, .int (v31 + v36)), (0, .ref (zad E 77)), (1, .int a1)]) dX10_votes_82 3 rfl (by decide) hN (by decide) rfl ?_
              refine zw_goto hC 30 dX10_votes_85 (by decide) ?_
              exact zw_sub [2, 3, 1, 0] rfl (ih30 (v31 + v36) (v32 + (1 : Int32)) hf)
            have hj79 : zf_X10_votes_j79 (fun x0 x1 => zf_X10_votes_L30 M30 a1 K88 n30 x0 x1) v31 v32 = some (r, M') → ZW E 79 [(0, .ref (zad E 77)), (1, .int a1), (3, .int v32)] [.int v31] M30 := by
              intro  hf
              unfold zf_X10_votes_j79 at hf
              refine zw_iconst hC (v := (0 : Int32)) dX10_votes_79 (by decide) ?_
              exact hj80 (0 : Int32) hf
            refine zw_if_eq hC 79 hf dX10_votes_49 (by decide) (fun hf => ?_) (fun hf => ?_)
            · exact zw_sub [0, 1, 3] rfl (hj79 hf)
            · refine zw_bipush hC (v := (100 : Int32)) dX10_votes_52 (by decide) ?_
              refine zw_aload_n hC dX10_votes_54 rfl 0 rfl ?_
              refine zw_getr (k' := 86) hC zF_Model_paid zk_77 rfl dX10_votes_55 kw_6_12 ?_
              refine zw_iload_n hC dX10_votes_58 rfl 3 rfl ?_
              refine zw_iald hC hf zk_86 dX10_votes_59 (fun v37 hf => ?_)
              refine zw_imul hC dX10_votes_60 ?_
              refine zw_iload_n hC dX10_votes_61 rfl 1 rfl ?_
              refine zw_aload_n hC dX10_votes_62 rfl 0 rfl ?_
              refine zw_iload_n hC dX10_votes_63 rfl 3 rfl ?_
              obtain ⟨v38, hc38, hf⟩ := zb1_some hf
              refine zw_cV hC [.int v32] [.int a1, .int ((100 : Int32) * v37), .int v31] (st1 := [.int v38, .int a1, .int ((100 : Int32) * v37), .int v31]) zm_X10_claim (zc_X10_claim hc38) zk_77 rfl kw_7_52 dX10_votes_64 rfl (by decide) (Nat.le_of_ble_eq_true rfl) rfl rfl ?_
              refine zw_imul hC dX10_votes_67 ?_
              refine zw_icmp_lt hC 79 hf dX10_votes_68 (by decide) (fun hf => ?_) (fun hf => ?_)
              · exact zw_sub [0, 1, 3] rfl (hj79 hf)
              · refine zw_aload_n hC dX10_votes_71 rfl 0 rfl ?_
                refine zw_iload_n hC dX10_votes_72 rfl 3 rfl ?_
                obtain ⟨v39, hc39, hf⟩ := zb1_some hf
                refine zw_cV hC [.int v32] [.int v31] (st1 := [.int v39, .int v31]) zm_X10_claim (zc_X10_claim hc39) zk_77 rfl kw_7_52 dX10_votes_73 rfl (by decide) (Nat.le_of_ble_eq_true rfl) rfl rfl ?_
                refine zw_goto hC 80 dX10_votes_76 (by decide) ?_
                exact zw_sub [0, 1, 3] rfl (hj80 v39 hf)
      refine zw_sub [2, 3, 1, 0] rfl (hL30 _ ?_ n (0 : Int32) (0 : Int32) hf)
      · intro v40 hf
        refine zw_iconst hC (v := (2 : Int32)) dX10_votes_88 (by decide) ?_
        refine zw_iload_n hC dX10_votes_89 rfl 1 rfl ?_
        refine zw_imul hC dX10_votes_90 ?_
        refine zw_aload_n hC dX10_votes_91 rfl 0 rfl ?_
        refine zw_aload_n hC dX10_votes_92 rfl 0 rfl ?_
        refine zw_geti hC zF_Model_nowCounted zk_77 dX10_votes_93 kw_6_8 ?_
        obtain ⟨v41, hc41, hf⟩ := zb1_some hf
        refine zw_cV hC [.int (M30 77 22)] [.int ((2 : Int32) * v40)] (st1 := [.int v41, .int ((2 : Int32) * v40)]) zm_X10_claims (zc_X10_claims hc41) zk_77 rfl kw_7_48 dX10_votes_96 rfl (by decide) (Nat.le_of_ble_eq_true rfl) rfl rfl ?_
        have hj107 : ∀ (v42 : Int32), zf_X10_votes_j107 M30 v42 = some (r, M') → ZW E 107 [] [.int v42] M30 := by
          intro v42 hf
          unfold zf_X10_votes_j107 at hf
          obtain ⟨h1, h2⟩ := Prod.mk.inj (Option.some.inj hf)
          subst h1; subst h2
          exact zw_iret hC hR dX10_votes_107
        refine zw_icmp_le hC 106 hf dX10_votes_99 (by decide) (fun hf => ?_) (fun hf => ?_)
        · refine zw_iconst hC (v := (0 : Int32)) dX10_votes_106 (by decide) ?_
          exact zw_sub [] rfl (hj107 (0 : Int32) hf)
        · refine zw_iconst hC (v := (1 : Int32)) dX10_votes_102 (by decide) ?_
          refine zw_goto hC 107 dX10_votes_103 (by decide) ?_
          exact zw_sub [] rfl (hj107 (1 : Int32) hf)
    · refine zw_bipush hC (v := (-2 : Int32)) dX10_votes_23 (by decide) ?_
      obtain ⟨h1, h2⟩ := Prod.mk.inj (Option.some.inj hf)
      subst h1; subst h2
      exact zw_iret hC hR dX10_votes_25
  · refine zw_iconst hC (v := (-1 : Int32)) dX10_votes_10 (by decide) ?_
    obtain ⟨h1, h2⟩ := Prod.mk.inj (Option.some.inj hf)
    subst h1; subst h2
    exact zw_iret hC hR dX10_votes_11
/-! ClassOfManyModel.wereOut(II)I -/
theorem dX10_wereOut_0 : decode cX10_wereOut 0 = .ok (.aload_n 0, 1) := by decide +kernel
theorem dX10_wereOut_1 : decode cX10_wereOut 1 = .ok (.iload_n 1, 1) := by decide +kernel
theorem dX10_wereOut_2 : decode cX10_wereOut 2 = .ok (.invokevirtual 296, 3) := by decide +kernel
theorem dX10_wereOut_5 : decode cX10_wereOut 5 = .ok (.ifCond .eq 11, 3) := by decide +kernel
theorem dX10_wereOut_8 : decode cX10_wereOut 8 = .ok (.aload_n 0, 1) := by decide +kernel
theorem dX10_wereOut_9 : decode cX10_wereOut 9 = .ok (.iload_n 2, 1) := by decide +kernel
theorem dX10_wereOut_10 : decode cX10_wereOut 10 = .ok (.invokevirtual 296, 3) := by decide +kernel
theorem dX10_wereOut_13 : decode cX10_wereOut 13 = .ok (.ifCond .ne 5, 3) := by decide +kernel
theorem dX10_wereOut_16 : decode cX10_wereOut 16 = .ok (.iconst (-1), 1) := by decide +kernel
theorem dX10_wereOut_17 : decode cX10_wereOut 17 = .ok (.ireturn, 1) := by decide +kernel
theorem dX10_wereOut_18 : decode cX10_wereOut 18 = .ok (.aload_n 0, 1) := by decide +kernel
theorem dX10_wereOut_19 : decode cX10_wereOut 19 = .ok (.iconst 1, 1) := by decide +kernel
theorem dX10_wereOut_20 : decode cX10_wereOut 20 = .ok (.iload_n 2, 1) := by decide +kernel
theorem dX10_wereOut_21 : decode cX10_wereOut 21 = .ok (.ishl, 1) := by decide +kernel
theorem dX10_wereOut_22 : decode cX10_wereOut 22 = .ok (.invokevirtual 329, 3) := by decide +kernel
theorem dX10_wereOut_25 : decode cX10_wereOut 25 = .ok (.aload_n 0, 1) := by decide +kernel
theorem dX10_wereOut_26 : decode cX10_wereOut 26 = .ok (.getfield 34, 3) := by decide +kernel
theorem dX10_wereOut_29 : decode cX10_wereOut 29 = .ok (.iload_n 1, 1) := by decide +kernel
theorem dX10_wereOut_30 : decode cX10_wereOut 30 = .ok (.iaload, 1) := by decide +kernel
theorem dX10_wereOut_31 : decode cX10_wereOut 31 = .ok (.ireturn, 1) := by decide +kernel
theorem zm_X10_wereOut : ZMv "ClassOfManyModel" yX10_wereOut cX10_wereOut 3 (some .int) 2 := ⟨kw_8_2, kw_8_0, kw_8_1, kw_1_10, by decide +kernel, by decide⟩
def zf_X10_wereOut_j16 (M : ZMem) : Option (Int32 × ZMem) :=
  some ((-1 : Int32), M)
def zf_X10_wereOut (n : Nat) (a1 : Int32) (a2 : Int32) (M : ZMem) : Option (Int32 × ZMem) :=
  zb1 (zf_X10_isMember a1 M) (fun v25 => (if v25 = 0 then (zf_X10_wereOut_j16 M) else zb1 (zf_X10_isMember a2 M) (fun v26 => (if v26 = 0 then (zf_X10_wereOut_j16 M) else zb1 (zf_X10_paysWithout n ((1 : Int32) <<< (a2 &&& 31)) M) (fun M27 => zrd M27 86 10 a1 (fun v28 => some (v28, M27)))))))
set_option maxHeartbeats 4000000 in
set_option maxRecDepth 100000 in
theorem zc_X10_wereOut {l : Launch} {D : va_G} {ad : Nat → Nat} {cA : Nat → ClassId} {n : Nat} {a1 : Int32} {a2 : Int32} {M : ZMem} {r : Int32} {M' : ZMem} (hf : zf_X10_wereOut n a1 a2 M = some (r, M')) : ZCt l D ad cA yX10_wereOut cX10_wereOut 3 (some .int) 8 [.ref (ad 77), .int a1, .int a2] M (some (.int r)) M' := by
  refine zct (by decide +kernel) (Nat.le_of_ble_eq_true rfl) (lv := [(0, .ref (ad 77)), (1, .int a1), (2, .int a2)]) rfl (fun E hl hD had hcA hN hC hR => ?_)
  subst hl; subst hD; subst had; subst hcA
  unfold zf_X10_wereOut at hf
  refine zw_aload_n hC dX10_wereOut_0 rfl 0 rfl ?_
  refine zw_iload_n hC dX10_wereOut_1 rfl 1 rfl ?_
  obtain ⟨v25, hc25, hf⟩ := zb1_some hf
  refine zw_cV hC [.int a1] [] (st1 := [.int v25]) zm_X10_isMember (zc_X10_isMember hc25) zk_77 rfl kw_7_5 dX10_wereOut_2 rfl (by decide) (Nat.le_of_ble_eq_true rfl) rfl rfl ?_
  have hj16 : zf_X10_wereOut_j16 M = some (r, M') → ZW E 16 [] [] M := by
    intro  hf
    unfold zf_X10_wereOut_j16 at hf
    refine zw_iconst hC (v := (-1 : Int32)) dX10_wereOut_16 (by decide) ?_
    obtain ⟨h1, h2⟩ := Prod.mk.inj (Option.some.inj hf)
    subst h1; subst h2
    exact zw_iret hC hR dX10_wereOut_17
  refine zw_if_eq hC 16 hf dX10_wereOut_5 (by decide) (fun hf => ?_) (fun hf => ?_)
  · exact zw_sub [] rfl (hj16 hf)
  · refine zw_aload_n hC dX10_wereOut_8 rfl 0 rfl ?_
    refine zw_iload_n hC dX10_wereOut_9 rfl 2 rfl ?_
    obtain ⟨v26, hc26, hf⟩ := zb1_some hf
    refine zw_cV hC [.int a2] [] (st1 := [.int v26]) zm_X10_isMember (zc_X10_isMember hc26) zk_77 rfl kw_7_5 dX10_wereOut_10 rfl (by decide) (Nat.le_of_ble_eq_true rfl) rfl rfl ?_
    refine zw_if_ne hC 18 hf dX10_wereOut_13 (by decide) (fun hf => ?_) (fun hf => ?_)
    · refine zw_aload_n hC dX10_wereOut_18 rfl 0 rfl ?_
      refine zw_iconst hC (v := (1 : Int32)) dX10_wereOut_19 (by decide) ?_
      refine zw_iload_n hC dX10_wereOut_20 rfl 2 rfl ?_
      refine zw_ishl hC dX10_wereOut_21 ?_
      obtain ⟨M27, hcM27, hf⟩ := zb1_some hf
      refine zw_cV hC [.int ((1 : Int32) <<< (a2 &&& 31))] [] (st1 := []) zm_X10_paysWithout (zc_X10_paysWithout hcM27) zk_77 rfl kw_8_3 dX10_wereOut_22 rfl (by decide) (Nat.le_of_ble_eq_true rfl) rfl rfl ?_
      refine zw_aload_n hC dX10_wereOut_25 rfl 0 rfl ?_
      refine zw_getr (k' := 86) hC zF_Model_paid zk_77 rfl dX10_wereOut_26 kw_6_12 ?_
      refine zw_iload_n hC dX10_wereOut_29 rfl 1 rfl ?_
      refine zw_iald hC hf zk_86 dX10_wereOut_30 (fun v28 hf => ?_)
      obtain ⟨h1, h2⟩ := Prod.mk.inj (Option.some.inj hf)
      subst h1; subst h2
      exact zw_iret hC hR dX10_wereOut_31
    · exact zw_sub [] rfl (hj16 hf)
/-! ClassOfManyModel.wereFund(II)I -/
theorem dX10_wereFund_0 : decode cX10_wereFund 0 = .ok (.aload_n 0, 1) := by decide +kernel
theorem dX10_wereFund_1 : decode cX10_wereFund 1 = .ok (.iload_n 2, 1) := by decide +kernel
theorem dX10_wereFund_2 : decode cX10_wereFund 2 = .ok (.invokevirtual 296, 3) := by decide +kernel
theorem dX10_wereFund_5 : decode cX10_wereFund 5 = .ok (.ifCond .eq 13, 3) := by decide +kernel
theorem dX10_wereFund_8 : decode cX10_wereFund 8 = .ok (.iload_n 1, 1) := by decide +kernel
theorem dX10_wereFund_9 : decode cX10_wereFund 9 = .ok (.iconst 0, 1) := by decide +kernel
theorem dX10_wereFund_10 : decode cX10_wereFund 10 = .ok (.ldc 147, 2) := by decide +kernel
theorem dX10_wereFund_12 : decode cX10_wereFund 12 = .ok (.invokestatic 65, 3) := by decide +kernel
theorem dX10_wereFund_15 : decode cX10_wereFund 15 = .ok (.ifCond .ne 5, 3) := by decide +kernel
theorem dX10_wereFund_18 : decode cX10_wereFund 18 = .ok (.iconst (-1), 1) := by decide +kernel
theorem dX10_wereFund_19 : decode cX10_wereFund 19 = .ok (.ireturn, 1) := by decide +kernel
theorem dX10_wereFund_20 : decode cX10_wereFund 20 = .ok (.aload_n 0, 1) := by decide +kernel
theorem dX10_wereFund_21 : decode cX10_wereFund 21 = .ok (.invokevirtual 281, 3) := by decide +kernel
theorem dX10_wereFund_24 : decode cX10_wereFund 24 = .ok (.aload_n 0, 1) := by decide +kernel
theorem dX10_wereFund_25 : decode cX10_wereFund 25 = .ok (.iload_n 1, 1) := by decide +kernel
theorem dX10_wereFund_26 : decode cX10_wereFund 26 = .ok (.putfield 241, 3) := by decide +kernel
theorem dX10_wereFund_29 : decode cX10_wereFund 29 = .ok (.aload_n 0, 1) := by decide +kernel
theorem dX10_wereFund_30 : decode cX10_wereFund 30 = .ok (.invokevirtual 284, 3) := by decide +kernel
theorem dX10_wereFund_33 : decode cX10_wereFund 33 = .ok (.aload_n 0, 1) := by decide +kernel
theorem dX10_wereFund_34 : decode cX10_wereFund 34 = .ok (.getfield 34, 3) := by decide +kernel
theorem dX10_wereFund_37 : decode cX10_wereFund 37 = .ok (.iload_n 2, 1) := by decide +kernel
theorem dX10_wereFund_38 : decode cX10_wereFund 38 = .ok (.iaload, 1) := by decide +kernel
theorem dX10_wereFund_39 : decode cX10_wereFund 39 = .ok (.ireturn, 1) := by decide +kernel
theorem zm_X10_wereFund : ZMv "ClassOfManyModel" yX10_wereFund cX10_wereFund 3 (some .int) 2 := ⟨kw_8_10, kw_8_8, kw_8_9, kw_1_10, by decide +kernel, by decide⟩
def zf_X10_wereFund_j18 (M : ZMem) : Option (Int32 × ZMem) :=
  some ((-1 : Int32), M)
def zf_X10_wereFund (n : Nat) (a1 : Int32) (a2 : Int32) (M : ZMem) : Option (Int32 × ZMem) :=
  zb1 (zf_X10_isMember a2 M) (fun v27 => (if v27 = 0 then (zf_X10_wereFund_j18 M) else zb1 (zf_X10_isIn a1 (0 : Int32) (99999 : Int32)) (fun v28 => (if v28 = 0 then (zf_X10_wereFund_j18 M) else zb1 (zf_X10_setsNow n M) (fun M29 => zput M29 77 24 a1 (fun M30 => zb1 (zf_X10_pays n M30) (fun M31 => zrd M31 86 10 a2 (fun v32 => some (v32, M31)))))))))
set_option maxHeartbeats 4000000 in
set_option maxRecDepth 100000 in
theorem zc_X10_wereFund {l : Launch} {D : va_G} {ad : Nat → Nat} {cA : Nat → ClassId} {n : Nat} {a1 : Int32} {a2 : Int32} {M : ZMem} {r : Int32} {M' : ZMem} (hf : zf_X10_wereFund n a1 a2 M = some (r, M')) : ZCt l D ad cA yX10_wereFund cX10_wereFund 3 (some .int) 7 [.ref (ad 77), .int a1, .int a2] M (some (.int r)) M' := by
  refine zct (by decide +kernel) (Nat.le_of_ble_eq_true rfl) (lv := [(0, .ref (ad 77)), (1, .int a1), (2, .int a2)]) rfl (fun E hl hD had hcA hN hC hR => ?_)
  subst hl; subst hD; subst had; subst hcA
  unfold zf_X10_wereFund at hf
  refine zw_aload_n hC dX10_wereFund_0 rfl 0 rfl ?_
  refine zw_iload_n hC dX10_wereFund_1 rfl 2 rfl ?_
  obtain ⟨v27, hc27, hf⟩ := zb1_some hf
  refine zw_cV hC [.int a2] [] (st1 := [.int v27]) zm_X10_isMember (zc_X10_isMember hc27) zk_77 rfl kw_7_5 dX10_wereFund_2 rfl (by decide) (Nat.le_of_ble_eq_true rfl) rfl rfl ?_
  have hj18 : zf_X10_wereFund_j18 M = some (r, M') → ZW E 18 [] [] M := by
    intro  hf
    unfold zf_X10_wereFund_j18 at hf
    refine zw_iconst hC (v := (-1 : Int32)) dX10_wereFund_18 (by decide) ?_
    obtain ⟨h1, h2⟩ := Prod.mk.inj (Option.some.inj hf)
    subst h1; subst h2
    exact zw_iret hC hR dX10_wereFund_19
  refine zw_if_eq hC 18 hf dX10_wereFund_5 (by decide) (fun hf => ?_) (fun hf => ?_)
  · exact zw_sub [] rfl (hj18 hf)
  · refine zw_iload_n hC dX10_wereFund_8 rfl 1 rfl ?_
    refine zw_iconst hC (v := (0 : Int32)) dX10_wereFund_9 (by decide) ?_
    refine zw_ldc hC dX10_wereFund_10 kw_6_141 ?_
    obtain ⟨v28, hc28, hf⟩ := zb1_some hf
    refine zw_cS hC [.int a1, .int (0 : Int32), .int (99999 : Int32)] [] (st1 := [.int v28]) zm_X10_isIn (zc_X10_isIn hc28) kw_6_106 dX10_wereFund_12 rfl (by decide) (Nat.le_of_ble_eq_true rfl) rfl rfl ?_
    refine zw_if_ne hC 20 hf dX10_wereFund_15 (by decide) (fun hf => ?_) (fun hf => ?_)
    · refine zw_aload_n hC dX10_wereFund_20 rfl 0 rfl ?_
      obtain ⟨M29, hcM29, hf⟩ := zb1_some hf
      refine zw_cV hC [] [] (st1 := []) zm_X10_setsNow (zc_X10_setsNow hcM29) zk_77 rfl kw_7_182 dX10_wereFund_21 rfl (by decide) (Nat.le_of_ble_eq_true rfl) rfl rfl ?_
      refine zw_aload_n hC dX10_wereFund_24 rfl 0 rfl ?_
      refine zw_iload_n hC dX10_wereFund_25 rfl 1 rfl ?_
      refine zw_puti hC hf zF_Model_nowFund zk_77 dX10_wereFund_26 kw_6_10 (fun M30 hf => ?_)
      refine zw_aload_n hC dX10_wereFund_29 rfl 0 rfl ?_
      obtain ⟨M31, hcM31, hf⟩ := zb1_some hf
      refine zw_cV hC [] [] (st1 := []) zm_X10_pays (zc_X10_pays hcM31) zk_77 rfl kw_7_190 dX10_wereFund_30 rfl (by decide) (Nat.le_of_ble_eq_true rfl) rfl rfl ?_
      refine zw_aload_n hC dX10_wereFund_33 rfl 0 rfl ?_
      refine zw_getr (k' := 86) hC zF_Model_paid zk_77 rfl dX10_wereFund_34 kw_6_12 ?_
      refine zw_iload_n hC dX10_wereFund_37 rfl 2 rfl ?_
      refine zw_iald hC hf zk_86 dX10_wereFund_38 (fun v32 hf => ?_)
      obtain ⟨h1, h2⟩ := Prod.mk.inj (Option.some.inj hf)
      subst h1; subst h2
      exact zw_iret hC hR dX10_wereFund_39
    · exact zw_sub [] rfl (hj18 hf)
/-! ClassOfManyModel.paidBy(II)I -/
theorem dX10_paidBy_0 : decode cX10_paidBy 0 = .ok (.aload_n 0, 1) := by decide +kernel
theorem dX10_paidBy_1 : decode cX10_paidBy 1 = .ok (.invokevirtual 281, 3) := by decide +kernel
theorem dX10_paidBy_4 : decode cX10_paidBy 4 = .ok (.aload_n 0, 1) := by decide +kernel
theorem dX10_paidBy_5 : decode cX10_paidBy 5 = .ok (.iload_n 1, 1) := by decide +kernel
theorem dX10_paidBy_6 : decode cX10_paidBy 6 = .ok (.putfield 244, 3) := by decide +kernel
theorem dX10_paidBy_9 : decode cX10_paidBy 9 = .ok (.aload_n 0, 1) := by decide +kernel
theorem dX10_paidBy_10 : decode cX10_paidBy 10 = .ok (.invokevirtual 284, 3) := by decide +kernel
theorem dX10_paidBy_13 : decode cX10_paidBy 13 = .ok (.aload_n 0, 1) := by decide +kernel
theorem dX10_paidBy_14 : decode cX10_paidBy 14 = .ok (.getfield 34, 3) := by decide +kernel
theorem dX10_paidBy_17 : decode cX10_paidBy 17 = .ok (.iload_n 2, 1) := by decide +kernel
theorem dX10_paidBy_18 : decode cX10_paidBy 18 = .ok (.iaload, 1) := by decide +kernel
theorem dX10_paidBy_19 : decode cX10_paidBy 19 = .ok (.ireturn, 1) := by decide +kernel
theorem zm_X10_paidBy : ZMv "ClassOfManyModel" yX10_paidBy cX10_paidBy 3 (some .int) 2 := ⟨kw_8_18, kw_8_17, kp_110, kw_1_10, by decide +kernel, by decide⟩
def zf_X10_paidBy (n : Nat) (a1 : Int32) (a2 : Int32) (M : ZMem) : Option (Int32 × ZMem) :=
  zb1 (zf_X10_setsNow n M) (fun M25 => zput M25 77 25 a1 (fun M26 => zb1 (zf_X10_pays n M26) (fun M27 => zrd M27 86 10 a2 (fun v28 => some (v28, M27)))))
set_option maxHeartbeats 4000000 in
set_option maxRecDepth 100000 in
theorem zc_X10_paidBy {l : Launch} {D : va_G} {ad : Nat → Nat} {cA : Nat → ClassId} {n : Nat} {a1 : Int32} {a2 : Int32} {M : ZMem} {r : Int32} {M' : ZMem} (hf : zf_X10_paidBy n a1 a2 M = some (r, M')) : ZCt l D ad cA yX10_paidBy cX10_paidBy 3 (some .int) 7 [.ref (ad 77), .int a1, .int a2] M (some (.int r)) M' := by
  refine zct (by decide +kernel) (Nat.le_of_ble_eq_true rfl) (lv := [(0, .ref (ad 77)), (1, .int a1), (2, .int a2)]) rfl (fun E hl hD had hcA hN hC hR => ?_)
  subst hl; subst hD; subst had; subst hcA
  unfold zf_X10_paidBy at hf
  refine zw_aload_n hC dX10_paidBy_0 rfl 0 rfl ?_
  obtain ⟨M25, hcM25, hf⟩ := zb1_some hf
  refine zw_cV hC [] [] (st1 := []) zm_X10_setsNow (zc_X10_setsNow hcM25) zk_77 rfl kw_7_182 dX10_paidBy_1 rfl (by decide) (Nat.le_of_ble_eq_true rfl) rfl rfl ?_
  refine zw_aload_n hC dX10_paidBy_4 rfl 0 rfl ?_
  refine zw_iload_n hC dX10_paidBy_5 rfl 1 rfl ?_
  refine zw_puti hC hf zF_Model_nowRule zk_77 dX10_paidBy_6 kw_6_11 (fun M26 hf => ?_)
  refine zw_aload_n hC dX10_paidBy_9 rfl 0 rfl ?_
  obtain ⟨M27, hcM27, hf⟩ := zb1_some hf
  refine zw_cV hC [] [] (st1 := []) zm_X10_pays (zc_X10_pays hcM27) zk_77 rfl kw_7_190 dX10_paidBy_10 rfl (by decide) (Nat.le_of_ble_eq_true rfl) rfl rfl ?_
  refine zw_aload_n hC dX10_paidBy_13 rfl 0 rfl ?_
  refine zw_getr (k' := 86) hC zF_Model_paid zk_77 rfl dX10_paidBy_14 kw_6_12 ?_
  refine zw_iload_n hC dX10_paidBy_17 rfl 2 rfl ?_
  refine zw_iald hC hf zk_86 dX10_paidBy_18 (fun v28 hf => ?_)
  obtain ⟨h1, h2⟩ := Prod.mk.inj (Option.some.inj hf)
  subst h1; subst h2
  exact zw_iret hC hR dX10_paidBy_19
/-! ClassOfManyModel.wereRule(II)I -/
theorem dX10_wereRule_0 : decode cX10_wereRule 0 = .ok (.aload_n 0, 1) := by decide +kernel
theorem dX10_wereRule_1 : decode cX10_wereRule 1 = .ok (.iload_n 2, 1) := by decide +kernel
theorem dX10_wereRule_2 : decode cX10_wereRule 2 = .ok (.invokevirtual 296, 3) := by decide +kernel
theorem dX10_wereRule_5 : decode cX10_wereRule 5 = .ok (.ifCond .eq 21, 3) := by decide +kernel
theorem dX10_wereRule_8 : decode cX10_wereRule 8 = .ok (.iload_n 1, 1) := by decide +kernel
theorem dX10_wereRule_9 : decode cX10_wereRule 9 = .ok (.iconst 0, 1) := by decide +kernel
theorem dX10_wereRule_10 : decode cX10_wereRule 10 = .ok (.iconst 2, 1) := by decide +kernel
theorem dX10_wereRule_11 : decode cX10_wereRule 11 = .ok (.invokestatic 65, 3) := by decide +kernel
theorem dX10_wereRule_14 : decode cX10_wereRule 14 = .ok (.ifCond .eq 12, 3) := by decide +kernel
theorem dX10_wereRule_17 : decode cX10_wereRule 17 = .ok (.aload_n 0, 1) := by decide +kernel
theorem dX10_wereRule_18 : decode cX10_wereRule 18 = .ok (.iload_n 1, 1) := by decide +kernel
theorem dX10_wereRule_19 : decode cX10_wereRule 19 = .ok (.iload_n 2, 1) := by decide +kernel
theorem dX10_wereRule_20 : decode cX10_wereRule 20 = .ok (.invokevirtual 332, 3) := by decide +kernel
theorem dX10_wereRule_23 : decode cX10_wereRule 23 = .ok (.goto 4, 3) := by decide +kernel
theorem dX10_wereRule_26 : decode cX10_wereRule 26 = .ok (.iconst (-1), 1) := by decide +kernel
theorem dX10_wereRule_27 : decode cX10_wereRule 27 = .ok (.ireturn, 1) := by decide +kernel
theorem zm_X10_wereRule : ZMv "ClassOfManyModel" yX10_wereRule cX10_wereRule 3 (some .int) 2 := ⟨kw_8_14, kw_8_12, kw_8_13, kw_1_10, by decide +kernel, by decide⟩
def zf_X10_wereRule_j27 (v26 : Int32) (M27 : ZMem) : Option (Int32 × ZMem) :=
  some (v26, M27)
def zf_X10_wereRule_j26 (M : ZMem) : Option (Int32 × ZMem) :=
  (zf_X10_wereRule_j27 (-1 : Int32) M)
def zf_X10_wereRule (n : Nat) (a1 : Int32) (a2 : Int32) (M : ZMem) : Option (Int32 × ZMem) :=
  zb1 (zf_X10_isMember a2 M) (fun v25 => (if v25 = 0 then (zf_X10_wereRule_j26 M) else zb1 (zf_X10_isIn a1 (0 : Int32) (2 : Int32)) (fun v28 => (if v28 = 0 then (zf_X10_wereRule_j26 M) else zb2 (zf_X10_paidBy n a1 a2 M) (fun v29 M30 => (zf_X10_wereRule_j27 v29 M30))))))
set_option maxHeartbeats 4000000 in
set_option maxRecDepth 100000 in
theorem zc_X10_wereRule {l : Launch} {D : va_G} {ad : Nat → Nat} {cA : Nat → ClassId} {n : Nat} {a1 : Int32} {a2 : Int32} {M : ZMem} {r : Int32} {M' : ZMem} (hf : zf_X10_wereRule n a1 a2 M = some (r, M')) : ZCt l D ad cA yX10_wereRule cX10_wereRule 3 (some .int) 8 [.ref (ad 77), .int a1, .int a2] M (some (.int r)) M' := by
  refine zct (by decide +kernel) (Nat.le_of_ble_eq_true rfl) (lv := [(0, .ref (ad 77)), (1, .int a1), (2, .int a2)]) rfl (fun E hl hD had hcA hN hC hR => ?_)
  subst hl; subst hD; subst had; subst hcA
  unfold zf_X10_wereRule at hf
  refine zw_aload_n hC dX10_wereRule_0 rfl 0 rfl ?_
  refine zw_iload_n hC dX10_wereRule_1 rfl 2 rfl ?_
  obtain ⟨v25, hc25, hf⟩ := zb1_some hf
  refine zw_cV hC [.int a2] [] (st1 := [.int v25]) zm_X10_isMember (zc_X10_isMember hc25) zk_77 rfl kw_7_5 dX10_wereRule_2 rfl (by decide) (Nat.le_of_ble_eq_true rfl) rfl rfl ?_
  have hj27 : ∀ (v26 : Int32), ∀ (M27 : ZMem), zf_X10_wereRule_j27 v26 M27 = some (r, M') → ZW E 27 [] [.int v26] M27 := by
    intro v26 M27 hf
    unfold zf_X10_wereRule_j27 at hf
    obtain ⟨h1, h2⟩ := Prod.mk.inj (Option.some.inj hf)
    subst h1; subst h2
    exact zw_iret hC hR dX10_wereRule_27
  have hj26 : zf_X10_wereRule_j26 M = some (r, M') → ZW E 26 [] [] M := by
    intro  hf
    unfold zf_X10_wereRule_j26 at hf
    refine zw_iconst hC (v := (-1 : Int32)) dX10_wereRule_26 (by decide) ?_
    exact hj27 (-1 : Int32) M hf
  refine zw_if_eq hC 26 hf dX10_wereRule_5 (by decide) (fun hf => ?_) (fun hf => ?_)
  · exact zw_sub [] rfl (hj26 hf)
  · refine zw_iload_n hC dX10_wereRule_8 rfl 1 rfl ?_
    refine zw_iconst hC (v := (0 : Int32)) dX10_wereRule_9 (by decide) ?_
    refine zw_iconst hC (v := (2 : Int32)) dX10_wereRule_10 (by decide) ?_
    obtain ⟨v28, hc28, hf⟩ := zb1_some hf
    refine zw_cS hC [.int a1, .int (0 : Int32), .int (2 : Int32)] [] (st1 := [.int v28]) zm_X10_isIn (zc_X10_isIn hc28) kw_6_106 dX10_wereRule_11 rfl (by decide) (Nat.le_of_ble_eq_true rfl) rfl rfl ?_
    refine zw_if_eq hC 26 hf dX10_wereRule_14 (by decide) (fun hf => ?_) (fun hf => ?_)
    · exact zw_sub [] rfl (hj26 hf)
    · refine zw_aload_n hC dX10_wereRule_17 rfl 0 rfl ?_
      refine zw_iload_n hC dX10_wereRule_18 rfl 1 rfl ?_
      refine zw_iload_n hC dX10_wereRule_19 rfl 2 rfl ?_
      obtain ⟨v29, M30, hcM30, hf⟩ := zb2_some hf
      refine zw_cV hC [.int a1, .int a2] [] (st1 := [.int v29]) zm_X10_paidBy (zc_X10_paidBy hcM30) zk_77 rfl kw_8_15 dX10_wereRule_20 rfl (by decide) (Nat.le_of_ble_eq_true rfl) rfl rfl ?_
      refine zw_goto hC 27 dX10_wereRule_23 (by decide) ?_
      exact zw_sub [] rfl (hj27 v29 M30 hf)
/-! ClassOfManyModel.ruleFor(I)I -/
theorem dX10_ruleFor_0 : decode cX10_ruleFor 0 = .ok (.aload_n 0, 1) := by decide +kernel
theorem dX10_ruleFor_1 : decode cX10_ruleFor 1 = .ok (.iload_n 1, 1) := by decide +kernel
theorem dX10_ruleFor_2 : decode cX10_ruleFor 2 = .ok (.invokevirtual 296, 3) := by decide +kernel
theorem dX10_ruleFor_5 : decode cX10_ruleFor 5 = .ok (.ifCond .ne 5, 3) := by decide +kernel
theorem dX10_ruleFor_8 : decode cX10_ruleFor 8 = .ok (.iconst (-1), 1) := by decide +kernel
theorem dX10_ruleFor_9 : decode cX10_ruleFor 9 = .ok (.ireturn, 1) := by decide +kernel
theorem dX10_ruleFor_10 : decode cX10_ruleFor 10 = .ok (.iconst 0, 1) := by decide +kernel
theorem dX10_ruleFor_11 : decode cX10_ruleFor 11 = .ok (.istore_n 2, 1) := by decide +kernel
theorem dX10_ruleFor_12 : decode cX10_ruleFor 12 = .ok (.aload_n 0, 1) := by decide +kernel
theorem dX10_ruleFor_13 : decode cX10_ruleFor 13 = .ok (.iconst 0, 1) := by decide +kernel
theorem dX10_ruleFor_14 : decode cX10_ruleFor 14 = .ok (.iload_n 1, 1) := by decide +kernel
theorem dX10_ruleFor_15 : decode cX10_ruleFor 15 = .ok (.invokevirtual 332, 3) := by decide +kernel
theorem dX10_ruleFor_18 : decode cX10_ruleFor 18 = .ok (.istore_n 3, 1) := by decide +kernel
theorem dX10_ruleFor_19 : decode cX10_ruleFor 19 = .ok (.iconst 1, 1) := by decide +kernel
theorem dX10_ruleFor_20 : decode cX10_ruleFor 20 = .ok (.istore 4, 2) := by decide +kernel
theorem dX10_ruleFor_22 : decode cX10_ruleFor 22 = .ok (.iload 4, 2) := by decide +kernel
theorem dX10_ruleFor_24 : decode cX10_ruleFor 24 = .ok (.iconst 3, 1) := by decide +kernel
theorem dX10_ruleFor_25 : decode cX10_ruleFor 25 = .ok (.if_icmp .ge 44, 3) := by decide +kernel
theorem dX10_ruleFor_28 : decode cX10_ruleFor 28 = .ok (.aload_n 0, 1) := by decide +kernel
theorem dX10_ruleFor_29 : decode cX10_ruleFor 29 = .ok (.iload 4, 2) := by decide +kernel
theorem dX10_ruleFor_31 : decode cX10_ruleFor 31 = .ok (.iload_n 1, 1) := by decide +kernel
theorem dX10_ruleFor_32 : decode cX10_ruleFor 32 = .ok (.invokevirtual 332, 3) := by decide +kernel
theorem dX10_ruleFor_35 : decode cX10_ruleFor 35 = .ok (.istore 5, 2) := by decide +kernel
theorem dX10_ruleFor_37 : decode cX10_ruleFor 37 = .ok (.iload 5, 2) := by decide +kernel
theorem dX10_ruleFor_39 : decode cX10_ruleFor 39 = .ok (.iload_n 3, 1) := by decide +kernel
theorem dX10_ruleFor_40 : decode cX10_ruleFor 40 = .ok (.if_icmp .le 8, 3) := by decide +kernel
theorem dX10_ruleFor_43 : decode cX10_ruleFor 43 = .ok (.iload 4, 2) := by decide +kernel
theorem dX10_ruleFor_45 : decode cX10_ruleFor 45 = .ok (.goto 4, 3) := by decide +kernel
theorem dX10_ruleFor_48 : decode cX10_ruleFor 48 = .ok (.iload_n 2, 1) := by decide +kernel
theorem dX10_ruleFor_49 : decode cX10_ruleFor 49 = .ok (.istore_n 2, 1) := by decide +kernel
theorem dX10_ruleFor_50 : decode cX10_ruleFor 50 = .ok (.iload 5, 2) := by decide +kernel
theorem dX10_ruleFor_52 : decode cX10_ruleFor 52 = .ok (.iload_n 3, 1) := by decide +kernel
theorem dX10_ruleFor_53 : decode cX10_ruleFor 53 = .ok (.if_icmp .le 8, 3) := by decide +kernel
theorem dX10_ruleFor_56 : decode cX10_ruleFor 56 = .ok (.iload 5, 2) := by decide +kernel
theorem dX10_ruleFor_58 : decode cX10_ruleFor 58 = .ok (.goto 4, 3) := by decide +kernel
theorem dX10_ruleFor_61 : decode cX10_ruleFor 61 = .ok (.iload_n 3, 1) := by decide +kernel
theorem dX10_ruleFor_62 : decode cX10_ruleFor 62 = .ok (.istore_n 3, 1) := by decide +kernel
theorem dX10_ruleFor_63 : decode cX10_ruleFor 63 = .ok (.iinc 4 1, 3) := by decide +kernel
theorem dX10_ruleFor_66 : decode cX10_ruleFor 66 = .ok (.goto (-44), 3) := by decide +kernel
theorem dX10_ruleFor_69 : decode cX10_ruleFor 69 = .ok (.iload_n 2, 1) := by decide +kernel
theorem dX10_ruleFor_70 : decode cX10_ruleFor 70 = .ok (.ireturn, 1) := by decide +kernel
theorem zm_X10_ruleFor : ZMv "ClassOfManyModel" yX10_ruleFor cX10_ruleFor 6 (some .int) 1 := ⟨kw_8_22, kw_8_20, kw_8_21, kw_1_10, by decide +kernel, by decide⟩
def zf_X10_ruleFor_j62 (R22 : Int32 → Int32 → Int32 → ZMem → Option (Int32 × ZMem)) (v37 : Int32) (v31 : Int32) (M36 : ZMem) (v38 : Int32) : Option (Int32 × ZMem) :=
  (R22 v37 v38 (v31 + (1 : Int32)) M36)
def zf_X10_ruleFor_j49 (v35 : Int32) (v30 : Int32) (R22 : Int32 → Int32 → Int32 → ZMem → Option (Int32 × ZMem)) (v31 : Int32) (M36 : ZMem) (v37 : Int32) : Option (Int32 × ZMem) :=
  (if v35 ≤ v30 then (zf_X10_ruleFor_j62 R22 v37 v31 M36 v30) else (zf_X10_ruleFor_j62 R22 v37 v31 M36 v35))
def zf_X10_ruleFor_L22 (n : Nat) (a1 : Int32) (K69 : Int32 → ZMem → Option (Int32 × ZMem)) : Nat → Int32 → Int32 → Int32 → ZMem → Option (Int32 × ZMem)
  | 0, _, _, _, _ => none
  | n22 + 1, v29, v30, v31, M32 =>
  (if (3 : Int32) ≤ v31 then (K69 v29 M32) else zb2 (zf_X10_paidBy n v31 a1 M32) (fun v35 M36 => (if v35 ≤ v30 then (zf_X10_ruleFor_j49 v35 v30 (fun x0 x1 x2 x3 => zf_X10_ruleFor_L22 n a1 K69 n22 x0 x1 x2 x3) v31 M36 v29) else (zf_X10_ruleFor_j49 v35 v30 (fun x0 x1 x2 x3 => zf_X10_ruleFor_L22 n a1 K69 n22 x0 x1 x2 x3) v31 M36 v31))))
def zf_X10_ruleFor (n : Nat) (a1 : Int32) (M : ZMem) : Option (Int32 × ZMem) :=
  zb1 (zf_X10_isMember a1 M) (fun v26 => (if v26 = 0 then some ((-1 : Int32), M) else zb2 (zf_X10_paidBy n (0 : Int32) a1 M) (fun v27 M28 => (zf_X10_ruleFor_L22 n a1 (fun v39 M40 => some (v39, M40)) n (0 : Int32) v27 (1 : Int32) M28))))
set_option maxHeartbeats 4000000 in
set_option maxRecDepth 100000 in
theorem zc_X10_ruleFor {l : Launch} {D : va_G} {ad : Nat → Nat} {cA : Nat → ClassId} {n : Nat} {a1 : Int32} {M : ZMem} {r : Int32} {M' : ZMem} (hf : zf_X10_ruleFor n a1 M = some (r, M')) : ZCt l D ad cA yX10_ruleFor cX10_ruleFor 6 (some .int) 8 [.ref (ad 77), .int a1] M (some (.int r)) M' := by
  refine zct (by decide +kernel) (Nat.le_of_ble_eq_true rfl) (lv := [(0, .ref (ad 77)), (1, .int a1)]) rfl (fun E hl hD had hcA hN hC hR => ?_)
  subst hl; subst hD; subst had; subst hcA
  unfold zf_X10_ruleFor at hf
  refine zw_aload_n hC dX10_ruleFor_0 rfl 0 rfl ?_
  refine zw_iload_n hC dX10_ruleFor_1 rfl 1 rfl ?_
  obtain ⟨v26, hc26, hf⟩ := zb1_some hf
  refine zw_cV hC [.int a1] [] (st1 := [.int v26]) zm_X10_isMember (zc_X10_isMember hc26) zk_77 rfl kw_7_5 dX10_ruleFor_2 rfl (by decide) (Nat.le_of_ble_eq_true rfl) rfl rfl ?_
  refine zw_if_ne hC 10 hf dX10_ruleFor_5 (by decide) (fun hf => ?_) (fun hf => ?_)
  · refine zw_iconst hC (v := (0 : Int32)) dX10_ruleFor_10 (by decide) ?_
    refine zw_istore_n hC (lv' := [(2, .int (0 : Int32)), (0, .ref (zad E 77)), (1, .int a1)]) dX10_ruleFor_11 rfl hN (by decide) rfl ?_
    refine zw_aload_n hC dX10_ruleFor_12 rfl 1 rfl ?_
    refine zw_iconst hC (v := (0 : Int32)) dX10_ruleFor_13 (by decide) ?_
    refine zw_iload_n hC dX10_ruleFor_14 rfl 2 rfl ?_
    obtain ⟨v27, M28, hcM28, hf⟩ := zb2_some hf
    refine zw_cV hC [.int (0 : Int32), .int a1] [] (st1 := [.int v27]) zm_X10_paidBy (zc_X10_paidBy hcM28) zk_77 rfl kw_8_15 dX10_ruleFor_15 rfl (by decide) (Nat.le_of_ble_eq_true rfl) rfl rfl ?_
    refine zw_istore_n hC (lv' := [(3, .int v27), (2, .int (0 : Int32)), (0, .ref (zad E 77)), (1, .int a1)]) dX10_ruleFor_18 rfl hN (by decide) rfl ?_
    refine zw_iconst hC (v := (1 : Int32)) dX10_ruleFor_19 (by decide) ?_
    refine zw_istore hC (lv' := [(4, .int (1 : Int32)), (3, .int v27), (2, .int (0 : Int32)), (0, .ref (zad E 77)), (1, .int a1)]) dX10_ruleFor_20 hN (by decide) rfl ?_
    have hL22 : ∀ (K69 : Int32 → ZMem → Option (Int32 × ZMem)), (∀ (v33 : Int32), ∀ (M34 : ZMem), K69 v33 M34 = some (r, M') → ZW E 69 [(2, .int v33)] [] M34) → ∀ (n22 : Nat), ∀ (v29 : Int32), ∀ (v30 : Int32), ∀ (v31 : Int32), ∀ (M32 : ZMem), zf_X10_ruleFor_L22 n a1 K69 n22 v29 v30 v31 M32 = some (r, M') → ZW E 22 [(0, .ref (zad E 77)), (1, .int a1), (2, .int v29), (3, .int v30), (4, .int v31)] [] M32 := by
      intro K69 hK69
      intro n22
      induction n22 with
      | zero => intro v29 v30 v31 M32 hf; rw [zf_X10_ruleFor_L22] at hf; cases hf
      | succ n22 ih22 =>
        intro v29 v30 v31 M32 hf
        rw [zf_X10_ruleFor_L22] at hf
        refine zw_iload hC dX10_ruleFor_22 4 rfl ?_
        refine zw_iconst hC (v := (3 : Int32)) dX10_ruleFor_24 (by decide) ?_
        refine zw_icmp_ge hC 69 hf dX10_ruleFor_25 (by decide) (fun hf => ?_) (fun hf => ?_)
        · exact zw_sub [2] rfl (hK69 v29 M32 hf)
        · refine zw_aload_n hC dX10_ruleFor_28 rfl 0 rfl ?_
          refine zw_iload hC dX10_ruleFor_29 4 rfl ?_
          refine zw_iload_n hC dX10_ruleFor_31 rfl 1 rfl ?_
          obtain ⟨v35, M36, hcM36, hf⟩ := zb2_some hf
          refine zw_cV hC [.int v31, .int a1] [] (st1 := [.int v35]) zm_X10_paidBy (zc_X10_paidBy hcM36) zk_77 rfl kw_8_15 dX10_ruleFor_32 rfl (by decide) (Nat.le_of_ble_eq_true rfl) rfl rfl ?_
          refine zw_istore hC (lv' := [(5, .int v35), (0, .ref (zad E 77)), (1, .int a1), (2, .int v29), (3, .int v30), (4, .int v31)]) dX10_ruleFor_35 hN (by decide) rfl ?_
          refine zw_iload hC dX10_ruleFor_37 0 rfl ?_
          refine zw_iload_n hC dX10_ruleFor_39 rfl 4 rfl ?_
          have hj49 : ∀ (v37 : Int32), zf_X10_ruleFor_j49 v35 v30 (fun x0 x1 x2 x3 => zf_X10_ruleFor_L22 n a1 K69 n22 x0 x1 x2 x3) v31 M36 v37 = some (r, M') → ZW E 49 [(0, .ref (zad E 77)), (1, .int a1), (3, .int v30), (4, .int v31), (5, .int v35)] [.int v37] M36 := by
            intro v37 hf
            unfold zf_X10_ruleFor_j49 at hf
            refine zw_istore_n hC (lv' := [(2, .int v37), (0, .ref (zad E 77)), (1, .int a1), (3, .int v30), (4, .int v31), (5, .int v35)]) dX10_ruleFor_49 rfl hN (by decide) rfl ?_
            refine zw_iload hC dX10_ruleFor_50 5 rfl ?_
            refine zw_iload_n hC dX10_ruleFor_52 rfl 3 rfl ?_
            have hj62 : ∀ (v38 : Int32), zf_X10_ruleFor_j62 (fun x0 x1 x2 x3 => zf_X10_ruleFor_L22 n a1 K69 n22 x0 x1 x2 x3) v37 v31 M36 v38 = some (r, M') → ZW E 62 [(0, .ref (zad E 77)), (1, .int a1), (2, .int v37), (4, .int v31)] [.int v38] M36 := by
              intro v38 hf
              unfold zf_X10_ruleFor_j62 at hf
              refine zw_istore_n hC (lv' := [(3, .int v38), (0, .ref (zad E 77)), (1, .int a1), (2, .int v37), (4, .int v31)]) dX10_ruleFor_62 rfl hN (by decide) rfl ?_
              refine zw_iinc hC (v := (1 : Int32)) (lv' := [(4, .int (v31 + (1 : Int32))), (3, .int v38), (0, .ref (zad E 77)), (1, .int a1), (2, .int v37)]) dX10_ruleFor_63 4 rfl (by decide) hN (by decide) rfl ?_
              refine zw_goto hC 22 dX10_ruleFor_66 (by decide) ?_
              exact zw_sub [2, 3, 4, 1, 0] rfl (ih22 v37 v38 (v31 + (1 : Int32)) M36 hf)
            refine zw_icmp_le hC 61 hf dX10_ruleFor_53 (by decide) (fun hf => ?_) (fun hf => ?_)
            · refine zw_iload_n hC dX10_ruleFor_61 rfl 3 rfl ?_
              exact zw_sub [1, 2, 0, 4] rfl (hj62 v30 hf)
            · refine zw_iload hC dX10_ruleFor_56 5 rfl ?_
              refine zw_goto hC 62 dX10_ruleFor_58 (by decide) ?_
              exact zw_sub [1, 2, 0, 4] rfl (hj62 v35 hf)
          refine zw_icmp_le hC 48 hf dX10_ruleFor_40 (by decide) (fun hf => ?_) (fun hf => ?_)
          · refine zw_iload_n hC dX10_ruleFor_48 rfl 3 rfl ?_
            exact zw_sub [1, 2, 4, 5, 0] rfl (hj49 v29 hf)
          · refine zw_iload hC dX10_ruleFor_43 5 rfl ?_
            refine zw_goto hC 49 dX10_ruleFor_45 (by decide) ?_
            exact zw_sub [1, 2, 4, 5, 0] rfl (hj49 v31 hf)
    refine zw_sub [3, 4, 2, 1, 0] rfl (hL22 _ ?_ n (0 : Int32) v27 (1 : Int32) M28 hf)
    · intro v39 M40 hf
      refine zw_iload_n hC dX10_ruleFor_69 rfl 0 rfl ?_
      obtain ⟨h1, h2⟩ := Prod.mk.inj (Option.some.inj hf)
      subst h1; subst h2
      exact zw_iret hC hR dX10_ruleFor_70
  · refine zw_iconst hC (v := (-1 : Int32)) dX10_ruleFor_8 (by decide) ?_
    obtain ⟨h1, h2⟩ := Prod.mk.inj (Option.some.inj hf)
    subst h1; subst h2
    exact zw_iret hC hR dX10_ruleFor_9
/-! ClassOfManyModel.leaver(I)I -/
theorem dX10_leaver_0 : decode cX10_leaver 0 = .ok (.aload_n 0, 1) := by decide +kernel
theorem dX10_leaver_1 : decode cX10_leaver 1 = .ok (.iload_n 1, 1) := by decide +kernel
theorem dX10_leaver_2 : decode cX10_leaver 2 = .ok (.invokevirtual 296, 3) := by decide +kernel
theorem dX10_leaver_5 : decode cX10_leaver 5 = .ok (.ifCond .ne 5, 3) := by decide +kernel
theorem dX10_leaver_8 : decode cX10_leaver 8 = .ok (.iconst (-1), 1) := by decide +kernel
theorem dX10_leaver_9 : decode cX10_leaver 9 = .ok (.ireturn, 1) := by decide +kernel
theorem dX10_leaver_10 : decode cX10_leaver 10 = .ok (.aload_n 0, 1) := by decide +kernel
theorem dX10_leaver_11 : decode cX10_leaver 11 = .ok (.invokevirtual 321, 3) := by decide +kernel
theorem dX10_leaver_14 : decode cX10_leaver 14 = .ok (.aload_n 0, 1) := by decide +kernel
theorem dX10_leaver_15 : decode cX10_leaver 15 = .ok (.getfield 34, 3) := by decide +kernel
theorem dX10_leaver_18 : decode cX10_leaver 18 = .ok (.iload_n 1, 1) := by decide +kernel
theorem dX10_leaver_19 : decode cX10_leaver 19 = .ok (.iaload, 1) := by decide +kernel
theorem dX10_leaver_20 : decode cX10_leaver 20 = .ok (.istore_n 2, 1) := by decide +kernel
theorem dX10_leaver_21 : decode cX10_leaver 21 = .ok (.bipush (-2), 2) := by decide +kernel
theorem dX10_leaver_23 : decode cX10_leaver 23 = .ok (.istore_n 3, 1) := by decide +kernel
theorem dX10_leaver_24 : decode cX10_leaver 24 = .ok (.iconst 0, 1) := by decide +kernel
theorem dX10_leaver_25 : decode cX10_leaver 25 = .ok (.istore 4, 2) := by decide +kernel
theorem dX10_leaver_27 : decode cX10_leaver 27 = .ok (.iload 4, 2) := by decide +kernel
theorem dX10_leaver_29 : decode cX10_leaver 29 = .ok (.aload_n 0, 1) := by decide +kernel
theorem dX10_leaver_30 : decode cX10_leaver 30 = .ok (.getfield 7, 3) := by decide +kernel
theorem dX10_leaver_33 : decode cX10_leaver 33 = .ok (.iconst 0, 1) := by decide +kernel
theorem dX10_leaver_34 : decode cX10_leaver 34 = .ok (.iaload, 1) := by decide +kernel
theorem dX10_leaver_35 : decode cX10_leaver 35 = .ok (.if_icmp .ge 79, 3) := by decide +kernel
theorem dX10_leaver_38 : decode cX10_leaver 38 = .ok (.iload 4, 2) := by decide +kernel
theorem dX10_leaver_40 : decode cX10_leaver 40 = .ok (.iload_n 1, 1) := by decide +kernel
theorem dX10_leaver_41 : decode cX10_leaver 41 = .ok (.if_icmp .eq 67, 3) := by decide +kernel
theorem dX10_leaver_44 : decode cX10_leaver 44 = .ok (.aload_n 0, 1) := by decide +kernel
theorem dX10_leaver_45 : decode cX10_leaver 45 = .ok (.getfield 7, 3) := by decide +kernel
theorem dX10_leaver_48 : decode cX10_leaver 48 = .ok (.bipush 12, 2) := by decide +kernel
theorem dX10_leaver_50 : decode cX10_leaver 50 = .ok (.iaload, 1) := by decide +kernel
theorem dX10_leaver_51 : decode cX10_leaver 51 = .ok (.iload 4, 2) := by decide +kernel
theorem dX10_leaver_53 : decode cX10_leaver 53 = .ok (.invokestatic 118, 3) := by decide +kernel
theorem dX10_leaver_56 : decode cX10_leaver 56 = .ok (.ifCond .eq 6, 3) := by decide +kernel
theorem dX10_leaver_59 : decode cX10_leaver 59 = .ok (.goto 49, 3) := by decide +kernel
theorem dX10_leaver_62 : decode cX10_leaver 62 = .ok (.aload_n 0, 1) := by decide +kernel
theorem dX10_leaver_63 : decode cX10_leaver 63 = .ok (.iconst 1, 1) := by decide +kernel
theorem dX10_leaver_64 : decode cX10_leaver 64 = .ok (.iload 4, 2) := by decide +kernel
theorem dX10_leaver_66 : decode cX10_leaver 66 = .ok (.ishl, 1) := by decide +kernel
theorem dX10_leaver_67 : decode cX10_leaver 67 = .ok (.invokevirtual 329, 3) := by decide +kernel
theorem dX10_leaver_70 : decode cX10_leaver 70 = .ok (.aload_n 0, 1) := by decide +kernel
theorem dX10_leaver_71 : decode cX10_leaver 71 = .ok (.getfield 34, 3) := by decide +kernel
theorem dX10_leaver_74 : decode cX10_leaver 74 = .ok (.iload_n 1, 1) := by decide +kernel
theorem dX10_leaver_75 : decode cX10_leaver 75 = .ok (.iaload, 1) := by decide +kernel
theorem dX10_leaver_76 : decode cX10_leaver 76 = .ok (.iload_n 2, 1) := by decide +kernel
theorem dX10_leaver_77 : decode cX10_leaver 77 = .ok (.if_icmp .le 8, 3) := by decide +kernel
theorem dX10_leaver_80 : decode cX10_leaver 80 = .ok (.iload 4, 2) := by decide +kernel
theorem dX10_leaver_82 : decode cX10_leaver 82 = .ok (.goto 4, 3) := by decide +kernel
theorem dX10_leaver_85 : decode cX10_leaver 85 = .ok (.iload_n 3, 1) := by decide +kernel
theorem dX10_leaver_86 : decode cX10_leaver 86 = .ok (.istore_n 3, 1) := by decide +kernel
theorem dX10_leaver_87 : decode cX10_leaver 87 = .ok (.aload_n 0, 1) := by decide +kernel
theorem dX10_leaver_88 : decode cX10_leaver 88 = .ok (.getfield 34, 3) := by decide +kernel
theorem dX10_leaver_91 : decode cX10_leaver 91 = .ok (.iload_n 1, 1) := by decide +kernel
theorem dX10_leaver_92 : decode cX10_leaver 92 = .ok (.iaload, 1) := by decide +kernel
theorem dX10_leaver_93 : decode cX10_leaver 93 = .ok (.iload_n 2, 1) := by decide +kernel
theorem dX10_leaver_94 : decode cX10_leaver 94 = .ok (.if_icmp .le 12, 3) := by decide +kernel
theorem dX10_leaver_97 : decode cX10_leaver 97 = .ok (.aload_n 0, 1) := by decide +kernel
theorem dX10_leaver_98 : decode cX10_leaver 98 = .ok (.getfield 34, 3) := by decide +kernel
theorem dX10_leaver_101 : decode cX10_leaver 101 = .ok (.iload_n 1, 1) := by decide +kernel
theorem dX10_leaver_102 : decode cX10_leaver 102 = .ok (.iaload, 1) := by decide +kernel
theorem dX10_leaver_103 : decode cX10_leaver 103 = .ok (.goto 4, 3) := by decide +kernel
theorem dX10_leaver_106 : decode cX10_leaver 106 = .ok (.iload_n 2, 1) := by decide +kernel
theorem dX10_leaver_107 : decode cX10_leaver 107 = .ok (.istore_n 2, 1) := by decide +kernel
theorem dX10_leaver_108 : decode cX10_leaver 108 = .ok (.iinc 4 1, 3) := by decide +kernel
theorem dX10_leaver_111 : decode cX10_leaver 111 = .ok (.goto (-84), 3) := by decide +kernel
theorem dX10_leaver_114 : decode cX10_leaver 114 = .ok (.iload_n 3, 1) := by decide +kernel
theorem dX10_leaver_115 : decode cX10_leaver 115 = .ok (.ireturn, 1) := by decide +kernel
theorem zm_X10_leaver : ZMv "ClassOfManyModel" yX10_leaver cX10_leaver 5 (some .int) 1 := ⟨kw_8_26, kw_8_24, kw_8_25, kw_1_10, by decide +kernel, by decide⟩
def zf_X10_leaver_j108 (R27 : Int32 → Int32 → Int32 → ZMem → Option (Int32 × ZMem)) (v36 : Int32) (v41 : Int32) (v42 : Int32) (M43 : ZMem) : Option (Int32 × ZMem) :=
  (R27 v41 v42 (v36 + (1 : Int32)) M43)
def zf_X10_leaver_j107 (R27 : Int32 → Int32 → Int32 → ZMem → Option (Int32 × ZMem)) (v36 : Int32) (v48 : Int32) (M46 : ZMem) (v50 : Int32) : Option (Int32 × ZMem) :=
  (zf_X10_leaver_j108 R27 v36 v50 v48 M46)
def zf_X10_leaver_j86 (M46 : ZMem) (a1 : Int32) (v34 : Int32) (R27 : Int32 → Int32 → Int32 → ZMem → Option (Int32 × ZMem)) (v36 : Int32) (v48 : Int32) : Option (Int32 × ZMem) :=
  zrd M46 86 10 a1 (fun v49 => (if v49 ≤ v34 then (zf_X10_leaver_j107 R27 v36 v48 M46 v34) else zrd M46 86 10 a1 (fun v51 => (zf_X10_leaver_j107 R27 v36 v48 M46 v51))))
def zf_X10_leaver_L27 (a1 : Int32) (n : Nat) (K114 : Int32 → ZMem → Option (Int32 × ZMem)) : Nat → Int32 → Int32 → Int32 → ZMem → Option (Int32 × ZMem)
  | 0, _, _, _, _ => none
  | n27 + 1, v34, v35, v36, M37 =>
  zrd M37 78 73 (0 : Int32) (fun v40 => (if v40 ≤ v36 then (K114 v35 M37) else (if v36 = a1 then (zf_X10_leaver_j108 (fun x0 x1 x2 x3 => zf_X10_leaver_L27 a1 n K114 n27 x0 x1 x2 x3) v36 v34 v35 M37) else zrd M37 78 73 (12 : Int32) (fun v44 => zb1 (zf_X10_has v44 v36) (fun v45 => (if v45 = 0 then zb1 (zf_X10_paysWithout n ((1 : Int32) <<< (v36 &&& 31)) M37) (fun M46 => zrd M46 86 10 a1 (fun v47 => (if v47 ≤ v34 then (zf_X10_leaver_j86 M46 a1 v34 (fun x0 x1 x2 x3 => zf_X10_leaver_L27 a1 n K114 n27 x0 x1 x2 x3) v36 v35) else (zf_X10_leaver_j86 M46 a1 v34 (fun x0 x1 x2 x3 => zf_X10_leaver_L27 a1 n K114 n27 x0 x1 x2 x3) v36 v36)))) else (zf_X10_leaver_j108 (fun x0 x1 x2 x3 => zf_X10_leaver_L27 a1 n K114 n27 x0 x1 x2 x3) v36 v34 v35 M37)))))))
def zf_X10_leaver (n : Nat) (a1 : Int32) (M : ZMem) : Option (Int32 × ZMem) :=
  zb1 (zf_X10_isMember a1 M) (fun v31 => (if v31 = 0 then some ((-1 : Int32), M) else zb1 (zf_X10_paysNow n M) (fun M32 => zrd M32 86 10 a1 (fun v33 => (zf_X10_leaver_L27 a1 n (fun v52 M53 => some (v52, M53)) n v33 (-2 : Int32) (0 : Int32) M32)))))
set_option maxHeartbeats 4000000 in
set_option maxRecDepth 100000 in
theorem zc_X10_leaver {l : Launch} {D : va_G} {ad : Nat → Nat} {cA : Nat → ClassId} {n : Nat} {a1 : Int32} {M : ZMem} {r : Int32} {M' : ZMem} (hf : zf_X10_leaver n a1 M = some (r, M')) : ZCt l D ad cA yX10_leaver cX10_leaver 5 (some .int) 8 [.ref (ad 77), .int a1] M (some (.int r)) M' := by
  refine zct (by decide +kernel) (Nat.le_of_ble_eq_true rfl) (lv := [(0, .ref (ad 77)), (1, .int a1)]) rfl (fun E hl hD had hcA hN hC hR => ?_)
  subst hl; subst hD; subst had; subst hcA
  unfold zf_X10_leaver at hf
  refine zw_aload_n hC dX10_leaver_0 rfl 0 rfl ?_
  refine zw_iload_n hC dX10_leaver_1 rfl 1 rfl ?_
  obtain ⟨v31, hc31, hf⟩ := zb1_some hf
  refine zw_cV hC [.int a1] [] (st1 := [.int v31]) zm_X10_isMember (zc_X10_isMember hc31) zk_77 rfl kw_7_5 dX10_leaver_2 rfl (by decide) (Nat.le_of_ble_eq_true rfl) rfl rfl ?_
  refine zw_if_ne hC 10 hf dX10_leaver_5 (by decide) (fun hf => ?_) (fun hf => ?_)
  · refine zw_aload_n hC dX10_leaver_10 rfl 0 rfl ?_
    obtain ⟨M32, hcM32, hf⟩ := zb1_some hf
    refine zw_cV hC [] [] (st1 := []) zm_X10_paysNow (zc_X10_paysNow hcM32) zk_77 rfl kw_7_178 dX10_leaver_11 rfl (by decide) (Nat.le_of_ble_eq_true rfl) rfl rfl ?_
    refine zw_aload_n hC dX10_leaver_14 rfl 0 rfl ?_
    refine zw_getr (k' := 86) hC zF_Model_paid zk_77 rfl dX10_leaver_15 kw_6_12 ?_
    refine zw_iload_n hC dX10_leaver_18 rfl 1 rfl ?_
    refine zw_iald hC hf zk_86 dX10_leaver_19 (fun v33 hf => ?_)
    refine zw_istore_n hC (lv' := [(2, .int v33), (0, .ref (zad E 77)), (1, .int a1)]) dX10_leaver_20 rfl hN (by decide) rfl ?_
    refine zw_bipush hC (v := (-2 : Int32)) dX10_leaver_21 (by decide) ?_
    refine zw_istore_n hC (lv' := [(3, .int (-2 : Int32)), (2, .int v33), (0, .ref (zad E 77)), (1, .int a1)]) dX10_leaver_23 rfl hN (by decide) rfl ?_
    refine zw_iconst hC (v := (0 : Int32)) dX10_leaver_24 (by decide) ?_
    refine zw_istore hC (lv' := [(4, .int (0 : Int32)), (3, .int (-2 : Int32)), (2, .int v33), (0, .ref (zad E 77)), (1, .int a1)]) dX10_leaver_25 hN (by decide) rfl ?_
    have hL27 : ∀ (K114 : Int32 → ZMem → Option (Int32 × ZMem)), (∀ (v38 : Int32), ∀ (M39 : ZMem), K114 v38 M39 = some (r, M') → ZW E 114 [(3, .int v38)] [] M39) → ∀ (n27 : Nat), ∀ (v34 : Int32), ∀ (v35 : Int32), ∀ (v36 : Int32), ∀ (M37 : ZMem), zf_X10_leaver_L27 a1 n K114 n27 v34 v35 v36 M37 = some (r, M') → ZW E 27 [(0, .ref (zad E 77)), (1, .int a1), (2, .int v34), (3, .int v35), (4, .int v36)] [] M37 := by
      intro K114 hK114
      intro n27
      induction n27 with
      | zero => intro v34 v35 v36 M37 hf; rw [zf_X10_leaver_L27] at hf; cases hf
      | succ n27 ih27 =>
        intro v34 v35 v36 M37 hf
        rw [zf_X10_leaver_L27] at hf
        refine zw_iload hC dX10_leaver_27 4 rfl ?_
        refine zw_aload_n hC dX10_leaver_29 rfl 0 rfl ?_
        refine zw_getr (k' := 78) hC zF_Model_now zk_77 rfl dX10_leaver_30 kw_5_227 ?_
        refine zw_iconst hC (v := (0 : Int32)) dX10_leaver_33 (by decide) ?_
        refine zw_iald hC hf zk_78 dX10_leaver_34 (fun v40 hf => ?_)
        refine zw_icmp_ge hC 114 hf dX10_leaver_35 (by decide) (fun hf => ?_) (fun hf => ?_)
        · exact zw_sub [3] rfl (hK114 v35 M37 hf)
        · refine zw_iload hC dX10_leaver_38 4 rfl ?_
          refine zw_iload_n hC dX10_leaver_40 rfl 1 rfl ?_
          have hj108 : ∀ (v41 : Int32), ∀ (v42 : Int32), ∀ (M43 : ZMem), zf_X10_leaver_j108 (fun x0 x1 x2 x3 => zf_X10_leaver_L27 a1 n K114 n27 x0 x1 x2 x3) v36 v41 v42 M43 = some (r, M') → ZW E 108 [(0, .ref (zad E 77)), (1, .int a1), (2, .int v41), (3, .int v42), (4, .int v36)] [] M43 := by
            intro v41 v42 M43 hf
            unfold zf_X10_leaver_j108 at hf
            refine zw_iinc hC (v := (1 : Int32)) (lv' := [(4, .int (v36 + (1 : Int32))), (0, .ref (zad E 77)), (1, .int a1), (2, .int v41), (3, .int v42)]) dX10_leaver_108 4 rfl (by decide) hN (by decide) rfl ?_
            refine zw_goto hC 27 dX10_leaver_111 (by decide) ?_
            exact zw_sub [1, 2, 3, 4, 0] rfl (ih27 v41 v42 (v36 + (1 : Int32)) M43 hf)
          refine zw_icmp_eq hC 108 hf dX10_leaver_41 (by decide) (fun hf => ?_) (fun hf => ?_)
          · exact hj108 v34 v35 M37 hf
          · refine zw_aload_n hC dX10_leaver_44 rfl 0 rfl ?_
            refine zw_getr (k' := 78) hC zF_Model_now zk_77 rfl dX10_leaver_45 kw_5_227 ?_
            refine zw_bipush hC (v := (12 : Int32)) dX10_leaver_48 (by decide) ?_
            refine zw_iald hC hf zk_78 dX10_leaver_50 (fun v44 hf => ?_)
            refine zw_iload hC dX10_leaver_51 4 rfl ?_
            obtain ⟨v45, hc45, hf⟩ := zb1_some hf
            refine zw_cS hC [.int v44, .int v36] [] (st1 := [.int v45]) zm_X10_has (zc_X10_has hc45) kw_6_150 dX10_leaver_53 rfl (by decide) (Nat.le_of_ble_eq_true rfl) rfl rfl ?_
            refine zw_if_eq hC 62 hf dX10_leaver_56 (by decide) (fun hf => ?_) (fun hf => ?_)
            · refine zw_aload_n hC dX10_leaver_62 rfl 0 rfl ?_
              refine zw_iconst hC (v := (1 : Int32)) dX10_leaver_63 (by decide) ?_
              refine zw_iload hC dX10_leaver_64 4 rfl ?_
              refine zw_ishl hC dX10_leaver_66 ?_
              obtain ⟨M46, hcM46, hf⟩ := zb1_some hf
              refine zw_cV hC [.int ((1 : Int32) <<< (v36 &&& 31))] [] (st1 := []) zm_X10_paysWithout (zc_X10_paysWithout hcM46) zk_77 rfl kw_8_3 dX10_leaver_67 rfl (by decide) (Nat.le_of_ble_eq_true rfl) rfl rfl ?_
              refine zw_aload_n hC dX10_leaver_70 rfl 0 rfl ?_
              refine zw_getr (k' := 86) hC zF_Model_paid zk_77 rfl dX10_leaver_71 kw_6_12 ?_
              refine zw_iload_n hC dX10_leaver_74 rfl 1 rfl ?_
              refine zw_iald hC hf zk_86 dX10_leaver_75 (fun v47 hf => ?_)
              refine zw_iload_n hC dX10_leaver_76 rfl 2 rfl ?_
              have hj86 : ∀ (v48 : Int32), zf_X10_leaver_j86 M46 a1 v34 (fun x0 x1 x2 x3 => zf_X10_leaver_L27 a1 n K114 n27 x0 x1 x2 x3) v36 v48 = some (r, M') → ZW E 86 [(0, .ref (zad E 77)), (1, .int a1), (2, .int v34), (4, .int v36)] [.int v48] M46 := by
                intro v48 hf
                unfold zf_X10_leaver_j86 at hf
                refine zw_istore_n hC (lv' := [(3, .int v48), (0, .ref (zad E 77)), (1, .int a1), (2, .int v34), (4, .int v36)]) dX10_leaver_86 rfl hN (by decide) rfl ?_
                refine zw_aload_n hC dX10_leaver_87 rfl 1 rfl ?_
                refine zw_getr (k' := 86) hC zF_Model_paid zk_77 rfl dX10_leaver_88 kw_6_12 ?_
                refine zw_iload_n hC dX10_leaver_91 rfl 2 rfl ?_
                refine zw_iald hC hf zk_86 dX10_leaver_92 (fun v49 hf => ?_)
                refine zw_iload_n hC dX10_leaver_93 rfl 3 rfl ?_
                have hj107 : ∀ (v50 : Int32), zf_X10_leaver_j107 (fun x0 x1 x2 x3 => zf_X10_leaver_L27 a1 n K114 n27 x0 x1 x2 x3) v36 v48 M46 v50 = some (r, M') → ZW E 107 [(0, .ref (zad E 77)), (1, .int a1), (3, .int v48), (4, .int v36)] [.int v50] M46 := by
                  intro v50 hf
                  unfold zf_X10_leaver_j107 at hf
                  refine zw_istore_n hC (lv' := [(2, .int v50), (0, .ref (zad E 77)), (1, .int a1), (3, .int v48), (4, .int v36)]) dX10_leaver_107 rfl hN (by decide) rfl ?_
                  exact zw_sub [1, 2, 0, 3, 4] rfl (hj108 v50 v48 M46 hf)
                refine zw_icmp_le hC 106 hf dX10_leaver_94 (by decide) (fun hf => ?_) (fun hf => ?_)
                · refine zw_iload_n hC dX10_leaver_106 rfl 3 rfl ?_
                  exact zw_sub [1, 2, 0, 4] rfl (hj107 v34 hf)
                · refine zw_aload_n hC dX10_leaver_97 rfl 1 rfl ?_
                  refine zw_getr (k' := 86) hC zF_Model_paid zk_77 rfl dX10_leaver_98 kw_6_12 ?_
                  refine zw_iload_n hC dX10_leaver_101 rfl 2 rfl ?_
                  refine zw_iald hC hf zk_86 dX10_leaver_102 (fun v51 hf => ?_)
                  refine zw_goto hC 107 dX10_leaver_103 (by decide) ?_
                  exact zw_sub [1, 2, 0, 4] rfl (hj107 v51 hf)
              refine zw_icmp_le hC 85 hf dX10_leaver_77 (by decide) (fun hf => ?_) (fun hf => ?_)
              · refine zw_iload_n hC dX10_leaver_85 rfl 3 rfl ?_
                exact zw_sub [0, 1, 2, 4] rfl (hj86 v35 hf)
              · refine zw_iload hC dX10_leaver_80 4 rfl ?_
                refine zw_goto hC 86 dX10_leaver_82 (by decide) ?_
                exact zw_sub [0, 1, 2, 4] rfl (hj86 v36 hf)
            · refine zw_goto hC 108 dX10_leaver_59 (by decide) ?_
              exact hj108 v34 v35 M37 hf
    refine zw_sub [3, 4, 2, 1, 0] rfl (hL27 _ ?_ n v33 (-2 : Int32) (0 : Int32) M32 hf)
    · intro v52 M53 hf
      refine zw_iload_n hC dX10_leaver_114 rfl 0 rfl ?_
      obtain ⟨h1, h2⟩ := Prod.mk.inj (Option.some.inj hf)
      subst h1; subst h2
      exact zw_iret hC hR dX10_leaver_115
  · refine zw_iconst hC (v := (-1 : Int32)) dX10_leaver_8 (by decide) ?_
    obtain ⟨h1, h2⟩ := Prod.mk.inj (Option.some.inj hf)
    subst h1; subst h2
    exact zw_iret hC hR dX10_leaver_9
/-! ClassOfManyModel.isSet(I)Z -/
theorem dX10_isSet_0 : decode cX10_isSet 0 = .ok (.iload_n 1, 1) := by decide +kernel
theorem dX10_isSet_1 : decode cX10_isSet 1 = .ok (.iconst 0, 1) := by decide +kernel
theorem dX10_isSet_2 : decode cX10_isSet 2 = .ok (.aload_n 0, 1) := by decide +kernel
theorem dX10_isSet_3 : decode cX10_isSet 3 = .ok (.invokevirtual 223, 3) := by decide +kernel
theorem dX10_isSet_6 : decode cX10_isSet 6 = .ok (.invokestatic 65, 3) := by decide +kernel
theorem dX10_isSet_9 : decode cX10_isSet 9 = .ok (.ireturn, 1) := by decide +kernel
theorem zm_X10_isSet : ZMv "ClassOfManyModel" yX10_isSet cX10_isSet 2 (some .boolean) 1 := ⟨kw_8_34, kw_8_33, kp_111, kw_1_10, by decide +kernel, by decide⟩
def zf_X10_isSet (a1 : Int32) (M : ZMem) : Option (Int32) :=
  zb1 (zf_X10_all M) (fun v23 => zb1 (zf_X10_isIn a1 (0 : Int32) v23) (fun v24 => zbz v24 (some v24)))
set_option maxHeartbeats 4000000 in
set_option maxRecDepth 100000 in
theorem zc_X10_isSet {l : Launch} {D : va_G} {ad : Nat → Nat} {cA : Nat → ClassId} {a1 : Int32} {M : ZMem} {r : Int32} (hf : zf_X10_isSet a1 M = some r) : ZCt l D ad cA yX10_isSet cX10_isSet 2 (some .boolean) 2 [.ref (ad 77), .int a1] M (some (.int r)) M := by
  refine zct (by decide +kernel) (Nat.le_of_ble_eq_true rfl) (lv := [(0, .ref (ad 77)), (1, .int a1)]) rfl (fun E hl hD had hcA hN hC hR => ?_)
  subst hl; subst hD; subst had; subst hcA
  unfold zf_X10_isSet at hf
  refine zw_iload_n hC dX10_isSet_0 rfl 1 rfl ?_
  refine zw_iconst hC (v := (0 : Int32)) dX10_isSet_1 (by decide) ?_
  refine zw_aload_n hC dX10_isSet_2 rfl 0 rfl ?_
  obtain ⟨v23, hc23, hf⟩ := zb1_some hf
  refine zw_cV hC [] [.int (0 : Int32), .int a1] (st1 := [.int v23, .int (0 : Int32), .int a1]) zm_X10_all (zc_X10_all hc23) zk_77 rfl kw_7_44 dX10_isSet_3 rfl (by decide) (Nat.le_of_ble_eq_true rfl) rfl rfl ?_
  obtain ⟨v24, hc24, hf⟩ := zb1_some hf
  refine zw_cS hC [.int a1, .int (0 : Int32), .int v23] [] (st1 := [.int v24]) zm_X10_isIn (zc_X10_isIn hc24) kw_6_106 dX10_isSet_6 rfl (by decide) (Nat.le_of_ble_eq_true rfl) rfl rfl ?_
  obtain ⟨hz, hf⟩ := zbz_some hf
  have h1 := Option.some.inj hf
  subst h1
  exact zw_zret hC hR hz dX10_isSet_9
/-! ClassOfManyModel.alone(I)I -/
theorem dX10_alone_0 : decode cX10_alone 0 = .ok (.aload_n 0, 1) := by decide +kernel
theorem dX10_alone_1 : decode cX10_alone 1 = .ok (.iload_n 1, 1) := by decide +kernel
theorem dX10_alone_2 : decode cX10_alone 2 = .ok (.invokevirtual 335, 3) := by decide +kernel
theorem dX10_alone_5 : decode cX10_alone 5 = .ok (.ifCond .ne 5, 3) := by decide +kernel
theorem dX10_alone_8 : decode cX10_alone 8 = .ok (.iconst (-1), 1) := by decide +kernel
theorem dX10_alone_9 : decode cX10_alone 9 = .ok (.ireturn, 1) := by decide +kernel
theorem dX10_alone_10 : decode cX10_alone 10 = .ok (.aload_n 0, 1) := by decide +kernel
theorem dX10_alone_11 : decode cX10_alone 11 = .ok (.aload_n 0, 1) := by decide +kernel
theorem dX10_alone_12 : decode cX10_alone 12 = .ok (.invokevirtual 223, 3) := by decide +kernel
theorem dX10_alone_15 : decode cX10_alone 15 = .ok (.iload_n 1, 1) := by decide +kernel
theorem dX10_alone_16 : decode cX10_alone 16 = .ok (.iconst (-1), 1) := by decide +kernel
theorem dX10_alone_17 : decode cX10_alone 17 = .ok (.ixor, 1) := by decide +kernel
theorem dX10_alone_18 : decode cX10_alone 18 = .ok (.iand, 1) := by decide +kernel
theorem dX10_alone_19 : decode cX10_alone 19 = .ok (.invokevirtual 329, 3) := by decide +kernel
theorem dX10_alone_22 : decode cX10_alone 22 = .ok (.aload_n 0, 1) := by decide +kernel
theorem dX10_alone_23 : decode cX10_alone 23 = .ok (.iload_n 1, 1) := by decide +kernel
theorem dX10_alone_24 : decode cX10_alone 24 = .ok (.invokevirtual 324, 3) := by decide +kernel
theorem dX10_alone_27 : decode cX10_alone 27 = .ok (.ireturn, 1) := by decide +kernel
theorem zm_X10_alone : ZMv "ClassOfManyModel" yX10_alone cX10_alone 2 (some .int) 1 := ⟨kw_8_30, kw_8_28, kw_8_29, kw_1_10, by decide +kernel, by decide⟩
def zf_X10_alone (n : Nat) (a1 : Int32) (M : ZMem) : Option (Int32 × ZMem) :=
  zb1 (zf_X10_isSet a1 M) (fun v25 => (if v25 = 0 then some ((-1 : Int32), M) else zb1 (zf_X10_all M) (fun v26 => zb1 (zf_X10_paysWithout n (v26 &&& (a1 ^^^ (-1 : Int32))) M) (fun M27 => zb1 (zf_X10_paidAll n a1 M27) (fun v28 => some (v28, M27))))))
set_option maxHeartbeats 4000000 in
set_option maxRecDepth 100000 in
theorem zc_X10_alone {l : Launch} {D : va_G} {ad : Nat → Nat} {cA : Nat → ClassId} {n : Nat} {a1 : Int32} {M : ZMem} {r : Int32} {M' : ZMem} (hf : zf_X10_alone n a1 M = some (r, M')) : ZCt l D ad cA yX10_alone cX10_alone 2 (some .int) 8 [.ref (ad 77), .int a1] M (some (.int r)) M' := by
  refine zct (by decide +kernel) (Nat.le_of_ble_eq_true rfl) (lv := [(0, .ref (ad 77)), (1, .int a1)]) rfl (fun E hl hD had hcA hN hC hR => ?_)
  subst hl; subst hD; subst had; subst hcA
  unfold zf_X10_alone at hf
  refine zw_aload_n hC dX10_alone_0 rfl 0 rfl ?_
  refine zw_iload_n hC dX10_alone_1 rfl 1 rfl ?_
  obtain ⟨v25, hc25, hf⟩ := zb1_some hf
  refine zw_cV hC [.int a1] [] (st1 := [.int v25]) zm_X10_isSet (zc_X10_isSet hc25) zk_77 rfl kw_8_31 dX10_alone_2 rfl (by decide) (Nat.le_of_ble_eq_true rfl) rfl rfl ?_
  refine zw_if_ne hC 10 hf dX10_alone_5 (by decide) (fun hf => ?_) (fun hf => ?_)
  · refine zw_aload_n hC dX10_alone_10 rfl 0 rfl ?_
    refine zw_aload_n hC dX10_alone_11 rfl 0 rfl ?_
    obtain ⟨v26, hc26, hf⟩ := zb1_some hf
    refine zw_cV hC [] [.ref (zad E 77)] (st1 := [.int v26, .ref (zad E 77)]) zm_X10_all (zc_X10_all hc26) zk_77 rfl kw_7_44 dX10_alone_12 rfl (by decide) (Nat.le_of_ble_eq_true rfl) rfl rfl ?_
    refine zw_iload_n hC dX10_alone_15 rfl 1 rfl ?_
    refine zw_iconst hC (v := (-1 : Int32)) dX10_alone_16 (by decide) ?_
    refine zw_ixor hC dX10_alone_17 ?_
    refine zw_iand hC dX10_alone_18 ?_
    obtain ⟨M27, hcM27, hf⟩ := zb1_some hf
    refine zw_cV hC [.int (v26 &&& (a1 ^^^ (-1 : Int32)))] [] (st1 := []) zm_X10_paysWithout (zc_X10_paysWithout hcM27) zk_77 rfl kw_8_3 dX10_alone_19 rfl (by decide) (Nat.le_of_ble_eq_true rfl) rfl rfl ?_
    refine zw_aload_n hC dX10_alone_22 rfl 0 rfl ?_
    refine zw_iload_n hC dX10_alone_23 rfl 1 rfl ?_
    obtain ⟨v28, hc28, hf⟩ := zb1_some hf
    refine zw_cV hC [.int a1] [] (st1 := [.int v28]) zm_X10_paidAll (zc_X10_paidAll hc28) zk_77 rfl kw_7_214 dX10_alone_24 rfl (by decide) (Nat.le_of_ble_eq_true rfl) rfl rfl ?_
    obtain ⟨h1, h2⟩ := Prod.mk.inj (Option.some.inj hf)
    subst h1; subst h2
    exact zw_iret hC hR dX10_alone_27
  · refine zw_iconst hC (v := (-1 : Int32)) dX10_alone_8 (by decide) ?_
    obtain ⟨h1, h2⟩ := Prod.mk.inj (Option.some.inj hf)
    subst h1; subst h2
    exact zw_iret hC hR dX10_alone_9
/-! ClassOfManyModel.needs()I -/
theorem dX10_needs_0 : decode cX10_needs 0 = .ok (.aload_n 0, 1) := by decide +kernel
theorem dX10_needs_1 : decode cX10_needs 1 = .ok (.invokevirtual 281, 3) := by decide +kernel
theorem dX10_needs_4 : decode cX10_needs 4 = .ok (.aload_n 0, 1) := by decide +kernel
theorem dX10_needs_5 : decode cX10_needs 5 = .ok (.getfield 235, 3) := by decide +kernel
theorem dX10_needs_8 : decode cX10_needs 8 = .ok (.aload_n 0, 1) := by decide +kernel
theorem dX10_needs_9 : decode cX10_needs 9 = .ok (.getfield 238, 3) := by decide +kernel
theorem dX10_needs_12 : decode cX10_needs 12 = .ok (.iconst (-1), 1) := by decide +kernel
theorem dX10_needs_13 : decode cX10_needs 13 = .ok (.ixor, 1) := by decide +kernel
theorem dX10_needs_14 : decode cX10_needs 14 = .ok (.iand, 1) := by decide +kernel
theorem dX10_needs_15 : decode cX10_needs 15 = .ok (.istore_n 1, 1) := by decide +kernel
theorem dX10_needs_16 : decode cX10_needs 16 = .ok (.iconst 0, 1) := by decide +kernel
theorem dX10_needs_17 : decode cX10_needs 17 = .ok (.istore_n 2, 1) := by decide +kernel
theorem dX10_needs_18 : decode cX10_needs 18 = .ok (.iload_n 2, 1) := by decide +kernel
theorem dX10_needs_19 : decode cX10_needs 19 = .ok (.ldc 147, 2) := by decide +kernel
theorem dX10_needs_21 : decode cX10_needs 21 = .ok (.if_icmp .gt 48, 3) := by decide +kernel
theorem dX10_needs_24 : decode cX10_needs 24 = .ok (.aload_n 0, 1) := by decide +kernel
theorem dX10_needs_25 : decode cX10_needs 25 = .ok (.iload_n 2, 1) := by decide +kernel
theorem dX10_needs_26 : decode cX10_needs 26 = .ok (.putfield 241, 3) := by decide +kernel
theorem dX10_needs_29 : decode cX10_needs 29 = .ok (.aload_n 0, 1) := by decide +kernel
theorem dX10_needs_30 : decode cX10_needs 30 = .ok (.invokevirtual 256, 3) := by decide +kernel
theorem dX10_needs_33 : decode cX10_needs 33 = .ok (.aload_n 0, 1) := by decide +kernel
theorem dX10_needs_34 : decode cX10_needs 34 = .ok (.iload_n 1, 1) := by decide +kernel
theorem dX10_needs_35 : decode cX10_needs 35 = .ok (.invokevirtual 259, 3) := by decide +kernel
theorem dX10_needs_38 : decode cX10_needs 38 = .ok (.if_icmp .ge 6, 3) := by decide +kernel
theorem dX10_needs_41 : decode cX10_needs 41 = .ok (.goto 22, 3) := by decide +kernel
theorem dX10_needs_44 : decode cX10_needs 44 = .ok (.aload_n 0, 1) := by decide +kernel
theorem dX10_needs_45 : decode cX10_needs 45 = .ok (.invokevirtual 284, 3) := by decide +kernel
theorem dX10_needs_48 : decode cX10_needs 48 = .ok (.aload_n 0, 1) := by decide +kernel
theorem dX10_needs_49 : decode cX10_needs 49 = .ok (.iload_n 1, 1) := by decide +kernel
theorem dX10_needs_50 : decode cX10_needs 50 = .ok (.invokevirtual 324, 3) := by decide +kernel
theorem dX10_needs_53 : decode cX10_needs 53 = .ok (.aload_n 0, 1) := by decide +kernel
theorem dX10_needs_54 : decode cX10_needs 54 = .ok (.iload_n 1, 1) := by decide +kernel
theorem dX10_needs_55 : decode cX10_needs 55 = .ok (.invokevirtual 259, 3) := by decide +kernel
theorem dX10_needs_58 : decode cX10_needs 58 = .ok (.if_icmp .ne 5, 3) := by decide +kernel
theorem dX10_needs_61 : decode cX10_needs 61 = .ok (.iload_n 2, 1) := by decide +kernel
theorem dX10_needs_62 : decode cX10_needs 62 = .ok (.ireturn, 1) := by decide +kernel
theorem dX10_needs_63 : decode cX10_needs 63 = .ok (.iinc 2 1, 3) := by decide +kernel
theorem dX10_needs_66 : decode cX10_needs 66 = .ok (.goto (-48), 3) := by decide +kernel
theorem dX10_needs_69 : decode cX10_needs 69 = .ok (.bipush (-2), 2) := by decide +kernel
theorem dX10_needs_71 : decode cX10_needs 71 = .ok (.ireturn, 1) := by decide +kernel
theorem zm_X10_needs : ZMv "ClassOfManyModel" yX10_needs cX10_needs 3 (some .int) 0 := ⟨kw_8_38, kw_8_36, kw_8_37, kw_1_10, by decide +kernel, by decide⟩
def zf_X10_needs_j63 (R18 : Int32 → ZMem → Option (Int32 × ZMem)) (v29 : Int32) (M35 : ZMem) : Option (Int32 × ZMem) :=
  (R18 (v29 + (1 : Int32)) M35)
def zf_X10_needs_L18 (n : Nat) (M28 : ZMem) (K69 : ZMem → Option (Int32 × ZMem)) : Nat → Int32 → ZMem → Option (Int32 × ZMem)
  | 0, _, _ => none
  | n18 + 1, v29, M30 =>
  (if (99999 : Int32) < v29 then (K69 M30) else zput M30 77 24 v29 (fun M32 => zb1 (zf_X10_net n M32) (fun v33 => zb1 (zf_X10_claims n ((M28 77 22) &&& ((M28 77 23) ^^^ (-1 : Int32))) M32) (fun v34 => (if v34 ≤ v33 then zb1 (zf_X10_pays n M32) (fun M36 => zb1 (zf_X10_paidAll n ((M28 77 22) &&& ((M28 77 23) ^^^ (-1 : Int32))) M36) (fun v37 => zb1 (zf_X10_claims n ((M28 77 22) &&& ((M28 77 23) ^^^ (-1 : Int32))) M36) (fun v38 => (if v37 = v38 then some (v29, M36) else (zf_X10_needs_j63 (fun x0 x1 => zf_X10_needs_L18 n M28 K69 n18 x0 x1) v29 M36))))) else (zf_X10_needs_j63 (fun x0 x1 => zf_X10_needs_L18 n M28 K69 n18 x0 x1) v29 M32))))))
def zf_X10_needs (n : Nat) (M : ZMem) : Option (Int32 × ZMem) :=
  zb1 (zf_X10_setsNow n M) (fun M28 => (zf_X10_needs_L18 n M28 (fun M39 => some ((-2 : Int32), M39)) n (0 : Int32) M28))
set_option maxHeartbeats 4000000 in
set_option maxRecDepth 100000 in
theorem zc_X10_needs {l : Launch} {D : va_G} {ad : Nat → Nat} {cA : Nat → ClassId} {n : Nat} {M : ZMem} {r : Int32} {M' : ZMem} (hf : zf_X10_needs n M = some (r, M')) : ZCt l D ad cA yX10_needs cX10_needs 3 (some .int) 7 [.ref (ad 77)] M (some (.int r)) M' := by
  refine zct (by decide +kernel) (Nat.le_of_ble_eq_true rfl) (lv := [(0, .ref (ad 77))]) rfl (fun E hl hD had hcA hN hC hR => ?_)
  subst hl; subst hD; subst had; subst hcA
  unfold zf_X10_needs at hf
  refine zw_aload_n hC dX10_needs_0 rfl 0 rfl ?_
  obtain ⟨M28, hcM28, hf⟩ := zb1_some hf
  refine zw_cV hC [] [] (st1 := []) zm_X10_setsNow (zc_X10_setsNow hcM28) zk_77 rfl kw_7_182 dX10_needs_1 rfl (by decide) (Nat.le_of_ble_eq_true rfl) rfl rfl ?_
  refine zw_aload_n hC dX10_needs_4 rfl 0 rfl ?_
  refine zw_geti hC zF_Model_nowCounted zk_77 dX10_needs_5 kw_6_8 ?_
  refine zw_aload_n hC dX10_needs_8 rfl 0 rfl ?_
  refine zw_geti hC zF_Model_nowLazy zk_77 dX10_needs_9 kw_6_9 ?_
  refine zw_iconst hC (v := (-1 : Int32)) dX10_needs_12 (by decide) ?_
  refine zw_ixor hC dX10_needs_13 ?_
  refine zw_iand hC dX10_needs_14 ?_
  refine zw_istore_n hC (lv' := [(1, .int ((M28 77 22) &&& ((M28 77 23) ^^^ (-1 : Int32)))), (0, .ref (zad E 77))]) dX10_needs_15 rfl hN (by decide) rfl ?_
  refine zw_iconst hC (v := (0 : Int32)) dX10_needs_16 (by decide) ?_
  refine zw_istore_n hC (lv' := [(2, .int (0 : Int32)), (1, .int ((M28 77 22) &&& ((M28 77 23) ^^^ (-1 : Int32)))), (0, .ref (zad E 77))]) dX10_needs_17 rfl hN (by decide) rfl ?_
  have hL18 : ∀ (K69 : ZMem → Option (Int32 × ZMem)), (∀ (M31 : ZMem), K69 M31 = some (r, M') → ZW E 69 [] [] M31) → ∀ (n18 : Nat), ∀ (v29 : Int32), ∀ (M30 : ZMem), zf_X10_needs_L18 n M28 K69 n18 v29 M30 = some (r, M') → ZW E 18 [(0, .ref (zad E 77)), (1, .int ((M28 77 22) &&& ((M28 77 23) ^^^ (-1 : Int32)))), (2, .int v29)] [] M30 := by
    intro K69 hK69
    intro n18
    induction n18 with
    | zero => intro v29 M30 hf; rw [zf_X10_needs_L18] at hf; cases hf
    | succ n18 ih18 =>
      intro v29 M30 hf
      rw [zf_X10_needs_L18] at hf
      refine zw_iload_n hC dX10_needs_18 rfl 2 rfl ?_
      refine zw_ldc hC dX10_needs_19 kw_6_141 ?_
      refine zw_icmp_gt hC 69 hf dX10_needs_21 (by decide) (fun hf => ?_) (fun hf => ?_)
      · exact zw_sub [] rfl (hK69 M30 hf)
      · refine zw_aload_n hC dX10_needs_24 rfl 0 rfl ?_
        refine zw_iload_n hC dX10_needs_25 rfl 2 rfl ?_
        refine zw_puti hC hf zF_Model_nowFund zk_77 dX10_needs_26 kw_6_10 (fun M32 hf => ?_)
        refine zw_aload_n hC dX10_needs_29 rfl 0 rfl ?_
        obtain ⟨v33, hc33, hf⟩ := zb1_some hf
        refine zw_cV hC [] [] (st1 := [.int v33]) zm_X10_net (zc_X10_net hc33) zk_77 rfl kw_7_194 dX10_needs_30 rfl (by decide) (Nat.le_of_ble_eq_true rfl) rfl rfl ?_
        refine zw_aload_n hC dX10_needs_33 rfl 0 rfl ?_
        refine zw_iload_n hC dX10_needs_34 rfl 1 rfl ?_
        obtain ⟨v34, hc34, hf⟩ := zb1_some hf
        refine zw_cV hC [.int ((M28 77 22) &&& ((M28 77 23) ^^^ (-1 : Int32)))] [.int v33] (st1 := [.int v34, .int v33]) zm_X10_claims (zc_X10_claims hc34) zk_77 rfl kw_7_48 dX10_needs_35 rfl (by decide) (Nat.le_of_ble_eq_true rfl) rfl rfl ?_
        have hj63 : ∀ (M35 : ZMem), zf_X10_needs_j63 (fun x0 x1 => zf_X10_needs_L18 n M28 K69 n18 x0 x1) v29 M35 = some (r, M') → ZW E 63 [(0, .ref (zad E 77)), (1, .int ((M28 77 22) &&& ((M28 77 23) ^^^ (-1 : Int32)))), (2, .int v29)] [] M35 := by
          intro M35 hf
          unfold zf_X10_needs_j63 at hf
          refine zw_iinc hC (v := (1 : Int32)) (lv' := [(2, .int (v29 + (1 : Int32))), (0, .ref (zad E 77)), (1, .int ((M28 77 22) &&& ((M28 77 23) ^^^ (-1 : Int32))))]) dX10_needs_63 2 rfl (by decide) hN (by decide) rfl ?_
          refine zw_goto hC 18 dX10_needs_66 (by decide) ?_
          exact zw_sub [1, 2, 0] rfl (ih18 (v29 + (1 : Int32)) M35 hf)
        refine zw_icmp_ge hC 44 hf dX10_needs_38 (by decide) (fun hf => ?_) (fun hf => ?_)
        · refine zw_aload_n hC dX10_needs_44 rfl 0 rfl ?_
          obtain ⟨M36, hcM36, hf⟩ := zb1_some hf
          refine zw_cV hC [] [] (st1 := []) zm_X10_pays (zc_X10_pays hcM36) zk_77 rfl kw_7_190 dX10_needs_45 rfl (by decide) (Nat.le_of_ble_eq_true rfl) rfl rfl ?_
          refine zw_aload_n hC dX10_needs_48 rfl 0 rfl ?_
          refine zw_iload_n hC dX10_needs_49 rfl 1 rfl ?_
          obtain ⟨v37, hc37, hf⟩ := zb1_some hf
          refine zw_cV hC [.int ((M28 77 22) &&& ((M28 77 23) ^^^ (-1 : Int32)))] [] (st1 := [.int v37]) zm_X10_paidAll (zc_X10_paidAll hc37) zk_77 rfl kw_7_214 dX10_needs_50 rfl (by decide) (Nat.le_of_ble_eq_true rfl) rfl rfl ?_
          refine zw_aload_n hC dX10_needs_53 rfl 0 rfl ?_
          refine zw_iload_n hC dX10_needs_54 rfl 1 rfl ?_
          obtain ⟨v38, hc38, hf⟩ := zb1_some hf
          refine zw_cV hC [.int ((M28 77 22) &&& ((M28 77 23) ^^^ (-1 : Int32)))] [.int v37] (st1 := [.int v38, .int v37]) zm_X10_claims (zc_X10_claims hc38) zk_77 rfl kw_7_48 dX10_needs_55 rfl (by decide) (Nat.le_of_ble_eq_true rfl) rfl rfl ?_
          refine zw_icmp_ne hC 63 hf dX10_needs_58 (by decide) (fun hf => ?_) (fun hf => ?_)
          · exact hj63 M36 hf
          · refine zw_iload_n hC dX10_needs_61 rfl 2 rfl ?_
            obtain ⟨h1, h2⟩ := Prod.mk.inj (Option.some.inj hf)
            subst h1; subst h2
            exact zw_iret hC hR dX10_needs_62
        · refine zw_goto hC 63 dX10_needs_41 (by decide) ?_
          exact hj63 M32 hf
  refine zw_sub [2, 1, 0] rfl (hL18 _ ?_ n (0 : Int32) M28 hf)
  · intro M39 hf
    refine zw_bipush hC (v := (-2 : Int32)) dX10_needs_69 (by decide) ?_
    obtain ⟨h1, h2⟩ := Prod.mk.inj (Option.some.inj hf)
    subst h1; subst h2
    exact zw_iret hC hR dX10_needs_71
/-! ClassOfManyModel.rests(III)I -/
theorem dX10_rests_0 : decode cX10_rests 0 = .ok (.iload_n 1, 1) := by decide +kernel
theorem dX10_rests_1 : decode cX10_rests 1 = .ok (.iconst 0, 1) := by decide +kernel
theorem dX10_rests_2 : decode cX10_rests 2 = .ok (.bipush 100, 2) := by decide +kernel
theorem dX10_rests_4 : decode cX10_rests 4 = .ok (.invokestatic 65, 3) := by decide +kernel
theorem dX10_rests_7 : decode cX10_rests 7 = .ok (.ifCond .eq 19, 3) := by decide +kernel
theorem dX10_rests_10 : decode cX10_rests 10 = .ok (.iload_n 2, 1) := by decide +kernel
theorem dX10_rests_11 : decode cX10_rests 11 = .ok (.iconst 0, 1) := by decide +kernel
theorem dX10_rests_12 : decode cX10_rests 12 = .ok (.sipush 999, 3) := by decide +kernel
theorem dX10_rests_15 : decode cX10_rests 15 = .ok (.invokestatic 65, 3) := by decide +kernel
theorem dX10_rests_18 : decode cX10_rests 18 = .ok (.ifCond .eq 8, 3) := by decide +kernel
theorem dX10_rests_21 : decode cX10_rests 21 = .ok (.iload_n 3, 1) := by decide +kernel
theorem dX10_rests_22 : decode cX10_rests 22 = .ok (.iconst (-1), 1) := by decide +kernel
theorem dX10_rests_23 : decode cX10_rests 23 = .ok (.if_icmp .ge 5, 3) := by decide +kernel
theorem dX10_rests_26 : decode cX10_rests 26 = .ok (.iconst (-1), 1) := by decide +kernel
theorem dX10_rests_27 : decode cX10_rests 27 = .ok (.ireturn, 1) := by decide +kernel
theorem dX10_rests_28 : decode cX10_rests 28 = .ok (.iconst 0, 1) := by decide +kernel
theorem dX10_rests_29 : decode cX10_rests 29 = .ok (.istore 4, 2) := by decide +kernel
theorem dX10_rests_31 : decode cX10_rests 31 = .ok (.iload 4, 2) := by decide +kernel
theorem dX10_rests_33 : decode cX10_rests 33 = .ok (.aload_n 0, 1) := by decide +kernel
theorem dX10_rests_34 : decode cX10_rests 34 = .ok (.invokevirtual 223, 3) := by decide +kernel
theorem dX10_rests_37 : decode cX10_rests 37 = .ok (.if_icmp .gt 95, 3) := by decide +kernel
theorem dX10_rests_40 : decode cX10_rests 40 = .ok (.aload_n 0, 1) := by decide +kernel
theorem dX10_rests_41 : decode cX10_rests 41 = .ok (.invokevirtual 281, 3) := by decide +kernel
theorem dX10_rests_44 : decode cX10_rests 44 = .ok (.aload_n 0, 1) := by decide +kernel
theorem dX10_rests_45 : decode cX10_rests 45 = .ok (.aload_n 0, 1) := by decide +kernel
theorem dX10_rests_46 : decode cX10_rests 46 = .ok (.invokevirtual 223, 3) := by decide +kernel
theorem dX10_rests_49 : decode cX10_rests 49 = .ok (.iload 4, 2) := by decide +kernel
theorem dX10_rests_51 : decode cX10_rests 51 = .ok (.iconst (-1), 1) := by decide +kernel
theorem dX10_rests_52 : decode cX10_rests 52 = .ok (.ixor, 1) := by decide +kernel
theorem dX10_rests_53 : decode cX10_rests 53 = .ok (.iand, 1) := by decide +kernel
theorem dX10_rests_54 : decode cX10_rests 54 = .ok (.putfield 229, 3) := by decide +kernel
theorem dX10_rests_57 : decode cX10_rests 57 = .ok (.aload_n 0, 1) := by decide +kernel
theorem dX10_rests_58 : decode cX10_rests 58 = .ok (.aload_n 0, 1) := by decide +kernel
theorem dX10_rests_59 : decode cX10_rests 59 = .ok (.aload_n 0, 1) := by decide +kernel
theorem dX10_rests_60 : decode cX10_rests 60 = .ok (.getfield 229, 3) := by decide +kernel
theorem dX10_rests_63 : decode cX10_rests 63 = .ok (.invokevirtual 232, 3) := by decide +kernel
theorem dX10_rests_66 : decode cX10_rests 66 = .ok (.putfield 235, 3) := by decide +kernel
theorem dX10_rests_69 : decode cX10_rests 69 = .ok (.aload_n 0, 1) := by decide +kernel
theorem dX10_rests_70 : decode cX10_rests 70 = .ok (.iconst 0, 1) := by decide +kernel
theorem dX10_rests_71 : decode cX10_rests 71 = .ok (.putfield 238, 3) := by decide +kernel
theorem dX10_rests_74 : decode cX10_rests 74 = .ok (.aload_n 0, 1) := by decide +kernel
theorem dX10_rests_75 : decode cX10_rests 75 = .ok (.aload_n 0, 1) := by decide +kernel
theorem dX10_rests_76 : decode cX10_rests 76 = .ok (.getfield 229, 3) := by decide +kernel
theorem dX10_rests_79 : decode cX10_rests 79 = .ok (.invokevirtual 247, 3) := by decide +kernel
theorem dX10_rests_82 : decode cX10_rests 82 = .ok (.aload_n 0, 1) := by decide +kernel
theorem dX10_rests_83 : decode cX10_rests 83 = .ok (.invokevirtual 284, 3) := by decide +kernel
theorem dX10_rests_86 : decode cX10_rests 86 = .ok (.iconst 0, 1) := by decide +kernel
theorem dX10_rests_87 : decode cX10_rests 87 = .ok (.istore 5, 2) := by decide +kernel
theorem dX10_rests_89 : decode cX10_rests 89 = .ok (.iload 5, 2) := by decide +kernel
theorem dX10_rests_91 : decode cX10_rests 91 = .ok (.aload_n 0, 1) := by decide +kernel
theorem dX10_rests_92 : decode cX10_rests 92 = .ok (.getfield 7, 3) := by decide +kernel
theorem dX10_rests_95 : decode cX10_rests 95 = .ok (.iconst 0, 1) := by decide +kernel
theorem dX10_rests_96 : decode cX10_rests 96 = .ok (.iaload, 1) := by decide +kernel
theorem dX10_rests_97 : decode cX10_rests 97 = .ok (.if_icmp .ge 29, 3) := by decide +kernel
theorem dX10_rests_100 : decode cX10_rests 100 = .ok (.aload_n 0, 1) := by decide +kernel
theorem dX10_rests_101 : decode cX10_rests 101 = .ok (.getfield 52, 3) := by decide +kernel
theorem dX10_rests_104 : decode cX10_rests 104 = .ok (.bipush 10, 2) := by decide +kernel
theorem dX10_rests_106 : decode cX10_rests 106 = .ok (.iload 4, 2) := by decide +kernel
theorem dX10_rests_108 : decode cX10_rests 108 = .ok (.imul, 1) := by decide +kernel
theorem dX10_rests_109 : decode cX10_rests 109 = .ok (.iload 5, 2) := by decide +kernel
theorem dX10_rests_111 : decode cX10_rests 111 = .ok (.iadd, 1) := by decide +kernel
theorem dX10_rests_112 : decode cX10_rests 112 = .ok (.aload_n 0, 1) := by decide +kernel
theorem dX10_rests_113 : decode cX10_rests 113 = .ok (.getfield 34, 3) := by decide +kernel
theorem dX10_rests_116 : decode cX10_rests 116 = .ok (.iload 5, 2) := by decide +kernel
theorem dX10_rests_118 : decode cX10_rests 118 = .ok (.iaload, 1) := by decide +kernel
theorem dX10_rests_119 : decode cX10_rests 119 = .ok (.iastore, 1) := by decide +kernel
theorem dX10_rests_120 : decode cX10_rests 120 = .ok (.iinc 5 1, 3) := by decide +kernel
theorem dX10_rests_123 : decode cX10_rests 123 = .ok (.goto (-34), 3) := by decide +kernel
theorem dX10_rests_126 : decode cX10_rests 126 = .ok (.iinc 4 1, 3) := by decide +kernel
theorem dX10_rests_129 : decode cX10_rests 129 = .ok (.goto (-98), 3) := by decide +kernel
theorem dX10_rests_132 : decode cX10_rests 132 = .ok (.iconst 0, 1) := by decide +kernel
theorem dX10_rests_133 : decode cX10_rests 133 = .ok (.istore 4, 2) := by decide +kernel
theorem dX10_rests_135 : decode cX10_rests 135 = .ok (.iconst 0, 1) := by decide +kernel
theorem dX10_rests_136 : decode cX10_rests 136 = .ok (.istore 5, 2) := by decide +kernel
theorem dX10_rests_138 : decode cX10_rests 138 = .ok (.iload 5, 2) := by decide +kernel
theorem dX10_rests_140 : decode cX10_rests 140 = .ok (.aload_n 0, 1) := by decide +kernel
theorem dX10_rests_141 : decode cX10_rests 141 = .ok (.invokevirtual 223, 3) := by decide +kernel
theorem dX10_rests_144 : decode cX10_rests 144 = .ok (.if_icmp .gt 138, 3) := by decide +kernel
theorem dX10_rests_147 : decode cX10_rests 147 = .ok (.iconst 1, 1) := by decide +kernel
theorem dX10_rests_148 : decode cX10_rests 148 = .ok (.istore 6, 2) := by decide +kernel
theorem dX10_rests_150 : decode cX10_rests 150 = .ok (.iconst 0, 1) := by decide +kernel
theorem dX10_rests_151 : decode cX10_rests 151 = .ok (.istore 7, 2) := by decide +kernel
theorem dX10_rests_153 : decode cX10_rests 153 = .ok (.iload 7, 2) := by decide +kernel
theorem dX10_rests_155 : decode cX10_rests 155 = .ok (.aload_n 0, 1) := by decide +kernel
theorem dX10_rests_156 : decode cX10_rests 156 = .ok (.getfield 7, 3) := by decide +kernel
theorem dX10_rests_159 : decode cX10_rests 159 = .ok (.iconst 0, 1) := by decide +kernel
theorem dX10_rests_160 : decode cX10_rests 160 = .ok (.iaload, 1) := by decide +kernel
theorem dX10_rests_161 : decode cX10_rests 161 = .ok (.if_icmp .ge 98, 3) := by decide +kernel
theorem dX10_rests_164 : decode cX10_rests 164 = .ok (.aload_n 0, 1) := by decide +kernel
theorem dX10_rests_165 : decode cX10_rests 165 = .ok (.iload 7, 2) := by decide +kernel
theorem dX10_rests_167 : decode cX10_rests 167 = .ok (.invokevirtual 211, 3) := by decide +kernel
theorem dX10_rests_170 : decode cX10_rests 170 = .ok (.iload_n 1, 1) := by decide +kernel
theorem dX10_rests_171 : decode cX10_rests 171 = .ok (.imul, 1) := by decide +kernel
theorem dX10_rests_172 : decode cX10_rests 172 = .ok (.bipush 100, 2) := by decide +kernel
theorem dX10_rests_174 : decode cX10_rests 174 = .ok (.idiv, 1) := by decide +kernel
theorem dX10_rests_175 : decode cX10_rests 175 = .ok (.iload_n 2, 1) := by decide +kernel
theorem dX10_rests_176 : decode cX10_rests 176 = .ok (.isub, 1) := by decide +kernel
theorem dX10_rests_177 : decode cX10_rests 177 = .ok (.istore 8, 2) := by decide +kernel
theorem dX10_rests_179 : decode cX10_rests 179 = .ok (.iload 8, 2) := by decide +kernel
theorem dX10_rests_181 : decode cX10_rests 181 = .ok (.ifCond .ge 7, 3) := by decide +kernel
theorem dX10_rests_184 : decode cX10_rests 184 = .ok (.iconst 0, 1) := by decide +kernel
theorem dX10_rests_185 : decode cX10_rests 185 = .ok (.goto 5, 3) := by decide +kernel
theorem dX10_rests_188 : decode cX10_rests 188 = .ok (.iload 8, 2) := by decide +kernel
theorem dX10_rests_190 : decode cX10_rests 190 = .ok (.istore 8, 2) := by decide +kernel
theorem dX10_rests_192 : decode cX10_rests 192 = .ok (.aload_n 0, 1) := by decide +kernel
theorem dX10_rests_193 : decode cX10_rests 193 = .ok (.getfield 52, 3) := by decide +kernel
theorem dX10_rests_196 : decode cX10_rests 196 = .ok (.bipush 10, 2) := by decide +kernel
theorem dX10_rests_198 : decode cX10_rests 198 = .ok (.iload 5, 2) := by decide +kernel
theorem dX10_rests_200 : decode cX10_rests 200 = .ok (.iconst 1, 1) := by decide +kernel
theorem dX10_rests_201 : decode cX10_rests 201 = .ok (.iload 7, 2) := by decide +kernel
theorem dX10_rests_203 : decode cX10_rests 203 = .ok (.ishl, 1) := by decide +kernel
theorem dX10_rests_204 : decode cX10_rests 204 = .ok (.iconst (-1), 1) := by decide +kernel
theorem dX10_rests_205 : decode cX10_rests 205 = .ok (.ixor, 1) := by decide +kernel
theorem dX10_rests_206 : decode cX10_rests 206 = .ok (.iand, 1) := by decide +kernel
theorem dX10_rests_207 : decode cX10_rests 207 = .ok (.imul, 1) := by decide +kernel
theorem dX10_rests_208 : decode cX10_rests 208 = .ok (.iload 7, 2) := by decide +kernel
theorem dX10_rests_210 : decode cX10_rests 210 = .ok (.iadd, 1) := by decide +kernel
theorem dX10_rests_211 : decode cX10_rests 211 = .ok (.iaload, 1) := by decide +kernel
theorem dX10_rests_212 : decode cX10_rests 212 = .ok (.istore 9, 2) := by decide +kernel
theorem dX10_rests_214 : decode cX10_rests 214 = .ok (.iload 6, 2) := by decide +kernel
theorem dX10_rests_216 : decode cX10_rests 216 = .ok (.ifCond .eq 34, 3) := by decide +kernel
theorem dX10_rests_219 : decode cX10_rests 219 = .ok (.iload 5, 2) := by decide +kernel
theorem dX10_rests_221 : decode cX10_rests 221 = .ok (.iload 7, 2) := by decide +kernel
theorem dX10_rests_223 : decode cX10_rests 223 = .ok (.invokestatic 118, 3) := by decide +kernel
theorem dX10_rests_226 : decode cX10_rests 226 = .ok (.ifCond .eq 13, 3) := by decide +kernel
theorem dX10_rests_229 : decode cX10_rests 229 = .ok (.iload 9, 2) := by decide +kernel
theorem dX10_rests_231 : decode cX10_rests 231 = .ok (.iload 8, 2) := by decide +kernel
theorem dX10_rests_233 : decode cX10_rests 233 = .ok (.if_icmp .gt 17, 3) := by decide +kernel
theorem dX10_rests_236 : decode cX10_rests 236 = .ok (.goto 10, 3) := by decide +kernel
theorem dX10_rests_239 : decode cX10_rests 239 = .ok (.iload 8, 2) := by decide +kernel
theorem dX10_rests_241 : decode cX10_rests 241 = .ok (.iload 9, 2) := by decide +kernel
theorem dX10_rests_243 : decode cX10_rests 243 = .ok (.if_icmp .gt 7, 3) := by decide +kernel
theorem dX10_rests_246 : decode cX10_rests 246 = .ok (.iconst 1, 1) := by decide +kernel
theorem dX10_rests_247 : decode cX10_rests 247 = .ok (.goto 4, 3) := by decide +kernel
theorem dX10_rests_250 : decode cX10_rests 250 = .ok (.iconst 0, 1) := by decide +kernel
theorem dX10_rests_251 : decode cX10_rests 251 = .ok (.istore 6, 2) := by decide +kernel
theorem dX10_rests_253 : decode cX10_rests 253 = .ok (.iinc 7 1, 3) := by decide +kernel
theorem dX10_rests_256 : decode cX10_rests 256 = .ok (.goto (-103), 3) := by decide +kernel
theorem dX10_rests_259 : decode cX10_rests 259 = .ok (.iload 6, 2) := by decide +kernel
theorem dX10_rests_261 : decode cX10_rests 261 = .ok (.ifCond .eq 15, 3) := by decide +kernel
theorem dX10_rests_264 : decode cX10_rests 264 = .ok (.iload 4, 2) := by decide +kernel
theorem dX10_rests_266 : decode cX10_rests 266 = .ok (.iload_n 3, 1) := by decide +kernel
theorem dX10_rests_267 : decode cX10_rests 267 = .ok (.if_icmp .ne 6, 3) := by decide +kernel
theorem dX10_rests_270 : decode cX10_rests 270 = .ok (.iload 5, 2) := by decide +kernel
theorem dX10_rests_272 : decode cX10_rests 272 = .ok (.ireturn, 1) := by decide +kernel
theorem dX10_rests_273 : decode cX10_rests 273 = .ok (.iinc 4 1, 3) := by decide +kernel
theorem dX10_rests_276 : decode cX10_rests 276 = .ok (.iinc 5 1, 3) := by decide +kernel
theorem dX10_rests_279 : decode cX10_rests 279 = .ok (.goto (-141), 3) := by decide +kernel
theorem dX10_rests_282 : decode cX10_rests 282 = .ok (.iload_n 3, 1) := by decide +kernel
theorem dX10_rests_283 : decode cX10_rests 283 = .ok (.iconst (-1), 1) := by decide +kernel
theorem dX10_rests_284 : decode cX10_rests 284 = .ok (.if_icmp .ne 8, 3) := by decide +kernel
theorem dX10_rests_287 : decode cX10_rests 287 = .ok (.iload 4, 2) := by decide +kernel
theorem dX10_rests_289 : decode cX10_rests 289 = .ok (.goto 5, 3) := by decide +kernel
theorem dX10_rests_292 : decode cX10_rests 292 = .ok (.bipush (-2), 2) := by decide +kernel
theorem dX10_rests_294 : decode cX10_rests 294 = .ok (.ireturn, 1) := by decide +kernel
theorem zm_X10_rests : ZMv "ClassOfManyModel" yX10_rests cX10_rests 10 (some .int) 3 := ⟨kw_8_42, kw_8_40, kw_8_41, kw_1_10, by decide +kernel, by decide⟩
def zf_X10_rests_j26 (M : ZMem) : Option (Int32 × ZMem) :=
  some ((-1 : Int32), M)
def zf_X10_rests_L89 (v42 : Int32) (K126 : ZMem → Option (Int32 × ZMem)) : Nat → Int32 → ZMem → Option (Int32 × ZMem)
  | 0, _, _ => none
  | n89 + 1, v54, M55 =>
  zrd M55 78 73 (0 : Int32) (fun v57 => (if v57 ≤ v54 then (K126 M55) else zrd M55 86 10 v54 (fun v58 => zst M55 92 10240 (((10 : Int32) * v42) + v54) v58 (fun M59 => (zf_X10_rests_L89 v42 K126 n89 (v54 + (1 : Int32)) M59)))))
def zf_X10_rests_L31 (n : Nat) (K132 : ZMem → Option (Int32 × ZMem)) : Nat → Int32 → ZMem → Option (Int32 × ZMem)
  | 0, _, _ => none
  | n31 + 1, v42, M43 =>
  zb1 (zf_X10_all M43) (fun v45 => (if v45 < v42 then (K132 M43) else zb1 (zf_X10_setsNow n M43) (fun M46 => zb1 (zf_X10_all M46) (fun v47 => zput M46 77 21 (v47 &&& (v42 ^^^ (-1 : Int32))) (fun M48 => zb1 (zf_X10_countedOf n (M48 77 21) M48) (fun v49 => zput M48 77 22 v49 (fun M50 => zput M50 77 23 (0 : Int32) (fun M51 => zb1 (zf_X10_divides n (M51 77 21) M51) (fun M52 => zb1 (zf_X10_pays n M52) (fun M53 => (zf_X10_rests_L89 v42 (fun M60 => (zf_X10_rests_L31 n K132 n31 (v42 + (1 : Int32)) M60)) n (0 : Int32) M53)))))))))))
def zf_X10_rests_j251 (R153 : Int32 → Int32 → Option (Int32 × ZMem)) (v67 : Int32) (v73 : Int32) : Option (Int32 × ZMem) :=
  (R153 v73 (v67 + (1 : Int32)))
def zf_X10_rests_j250 (R153 : Int32 → Int32 → Option (Int32 × ZMem)) (v67 : Int32) : Option (Int32 × ZMem) :=
  (zf_X10_rests_j251 R153 v67 (0 : Int32))
def zf_X10_rests_j246 (R153 : Int32 → Int32 → Option (Int32 × ZMem)) (v67 : Int32) : Option (Int32 × ZMem) :=
  (zf_X10_rests_j251 R153 v67 (1 : Int32))
def zf_X10_rests_j190 (M61 : ZMem) (v63 : Int32) (v67 : Int32) (v66 : Int32) (R153 : Int32 → Int32 → Option (Int32 × ZMem)) (v71 : Int32) : Option (Int32 × ZMem) :=
  zrd M61 92 10240 (((10 : Int32) * (v63 &&& (((1 : Int32) <<< (v67 &&& 31)) ^^^ (-1 : Int32)))) + v67) (fun v72 => (if v66 = 0 then (zf_X10_rests_j250 R153 v67) else zb1 (zf_X10_has v63 v67) (fun v74 => (if v74 = 0 then (if v72 < v71 then (zf_X10_rests_j250 R153 v67) else (zf_X10_rests_j246 R153 v67)) else (if v71 < v72 then (zf_X10_rests_j250 R153 v67) else (zf_X10_rests_j246 R153 v67))))))
def zf_X10_rests_L153 (M61 : ZMem) (a1 : Int32) (a2 : Int32) (v63 : Int32) (K259 : Int32 → Option (Int32 × ZMem)) : Nat → Int32 → Int32 → Option (Int32 × ZMem)
  | 0, _, _ => none
  | n153 + 1, v66, v67 =>
  zrd M61 78 73 (0 : Int32) (fun v69 => (if v69 ≤ v67 then (K259 v66) else zb1 (zf_X10_claim v67 M61) (fun v70 => (if 0 ≤ (((v70 * a1) / (100 : Int32)) - a2) then (zf_X10_rests_j190 M61 v63 v67 v66 (fun x0 x1 => zf_X10_rests_L153 M61 a1 a2 v63 K259 n153 x0 x1) (((v70 * a1) / (100 : Int32)) - a2)) else (zf_X10_rests_j190 M61 v63 v67 v66 (fun x0 x1 => zf_X10_rests_L153 M61 a1 a2 v63 K259 n153 x0 x1) (0 : Int32))))))
def zf_X10_rests_j276 (R138 : Int32 → Int32 → Option (Int32 × ZMem)) (v63 : Int32) (v76 : Int32) : Option (Int32 × ZMem) :=
  (R138 v76 (v63 + (1 : Int32)))
def zf_X10_rests_L138 (M61 : ZMem) (a1 : Int32) (a2 : Int32) (a3 : Int32) (n : Nat) (K282 : Int32 → Option (Int32 × ZMem)) : Nat → Int32 → Int32 → Option (Int32 × ZMem)
  | 0, _, _ => none
  | n138 + 1, v62, v63 =>
  zb1 (zf_X10_all M61) (fun v65 => (if v65 < v63 then (K282 v62) else (zf_X10_rests_L153 M61 a1 a2 v63 (fun v75 => (if v75 = 0 then (zf_X10_rests_j276 (fun x0 x1 => zf_X10_rests_L138 M61 a1 a2 a3 n K282 n138 x0 x1) v63 v62) else (if v62 = a3 then some (v63, M61) else (zf_X10_rests_j276 (fun x0 x1 => zf_X10_rests_L138 M61 a1 a2 a3 n K282 n138 x0 x1) v63 (v62 + (1 : Int32)))))) n (1 : Int32) (0 : Int32))))
def zf_X10_rests_j294 (M61 : ZMem) (v78 : Int32) : Option (Int32 × ZMem) :=
  some (v78, M61)
def zf_X10_rests (n : Nat) (a1 : Int32) (a2 : Int32) (a3 : Int32) (M : ZMem) : Option (Int32 × ZMem) :=
  zb1 (zf_X10_isIn a1 (0 : Int32) (100 : Int32)) (fun v40 => (if v40 = 0 then (zf_X10_rests_j26 M) else zb1 (zf_X10_isIn a2 (0 : Int32) (999 : Int32)) (fun v41 => (if v41 = 0 then (zf_X10_rests_j26 M) else (if (-1 : Int32) ≤ a3 then (zf_X10_rests_L31 n (fun M61 => (zf_X10_rests_L138 M61 a1 a2 a3 n (fun v77 => (if a3 = (-1 : Int32) then (zf_X10_rests_j294 M61 v77) else (zf_X10_rests_j294 M61 (-2 : Int32)))) n (0 : Int32) (0 : Int32))) n (0 : Int32) M) else (zf_X10_rests_j26 M))))))
set_option maxHeartbeats 4000000 in
set_option maxRecDepth 100000 in
theorem zc_X10_rests {l : Launch} {D : va_G} {ad : Nat → Nat} {cA : Nat → ClassId} {n : Nat} {a1 : Int32} {a2 : Int32} {a3 : Int32} {M : ZMem} {r : Int32} {M' : ZMem} (hf : zf_X10_rests n a1 a2 a3 M = some (r, M')) : ZCt l D ad cA yX10_rests cX10_rests 10 (some .int) 7 [.ref (ad 77), .int a1, .int a2, .int a3] M (some (.int r)) M' := by
  refine zct (by decide +kernel) (Nat.le_of_ble_eq_true rfl) (lv := [(0, .ref (ad 77)), (1, .int a1), (2, .int a2), (3, .int a3)]) rfl (fun E hl hD had hcA hN hC hR => ?_)
  subst hl; subst hD; subst had; subst hcA
  unfold zf_X10_rests at hf
  refine zw_iload_n hC dX10_rests_0 rfl 1 rfl ?_
  refine zw_iconst hC (v := (0 : Int32)) dX10_rests_1 (by decide) ?_
  refine zw_bipush hC (v := (100 : Int32)) dX10_rests_2 (by decide) ?_
  obtain ⟨v40, hc40, hf⟩ := zb1_some hf
  refine zw_cS hC [.int a1, .int (0 : Int32), .int (100 : Int32)] [] (st1 := [.int v40]) zm_X10_isIn (zc_X10_isIn hc40) kw_6_106 dX10_rests_4 rfl (by decide) (Nat.le_of_ble_eq_true rfl) rfl rfl ?_
  have hj26 : zf_X10_rests_j26 M = some (r, M') → ZW E 26 [] [] M := by
    intro  hf
    unfold zf_X10_rests_j26 at hf
    refine zw_iconst hC (v := (-1 : Int32)) dX10_rests_26 (by decide) ?_
    obtain ⟨h1, h2⟩ := Prod.mk.inj (Option.some.inj hf)
    subst h1; subst h2
    exact zw_iret hC hR dX10_rests_27
  refine zw_if_eq hC 26 hf dX10_rests_7 (by decide) (fun hf => ?_) (fun hf => ?_)
  · exact zw_sub [] rfl (hj26 hf)
  · refine zw_iload_n hC dX10_rests_10 rfl 2 rfl ?_
    refine zw_iconst hC (v := (0 : Int32)) dX10_rests_11 (by decide) ?_
    refine zw_sipush hC (v := (999 : Int32)) dX10_rests_12 (by decide) ?_
    obtain ⟨v41, hc41, hf⟩ := zb1_some hf
    refine zw_cS hC [.int a2, .int (0 : Int32), .int (999 : Int32)] [] (st1 := [.int v41]) zm_X10_isIn (zc_X10_isIn hc41) kw_6_106 dX10_rests_15 rfl (by decide) (Nat.le_of_ble_eq_true rfl) rfl rfl ?_
    refine zw_if_eq hC 26 hf dX10_rests_18 (by decide) (fun hf => ?_) (fun hf => ?_)
    · exact zw_sub [] rfl (hj26 hf)
    · refine zw_iload_n hC dX10_rests_21 rfl 3 rfl ?_
      refine zw_iconst hC (v := (-1 : Int32)) dX10_rests_22 (by decide) ?_
      refine zw_icmp_ge hC 28 hf dX10_rests_23 (by decide) (fun hf => ?_) (fun hf => ?_)
      · refine zw_iconst hC (v := (0 : Int32)) dX10_rests_28 (by decide) ?_
        refine zw_istore hC (lv' := [(4, .int (0 : Int32)), (0, .ref (zad E 77)), (1, .int a1), (2, .int a2), (3, .int a3)]) dX10_rests_29 hN (by decide) rfl ?_
        have hL31 : ∀ (K132 : ZMem → Option (Int32 × ZMem)), (∀ (M44 : ZMem), K132 M44 = some (r, M') → ZW E 132 [(0, .ref (zad E 77)), (1, .int a1), (2, .int a2), (3, .int a3)] [] M44) → ∀ (n31 : Nat), ∀ (v42 : Int32), ∀ (M43 : ZMem), zf_X10_rests_L31 n K132 n31 v42 M43 = some (r, M') → ZW E 31 [(0, .ref (zad E 77)), (1, .int a1), (2, .int a2), (3, .int a3), (4, .int v42)] [] M43 := by
          intro K132 hK132
          intro n31
          induction n31 with
          | zero => intro v42 M43 hf; rw [zf_X10_rests_L31] at hf; cases hf
          | succ n31 ih31 =>
            intro v42 M43 hf
            rw [zf_X10_rests_L31] at hf
            refine zw_iload hC dX10_rests_31 4 rfl ?_
            refine zw_aload_n hC dX10_rests_33 rfl 0 rfl ?_
            obtain ⟨v45, hc45, hf⟩ := zb1_some hf
            refine zw_cV hC [] [.int v42] (st1 := [.int v45, .int v42]) zm_X10_all (zc_X10_all hc45) zk_77 rfl kw_7_44 dX10_rests_34 rfl (by decide) (Nat.le_of_ble_eq_true rfl) rfl rfl ?_
            refine zw_icmp_gt hC 132 hf dX10_rests_37 (by decide) (fun hf => ?_) (fun hf => ?_)
            · exact zw_sub [0, 1, 2, 3] rfl (hK132 M43 hf)
            · refine zw_aload_n hC dX10_rests_40 rfl 0 rfl ?_
              obtain ⟨M46, hcM46, hf⟩ := zb1_some hf
              refine zw_cV hC [] [] (st1 := []) zm_X10_setsNow (zc_X10_setsNow hcM46) zk_77 rfl kw_7_182 dX10_rests_41 rfl (by decide) (Nat.le_of_ble_eq_true rfl) rfl rfl ?_
              refine zw_aload_n hC dX10_rests_44 rfl 0 rfl ?_
              refine zw_aload_n hC dX10_rests_45 rfl 0 rfl ?_
              obtain ⟨v47, hc47, hf⟩ := zb1_some hf
              refine zw_cV hC [] [.ref (zad E 77)] (st1 := [.int v47, .ref (zad E 77)]) zm_X10_all (zc_X10_all hc47) zk_77 rfl kw_7_44 dX10_rests_46 rfl (by decide) (Nat.le_of_ble_eq_true rfl) rfl rfl ?_
              refine zw_iload hC dX10_rests_49 4 rfl ?_
              refine zw_iconst hC (v := (-1 : Int32)) dX10_rests_51 (by decide) ?_
              refine zw_ixor hC dX10_rests_52 ?_
              refine zw_iand hC dX10_rests_53 ?_
              refine zw_puti hC hf zF_Model_nowIn zk_77 dX10_rests_54 kw_6_7 (fun M48 hf => ?_)
              refine zw_aload_n hC dX10_rests_57 rfl 0 rfl ?_
              refine zw_aload_n hC dX10_rests_58 rfl 0 rfl ?_
              refine zw_aload_n hC dX10_rests_59 rfl 0 rfl ?_
              refine zw_geti hC zF_Model_nowIn zk_77 dX10_rests_60 kw_6_7 ?_
              obtain ⟨v49, hc49, hf⟩ := zb1_some hf
              refine zw_cV hC [.int (M48 77 21)] [.ref (zad E 77)] (st1 := [.int v49, .ref (zad E 77)]) zm_X10_countedOf (zc_X10_countedOf hc49) zk_77 rfl kw_7_186 dX10_rests_63 rfl (by decide) (Nat.le_of_ble_eq_true rfl) rfl rfl ?_
              refine zw_puti hC hf zF_Model_nowCounted zk_77 dX10_rests_66 kw_6_8 (fun M50 hf => ?_)
              refine zw_aload_n hC dX10_rests_69 rfl 0 rfl ?_
              refine zw_iconst hC (v := (0 : Int32)) dX10_rests_70 (by decide) ?_
              refine zw_puti hC hf zF_Model_nowLazy zk_77 dX10_rests_71 kw_6_9 (fun M51 hf => ?_)
              refine zw_aload_n hC dX10_rests_74 rfl 0 rfl ?_
              refine zw_aload_n hC dX10_rests_75 rfl 0 rfl ?_
              refine zw_geti hC zF_Model_nowIn zk_77 dX10_rests_76 kw_6_7 ?_
              obtain ⟨M52, hcM52, hf⟩ := zb1_some hf
              refine zw_cV hC [.int (M51 77 21)] [] (st1 := []) zm_X10_divides (zc_X10_divides hcM52) zk_77 rfl kw_7_107 dX10_rests_79 rfl (by decide) (Nat.le_of_ble_eq_true rfl) rfl rfl ?_
              refine zw_aload_n hC dX10_rests_82 rfl 0 rfl ?_
              obtain ⟨M53, hcM53, hf⟩ := zb1_some hf
              refine zw_cV hC [] [] (st1 := []) zm_X10_pays (zc_X10_pays hcM53) zk_77 rfl kw_7_190 dX10_rests_83 rfl (by decide) (Nat.le_of_ble_eq_true rfl) rfl rfl ?_
              refine zw_iconst hC (v := (0 : Int32)) dX10_rests_86 (by decide) ?_
              refine zw_istore hC (lv' := [(5, .int (0 : Int32)), (0, .ref (zad E 77)), (1, .int a1), (2, .int a2), (3, .int a3), (4, .int v42)]) dX10_rests_87 hN (by decide) rfl ?_
              have hL89 : ∀ (K126 : ZMem → Option (Int32 × ZMem)), (∀ (M56 : ZMem), K126 M56 = some (r, M') → ZW E 126 [(0, .ref (zad E 77)), (1, .int a1), (2, .int a2), (3, .int a3), (4, .int v42)] [] M56) → ∀ (n89 : Nat), ∀ (v54 : Int32), ∀ (M55 : ZMem), zf_X10_rests_L89 v42 K126 n89 v54 M55 = some (r, M') → ZW E 89 [(0, .ref (zad E 77)), (1, .int a1), (2, .int a2), (3, .int a3), (4, .int v42), (5, .int v54)] [] M55 := by
                intro K126 hK126
                intro n89
                induction n89 with
                | zero => intro v54 M55 hf; rw [zf_X10_rests_L89] at hf; cases hf
                | succ n89 ih89 =>
                  intro v54 M55 hf
                  rw [zf_X10_rests_L89] at hf
                  refine zw_iload hC dX10_rests_89 5 rfl ?_
                  refine zw_aload_n hC dX10_rests_91 rfl 0 rfl ?_
                  refine zw_getr (k' := 78) hC zF_Model_now zk_77 rfl dX10_rests_92 kw_5_227 ?_
                  refine zw_iconst hC (v := (0 : Int32)) dX10_rests_95 (by decide) ?_
                  refine zw_iald hC hf zk_78 dX10_rests_96 (fun v57 hf => ?_)
                  refine zw_icmp_ge hC 126 hf dX10_rests_97 (by decide) (fun hf => ?_) (fun hf => ?_)
                  · exact zw_sub [0, 1, 2, 3, 4] rfl (hK126 M55 hf)
                  · refine zw_aload_n hC dX10_rests_100 rfl 0 rfl ?_
                    refine zw_getr (k' := 92) hC zF_Model_table zk_77 rfl dX10_rests_101 kw_6_20 ?_
                    refine zw_bipush hC (v := (10 : Int32)) dX10_rests_104 (by decide) ?_
                    refine zw_iload hC dX10_rests_106 4 rfl ?_
                    refine zw_imul hC dX10_rests_108 ?_
                    refine zw_iload hC dX10_rests_109 5 rfl ?_
                    refine zw_iadd hC dX10_rests_111 ?_
                    refine zw_aload_n hC dX10_rests_112 rfl 0 rfl ?_
                    refine zw_getr (k' := 86) hC zF_Model_paid zk_77 rfl dX10_rests_113 kw_6_12 ?_
                    refine zw_iload hC dX10_rests_116 5 rfl ?_
                    refine zw_iald hC hf zk_86 dX10_rests_118 (fun v58 hf => ?_)
                    refine zw_iast hC hf zk_92 dX10_rests_119 (fun M59 hf => ?_)
                    refine zw_iinc hC (v := (1 : Int32)) (lv' := [(5, .int (v54 + (1 : Int32))), (0, .ref (zad E 77)), (1, .int a1), (2, .int a2), (3, .int a3), (4, .int v42)]) dX10_rests_120 5 rfl (by decide) hN (by decide) rfl ?_
                    refine zw_goto hC 89 dX10_rests_123 (by decide) ?_
                    exact zw_sub [1, 2, 3, 4, 5, 0] rfl (ih89 (v54 + (1 : Int32)) M59 hf)
              refine zw_sub [1, 2, 3, 4, 5, 0] rfl (hL89 _ ?_ n (0 : Int32) M53 hf)
              · intro M60 hf
                refine zw_iinc hC (v := (1 : Int32)) (lv' := [(4, .int (v42 + (1 : Int32))), (0, .ref (zad E 77)), (1, .int a1), (2, .int a2), (3, .int a3)]) dX10_rests_126 4 rfl (by decide) hN (by decide) rfl ?_
                refine zw_goto hC 31 dX10_rests_129 (by decide) ?_
                exact zw_sub [1, 2, 3, 4, 0] rfl (ih31 (v42 + (1 : Int32)) M60 hf)
        refine zw_sub [1, 2, 3, 4, 0] rfl (hL31 _ ?_ n (0 : Int32) M hf)
        · intro M61 hf
          refine zw_iconst hC (v := (0 : Int32)) dX10_rests_132 (by decide) ?_
          refine zw_istore hC (lv' := [(4, .int (0 : Int32)), (0, .ref (zad E 77)), (1, .int a1), (2, .int a2), (3, .int a3)]) dX10_rests_133 hN (by decide) rfl ?_
          refine zw_iconst hC (v := (0 : Int32)) dX10_rests_135 (by decide) ?_
          refine zw_istore hC (lv' := [(5, .int (0 : Int32)), (4, .int (0 : Int32)), (0, .ref (zad E 77)), (1, .int a1), (2, .int a2), (3, .int a3)]) dX10_rests_136 hN (by decide) rfl ?_
          have hL138 : ∀ (K282 : Int32 → Option (Int32 × ZMem)), (∀ (v64 : Int32), K282 v64 = some (r, M') → ZW E 282 [(3, .int a3), (4, .int v64)] [] M61) → ∀ (n138 : Nat), ∀ (v62 : Int32), ∀ (v63 : Int32), zf_X10_rests_L138 M61 a1 a2 a3 n K282 n138 v62 v63 = some (r, M') → ZW E 138 [(0, .ref (zad E 77)), (1, .int a1), (2, .int a2), (3, .int a3), (4, .int v62), (5, .int v63)] [] M61 := by
            intro K282 hK282
            intro n138
            induction n138 with
            | zero => intro v62 v63 hf; rw [zf_X10_rests_L138] at hf; cases hf
            | succ n138 ih138 =>
              intro v62 v63 hf
              rw [zf_X10_rests_L138] at hf
              refine zw_iload hC dX10_rests_138 5 rfl ?_
              refine zw_aload_n hC dX10_rests_140 rfl 0 rfl ?_
              obtain ⟨v65, hc65, hf⟩ := zb1_some hf
              refine zw_cV hC [] [.int v63] (st1 := [.int v65, .int v63]) zm_X10_all (zc_X10_all hc65) zk_77 rfl kw_7_44 dX10_rests_141 rfl (by decide) (Nat.le_of_ble_eq_true rfl) rfl rfl ?_
              refine zw_icmp_gt hC 282 hf dX10_rests_144 (by decide) (fun hf => ?_) (fun hf => ?_)
              · exact zw_sub [3, 4] rfl (hK282 v62 hf)
              · refine zw_iconst hC (v := (1 : Int32)) dX10_rests_147 (by decide) ?_
                refine zw_istore hC (lv' := [(6, .int (1 : Int32)), (0, .ref (zad E 77)), (1, .int a1), (2, .int a2), (3, .int a3), (4, .int v62), (5, .int v63)]) dX10_rests_148 hN (by decide) rfl ?_
                refine zw_iconst hC (v := (0 : Int32)) dX10_rests_150 (by decide) ?_
                refine zw_istore hC (lv' := [(7, .int (0 : Int32)), (6, .int (1 : Int32)), (0, .ref (zad E 77)), (1, .int a1), (2, .int a2), (3, .int a3), (4, .int v62), (5, .int v63)]) dX10_rests_151 hN (by decide) rfl ?_
                have hL153 : ∀ (K259 : Int32 → Option (Int32 × ZMem)), (∀ (v68 : Int32), K259 v68 = some (r, M') → ZW E 259 [(0, .ref (zad E 77)), (1, .int a1), (2, .int a2), (3, .int a3), (4, .int v62), (5, .int v63), (6, .int v68)] [] M61) → ∀ (n153 : Nat), ∀ (v66 : Int32), ∀ (v67 : Int32), zf_X10_rests_L153 M61 a1 a2 v63 K259 n153 v66 v67 = some (r, M') → ZW E 153 [(0, .ref (zad E 77)), (1, .int a1), (2, .int a2), (3, .int a3), (4, .int v62), (5, .int v63), (6, .int v66), (7, .int v67)] [] M61 := by
                  intro K259 hK259
                  intro n153
                  induction n153 with
                  | zero => intro v66 v67 hf; rw [zf_X10_rests_L153] at hf; cases hf
                  | succ n153 ih153 =>
                    intro v66 v67 hf
                    rw [zf_X10_rests_L153] at hf
                    refine zw_iload hC dX10_rests_153 7 rfl ?_
                    refine zw_aload_n hC dX10_rests_155 rfl 0 rfl ?_
                    refine zw_getr (k' := 78) hC zF_Model_now zk_77 rfl dX10_rests_156 kw_5_227 ?_
                    refine zw_iconst hC (v := (0 : Int32)) dX10_rests_159 (by decide) ?_
                    refine zw_iald hC hf zk_78 dX10_rests_160 (fun v69 hf => ?_)
                    refine zw_icmp_ge hC 259 hf dX10_rests_161 (by decide) (fun hf => ?_) (fun hf => ?_)
                    · exact zw_sub [0, 1, 2, 3, 4, 5, 6] rfl (hK259 v66 hf)
                    · refine zw_aload_n hC dX10_rests_164 rfl 0 rfl ?_
                      refine zw_iload hC dX10_rests_165 7 rfl ?_
                      obtain ⟨v70, hc70, hf⟩ := zb1_some hf
                      refine zw_cV hC [.int v67] [] (st1 := [.int v70]) zm_X10_claim (zc_X10_claim hc70) zk_77 rfl kw_7_52 dX10_rests_167 rfl (by decide) (Nat.le_of_ble_eq_true rfl) rfl rfl ?_
                      refine zw_iload_n hC dX10_rests_170 rfl 1 rfl ?_
                      refine zw_imul hC dX10_rests_171 ?_
                      refine zw_bipush hC (v := (100 : Int32)) dX10_rests_172 (by decide) ?_
                      refine zw_idivc hC dX10_rests_174 (by decide) ?_
                      refine zw_iload_n hC dX10_rests_175 rfl 2 rfl ?_
                      refine zw_isub hC dX10_rests_176 ?_
                      refine zw_istore hC (lv' := [(8, .int (((v70 * a1) / (100 : Int32)) - a2)), (0, .ref (zad E 77)), (1, .int a1), (2, .int a2), (3, .int a3), (4, .int v62), (5, .int v63), (6, .int v66), (7, .int v67)]) dX10_rests_177 hN (by decide) rfl ?_
                      refine zw_iload hC dX10_rests_179 0 rfl ?_
                      have hj190 : ∀ (v71 : Int32), zf_X10_rests_j190 M61 v63 v67 v66 (fun x0 x1 => zf_X10_rests_L153 M61 a1 a2 v63 K259 n153 x0 x1) v71 = some (r, M') → ZW E 190 [(0, .ref (zad E 77)), (1, .int a1), (2, .int a2), (3, .int a3), (4, .int v62), (5, .int v63), (6, .int v66), (7, .int v67)] [.int v71] M61 := by
                        intro v71 hf
                        unfold zf_X10_rests_j190 at hf
                        refine zw_istore hC (lv' := [(8, .int v71), (0, .ref (zad E 77)), (1, .int a1), (2, .int a2), (3, .int a3), (4, .int v62), (5, .int v63), (6, .int v66), (7, .int v67)]) dX10_rests_190 hN (by decide) rfl ?_
                        refine zw_aload_n hC dX10_rests_192 rfl 1 rfl ?_
                        refine zw_getr (k' := 92) hC zF_Model_table zk_77 rfl dX10_rests_193 kw_6_20 ?_
                        refine zw_bipush hC (v := (10 : Int32)) dX10_rests_196 (by decide) ?_
                        refine zw_iload hC dX10_rests_198 6 rfl ?_
                        refine zw_iconst hC (v := (1 : Int32)) dX10_rests_200 (by decide) ?_
                        refine zw_iload hC dX10_rests_201 8 rfl ?_
                        refine zw_ishl hC dX10_rests_203 ?_
                        refine zw_iconst hC (v := (-1 : Int32)) dX10_rests_204 (by decide) ?_
                        refine zw_ixor hC dX10_rests_205 ?_
                        refine zw_iand hC dX10_rests_206 ?_
                        refine zw_imul hC dX10_rests_207 ?_
                        refine zw_iload hC dX10_rests_208 8 rfl ?_
                        refine zw_iadd hC dX10_rests_210 ?_
                        refine zw_iald hC hf zk_92 dX10_rests_211 (fun v72 hf => ?_)
                        refine zw_istore hC (lv' := [(9, .int v72), (8, .int v71), (0, .ref (zad E 77)), (1, .int a1), (2, .int a2), (3, .int a3), (4, .int v62), (5, .int v63), (6, .int v66), (7, .int v67)]) dX10_rests_212 hN (by decide) rfl ?_
                        refine zw_iload hC dX10_rests_214 8 rfl ?_
                        have hj251 : ∀ (v73 : Int32), zf_X10_rests_j251 (fun x0 x1 => zf_X10_rests_L153 M61 a1 a2 v63 K259 n153 x0 x1) v67 v73 = some (r, M') → ZW E 251 [(0, .ref (zad E 77)), (1, .int a1), (2, .int a2), (3, .int a3), (4, .int v62), (5, .int v63), (7, .int v67)] [.int v73] M61 := by
                          intro v73 hf
                          unfold zf_X10_rests_j251 at hf
                          refine zw_istore hC (lv' := [(6, .int v73), (0, .ref (zad E 77)), (1, .int a1), (2, .int a2), (3, .int a3), (4, .int v62), (5, .int v63), (7, .int v67)]) dX10_rests_251 hN (by decide) rfl ?_
                          refine zw_iinc hC (v := (1 : Int32)) (lv' := [(7, .int (v67 + (1 : Int32))), (6, .int v73), (0, .ref (zad E 77)), (1, .int a1), (2, .int a2), (3, .int a3), (4, .int v62), (5, .int v63)]) dX10_rests_253 7 rfl (by decide) hN (by decide) rfl ?_
                          refine zw_goto hC 153 dX10_rests_256 (by decide) ?_
                          exact zw_sub [2, 3, 4, 5, 6, 7, 1, 0] rfl (ih153 v73 (v67 + (1 : Int32)) hf)
                        have hj250 : zf_X10_rests_j250 (fun x0 x1 => zf_X10_rests_L153 M61 a1 a2 v63 K259 n153 x0 x1) v67 = some (r, M') → ZW E 250 [(0, .ref (zad E 77)), (1, .int a1), (2, .int a2), (3, .int a3), (4, .int v62), (5, .int v63), (7, .int v67)] [] M61 := by
                          intro  hf
                          unfold zf_X10_rests_j250 at hf
                          refine zw_iconst hC (v := (0 : Int32)) dX10_rests_250 (by decide) ?_
                          exact hj251 (0 : Int32) hf
                        refine zw_if_eq hC 250 hf dX10_rests_216 (by decide) (fun hf => ?_) (fun hf => ?_)
                        · exact zw_sub [2, 3, 4, 5, 6, 7, 9] rfl (hj250 hf)
                        · refine zw_iload hC dX10_rests_219 7 rfl ?_
                          refine zw_iload hC dX10_rests_221 9 rfl ?_
                          obtain ⟨v74, hc74, hf⟩ := zb1_some hf
                          refine zw_cS hC [.int v63, .int v67] [] (st1 := [.int v74]) zm_X10_has (zc_X10_has hc74) kw_6_150 dX10_rests_223 rfl (by decide) (Nat.le_of_ble_eq_true rfl) rfl rfl ?_
                          have hj246 : zf_X10_rests_j246 (fun x0 x1 => zf_X10_rests_L153 M61 a1 a2 v63 K259 n153 x0 x1) v67 = some (r, M') → ZW E 246 [(0, .ref (zad E 77)), (1, .int a1), (2, .int a2), (3, .int a3), (4, .int v62), (5, .int v63), (7, .int v67)] [] M61 := by
                            intro  hf
                            unfold zf_X10_rests_j246 at hf
                            refine zw_iconst hC (v := (1 : Int32)) dX10_rests_246 (by decide) ?_
                            refine zw_goto hC 251 dX10_rests_247 (by decide) ?_
                            exact hj251 (1 : Int32) hf
                          refine zw_if_eq hC 239 hf dX10_rests_226 (by decide) (fun hf => ?_) (fun hf => ?_)
                          · refine zw_iload hC dX10_rests_239 1 rfl ?_
                            refine zw_iload hC dX10_rests_241 0 rfl ?_
                            refine zw_icmp_gt hC 250 hf dX10_rests_243 (by decide) (fun hf => ?_) (fun hf => ?_)
                            · exact zw_sub [2, 3, 4, 5, 6, 7, 9] rfl (hj250 hf)
                            · exact zw_sub [2, 3, 4, 5, 6, 7, 9] rfl (hj246 hf)
                          · refine zw_iload hC dX10_rests_229 0 rfl ?_
                            refine zw_iload hC dX10_rests_231 1 rfl ?_
                            refine zw_icmp_gt hC 250 hf dX10_rests_233 (by decide) (fun hf => ?_) (fun hf => ?_)
                            · exact zw_sub [2, 3, 4, 5, 6, 7, 9] rfl (hj250 hf)
                            · refine zw_goto hC 246 dX10_rests_236 (by decide) ?_
                              exact zw_sub [2, 3, 4, 5, 6, 7, 9] rfl (hj246 hf)
                      refine zw_if_ge hC 188 hf dX10_rests_181 (by decide) (fun hf => ?_) (fun hf => ?_)
                      · refine zw_iload hC dX10_rests_188 0 rfl ?_
                        exact zw_sub [1, 2, 3, 4, 5, 6, 7, 8] rfl (hj190 (((v70 * a1) / (100 : Int32)) - a2) hf)
                      · refine zw_iconst hC (v := (0 : Int32)) dX10_rests_184 (by decide) ?_
                        refine zw_goto hC 190 dX10_rests_185 (by decide) ?_
                        exact zw_sub [1, 2, 3, 4, 5, 6, 7, 8] rfl (hj190 (0 : Int32) hf)
                refine zw_sub [2, 3, 4, 5, 6, 7, 1, 0] rfl (hL153 _ ?_ n (1 : Int32) (0 : Int32) hf)
                · intro v75 hf
                  refine zw_iload hC dX10_rests_259 6 rfl ?_
                  have hj276 : ∀ (v76 : Int32), zf_X10_rests_j276 (fun x0 x1 => zf_X10_rests_L138 M61 a1 a2 a3 n K282 n138 x0 x1) v63 v76 = some (r, M') → ZW E 276 [(0, .ref (zad E 77)), (1, .int a1), (2, .int a2), (3, .int a3), (4, .int v76), (5, .int v63)] [] M61 := by
                    intro v76 hf
                    unfold zf_X10_rests_j276 at hf
                    refine zw_iinc hC (v := (1 : Int32)) (lv' := [(5, .int (v63 + (1 : Int32))), (0, .ref (zad E 77)), (1, .int a1), (2, .int a2), (3, .int a3), (4, .int v76)]) dX10_rests_276 5 rfl (by decide) hN (by decide) rfl ?_
                    refine zw_goto hC 138 dX10_rests_279 (by decide) ?_
                    exact zw_sub [1, 2, 3, 4, 5, 0] rfl (ih138 v76 (v63 + (1 : Int32)) hf)
                  refine zw_if_eq hC 276 hf dX10_rests_261 (by decide) (fun hf => ?_) (fun hf => ?_)
                  · exact zw_sub [0, 1, 2, 3, 4, 5] rfl (hj276 v62 hf)
                  · refine zw_iload hC dX10_rests_264 4 rfl ?_
                    refine zw_iload_n hC dX10_rests_266 rfl 3 rfl ?_
                    refine zw_icmp_ne hC 273 hf dX10_rests_267 (by decide) (fun hf => ?_) (fun hf => ?_)
                    · refine zw_iinc hC (v := (1 : Int32)) (lv' := [(4, .int (v62 + (1 : Int32))), (0, .ref (zad E 77)), (1, .int a1), (2, .int a2), (3, .int a3), (5, .int v63), (6, .int v75)]) dX10_rests_273 4 rfl (by decide) hN (by decide) rfl ?_
                      exact zw_sub [1, 2, 3, 4, 0, 5] rfl (hj276 (v62 + (1 : Int32)) hf)
                    · refine zw_iload hC dX10_rests_270 5 rfl ?_
                      obtain ⟨h1, h2⟩ := Prod.mk.inj (Option.some.inj hf)
                      subst h1; subst h2
                      exact zw_iret hC hR dX10_rests_272
          refine zw_sub [2, 3, 4, 5, 1, 0] rfl (hL138 _ ?_ n (0 : Int32) (0 : Int32) hf)
          · intro v77 hf
            refine zw_iload_n hC dX10_rests_282 rfl 0 rfl ?_
            refine zw_iconst hC (v := (-1 : Int32)) dX10_rests_283 (by decide) ?_
            have hj294 : ∀ (v78 : Int32), zf_X10_rests_j294 M61 v78 = some (r, M') → ZW E 294 [] [.int v78] M61 := by
              intro v78 hf
              unfold zf_X10_rests_j294 at hf
              obtain ⟨h1, h2⟩ := Prod.mk.inj (Option.some.inj hf)
              subst h1; subst h2
              exact zw_iret hC hR dX10_rests_294
            refine zw_icmp_ne hC 292 hf dX10_rests_284 (by decide) (fun hf => ?_) (fun hf => ?_)
            · refine zw_bipush hC (v := (-2 : Int32)) dX10_rests_292 (by decide) ?_
              exact zw_sub [] rfl (hj294 (-2 : Int32) hf)
            · refine zw_iload hC dX10_rests_287 1 rfl ?_
              refine zw_goto hC 294 dX10_rests_289 (by decide) ?_
              exact zw_sub [] rfl (hj294 v77 hf)
      · exact zw_sub [] rfl (hj26 hf)
/-! ClassOfManyModel.sample(II)I -/
theorem dX10_sample_0 : decode cX10_sample 0 = .ok (.iload_n 2, 1) := by decide +kernel
theorem dX10_sample_1 : decode cX10_sample 1 = .ok (.iconst 0, 1) := by decide +kernel
theorem dX10_sample_2 : decode cX10_sample 2 = .ok (.aload_n 0, 1) := by decide +kernel
theorem dX10_sample_3 : decode cX10_sample 3 = .ok (.getfield 7, 3) := by decide +kernel
theorem dX10_sample_6 : decode cX10_sample 6 = .ok (.iconst 0, 1) := by decide +kernel
theorem dX10_sample_7 : decode cX10_sample 7 = .ok (.iaload, 1) := by decide +kernel
theorem dX10_sample_8 : decode cX10_sample 8 = .ok (.invokestatic 65, 3) := by decide +kernel
theorem dX10_sample_11 : decode cX10_sample 11 = .ok (.ifCond .ne 5, 3) := by decide +kernel
theorem dX10_sample_14 : decode cX10_sample 14 = .ok (.iconst (-1), 1) := by decide +kernel
theorem dX10_sample_15 : decode cX10_sample 15 = .ok (.ireturn, 1) := by decide +kernel
theorem dX10_sample_16 : decode cX10_sample 16 = .ok (.iload_n 1, 1) := by decide +kernel
theorem dX10_sample_17 : decode cX10_sample 17 = .ok (.istore_n 3, 1) := by decide +kernel
theorem dX10_sample_18 : decode cX10_sample 18 = .ok (.iconst 0, 1) := by decide +kernel
theorem dX10_sample_19 : decode cX10_sample 19 = .ok (.istore 4, 2) := by decide +kernel
theorem dX10_sample_21 : decode cX10_sample 21 = .ok (.iconst 0, 1) := by decide +kernel
theorem dX10_sample_22 : decode cX10_sample 22 = .ok (.istore 5, 2) := by decide +kernel
theorem dX10_sample_24 : decode cX10_sample 24 = .ok (.iload 5, 2) := by decide +kernel
theorem dX10_sample_26 : decode cX10_sample 26 = .ok (.iload_n 2, 1) := by decide +kernel
theorem dX10_sample_27 : decode cX10_sample 27 = .ok (.if_icmp .ge 85, 3) := by decide +kernel
theorem dX10_sample_30 : decode cX10_sample 30 = .ok (.iload_n 3, 1) := by decide +kernel
theorem dX10_sample_31 : decode cX10_sample 31 = .ok (.ldc_w 338, 3) := by decide +kernel
theorem dX10_sample_34 : decode cX10_sample 34 = .ok (.imul, 1) := by decide +kernel
theorem dX10_sample_35 : decode cX10_sample 35 = .ok (.sipush 12345, 3) := by decide +kernel
theorem dX10_sample_38 : decode cX10_sample 38 = .ok (.iadd, 1) := by decide +kernel
theorem dX10_sample_39 : decode cX10_sample 39 = .ok (.istore_n 3, 1) := by decide +kernel
theorem dX10_sample_40 : decode cX10_sample 40 = .ok (.iload_n 3, 1) := by decide +kernel
theorem dX10_sample_41 : decode cX10_sample 41 = .ok (.bipush 16, 2) := by decide +kernel
theorem dX10_sample_43 : decode cX10_sample 43 = .ok (.iushr, 1) := by decide +kernel
theorem dX10_sample_44 : decode cX10_sample 44 = .ok (.aload_n 0, 1) := by decide +kernel
theorem dX10_sample_45 : decode cX10_sample 45 = .ok (.getfield 7, 3) := by decide +kernel
theorem dX10_sample_48 : decode cX10_sample 48 = .ok (.iconst 0, 1) := by decide +kernel
theorem dX10_sample_49 : decode cX10_sample 49 = .ok (.iaload, 1) := by decide +kernel
theorem dX10_sample_50 : decode cX10_sample 50 = .ok (.iload 5, 2) := by decide +kernel
theorem dX10_sample_52 : decode cX10_sample 52 = .ok (.isub, 1) := by decide +kernel
theorem dX10_sample_53 : decode cX10_sample 53 = .ok (.irem, 1) := by decide +kernel
theorem dX10_sample_54 : decode cX10_sample 54 = .ok (.istore 6, 2) := by decide +kernel
theorem dX10_sample_56 : decode cX10_sample 56 = .ok (.iconst 0, 1) := by decide +kernel
theorem dX10_sample_57 : decode cX10_sample 57 = .ok (.istore 7, 2) := by decide +kernel
theorem dX10_sample_59 : decode cX10_sample 59 = .ok (.iload 7, 2) := by decide +kernel
theorem dX10_sample_61 : decode cX10_sample 61 = .ok (.aload_n 0, 1) := by decide +kernel
theorem dX10_sample_62 : decode cX10_sample 62 = .ok (.getfield 7, 3) := by decide +kernel
theorem dX10_sample_65 : decode cX10_sample 65 = .ok (.iconst 0, 1) := by decide +kernel
theorem dX10_sample_66 : decode cX10_sample 66 = .ok (.iaload, 1) := by decide +kernel
theorem dX10_sample_67 : decode cX10_sample 67 = .ok (.if_icmp .ge 39, 3) := by decide +kernel
theorem dX10_sample_70 : decode cX10_sample 70 = .ok (.iload 4, 2) := by decide +kernel
theorem dX10_sample_72 : decode cX10_sample 72 = .ok (.iload 7, 2) := by decide +kernel
theorem dX10_sample_74 : decode cX10_sample 74 = .ok (.invokestatic 118, 3) := by decide +kernel
theorem dX10_sample_77 : decode cX10_sample 77 = .ok (.ifCond .ne 23, 3) := by decide +kernel
theorem dX10_sample_80 : decode cX10_sample 80 = .ok (.iload 6, 2) := by decide +kernel
theorem dX10_sample_82 : decode cX10_sample 82 = .ok (.ifCond .ne 15, 3) := by decide +kernel
theorem dX10_sample_85 : decode cX10_sample 85 = .ok (.iload 4, 2) := by decide +kernel
theorem dX10_sample_87 : decode cX10_sample 87 = .ok (.iconst 1, 1) := by decide +kernel
theorem dX10_sample_88 : decode cX10_sample 88 = .ok (.iload 7, 2) := by decide +kernel
theorem dX10_sample_90 : decode cX10_sample 90 = .ok (.ishl, 1) := by decide +kernel
theorem dX10_sample_91 : decode cX10_sample 91 = .ok (.ior, 1) := by decide +kernel
theorem dX10_sample_92 : decode cX10_sample 92 = .ok (.istore 4, 2) := by decide +kernel
theorem dX10_sample_94 : decode cX10_sample 94 = .ok (.goto 12, 3) := by decide +kernel
theorem dX10_sample_97 : decode cX10_sample 97 = .ok (.iinc 6 (-1), 3) := by decide +kernel
theorem dX10_sample_100 : decode cX10_sample 100 = .ok (.iinc 7 1, 3) := by decide +kernel
theorem dX10_sample_103 : decode cX10_sample 103 = .ok (.goto (-44), 3) := by decide +kernel
theorem dX10_sample_106 : decode cX10_sample 106 = .ok (.iinc 5 1, 3) := by decide +kernel
theorem dX10_sample_109 : decode cX10_sample 109 = .ok (.goto (-85), 3) := by decide +kernel
theorem dX10_sample_112 : decode cX10_sample 112 = .ok (.iload 4, 2) := by decide +kernel
theorem dX10_sample_114 : decode cX10_sample 114 = .ok (.ireturn, 1) := by decide +kernel
theorem zm_X10_sample : ZMv "ClassOfManyModel" yX10_sample cX10_sample 8 (some .int) 2 := ⟨kw_8_46, kw_8_44, kw_8_45, kw_1_10, by decide +kernel, by decide⟩
def zf_X10_sample_j106 (R24 : Int32 → Int32 → Int32 → Option (Int32)) (v29 : Int32) (v31 : Int32) (v35 : Int32) : Option (Int32) :=
  (R24 ((v29 * (1103515245 : Int32)) + (12345 : Int32)) v35 (v31 + (1 : Int32)))
def zf_X10_sample_j100 (R59 : Int32 → Int32 → Option (Int32)) (v37 : Int32) (v41 : Int32) : Option (Int32) :=
  (R59 v41 (v37 + (1 : Int32)))
def zf_X10_sample_L59 (M : ZMem) (v30 : Int32) (K106 : Option (Int32)) (K85 : Int32 → Option (Int32)) : Nat → Int32 → Int32 → Option (Int32)
  | 0, _, _ => none
  | n59 + 1, v36, v37 =>
  zrd M 78 73 (0 : Int32) (fun v39 => (if v39 ≤ v37 then K106 else zb1 (zf_X10_has v30 v37) (fun v40 => (if v40 = 0 then (if v36 = 0 then (K85 v37) else (zf_X10_sample_j100 (fun x0 x1 => zf_X10_sample_L59 M v30 K106 K85 n59 x0 x1) v37 (v36 + (-1 : Int32)))) else (zf_X10_sample_j100 (fun x0 x1 => zf_X10_sample_L59 M v30 K106 K85 n59 x0 x1) v37 v36)))))
def zf_X10_sample_L24 (a2 : Int32) (M : ZMem) (n : Nat) (K112 : Int32 → Option (Int32)) : Nat → Int32 → Int32 → Int32 → Option (Int32)
  | 0, _, _, _ => none
  | n24 + 1, v29, v30, v31 =>
  (if a2 ≤ v31 then (K112 v30) else zrd M 78 73 (0 : Int32) (fun v33 => zrem ((((v29 * (1103515245 : Int32)) + (12345 : Int32)).toUInt32 >>> ((16 : Int32).toUInt32 &&& Int32.toUInt32 31)).toInt32) (v33 - v31) (fun v34 => (zf_X10_sample_L59 M v30 ((zf_X10_sample_j106 (fun x0 x1 x2 => zf_X10_sample_L24 a2 M n K112 n24 x0 x1 x2) v29 v31 v30)) (fun v42 => (zf_X10_sample_j106 (fun x0 x1 x2 => zf_X10_sample_L24 a2 M n K112 n24 x0 x1 x2) v29 v31 (v30 ||| ((1 : Int32) <<< (v42 &&& 31))))) n v34 (0 : Int32)))))
def zf_X10_sample (n : Nat) (a1 : Int32) (a2 : Int32) (M : ZMem) : Option (Int32) :=
  zrd M 78 73 (0 : Int32) (fun v27 => zb1 (zf_X10_isIn a2 (0 : Int32) v27) (fun v28 => (if v28 = 0 then some (-1 : Int32) else (zf_X10_sample_L24 a2 M n (fun v43 => some v43) n a1 (0 : Int32) (0 : Int32)))))
set_option maxHeartbeats 4000000 in
set_option maxRecDepth 100000 in
theorem zc_X10_sample {l : Launch} {D : va_G} {ad : Nat → Nat} {cA : Nat → ClassId} {n : Nat} {a1 : Int32} {a2 : Int32} {M : ZMem} {r : Int32} (hf : zf_X10_sample n a1 a2 M = some r) : ZCt l D ad cA yX10_sample cX10_sample 8 (some .int) 2 [.ref (ad 77), .int a1, .int a2] M (some (.int r)) M := by
  refine zct (by decide +kernel) (Nat.le_of_ble_eq_true rfl) (lv := [(0, .ref (ad 77)), (1, .int a1), (2, .int a2)]) rfl (fun E hl hD had hcA hN hC hR => ?_)
  subst hl; subst hD; subst had; subst hcA
  unfold zf_X10_sample at hf
  refine zw_iload_n hC dX10_sample_0 rfl 2 rfl ?_
  refine zw_iconst hC (v := (0 : Int32)) dX10_sample_1 (by decide) ?_
  refine zw_aload_n hC dX10_sample_2 rfl 0 rfl ?_
  refine zw_getr (k' := 78) hC zF_Model_now zk_77 rfl dX10_sample_3 kw_5_227 ?_
  refine zw_iconst hC (v := (0 : Int32)) dX10_sample_6 (by decide) ?_
  refine zw_iald hC hf zk_78 dX10_sample_7 (fun v27 hf => ?_)
  obtain ⟨v28, hc28, hf⟩ := zb1_some hf
  refine zw_cS hC [.int a2, .int (0 : Int32), .int v27] [] (st1 := [.int v28]) zm_X10_isIn (zc_X10_isIn hc28) kw_6_106 dX10_sample_8 rfl (by decide) (Nat.le_of_ble_eq_true rfl) rfl rfl ?_
  refine zw_if_ne hC 16 hf dX10_sample_11 (by decide) (fun hf => ?_) (fun hf => ?_)
  · refine zw_iload_n hC dX10_sample_16 rfl 1 rfl ?_
    refine zw_istore_n hC (lv' := [(3, .int a1), (0, .ref (zad E 77)), (1, .int a1), (2, .int a2)]) dX10_sample_17 rfl hN (by decide) rfl ?_
    refine zw_iconst hC (v := (0 : Int32)) dX10_sample_18 (by decide) ?_
    refine zw_istore hC (lv' := [(4, .int (0 : Int32)), (3, .int a1), (0, .ref (zad E 77)), (1, .int a1), (2, .int a2)]) dX10_sample_19 hN (by decide) rfl ?_
    refine zw_iconst hC (v := (0 : Int32)) dX10_sample_21 (by decide) ?_
    refine zw_istore hC (lv' := [(5, .int (0 : Int32)), (4, .int (0 : Int32)), (3, .int a1), (0, .ref (zad E 77)), (1, .int a1), (2, .int a2)]) dX10_sample_22 hN (by decide) rfl ?_
    have hL24 : ∀ (K112 : Int32 → Option (Int32)), (∀ (v32 : Int32), K112 v32 = some r → ZW E 112 [(4, .int v32)] [] M) → ∀ (n24 : Nat), ∀ (v29 : Int32), ∀ (v30 : Int32), ∀ (v31 : Int32), zf_X10_sample_L24 a2 M n K112 n24 v29 v30 v31 = some r → ZW E 24 [(0, .ref (zad E 77)), (2, .int a2), (3, .int v29), (4, .int v30), (5, .int v31)] [] M := by
      intro K112 hK112
      intro n24
      induction n24 with
      | zero => intro v29 v30 v31 hf; rw [zf_X10_sample_L24] at hf; cases hf
      | succ n24 ih24 =>
        intro v29 v30 v31 hf
        rw [zf_X10_sample_L24] at hf
        refine zw_iload hC dX10_sample_24 4 rfl ?_
        refine zw_iload_n hC dX10_sample_26 rfl 1 rfl ?_
        refine zw_icmp_ge hC 112 hf dX10_sample_27 (by decide) (fun hf => ?_) (fun hf => ?_)
        · exact zw_sub [3] rfl (hK112 v30 hf)
        · refine zw_iload_n hC dX10_sample_30 rfl 2 rfl ?_
          refine zw_ldcw hC dX10_sample_31 kw_8_47 ?_
          refine zw_imul hC dX10_sample_34 ?_
          refine zw_sipush hC (v := (12345 : Int32)) dX10_sample_35 (by decide) ?_
          refine zw_iadd hC dX10_sample_38 ?_
          refine zw_istore_n hC (lv' := [(3, .int ((v29 * (1103515245 : Int32)) + (12345 : Int32))), (0, .ref (zad E 77)), (2, .int a2), (4, .int v30), (5, .int v31)]) dX10_sample_39 rfl hN (by decide) rfl ?_
          refine zw_iload_n hC dX10_sample_40 rfl 0 rfl ?_
          refine zw_bipush hC (v := (16 : Int32)) dX10_sample_41 (by decide) ?_
          refine zw_iushr hC dX10_sample_43 ?_
          refine zw_aload_n hC dX10_sample_44 rfl 1 rfl ?_
          refine zw_getr (k' := 78) hC zF_Model_now zk_77 rfl dX10_sample_45 kw_5_227 ?_
          refine zw_iconst hC (v := (0 : Int32)) dX10_sample_48 (by decide) ?_
          refine zw_iald hC hf zk_78 dX10_sample_49 (fun v33 hf => ?_)
          refine zw_iload hC dX10_sample_50 4 rfl ?_
          refine zw_isub hC dX10_sample_52 ?_
          refine zw_irem hC hf dX10_sample_53 (fun v34 hf => ?_)
          refine zw_istore hC (lv' := [(6, .int v34), (3, .int ((v29 * (1103515245 : Int32)) + (12345 : Int32))), (0, .ref (zad E 77)), (2, .int a2), (4, .int v30), (5, .int v31)]) dX10_sample_54 hN (by decide) rfl ?_
          refine zw_iconst hC (v := (0 : Int32)) dX10_sample_56 (by decide) ?_
          refine zw_istore hC (lv' := [(7, .int (0 : Int32)), (6, .int v34), (3, .int ((v29 * (1103515245 : Int32)) + (12345 : Int32))), (0, .ref (zad E 77)), (2, .int a2), (4, .int v30), (5, .int v31)]) dX10_sample_57 hN (by decide) rfl ?_
          have hj106 : ∀ (v35 : Int32), zf_X10_sample_j106 (fun x0 x1 x2 => zf_X10_sample_L24 a2 M n K112 n24 x0 x1 x2) v29 v31 v35 = some r → ZW E 106 [(0, .ref (zad E 77)), (2, .int a2), (3, .int ((v29 * (1103515245 : Int32)) + (12345 : Int32))), (4, .int v35), (5, .int v31)] [] M := by
            intro v35 hf
            unfold zf_X10_sample_j106 at hf
            refine zw_iinc hC (v := (1 : Int32)) (lv' := [(5, .int (v31 + (1 : Int32))), (0, .ref (zad E 77)), (2, .int a2), (3, .int ((v29 * (1103515245 : Int32)) + (12345 : Int32))), (4, .int v35)]) dX10_sample_106 4 rfl (by decide) hN (by decide) rfl ?_
            refine zw_goto hC 24 dX10_sample_109 (by decide) ?_
            exact zw_sub [1, 2, 3, 4, 0] rfl (ih24 ((v29 * (1103515245 : Int32)) + (12345 : Int32)) v35 (v31 + (1 : Int32)) hf)
          have hL59 : ∀ (K106 : Option (Int32)), (K106 = some r → ZW E 106 [(0, .ref (zad E 77)), (2, .int a2), (3, .int ((v29 * (1103515245 : Int32)) + (12345 : Int32))), (4, .int v30), (5, .int v31)] [] M) → ∀ (K85 : Int32 → Option (Int32)), (∀ (v38 : Int32), K85 v38 = some r → ZW E 85 [(0, .ref (zad E 77)), (2, .int a2), (3, .int ((v29 * (1103515245 : Int32)) + (12345 : Int32))), (4, .int v30), (5, .int v31), (7, .int v38)] [] M) → ∀ (n59 : Nat), ∀ (v36 : Int32), ∀ (v37 : Int32), zf_X10_sample_L59 M v30 K106 K85 n59 v36 v37 = some r → ZW E 59 [(0, .ref (zad E 77)), (2, .int a2), (3, .int ((v29 * (1103515245 : Int32)) + (12345 : Int32))), (4, .int v30), (5, .int v31), (6, .int v36), (7, .int v37)] [] M := by
            intro K106 hK106 K85 hK85
            intro n59
            induction n59 with
            | zero => intro v36 v37 hf; rw [zf_X10_sample_L59] at hf; cases hf
            | succ n59 ih59 =>
              intro v36 v37 hf
              rw [zf_X10_sample_L59] at hf
              refine zw_iload hC dX10_sample_59 6 rfl ?_
              refine zw_aload_n hC dX10_sample_61 rfl 0 rfl ?_
              refine zw_getr (k' := 78) hC zF_Model_now zk_77 rfl dX10_sample_62 kw_5_227 ?_
              refine zw_iconst hC (v := (0 : Int32)) dX10_sample_65 (by decide) ?_
              refine zw_iald hC hf zk_78 dX10_sample_66 (fun v39 hf => ?_)
              refine zw_icmp_ge hC 106 hf dX10_sample_67 (by decide) (fun hf => ?_) (fun hf => ?_)
              · exact zw_sub [0, 1, 2, 3, 4] rfl (hK106 hf)
              · refine zw_iload hC dX10_sample_70 3 rfl ?_
                refine zw_iload hC dX10_sample_72 6 rfl ?_
                obtain ⟨v40, hc40, hf⟩ := zb1_some hf
                refine zw_cS hC [.int v30, .int v37] [] (st1 := [.int v40]) zm_X10_has (zc_X10_has hc40) kw_6_150 dX10_sample_74 rfl (by decide) (Nat.le_of_ble_eq_true rfl) rfl rfl ?_
                have hj100 : ∀ (v41 : Int32), zf_X10_sample_j100 (fun x0 x1 => zf_X10_sample_L59 M v30 K106 K85 n59 x0 x1) v37 v41 = some r → ZW E 100 [(0, .ref (zad E 77)), (2, .int a2), (3, .int ((v29 * (1103515245 : Int32)) + (12345 : Int32))), (4, .int v30), (5, .int v31), (6, .int v41), (7, .int v37)] [] M := by
                  intro v41 hf
                  unfold zf_X10_sample_j100 at hf
                  refine zw_iinc hC (v := (1 : Int32)) (lv' := [(7, .int (v37 + (1 : Int32))), (0, .ref (zad E 77)), (2, .int a2), (3, .int ((v29 * (1103515245 : Int32)) + (12345 : Int32))), (4, .int v30), (5, .int v31), (6, .int v41)]) dX10_sample_100 6 rfl (by decide) hN (by decide) rfl ?_
                  refine zw_goto hC 59 dX10_sample_103 (by decide) ?_
                  exact zw_sub [1, 2, 3, 4, 5, 6, 0] rfl (ih59 v41 (v37 + (1 : Int32)) hf)
                refine zw_if_ne hC 100 hf dX10_sample_77 (by decide) (fun hf => ?_) (fun hf => ?_)
                · exact hj100 v36 hf
                · refine zw_iload hC dX10_sample_80 5 rfl ?_
                  refine zw_if_ne hC 97 hf dX10_sample_82 (by decide) (fun hf => ?_) (fun hf => ?_)
                  · refine zw_iinc hC (v := (-1 : Int32)) (lv' := [(6, .int (v36 + (-1 : Int32))), (0, .ref (zad E 77)), (2, .int a2), (3, .int ((v29 * (1103515245 : Int32)) + (12345 : Int32))), (4, .int v30), (5, .int v31), (7, .int v37)]) dX10_sample_97 5 rfl (by decide) hN (by decide) rfl ?_
                    exact zw_sub [1, 2, 3, 4, 5, 0, 6] rfl (hj100 (v36 + (-1 : Int32)) hf)
                  · exact zw_sub [0, 1, 2, 3, 4, 6] rfl (hK85 v37 hf)
          refine zw_sub [3, 4, 2, 5, 6, 1, 0] rfl (hL59 _ ?_ _ ?_ n v34 (0 : Int32) hf)
          · intro  hf
            exact hj106 v30 hf
          · intro v42 hf
            refine zw_iload hC dX10_sample_85 3 rfl ?_
            refine zw_iconst hC (v := (1 : Int32)) dX10_sample_87 (by decide) ?_
            refine zw_iload hC dX10_sample_88 5 rfl ?_
            refine zw_ishl hC dX10_sample_90 ?_
            refine zw_ior hC dX10_sample_91 ?_
            refine zw_istore hC (lv' := [(4, .int (v30 ||| ((1 : Int32) <<< (v42 &&& 31)))), (0, .ref (zad E 77)), (2, .int a2), (3, .int ((v29 * (1103515245 : Int32)) + (12345 : Int32))), (5, .int v31), (7, .int v42)]) dX10_sample_92 hN (by decide) rfl ?_
            refine zw_goto hC 106 dX10_sample_94 (by decide) ?_
            exact zw_sub [1, 2, 3, 0, 4] rfl (hj106 (v30 ||| ((1 : Int32) <<< (v42 &&& 31))) hf)
    refine zw_sub [3, 5, 2, 1, 0] rfl (hL24 _ ?_ n a1 (0 : Int32) (0 : Int32) hf)
    · intro v43 hf
      refine zw_iload hC dX10_sample_112 0 rfl ?_
      have h1 := Option.some.inj hf
      subst h1
      exact zw_iret hC hR dX10_sample_114
  · refine zw_iconst hC (v := (-1 : Int32)) dX10_sample_14 (by decide) ?_
    have h1 := Option.some.inj hf
    subst h1
    exact zw_iret hC hR dX10_sample_15
