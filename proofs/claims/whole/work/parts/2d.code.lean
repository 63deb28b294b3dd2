/-! ClassOfMany.had(II)I -/
theorem dX9_had_0 : decode cX9_had 0 = .ok (.aload_n 0, 1) := by decide +kernel
theorem dX9_had_1 : decode cX9_had 1 = .ok (.iload_n 1, 1) := by decide +kernel
theorem dX9_had_2 : decode cX9_had 2 = .ok (.invokevirtual 130, 3) := by decide +kernel
theorem dX9_had_5 : decode cX9_had 5 = .ok (.ifCond .eq 14, 3) := by decide +kernel
theorem dX9_had_8 : decode cX9_had 8 = .ok (.iload_n 2, 1) := by decide +kernel
theorem dX9_had_9 : decode cX9_had 9 = .ok (.iconst 1, 1) := by decide +kernel
theorem dX9_had_10 : decode cX9_had 10 = .ok (.if_icmp .lt 9, 3) := by decide +kernel
theorem dX9_had_13 : decode cX9_had 13 = .ok (.iload_n 2, 1) := by decide +kernel
theorem dX9_had_14 : decode cX9_had 14 = .ok (.bipush 9, 2) := by decide +kernel
theorem dX9_had_16 : decode cX9_had 16 = .ok (.if_icmp .le 5, 3) := by decide +kernel
theorem dX9_had_19 : decode cX9_had 19 = .ok (.iconst (-1), 1) := by decide +kernel
theorem dX9_had_20 : decode cX9_had 20 = .ok (.ireturn, 1) := by decide +kernel
theorem dX9_had_21 : decode cX9_had 21 = .ok (.aload_n 0, 1) := by decide +kernel
theorem dX9_had_22 : decode cX9_had 22 = .ok (.invokevirtual 305, 3) := by decide +kernel
theorem dX9_had_25 : decode cX9_had 25 = .ok (.aload_n 0, 1) := by decide +kernel
theorem dX9_had_26 : decode cX9_had 26 = .ok (.getfield 50, 3) := by decide +kernel
theorem dX9_had_29 : decode cX9_had 29 = .ok (.getfield 329, 3) := by decide +kernel
theorem dX9_had_32 : decode cX9_had 32 = .ok (.iload_n 2, 1) := by decide +kernel
theorem dX9_had_33 : decode cX9_had 33 = .ok (.iconst 1, 1) := by decide +kernel
theorem dX9_had_34 : decode cX9_had 34 = .ok (.isub, 1) := by decide +kernel
theorem dX9_had_35 : decode cX9_had 35 = .ok (.bipush 10, 2) := by decide +kernel
theorem dX9_had_37 : decode cX9_had 37 = .ok (.imul, 1) := by decide +kernel
theorem dX9_had_38 : decode cX9_had 38 = .ok (.iload_n 1, 1) := by decide +kernel
theorem dX9_had_39 : decode cX9_had 39 = .ok (.iadd, 1) := by decide +kernel
theorem dX9_had_40 : decode cX9_had 40 = .ok (.iaload, 1) := by decide +kernel
theorem dX9_had_41 : decode cX9_had 41 = .ok (.ireturn, 1) := by decide +kernel
theorem zm_X9_had : ZMv "ClassOfMany" yX9_had cX9_had 3 (some .int) 2 := ⟨kw_5_22, kw_5_20, kw_5_21, kw_1_1, by decide +kernel, by decide⟩
def zf_X9_had_j19 (M : ZMem) : Option (Int32 × ZMem) :=
  some ((-1 : Int32), M)
def zf_X9_had (n : Nat) (a1 : Int32) (a2 : Int32) (M : ZMem) : Option (Int32 × ZMem) :=
  zb1 (zf_X9_isMember a1 M) (fun v24 => (if v24 = 0 then (zf_X9_had_j19 M) else (if a2 < (1 : Int32) then (zf_X9_had_j19 M) else (if a2 ≤ (9 : Int32) then zb1 (zf_X9_payNow n M) (fun M25 => zrd M25 70 90 (((a2 - (1 : Int32)) * (10 : Int32)) + a1) (fun v26 => some (v26, M25))) else (zf_X9_had_j19 M)))))
set_option maxHeartbeats 4000000 in
set_option maxRecDepth 100000 in
theorem zc_X9_had {l : Launch} {D : va_G} {ad : Nat → Nat} {cA : Nat → ClassId} {n : Nat} {a1 : Int32} {a2 : Int32} {M : ZMem} {r : Int32} {M' : ZMem} (hf : zf_X9_had n a1 a2 M = some (r, M')) : ZCt l D ad cA yX9_had cX9_had 3 (some .int) 19 [.ref (ad 0), .int a1, .int a2] M (some (.int r)) M' := by
  refine zct (by decide +kernel) (Nat.le_of_ble_eq_true rfl) (lv := [(0, .ref (ad 0)), (1, .int a1), (2, .int a2)]) rfl (fun E hl hD had hcA hN hC hR => ?_)
  subst hl; subst hD; subst had; subst hcA
  unfold zf_X9_had at hf
  refine zw_aload_n hC dX9_had_0 rfl 0 rfl ?_
  refine zw_iload_n hC dX9_had_1 rfl 1 rfl ?_
  obtain ⟨v24, hc24, hf⟩ := zb1_some hf
  refine zw_cV hC [.int a1] [] (st1 := [.int v24]) zm_X9_isMember (zc_X9_isMember hc24) zk_0 rfl kw_3_197 dX9_had_2 rfl (by decide) (Nat.le_of_ble_eq_true rfl) rfl rfl ?_
  have hj19 : zf_X9_had_j19 M = some (r, M') → ZW E 19 [] [] M := by
    intro  hf
    unfold zf_X9_had_j19 at hf
    refine zw_iconst hC (v := (-1 : Int32)) dX9_had_19 (by decide) ?_
    obtain ⟨h1, h2⟩ := Prod.mk.inj (Option.some.inj hf)
    subst h1; subst h2
    exact zw_iret hC hR dX9_had_20
  refine zw_if_eq hC 19 hf dX9_had_5 (by decide) (fun hf => ?_) (fun hf => ?_)
  · exact zw_sub [] rfl (hj19 hf)
  · refine zw_iload_n hC dX9_had_8 rfl 2 rfl ?_
    refine zw_iconst hC (v := (1 : Int32)) dX9_had_9 (by decide) ?_
    refine zw_icmp_lt hC 19 hf dX9_had_10 (by decide) (fun hf => ?_) (fun hf => ?_)
    · exact zw_sub [] rfl (hj19 hf)
    · refine zw_iload_n hC dX9_had_13 rfl 2 rfl ?_
      refine zw_bipush hC (v := (9 : Int32)) dX9_had_14 (by decide) ?_
      refine zw_icmp_le hC 21 hf dX9_had_16 (by decide) (fun hf => ?_) (fun hf => ?_)
      · refine zw_aload_n hC dX9_had_21 rfl 0 rfl ?_
        obtain ⟨M25, hcM25, hf⟩ := zb1_some hf
        refine zw_cV hC [] [] (st1 := []) zm_X9_payNow (zc_X9_payNow hcM25) zk_0 rfl kw_4_191 dX9_had_22 rfl (by decide) (Nat.le_of_ble_eq_true rfl) rfl rfl ?_
        refine zw_aload_n hC dX9_had_25 rfl 0 rfl ?_
        refine zw_getr (k' := 63) hC zF_ClassOfMany_payer zk_0 rfl dX9_had_26 kw_2_174 ?_
        refine zw_getr (k' := 70) hC zF_Payer_hadIn zk_63 rfl dX9_had_29 kw_2_69 ?_
        refine zw_iload_n hC dX9_had_32 rfl 2 rfl ?_
        refine zw_iconst hC (v := (1 : Int32)) dX9_had_33 (by decide) ?_
        refine zw_isub hC dX9_had_34 ?_
        refine zw_bipush hC (v := (10 : Int32)) dX9_had_35 (by decide) ?_
        refine zw_imul hC dX9_had_37 ?_
        refine zw_iload_n hC dX9_had_38 rfl 1 rfl ?_
        refine zw_iadd hC dX9_had_39 ?_
        refine zw_iald hC hf zk_70 dX9_had_40 (fun v26 hf => ?_)
        obtain ⟨h1, h2⟩ := Prod.mk.inj (Option.some.inj hf)
        subst h1; subst h2
        exact zw_iret hC hR dX9_had_41
      · exact zw_sub [] rfl (hj19 hf)
/-! ClassOfMany.share()I -/
theorem dX9_share_0 : decode cX9_share 0 = .ok (.aload_n 0, 1) := by decide +kernel
theorem dX9_share_1 : decode cX9_share 1 = .ok (.invokevirtual 305, 3) := by decide +kernel
theorem dX9_share_4 : decode cX9_share 4 = .ok (.aload_n 0, 1) := by decide +kernel
theorem dX9_share_5 : decode cX9_share 5 = .ok (.getfield 50, 3) := by decide +kernel
theorem dX9_share_8 : decode cX9_share 8 = .ok (.getfield 332, 3) := by decide +kernel
theorem dX9_share_11 : decode cX9_share 11 = .ok (.ifCond .gt 6, 3) := by decide +kernel
theorem dX9_share_14 : decode cX9_share 14 = .ok (.bipush (-2), 2) := by decide +kernel
theorem dX9_share_16 : decode cX9_share 16 = .ok (.ireturn, 1) := by decide +kernel
theorem dX9_share_17 : decode cX9_share 17 = .ok (.aload_n 0, 1) := by decide +kernel
theorem dX9_share_18 : decode cX9_share 18 = .ok (.getfield 50, 3) := by decide +kernel
theorem dX9_share_21 : decode cX9_share 21 = .ok (.getfield 308, 3) := by decide +kernel
theorem dX9_share_24 : decode cX9_share 24 = .ok (.aload_n 0, 1) := by decide +kernel
theorem dX9_share_25 : decode cX9_share 25 = .ok (.getfield 50, 3) := by decide +kernel
theorem dX9_share_28 : decode cX9_share 28 = .ok (.getfield 311, 3) := by decide +kernel
theorem dX9_share_31 : decode cX9_share 31 = .ok (.isub, 1) := by decide +kernel
theorem dX9_share_32 : decode cX9_share 32 = .ok (.bipush 100, 2) := by decide +kernel
theorem dX9_share_34 : decode cX9_share 34 = .ok (.imul, 1) := by decide +kernel
theorem dX9_share_35 : decode cX9_share 35 = .ok (.aload_n 0, 1) := by decide +kernel
theorem dX9_share_36 : decode cX9_share 36 = .ok (.getfield 50, 3) := by decide +kernel
theorem dX9_share_39 : decode cX9_share 39 = .ok (.getfield 332, 3) := by decide +kernel
theorem dX9_share_42 : decode cX9_share 42 = .ok (.idiv, 1) := by decide +kernel
theorem dX9_share_43 : decode cX9_share 43 = .ok (.ireturn, 1) := by decide +kernel
theorem zm_X9_share : ZMv "ClassOfMany" yX9_share cX9_share 1 (some .int) 0 := ⟨kw_5_26, kw_5_24, kw_5_25, kw_1_1, by decide +kernel, by decide⟩
def zf_X9_share (n : Nat) (M : ZMem) : Option (Int32 × ZMem) :=
  zb1 (zf_X9_payNow n M) (fun M23 => (if 0 < (M23 63 12) then zdiv (((M23 63 15) - (M23 63 17)) * (100 : Int32)) (M23 63 12) (fun v24 => some (v24, M23)) else some ((-2 : Int32), M23)))
set_option maxHeartbeats 4000000 in
set_option maxRecDepth 100000 in
theorem zc_X9_share {l : Launch} {D : va_G} {ad : Nat → Nat} {cA : Nat → ClassId} {n : Nat} {M : ZMem} {r : Int32} {M' : ZMem} (hf : zf_X9_share n M = some (r, M')) : ZCt l D ad cA yX9_share cX9_share 1 (some .int) 19 [.ref (ad 0)] M (some (.int r)) M' := by
  refine zct (by decide +kernel) (Nat.le_of_ble_eq_true rfl) (lv := [(0, .ref (ad 0))]) rfl (fun E hl hD had hcA hN hC hR => ?_)
  subst hl; subst hD; subst had; subst hcA
  unfold zf_X9_share at hf
  refine zw_aload_n hC dX9_share_0 rfl 0 rfl ?_
  obtain ⟨M23, hcM23, hf⟩ := zb1_some hf
  refine zw_cV hC [] [] (st1 := []) zm_X9_payNow (zc_X9_payNow hcM23) zk_0 rfl kw_4_191 dX9_share_1 rfl (by decide) (Nat.le_of_ble_eq_true rfl) rfl rfl ?_
  refine zw_aload_n hC dX9_share_4 rfl 0 rfl ?_
  refine zw_getr (k' := 63) hC zF_ClassOfMany_payer zk_0 rfl dX9_share_5 kw_2_174 ?_
  refine zw_geti hC zF_Payer_claimsInAll zk_63 dX9_share_8 kw_2_77 ?_
  refine zw_if_gt hC 17 hf dX9_share_11 (by decide) (fun hf => ?_) (fun hf => ?_)
  · refine zw_aload_n hC dX9_share_17 rfl 0 rfl ?_
    refine zw_getr (k' := 63) hC zF_ClassOfMany_payer zk_0 rfl dX9_share_18 kw_2_174 ?_
    refine zw_geti hC zF_Payer_net zk_63 dX9_share_21 kw_2_82 ?_
    refine zw_aload_n hC dX9_share_24 rfl 0 rfl ?_
    refine zw_getr (k' := 63) hC zF_ClassOfMany_payer zk_0 rfl dX9_share_25 kw_2_174 ?_
    refine zw_geti hC zF_Payer_left zk_63 dX9_share_28 kw_2_86 ?_
    refine zw_isub hC dX9_share_31 ?_
    refine zw_bipush hC (v := (100 : Int32)) dX9_share_32 (by decide) ?_
    refine zw_imul hC dX9_share_34 ?_
    refine zw_aload_n hC dX9_share_35 rfl 0 rfl ?_
    refine zw_getr (k' := 63) hC zF_ClassOfMany_payer zk_0 rfl dX9_share_36 kw_2_174 ?_
    refine zw_geti hC zF_Payer_claimsInAll zk_63 dX9_share_39 kw_2_77 ?_
    refine zw_idiv hC hf dX9_share_42 (fun v24 hf => ?_)
    obtain ⟨h1, h2⟩ := Prod.mk.inj (Option.some.inj hf)
    subst h1; subst h2
    exact zw_iret hC hR dX9_share_43
  · refine zw_bipush hC (v := (-2 : Int32)) dX9_share_14 (by decide) ?_
    obtain ⟨h1, h2⟩ := Prod.mk.inj (Option.some.inj hf)
    subst h1; subst h2
    exact zw_iret hC hR dX9_share_16
/-! ClassOfMany.votes(I)I -/
theorem dX9_votes_0 : decode cX9_votes 0 = .ok (.iload_n 1, 1) := by decide +kernel
theorem dX9_votes_1 : decode cX9_votes 1 = .ok (.invokestatic 335, 3) := by decide +kernel
theorem dX9_votes_4 : decode cX9_votes 4 = .ok (.ifCond .ne 5, 3) := by decide +kernel
theorem dX9_votes_7 : decode cX9_votes 7 = .ok (.iconst (-1), 1) := by decide +kernel
theorem dX9_votes_8 : decode cX9_votes 8 = .ok (.ireturn, 1) := by decide +kernel
theorem dX9_votes_9 : decode cX9_votes 9 = .ok (.aload_n 0, 1) := by decide +kernel
theorem dX9_votes_10 : decode cX9_votes 10 = .ok (.invokevirtual 305, 3) := by decide +kernel
theorem dX9_votes_13 : decode cX9_votes 13 = .ok (.aload_n 0, 1) := by decide +kernel
theorem dX9_votes_14 : decode cX9_votes 14 = .ok (.getfield 50, 3) := by decide +kernel
theorem dX9_votes_17 : decode cX9_votes 17 = .ok (.getfield 317, 3) := by decide +kernel
theorem dX9_votes_20 : decode cX9_votes 20 = .ok (.ifCond .ne 6, 3) := by decide +kernel
theorem dX9_votes_23 : decode cX9_votes 23 = .ok (.bipush (-2), 2) := by decide +kernel
theorem dX9_votes_25 : decode cX9_votes 25 = .ok (.ireturn, 1) := by decide +kernel
theorem dX9_votes_26 : decode cX9_votes 26 = .ok (.iconst 0, 1) := by decide +kernel
theorem dX9_votes_27 : decode cX9_votes 27 = .ok (.istore_n 2, 1) := by decide +kernel
theorem dX9_votes_28 : decode cX9_votes 28 = .ok (.iconst 0, 1) := by decide +kernel
theorem dX9_votes_29 : decode cX9_votes 29 = .ok (.istore_n 3, 1) := by decide +kernel
theorem dX9_votes_30 : decode cX9_votes 30 = .ok (.iload_n 3, 1) := by decide +kernel
theorem dX9_votes_31 : decode cX9_votes 31 = .ok (.aload_n 0, 1) := by decide +kernel
theorem dX9_votes_32 : decode cX9_votes 32 = .ok (.getfield 12, 3) := by decide +kernel
theorem dX9_votes_35 : decode cX9_votes 35 = .ok (.getfield 92, 3) := by decide +kernel
theorem dX9_votes_38 : decode cX9_votes 38 = .ok (.if_icmp .ge 61, 3) := by decide +kernel
theorem dX9_votes_41 : decode cX9_votes 41 = .ok (.aload_n 0, 1) := by decide +kernel
theorem dX9_votes_42 : decode cX9_votes 42 = .ok (.getfield 50, 3) := by decide +kernel
theorem dX9_votes_45 : decode cX9_votes 45 = .ok (.getfield 338, 3) := by decide +kernel
theorem dX9_votes_48 : decode cX9_votes 48 = .ok (.iload_n 3, 1) := by decide +kernel
theorem dX9_votes_49 : decode cX9_votes 49 = .ok (.invokestatic 137, 3) := by decide +kernel
theorem dX9_votes_52 : decode cX9_votes 52 = .ok (.ifCond .eq 41, 3) := by decide +kernel
theorem dX9_votes_55 : decode cX9_votes 55 = .ok (.aload_n 0, 1) := by decide +kernel
theorem dX9_votes_56 : decode cX9_votes 56 = .ok (.getfield 50, 3) := by decide +kernel
theorem dX9_votes_59 : decode cX9_votes 59 = .ok (.getfield 326, 3) := by decide +kernel
theorem dX9_votes_62 : decode cX9_votes 62 = .ok (.iload_n 3, 1) := by decide +kernel
theorem dX9_votes_63 : decode cX9_votes 63 = .ok (.iaload, 1) := by decide +kernel
theorem dX9_votes_64 : decode cX9_votes 64 = .ok (.bipush 100, 2) := by decide +kernel
theorem dX9_votes_66 : decode cX9_votes 66 = .ok (.imul, 1) := by decide +kernel
theorem dX9_votes_67 : decode cX9_votes 67 = .ok (.iload_n 1, 1) := by decide +kernel
theorem dX9_votes_68 : decode cX9_votes 68 = .ok (.aload_n 0, 1) := by decide +kernel
theorem dX9_votes_69 : decode cX9_votes 69 = .ok (.getfield 50, 3) := by decide +kernel
theorem dX9_votes_72 : decode cX9_votes 72 = .ok (.getfield 341, 3) := by decide +kernel
theorem dX9_votes_75 : decode cX9_votes 75 = .ok (.iload_n 3, 1) := by decide +kernel
theorem dX9_votes_76 : decode cX9_votes 76 = .ok (.iaload, 1) := by decide +kernel
theorem dX9_votes_77 : decode cX9_votes 77 = .ok (.imul, 1) := by decide +kernel
theorem dX9_votes_78 : decode cX9_votes 78 = .ok (.if_icmp .lt 15, 3) := by decide +kernel
theorem dX9_votes_81 : decode cX9_votes 81 = .ok (.iload_n 2, 1) := by decide +kernel
theorem dX9_votes_82 : decode cX9_votes 82 = .ok (.aload_n 0, 1) := by decide +kernel
theorem dX9_votes_83 : decode cX9_votes 83 = .ok (.getfield 50, 3) := by decide +kernel
theorem dX9_votes_86 : decode cX9_votes 86 = .ok (.getfield 341, 3) := by decide +kernel
theorem dX9_votes_89 : decode cX9_votes 89 = .ok (.iload_n 3, 1) := by decide +kernel
theorem dX9_votes_90 : decode cX9_votes 90 = .ok (.iaload, 1) := by decide +kernel
theorem dX9_votes_91 : decode cX9_votes 91 = .ok (.iadd, 1) := by decide +kernel
theorem dX9_votes_92 : decode cX9_votes 92 = .ok (.istore_n 2, 1) := by decide +kernel
theorem dX9_votes_93 : decode cX9_votes 93 = .ok (.iinc 3 1, 3) := by decide +kernel
theorem dX9_votes_96 : decode cX9_votes 96 = .ok (.goto (-66), 3) := by decide +kernel
theorem dX9_votes_99 : decode cX9_votes 99 = .ok (.iconst 2, 1) := by decide +kernel
theorem dX9_votes_100 : decode cX9_votes 100 = .ok (.iload_n 2, 1) := by decide +kernel
theorem dX9_votes_101 : decode cX9_votes 101 = .ok (.imul, 1) := by decide +kernel
theorem dX9_votes_102 : decode cX9_votes 102 = .ok (.aload_n 0, 1) := by decide +kernel
theorem dX9_votes_103 : decode cX9_votes 103 = .ok (.getfield 50, 3) := by decide +kernel
theorem dX9_votes_106 : decode cX9_votes 106 = .ok (.getfield 332, 3) := by decide +kernel
theorem dX9_votes_109 : decode cX9_votes 109 = .ok (.if_icmp .le 7, 3) := by decide +kernel
theorem dX9_votes_112 : decode cX9_votes 112 = .ok (.iconst 1, 1) := by decide +kernel
theorem dX9_votes_113 : decode cX9_votes 113 = .ok (.goto 4, 3) := by decide +kernel
theorem dX9_votes_116 : decode cX9_votes 116 = .ok (.iconst 0, 1) := by decide +kernel
theorem dX9_votes_117 : decode cX9_votes 117 = .ok (.ireturn, 1) := by decide +kernel
theorem zm_X9_votes : ZMv "ClassOfMany" yX9_votes cX9_votes 4 (some .int) 1 := ⟨kw_5_30, kw_5_28, kw_5_29, kw_1_1, by decide +kernel, by decide⟩
def zf_X9_votes_j93 (R30 : Int32 → Int32 → Option (Int32 × ZMem)) (v31 : Int32) (v35 : Int32) : Option (Int32 × ZMem) :=
  (R30 v35 (v31 + (1 : Int32)))
def zf_X9_votes_L30 (M29 : ZMem) (a1 : Int32) (K99 : Int32 → Option (Int32 × ZMem)) : Nat → Int32 → Int32 → Option (Int32 × ZMem)
  | 0, _, _ => none
  | n30 + 1, v30, v31 =>
  zdy M29 0 0 (7, 17) (fun o33 => (if (M29 o33 0) ≤ v31 then (K99 v30) else zb1 (zf_X9_has (M29 63 10) v31) (fun v34 => (if v34 = 0 then (zf_X9_votes_j93 (fun x0 x1 => zf_X9_votes_L30 M29 a1 K99 n30 x0 x1) v31 v30) else zrd M29 69 10 v31 (fun v36 => zrd M29 64 10 v31 (fun v37 => (if (v36 * (100 : Int32)) < (a1 * v37) then (zf_X9_votes_j93 (fun x0 x1 => zf_X9_votes_L30 M29 a1 K99 n30 x0 x1) v31 v30) else zrd M29 64 10 v31 (fun v38 => (zf_X9_votes_j93 (fun x0 x1 => zf_X9_votes_L30 M29 a1 K99 n30 x0 x1) v31 (v30 + v38))))))))))
def zf_X9_votes_j117 (M29 : ZMem) (v40 : Int32) : Option (Int32 × ZMem) :=
  some (v40, M29)
def zf_X9_votes (n : Nat) (a1 : Int32) (M : ZMem) : Option (Int32 × ZMem) :=
  zb1 (zf_X9_isHundredths a1) (fun v28 => (if v28 = 0 then some ((-1 : Int32), M) else zb1 (zf_X9_payNow n M) (fun M29 => (if (M29 63 13) = 0 then some ((-2 : Int32), M29) else (zf_X9_votes_L30 M29 a1 (fun v39 => (if ((2 : Int32) * v39) ≤ (M29 63 12) then (zf_X9_votes_j117 M29 (0 : Int32)) else (zf_X9_votes_j117 M29 (1 : Int32)))) n (0 : Int32) (0 : Int32))))))
set_option maxHeartbeats 4000000 in
set_option maxRecDepth 100000 in
theorem zc_X9_votes {l : Launch} {D : va_G} {ad : Nat → Nat} {cA : Nat → ClassId} {n : Nat} {a1 : Int32} {M : ZMem} {r : Int32} {M' : ZMem} (hf : zf_X9_votes n a1 M = some (r, M')) : ZCt l D ad cA yX9_votes cX9_votes 4 (some .int) 19 [.ref (ad 0), .int a1] M (some (.int r)) M' := by
  refine zct (by decide +kernel) (Nat.le_of_ble_eq_true rfl) (lv := [(0, .ref (ad 0)), (1, .int a1)]) rfl (fun E hl hD had hcA hN hC hR => ?_)
  subst hl; subst hD; subst had; subst hcA
  unfold zf_X9_votes at hf
  refine zw_iload_n hC dX9_votes_0 rfl 1 rfl ?_
  obtain ⟨v28, hc28, hf⟩ := zb1_some hf
  refine zw_cS hC [.int a1] [] (st1 := [.int v28]) zm_X9_isHundredths (zc_X9_isHundredths hc28) kw_5_31 dX9_votes_1 rfl (by decide) (Nat.le_of_ble_eq_true rfl) rfl rfl ?_
  refine zw_if_ne hC 9 hf dX9_votes_4 (by decide) (fun hf => ?_) (fun hf => ?_)
  · refine zw_aload_n hC dX9_votes_9 rfl 0 rfl ?_
    obtain ⟨M29, hcM29, hf⟩ := zb1_some hf
    refine zw_cV hC [] [] (st1 := []) zm_X9_payNow (zc_X9_payNow hcM29) zk_0 rfl kw_4_191 dX9_votes_10 rfl (by decide) (Nat.le_of_ble_eq_true rfl) rfl rfl ?_
    refine zw_aload_n hC dX9_votes_13 rfl 0 rfl ?_
    refine zw_getr (k' := 63) hC zF_ClassOfMany_payer zk_0 rfl dX9_votes_14 kw_2_174 ?_
    refine zw_geti hC zF_Payer_heads zk_63 dX9_votes_17 kw_2_79 ?_
    refine zw_if_ne hC 26 hf dX9_votes_20 (by decide) (fun hf => ?_) (fun hf => ?_)
    · refine zw_iconst hC (v := (0 : Int32)) dX9_votes_26 (by decide) ?_
      refine zw_istore_n hC (lv' := [(2, .int (0 : Int32)), (0, .ref (zad E 0)), (1, .int a1)]) dX9_votes_27 rfl hN (by decide) rfl ?_
      refine zw_iconst hC (v := (0 : Int32)) dX9_votes_28 (by decide) ?_
      refine zw_istore_n hC (lv' := [(3, .int (0 : Int32)), (2, .int (0 : Int32)), (0, .ref (zad E 0)), (1, .int a1)]) dX9_votes_29 rfl hN (by decide) rfl ?_
      have hL30 : ∀ (K99 : Int32 → Option (Int32 × ZMem)), (∀ (v32 : Int32), K99 v32 = some (r, M') → ZW E 99 [(0, .ref (zad E 0)), (2, .int v32)] [] M29) → ∀ (n30 : Nat), ∀ (v30 : Int32), ∀ (v31 : Int32), zf_X9_votes_L30 M29 a1 K99 n30 v30 v31 = some (r, M') → ZW E 30 [(0, .ref (zad E 0)), (1, .int a1), (2, .int v30), (3, .int v31)] [] M29 := by
        intro K99 hK99
        intro n30
        induction n30 with
        | zero => intro v30 v31 hf; rw [zf_X9_votes_L30] at hf; cases hf
        | succ n30 ih30 =>
          intro v30 v31 hf
          rw [zf_X9_votes_L30] at hf
          refine zw_iload_n hC dX9_votes_30 rfl 3 rfl ?_
          refine zw_aload_n hC dX9_votes_31 rfl 0 rfl ?_
          refine zw_getd hC hf zF_ClassOfMany_told zk_0 dX9_votes_32 kw_2_168 (fun o33 ho33 hf => ?_)
          refine zw_geti hC zF_Told_members ho33 dX9_votes_35 kw_1_38 ?_
          refine zw_icmp_ge hC 99 hf dX9_votes_38 (by decide) (fun hf => ?_) (fun hf => ?_)
          · exact zw_sub [0, 2] rfl (hK99 v30 hf)
          · refine zw_aload_n hC dX9_votes_41 rfl 0 rfl ?_
            refine zw_getr (k' := 63) hC zF_ClassOfMany_payer zk_0 rfl dX9_votes_42 kw_2_174 ?_
            refine zw_geti hC zF_Payer_counted zk_63 dX9_votes_45 kw_2_74 ?_
            refine zw_iload_n hC dX9_votes_48 rfl 3 rfl ?_
            obtain ⟨v34, hc34, hf⟩ := zb1_some hf
            refine zw_cS hC [.int (M29 63 10), .int v31] [] (st1 := [.int v34]) zm_X9_has (zc_X9_has hc34) kw_3_201 dX9_votes_49 rfl (by decide) (Nat.le_of_ble_eq_true rfl) rfl rfl ?_
            have hj93 : ∀ (v35 : Int32), zf_X9_votes_j93 (fun x0 x1 => zf_X9_votes_L30 M29 a1 K99 n30 x0 x1) v31 v35 = some (r, M') → ZW E 93 [(0, .ref (zad E 0)), (1, .int a1), (2, .int v35), (3, .int v31)] [] M29 := by
              intro v35 hf
              unfold zf_X9_votes_j93 at hf
              refine zw_iinc hC (v := (1 : Int32)) (lv' := [(3, .int (v31 + (1 : Int32))), (0, .ref (zad E 0)), (1, .int a1), (2, .int v35)]) dX9_votes_93 3 rfl (by decide) hN (by decide) rfl ?_
              refine zw_goto hC 30 dX9_votes_96 (by decide) ?_
              exact zw_sub [1, 2, 3, 0] rfl (ih30 v35 (v31 + (1 : Int32)) hf)
            refine zw_if_eq hC 93 hf dX9_votes_52 (by decide) (fun hf => ?_) (fun hf => ?_)
            · exact hj93 v30 hf
            · refine zw_aload_n hC dX9_votes_55 rfl 0 rfl ?_
              refine zw_getr (k' := 63) hC zF_ClassOfMany_payer zk_0 rfl dX9_votes_56 kw_2_174 ?_
              refine zw_getr (k' := 69) hC zF_Payer_paidTo zk_63 rfl dX9_votes_59 kw_2_67 ?_
              refine zw_iload_n hC dX9_votes_62 rfl 3 rfl ?_
              refine zw_iald hC hf zk_69 dX9_votes_63 (fun v36 hf => ?_)
              refine zw_bipush hC (v := (100 : Int32)) dX9_votes_64 (by decide) ?_
              refine zw_imul hC dX9_votes_66 ?_
              refine zw_iload_n hC dX9_votes_67 rfl 1 rfl ?_
              refine zw_aload_n hC dX9_votes_68 rfl 0 rfl ?_
              refine zw_getr (k' := 63) hC zF_ClassOfMany_payer zk_0 rfl dX9_votes_69 kw_2_174 ?_
              refine zw_getr (k' := 64) hC zF_Payer_claims zk_63 rfl dX9_votes_72 kw_2_59 ?_
              refine zw_iload_n hC dX9_votes_75 rfl 3 rfl ?_
              refine zw_iald hC hf zk_64 dX9_votes_76 (fun v37 hf => ?_)
              refine zw_imul hC dX9_votes_77 ?_
              refine zw_icmp_lt hC 93 hf dX9_votes_78 (by decide) (fun hf => ?_) (fun hf => ?_)
              · exact hj93 v30 hf
              · refine zw_iload_n hC dX9_votes_81 rfl 2 rfl ?_
                refine zw_aload_n hC dX9_votes_82 rfl 0 rfl ?_
                refine zw_getr (k' := 63) hC zF_ClassOfMany_payer zk_0 rfl dX9_votes_83 kw_2_174 ?_
                refine zw_getr (k' := 64) hC zF_Payer_claims zk_63 rfl dX9_votes_86 kw_2_59 ?_
                refine zw_iload_n hC dX9_votes_89 rfl 3 rfl ?_
                refine zw_iald hC hf zk_64 dX9_votes_90 (fun v38 hf => ?_)
                refine zw_iadd hC dX9_votes_91 ?_
                refine zw_istore_n hC (lv' := [(2, .int (v30 + v38)), (0, .ref (zad E 0)), (1, .int a1), (3, .int v31)]) dX9_votes_92 rfl hN (by decide) rfl ?_
                exact zw_sub [1, 2, 0, 3] rfl (hj93 (v30 + v38) hf)
      refine zw_sub [2, 3, 1, 0] rfl (hL30 _ ?_ n (0 : Int32) (0 : Int32) hf)
      · intro v39 hf
        refine zw_iconst hC (v := (2 : Int32)) dX9_votes_99 (by decide) ?_
        refine zw_iload_n hC dX9_votes_100 rfl 1 rfl ?_
        refine zw_imul hC dX9_votes_101 ?_
        refine zw_aload_n hC dX9_votes_102 rfl 0 rfl ?_
        refine zw_getr (k' := 63) hC zF_ClassOfMany_payer zk_0 rfl dX9_votes_103 kw_2_174 ?_
        refine zw_geti hC zF_Payer_claimsInAll zk_63 dX9_votes_106 kw_2_77 ?_
        have hj117 : ∀ (v40 : Int32), zf_X9_votes_j117 M29 v40 = some (r, M') → ZW E 117 [] [.int v40] M29 := by
          intro v40 hf
          unfold zf_X9_votes_j117 at hf
          obtain ⟨h1, h2⟩ := Prod.mk.inj (Option.some.inj hf)
          subst h1; subst h2
          exact zw_iret hC hR dX9_votes_117
        refine zw_icmp_le hC 116 hf dX9_votes_109 (by decide) (fun hf => ?_) (fun hf => ?_)
        · refine zw_iconst hC (v := (0 : Int32)) dX9_votes_116 (by decide) ?_
          exact zw_sub [] rfl (hj117 (0 : Int32) hf)
        · refine zw_iconst hC (v := (1 : Int32)) dX9_votes_112 (by decide) ?_
          refine zw_goto hC 117 dX9_votes_113 (by decide) ?_
          exact zw_sub [] rfl (hj117 (1 : Int32) hf)
    · refine zw_bipush hC (v := (-2 : Int32)) dX9_votes_23 (by decide) ?_
      obtain ⟨h1, h2⟩ := Prod.mk.inj (Option.some.inj hf)
      subst h1; subst h2
      exact zw_iret hC hR dX9_votes_25
  · refine zw_iconst hC (v := (-1 : Int32)) dX9_votes_7 (by decide) ?_
    obtain ⟨h1, h2⟩ := Prod.mk.inj (Option.some.inj hf)
    subst h1; subst h2
    exact zw_iret hC hR dX9_votes_8
/-! ClassOfMany.paidIfOut(II)I -/
theorem dX9_paidIfOut_0 : decode cX9_paidIfOut 0 = .ok (.aload_n 0, 1) := by decide +kernel
theorem dX9_paidIfOut_1 : decode cX9_paidIfOut 1 = .ok (.getfield 23, 3) := by decide +kernel
theorem dX9_paidIfOut_4 : decode cX9_paidIfOut 4 = .ok (.aload_n 0, 1) := by decide +kernel
theorem dX9_paidIfOut_5 : decode cX9_paidIfOut 5 = .ok (.getfield 19, 3) := by decide +kernel
theorem dX9_paidIfOut_8 : decode cX9_paidIfOut 8 = .ok (.invokevirtual 84, 3) := by decide +kernel
theorem dX9_paidIfOut_11 : decode cX9_paidIfOut 11 = .ok (.aload_n 0, 1) := by decide +kernel
theorem dX9_paidIfOut_12 : decode cX9_paidIfOut 12 = .ok (.getfield 23, 3) := by decide +kernel
theorem dX9_paidIfOut_15 : decode cX9_paidIfOut 15 = .ok (.dup, 1) := by decide +kernel
theorem dX9_paidIfOut_16 : decode cX9_paidIfOut 16 = .ok (.getfield 134, 3) := by decide +kernel
theorem dX9_paidIfOut_19 : decode cX9_paidIfOut 19 = .ok (.iload_n 2, 1) := by decide +kernel
theorem dX9_paidIfOut_20 : decode cX9_paidIfOut 20 = .ok (.ior, 1) := by decide +kernel
theorem dX9_paidIfOut_21 : decode cX9_paidIfOut 21 = .ok (.putfield 134, 3) := by decide +kernel
theorem dX9_paidIfOut_24 : decode cX9_paidIfOut 24 = .ok (.aload_n 0, 1) := by decide +kernel
theorem dX9_paidIfOut_25 : decode cX9_paidIfOut 25 = .ok (.getfield 50, 3) := by decide +kernel
theorem dX9_paidIfOut_28 : decode cX9_paidIfOut 28 = .ok (.aload_n 0, 1) := by decide +kernel
theorem dX9_paidIfOut_29 : decode cX9_paidIfOut 29 = .ok (.getfield 43, 3) := by decide +kernel
theorem dX9_paidIfOut_32 : decode cX9_paidIfOut 32 = .ok (.aload_n 0, 1) := by decide +kernel
theorem dX9_paidIfOut_33 : decode cX9_paidIfOut 33 = .ok (.getfield 12, 3) := by decide +kernel
theorem dX9_paidIfOut_36 : decode cX9_paidIfOut 36 = .ok (.aload_n 0, 1) := by decide +kernel
theorem dX9_paidIfOut_37 : decode cX9_paidIfOut 37 = .ok (.getfield 23, 3) := by decide +kernel
theorem dX9_paidIfOut_40 : decode cX9_paidIfOut 40 = .ok (.invokevirtual 301, 3) := by decide +kernel
theorem dX9_paidIfOut_43 : decode cX9_paidIfOut 43 = .ok (.aload_n 0, 1) := by decide +kernel
theorem dX9_paidIfOut_44 : decode cX9_paidIfOut 44 = .ok (.getfield 50, 3) := by decide +kernel
theorem dX9_paidIfOut_47 : decode cX9_paidIfOut 47 = .ok (.getfield 326, 3) := by decide +kernel
theorem dX9_paidIfOut_50 : decode cX9_paidIfOut 50 = .ok (.iload_n 1, 1) := by decide +kernel
theorem dX9_paidIfOut_51 : decode cX9_paidIfOut 51 = .ok (.iaload, 1) := by decide +kernel
theorem dX9_paidIfOut_52 : decode cX9_paidIfOut 52 = .ok (.ireturn, 1) := by decide +kernel
theorem zm_X9_paidIfOut : ZMv "ClassOfMany" yX9_paidIfOut cX9_paidIfOut 3 (some .int) 2 := ⟨kw_5_41, kw_5_40, kp_42, kw_1_1, by decide +kernel, by decide⟩
def zf_X9_paidIfOut (n : Nat) (a1 : Int32) (a2 : Int32) (M : ZMem) : Option (Int32 × ZMem) :=
  zb1 (zf_X7_copyFrom 14 12 M) (fun M26 => zput M26 14 4 ((M26 14 4) ||| a2) (fun M27 => zdy M27 0 0 (7, 17) (fun o28 => zb1 (zf_X3_pay n o28 14 M27) (fun M29 => zrd M29 69 10 a1 (fun v30 => some (v30, M29))))))
set_option maxHeartbeats 4000000 in
set_option maxRecDepth 100000 in
theorem zc_X9_paidIfOut {l : Launch} {D : va_G} {ad : Nat → Nat} {cA : Nat → ClassId} {n : Nat} {a1 : Int32} {a2 : Int32} {M : ZMem} {r : Int32} {M' : ZMem} (hf : zf_X9_paidIfOut n a1 a2 M = some (r, M')) : ZCt l D ad cA yX9_paidIfOut cX9_paidIfOut 3 (some .int) 18 [.ref (ad 0), .int a1, .int a2] M (some (.int r)) M' := by
  refine zct (by decide +kernel) (Nat.le_of_ble_eq_true rfl) (lv := [(0, .ref (ad 0)), (1, .int a1), (2, .int a2)]) rfl (fun E hl hD had hcA hN hC hR => ?_)
  subst hl; subst hD; subst had; subst hcA
  unfold zf_X9_paidIfOut at hf
  refine zw_aload_n hC dX9_paidIfOut_0 rfl 0 rfl ?_
  refine zw_getr (k' := 14) hC zF_ClassOfMany_were zk_0 rfl dX9_paidIfOut_1 kw_2_170 ?_
  refine zw_aload_n hC dX9_paidIfOut_4 rfl 0 rfl ?_
  refine zw_getr (k' := 12) hC zF_ClassOfMany_now zk_0 rfl dX9_paidIfOut_5 kw_2_169 ?_
  obtain ⟨M26, hcM26, hf⟩ := zb1_some hf
  refine zw_cV hC [.ref (zad E 12)] [] (st1 := []) zm_X7_copyFrom (zc_X7_copyFrom zk_14 zk_12 hcM26) zk_14 rfl kw_3_134 dX9_paidIfOut_8 rfl (by decide) (Nat.le_of_ble_eq_true rfl) rfl rfl ?_
  refine zw_aload_n hC dX9_paidIfOut_11 rfl 0 rfl ?_
  refine zw_getr (k' := 14) hC zF_ClassOfMany_were zk_0 rfl dX9_paidIfOut_12 kw_2_170 ?_
  refine zw_dup hC dX9_paidIfOut_15 rfl ?_
  refine zw_geti hC zF_Standing_out zk_14 dX9_paidIfOut_16 kw_1_146 ?_
  refine zw_iload_n hC dX9_paidIfOut_19 rfl 2 rfl ?_
  refine zw_ior hC dX9_paidIfOut_20 ?_
  refine zw_puti hC hf zF_Standing_out zk_14 dX9_paidIfOut_21 kw_1_146 (fun M27 hf => ?_)
  refine zw_aload_n hC dX9_paidIfOut_24 rfl 0 rfl ?_
  refine zw_getr (k' := 63) hC zF_ClassOfMany_payer zk_0 rfl dX9_paidIfOut_25 kw_2_174 ?_
  refine zw_aload_n hC dX9_paidIfOut_28 rfl 0 rfl ?_
  refine zw_getr (k' := 57) hC zF_ClassOfMany_splitter zk_0 rfl dX9_paidIfOut_29 kw_2_173 ?_
  refine zw_aload_n hC dX9_paidIfOut_32 rfl 0 rfl ?_
  refine zw_getd hC hf zF_ClassOfMany_told zk_0 dX9_paidIfOut_33 kw_2_168 (fun o28 ho28 hf => ?_)
  refine zw_aload_n hC dX9_paidIfOut_36 rfl 0 rfl ?_
  refine zw_getr (k' := 14) hC zF_ClassOfMany_were zk_0 rfl dX9_paidIfOut_37 kw_2_170 ?_
  obtain ⟨M29, hcM29, hf⟩ := zb1_some hf
  refine zw_cV hC [.ref (zad E 57), .ref (zad E o28), .ref (zad E 14)] [] (st1 := []) zm_X3_pay (zc_X3_pay ho28 zk_14 hcM29) zk_63 rfl kw_4_195 dX9_paidIfOut_40 rfl (by decide) (Nat.le_of_ble_eq_true rfl) rfl rfl ?_
  refine zw_aload_n hC dX9_paidIfOut_43 rfl 0 rfl ?_
  refine zw_getr (k' := 63) hC zF_ClassOfMany_payer zk_0 rfl dX9_paidIfOut_44 kw_2_174 ?_
  refine zw_getr (k' := 69) hC zF_Payer_paidTo zk_63 rfl dX9_paidIfOut_47 kw_2_67 ?_
  refine zw_iload_n hC dX9_paidIfOut_50 rfl 1 rfl ?_
  refine zw_iald hC hf zk_69 dX9_paidIfOut_51 (fun v30 hf => ?_)
  obtain ⟨h1, h2⟩ := Prod.mk.inj (Option.some.inj hf)
  subst h1; subst h2
  exact zw_iret hC hR dX9_paidIfOut_52
/-! ClassOfMany.paidIfRule(II)I -/
theorem dX9_paidIfRule_0 : decode cX9_paidIfRule 0 = .ok (.aload_n 0, 1) := by decide +kernel
theorem dX9_paidIfRule_1 : decode cX9_paidIfRule 1 = .ok (.getfield 23, 3) := by decide +kernel
theorem dX9_paidIfRule_4 : decode cX9_paidIfRule 4 = .ok (.aload_n 0, 1) := by decide +kernel
theorem dX9_paidIfRule_5 : decode cX9_paidIfRule 5 = .ok (.getfield 19, 3) := by decide +kernel
theorem dX9_paidIfRule_8 : decode cX9_paidIfRule 8 = .ok (.invokevirtual 84, 3) := by decide +kernel
theorem dX9_paidIfRule_11 : decode cX9_paidIfRule 11 = .ok (.aload_n 0, 1) := by decide +kernel
theorem dX9_paidIfRule_12 : decode cX9_paidIfRule 12 = .ok (.getfield 23, 3) := by decide +kernel
theorem dX9_paidIfRule_15 : decode cX9_paidIfRule 15 = .ok (.iload_n 2, 1) := by decide +kernel
theorem dX9_paidIfRule_16 : decode cX9_paidIfRule 16 = .ok (.putfield 168, 3) := by decide +kernel
theorem dX9_paidIfRule_19 : decode cX9_paidIfRule 19 = .ok (.aload_n 0, 1) := by decide +kernel
theorem dX9_paidIfRule_20 : decode cX9_paidIfRule 20 = .ok (.getfield 50, 3) := by decide +kernel
theorem dX9_paidIfRule_23 : decode cX9_paidIfRule 23 = .ok (.aload_n 0, 1) := by decide +kernel
theorem dX9_paidIfRule_24 : decode cX9_paidIfRule 24 = .ok (.getfield 43, 3) := by decide +kernel
theorem dX9_paidIfRule_27 : decode cX9_paidIfRule 27 = .ok (.aload_n 0, 1) := by decide +kernel
theorem dX9_paidIfRule_28 : decode cX9_paidIfRule 28 = .ok (.getfield 12, 3) := by decide +kernel
theorem dX9_paidIfRule_31 : decode cX9_paidIfRule 31 = .ok (.aload_n 0, 1) := by decide +kernel
theorem dX9_paidIfRule_32 : decode cX9_paidIfRule 32 = .ok (.getfield 23, 3) := by decide +kernel
theorem dX9_paidIfRule_35 : decode cX9_paidIfRule 35 = .ok (.invokevirtual 301, 3) := by decide +kernel
theorem dX9_paidIfRule_38 : decode cX9_paidIfRule 38 = .ok (.aload_n 0, 1) := by decide +kernel
theorem dX9_paidIfRule_39 : decode cX9_paidIfRule 39 = .ok (.getfield 50, 3) := by decide +kernel
theorem dX9_paidIfRule_42 : decode cX9_paidIfRule 42 = .ok (.getfield 326, 3) := by decide +kernel
theorem dX9_paidIfRule_45 : decode cX9_paidIfRule 45 = .ok (.iload_n 1, 1) := by decide +kernel
theorem dX9_paidIfRule_46 : decode cX9_paidIfRule 46 = .ok (.iaload, 1) := by decide +kernel
theorem dX9_paidIfRule_47 : decode cX9_paidIfRule 47 = .ok (.ireturn, 1) := by decide +kernel
theorem zm_X9_paidIfRule : ZMv "ClassOfMany" yX9_paidIfRule cX9_paidIfRule 3 (some .int) 2 := ⟨kw_5_53, kw_5_52, kp_43, kw_1_1, by decide +kernel, by decide⟩
def zf_X9_paidIfRule (n : Nat) (a1 : Int32) (a2 : Int32) (M : ZMem) : Option (Int32 × ZMem) :=
  zb1 (zf_X7_copyFrom 14 12 M) (fun M26 => zput M26 14 8 a2 (fun M27 => zdy M27 0 0 (7, 17) (fun o28 => zb1 (zf_X3_pay n o28 14 M27) (fun M29 => zrd M29 69 10 a1 (fun v30 => some (v30, M29))))))
set_option maxHeartbeats 4000000 in
set_option maxRecDepth 100000 in
theorem zc_X9_paidIfRule {l : Launch} {D : va_G} {ad : Nat → Nat} {cA : Nat → ClassId} {n : Nat} {a1 : Int32} {a2 : Int32} {M : ZMem} {r : Int32} {M' : ZMem} (hf : zf_X9_paidIfRule n a1 a2 M = some (r, M')) : ZCt l D ad cA yX9_paidIfRule cX9_paidIfRule 3 (some .int) 18 [.ref (ad 0), .int a1, .int a2] M (some (.int r)) M' := by
  refine zct (by decide +kernel) (Nat.le_of_ble_eq_true rfl) (lv := [(0, .ref (ad 0)), (1, .int a1), (2, .int a2)]) rfl (fun E hl hD had hcA hN hC hR => ?_)
  subst hl; subst hD; subst had; subst hcA
  unfold zf_X9_paidIfRule at hf
  refine zw_aload_n hC dX9_paidIfRule_0 rfl 0 rfl ?_
  refine zw_getr (k' := 14) hC zF_ClassOfMany_were zk_0 rfl dX9_paidIfRule_1 kw_2_170 ?_
  refine zw_aload_n hC dX9_paidIfRule_4 rfl 0 rfl ?_
  refine zw_getr (k' := 12) hC zF_ClassOfMany_now zk_0 rfl dX9_paidIfRule_5 kw_2_169 ?_
  obtain ⟨M26, hcM26, hf⟩ := zb1_some hf
  refine zw_cV hC [.ref (zad E 12)] [] (st1 := []) zm_X7_copyFrom (zc_X7_copyFrom zk_14 zk_12 hcM26) zk_14 rfl kw_3_134 dX9_paidIfRule_8 rfl (by decide) (Nat.le_of_ble_eq_true rfl) rfl rfl ?_
  refine zw_aload_n hC dX9_paidIfRule_11 rfl 0 rfl ?_
  refine zw_getr (k' := 14) hC zF_ClassOfMany_were zk_0 rfl dX9_paidIfRule_12 kw_2_170 ?_
  refine zw_iload_n hC dX9_paidIfRule_15 rfl 2 rfl ?_
  refine zw_puti hC hf zF_Standing_rule zk_14 dX9_paidIfRule_16 kw_1_161 (fun M27 hf => ?_)
  refine zw_aload_n hC dX9_paidIfRule_19 rfl 0 rfl ?_
  refine zw_getr (k' := 63) hC zF_ClassOfMany_payer zk_0 rfl dX9_paidIfRule_20 kw_2_174 ?_
  refine zw_aload_n hC dX9_paidIfRule_23 rfl 0 rfl ?_
  refine zw_getr (k' := 57) hC zF_ClassOfMany_splitter zk_0 rfl dX9_paidIfRule_24 kw_2_173 ?_
  refine zw_aload_n hC dX9_paidIfRule_27 rfl 0 rfl ?_
  refine zw_getd hC hf zF_ClassOfMany_told zk_0 dX9_paidIfRule_28 kw_2_168 (fun o28 ho28 hf => ?_)
  refine zw_aload_n hC dX9_paidIfRule_31 rfl 0 rfl ?_
  refine zw_getr (k' := 14) hC zF_ClassOfMany_were zk_0 rfl dX9_paidIfRule_32 kw_2_170 ?_
  obtain ⟨M29, hcM29, hf⟩ := zb1_some hf
  refine zw_cV hC [.ref (zad E 57), .ref (zad E o28), .ref (zad E 14)] [] (st1 := []) zm_X3_pay (zc_X3_pay ho28 zk_14 hcM29) zk_63 rfl kw_4_195 dX9_paidIfRule_35 rfl (by decide) (Nat.le_of_ble_eq_true rfl) rfl rfl ?_
  refine zw_aload_n hC dX9_paidIfRule_38 rfl 0 rfl ?_
  refine zw_getr (k' := 63) hC zF_ClassOfMany_payer zk_0 rfl dX9_paidIfRule_39 kw_2_174 ?_
  refine zw_getr (k' := 69) hC zF_Payer_paidTo zk_63 rfl dX9_paidIfRule_42 kw_2_67 ?_
  refine zw_iload_n hC dX9_paidIfRule_45 rfl 1 rfl ?_
  refine zw_iald hC hf zk_69 dX9_paidIfRule_46 (fun v30 hf => ?_)
  obtain ⟨h1, h2⟩ := Prod.mk.inj (Option.some.inj hf)
  subst h1; subst h2
  exact zw_iret hC hR dX9_paidIfRule_47
/-! ClassOfMany.wereOut(II)I -/
theorem dX9_wereOut_0 : decode cX9_wereOut 0 = .ok (.aload_n 0, 1) := by decide +kernel
theorem dX9_wereOut_1 : decode cX9_wereOut 1 = .ok (.iload_n 1, 1) := by decide +kernel
theorem dX9_wereOut_2 : decode cX9_wereOut 2 = .ok (.invokevirtual 130, 3) := by decide +kernel
theorem dX9_wereOut_5 : decode cX9_wereOut 5 = .ok (.ifCond .eq 22, 3) := by decide +kernel
theorem dX9_wereOut_8 : decode cX9_wereOut 8 = .ok (.aload_n 0, 1) := by decide +kernel
theorem dX9_wereOut_9 : decode cX9_wereOut 9 = .ok (.iload_n 2, 1) := by decide +kernel
theorem dX9_wereOut_10 : decode cX9_wereOut 10 = .ok (.invokevirtual 130, 3) := by decide +kernel
theorem dX9_wereOut_13 : decode cX9_wereOut 13 = .ok (.ifCond .eq 14, 3) := by decide +kernel
theorem dX9_wereOut_16 : decode cX9_wereOut 16 = .ok (.aload_n 0, 1) := by decide +kernel
theorem dX9_wereOut_17 : decode cX9_wereOut 17 = .ok (.iload_n 1, 1) := by decide +kernel
theorem dX9_wereOut_18 : decode cX9_wereOut 18 = .ok (.iconst 1, 1) := by decide +kernel
theorem dX9_wereOut_19 : decode cX9_wereOut 19 = .ok (.iload_n 2, 1) := by decide +kernel
theorem dX9_wereOut_20 : decode cX9_wereOut 20 = .ok (.ishl, 1) := by decide +kernel
theorem dX9_wereOut_21 : decode cX9_wereOut 21 = .ok (.invokevirtual 344, 3) := by decide +kernel
theorem dX9_wereOut_24 : decode cX9_wereOut 24 = .ok (.goto 4, 3) := by decide +kernel
theorem dX9_wereOut_27 : decode cX9_wereOut 27 = .ok (.iconst (-1), 1) := by decide +kernel
theorem dX9_wereOut_28 : decode cX9_wereOut 28 = .ok (.ireturn, 1) := by decide +kernel
theorem zm_X9_wereOut : ZMv "ClassOfMany" yX9_wereOut cX9_wereOut 3 (some .int) 2 := ⟨kw_5_37, kw_5_35, kw_5_36, kw_1_1, by decide +kernel, by decide⟩
def zf_X9_wereOut_j28 (v26 : Int32) (M27 : ZMem) : Option (Int32 × ZMem) :=
  some (v26, M27)
def zf_X9_wereOut_j27 (M : ZMem) : Option (Int32 × ZMem) :=
  (zf_X9_wereOut_j28 (-1 : Int32) M)
def zf_X9_wereOut (n : Nat) (a1 : Int32) (a2 : Int32) (M : ZMem) : Option (Int32 × ZMem) :=
  zb1 (zf_X9_isMember a1 M) (fun v25 => (if v25 = 0 then (zf_X9_wereOut_j27 M) else zb1 (zf_X9_isMember a2 M) (fun v28 => (if v28 = 0 then (zf_X9_wereOut_j27 M) else zb2 (zf_X9_paidIfOut n a1 ((1 : Int32) <<< (a2 &&& 31)) M) (fun v29 M30 => (zf_X9_wereOut_j28 v29 M30))))))
set_option maxHeartbeats 4000000 in
set_option maxRecDepth 100000 in
theorem zc_X9_wereOut {l : Launch} {D : va_G} {ad : Nat → Nat} {cA : Nat → ClassId} {n : Nat} {a1 : Int32} {a2 : Int32} {M : ZMem} {r : Int32} {M' : ZMem} (hf : zf_X9_wereOut n a1 a2 M = some (r, M')) : ZCt l D ad cA yX9_wereOut cX9_wereOut 3 (some .int) 19 [.ref (ad 0), .int a1, .int a2] M (some (.int r)) M' := by
  refine zct (by decide +kernel) (Nat.le_of_ble_eq_true rfl) (lv := [(0, .ref (ad 0)), (1, .int a1), (2, .int a2)]) rfl (fun E hl hD had hcA hN hC hR => ?_)
  subst hl; subst hD; subst had; subst hcA
  unfold zf_X9_wereOut at hf
  refine zw_aload_n hC dX9_wereOut_0 rfl 0 rfl ?_
  refine zw_iload_n hC dX9_wereOut_1 rfl 1 rfl ?_
  obtain ⟨v25, hc25, hf⟩ := zb1_some hf
  refine zw_cV hC [.int a1] [] (st1 := [.int v25]) zm_X9_isMember (zc_X9_isMember hc25) zk_0 rfl kw_3_197 dX9_wereOut_2 rfl (by decide) (Nat.le_of_ble_eq_true rfl) rfl rfl ?_
  have hj28 : ∀ (v26 : Int32), ∀ (M27 : ZMem), zf_X9_wereOut_j28 v26 M27 = some (r, M') → ZW E 28 [] [.int v26] M27 := by
    intro v26 M27 hf
    unfold zf_X9_wereOut_j28 at hf
    obtain ⟨h1, h2⟩ := Prod.mk.inj (Option.some.inj hf)
    subst h1; subst h2
    exact zw_iret hC hR dX9_wereOut_28
  have hj27 : zf_X9_wereOut_j27 M = some (r, M') → ZW E 27 [] [] M := by
    intro  hf
    unfold zf_X9_wereOut_j27 at hf
    refine zw_iconst hC (v := (-1 : Int32)) dX9_wereOut_27 (by decide) ?_
    exact hj28 (-1 : Int32) M hf
  refine zw_if_eq hC 27 hf dX9_wereOut_5 (by decide) (fun hf => ?_) (fun hf => ?_)
  · exact zw_sub [] rfl (hj27 hf)
  · refine zw_aload_n hC dX9_wereOut_8 rfl 0 rfl ?_
    refine zw_iload_n hC dX9_wereOut_9 rfl 2 rfl ?_
    obtain ⟨v28, hc28, hf⟩ := zb1_some hf
    refine zw_cV hC [.int a2] [] (st1 := [.int v28]) zm_X9_isMember (zc_X9_isMember hc28) zk_0 rfl kw_3_197 dX9_wereOut_10 rfl (by decide) (Nat.le_of_ble_eq_true rfl) rfl rfl ?_
    refine zw_if_eq hC 27 hf dX9_wereOut_13 (by decide) (fun hf => ?_) (fun hf => ?_)
    · exact zw_sub [] rfl (hj27 hf)
    · refine zw_aload_n hC dX9_wereOut_16 rfl 0 rfl ?_
      refine zw_iload_n hC dX9_wereOut_17 rfl 1 rfl ?_
      refine zw_iconst hC (v := (1 : Int32)) dX9_wereOut_18 (by decide) ?_
      refine zw_iload_n hC dX9_wereOut_19 rfl 2 rfl ?_
      refine zw_ishl hC dX9_wereOut_20 ?_
      obtain ⟨v29, M30, hcM30, hf⟩ := zb2_some hf
      refine zw_cV hC [.int a1, .int ((1 : Int32) <<< (a2 &&& 31))] [] (st1 := [.int v29]) zm_X9_paidIfOut (zc_X9_paidIfOut hcM30) zk_0 rfl kw_5_38 dX9_wereOut_21 rfl (by decide) (Nat.le_of_ble_eq_true rfl) rfl rfl ?_
      refine zw_goto hC 28 dX9_wereOut_24 (by decide) ?_
      exact zw_sub [] rfl (hj28 v29 M30 hf)
/-! ClassOfMany.wereFund(II)I -/
theorem dX9_wereFund_0 : decode cX9_wereFund 0 = .ok (.aload_n 0, 1) := by decide +kernel
theorem dX9_wereFund_1 : decode cX9_wereFund 1 = .ok (.iload_n 2, 1) := by decide +kernel
theorem dX9_wereFund_2 : decode cX9_wereFund 2 = .ok (.invokevirtual 130, 3) := by decide +kernel
theorem dX9_wereFund_5 : decode cX9_wereFund 5 = .ok (.ifCond .eq 10, 3) := by decide +kernel
theorem dX9_wereFund_8 : decode cX9_wereFund 8 = .ok (.iload_n 1, 1) := by decide +kernel
theorem dX9_wereFund_9 : decode cX9_wereFund 9 = .ok (.invokestatic 159, 3) := by decide +kernel
theorem dX9_wereFund_12 : decode cX9_wereFund 12 = .ok (.ifCond .ne 5, 3) := by decide +kernel
theorem dX9_wereFund_15 : decode cX9_wereFund 15 = .ok (.iconst (-1), 1) := by decide +kernel
theorem dX9_wereFund_16 : decode cX9_wereFund 16 = .ok (.ireturn, 1) := by decide +kernel
theorem dX9_wereFund_17 : decode cX9_wereFund 17 = .ok (.aload_n 0, 1) := by decide +kernel
theorem dX9_wereFund_18 : decode cX9_wereFund 18 = .ok (.getfield 23, 3) := by decide +kernel
theorem dX9_wereFund_21 : decode cX9_wereFund 21 = .ok (.aload_n 0, 1) := by decide +kernel
theorem dX9_wereFund_22 : decode cX9_wereFund 22 = .ok (.getfield 19, 3) := by decide +kernel
theorem dX9_wereFund_25 : decode cX9_wereFund 25 = .ok (.invokevirtual 84, 3) := by decide +kernel
theorem dX9_wereFund_28 : decode cX9_wereFund 28 = .ok (.aload_n 0, 1) := by decide +kernel
theorem dX9_wereFund_29 : decode cX9_wereFund 29 = .ok (.getfield 23, 3) := by decide +kernel
theorem dX9_wereFund_32 : decode cX9_wereFund 32 = .ok (.iload_n 1, 1) := by decide +kernel
theorem dX9_wereFund_33 : decode cX9_wereFund 33 = .ok (.putfield 162, 3) := by decide +kernel
theorem dX9_wereFund_36 : decode cX9_wereFund 36 = .ok (.aload_n 0, 1) := by decide +kernel
theorem dX9_wereFund_37 : decode cX9_wereFund 37 = .ok (.getfield 50, 3) := by decide +kernel
theorem dX9_wereFund_40 : decode cX9_wereFund 40 = .ok (.aload_n 0, 1) := by decide +kernel
theorem dX9_wereFund_41 : decode cX9_wereFund 41 = .ok (.getfield 43, 3) := by decide +kernel
theorem dX9_wereFund_44 : decode cX9_wereFund 44 = .ok (.aload_n 0, 1) := by decide +kernel
theorem dX9_wereFund_45 : decode cX9_wereFund 45 = .ok (.getfield 12, 3) := by decide +kernel
theorem dX9_wereFund_48 : decode cX9_wereFund 48 = .ok (.aload_n 0, 1) := by decide +kernel
theorem dX9_wereFund_49 : decode cX9_wereFund 49 = .ok (.getfield 23, 3) := by decide +kernel
theorem dX9_wereFund_52 : decode cX9_wereFund 52 = .ok (.invokevirtual 301, 3) := by decide +kernel
theorem dX9_wereFund_55 : decode cX9_wereFund 55 = .ok (.aload_n 0, 1) := by decide +kernel
theorem dX9_wereFund_56 : decode cX9_wereFund 56 = .ok (.getfield 50, 3) := by decide +kernel
theorem dX9_wereFund_59 : decode cX9_wereFund 59 = .ok (.getfield 326, 3) := by decide +kernel
theorem dX9_wereFund_62 : decode cX9_wereFund 62 = .ok (.iload_n 2, 1) := by decide +kernel
theorem dX9_wereFund_63 : decode cX9_wereFund 63 = .ok (.iaload, 1) := by decide +kernel
theorem dX9_wereFund_64 : decode cX9_wereFund 64 = .ok (.ireturn, 1) := by decide +kernel
theorem zm_X9_wereFund : ZMv "ClassOfMany" yX9_wereFund cX9_wereFund 3 (some .int) 2 := ⟨kw_5_45, kw_5_43, kw_5_44, kw_1_1, by decide +kernel, by decide⟩
def zf_X9_wereFund_j15 (M : ZMem) : Option (Int32 × ZMem) :=
  some ((-1 : Int32), M)
def zf_X9_wereFund (n : Nat) (a1 : Int32) (a2 : Int32) (M : ZMem) : Option (Int32 × ZMem) :=
  zb1 (zf_X9_isMember a2 M) (fun v28 => (if v28 = 0 then (zf_X9_wereFund_j15 M) else zb1 (zf_X9_isFund a1) (fun v29 => (if v29 = 0 then (zf_X9_wereFund_j15 M) else zb1 (zf_X7_copyFrom 14 12 M) (fun M30 => zput M30 14 7 a1 (fun M31 => zdy M31 0 0 (7, 17) (fun o32 => zb1 (zf_X3_pay n o32 14 M31) (fun M33 => zrd M33 69 10 a2 (fun v34 => some (v34, M33))))))))))
set_option maxHeartbeats 4000000 in
set_option maxRecDepth 100000 in
theorem zc_X9_wereFund {l : Launch} {D : va_G} {ad : Nat → Nat} {cA : Nat → ClassId} {n : Nat} {a1 : Int32} {a2 : Int32} {M : ZMem} {r : Int32} {M' : ZMem} (hf : zf_X9_wereFund n a1 a2 M = some (r, M')) : ZCt l D ad cA yX9_wereFund cX9_wereFund 3 (some .int) 18 [.ref (ad 0), .int a1, .int a2] M (some (.int r)) M' := by
  refine zct (by decide +kernel) (Nat.le_of_ble_eq_true rfl) (lv := [(0, .ref (ad 0)), (1, .int a1), (2, .int a2)]) rfl (fun E hl hD had hcA hN hC hR => ?_)
  subst hl; subst hD; subst had; subst hcA
  unfold zf_X9_wereFund at hf
  refine zw_aload_n hC dX9_wereFund_0 rfl 0 rfl ?_
  refine zw_iload_n hC dX9_wereFund_1 rfl 2 rfl ?_
  obtain ⟨v28, hc28, hf⟩ := zb1_some hf
  refine zw_cV hC [.int a2] [] (st1 := [.int v28]) zm_X9_isMember (zc_X9_isMember hc28) zk_0 rfl kw_3_197 dX9_wereFund_2 rfl (by decide) (Nat.le_of_ble_eq_true rfl) rfl rfl ?_
  have hj15 : zf_X9_wereFund_j15 M = some (r, M') → ZW E 15 [] [] M := by
    intro  hf
    unfold zf_X9_wereFund_j15 at hf
    refine zw_iconst hC (v := (-1 : Int32)) dX9_wereFund_15 (by decide) ?_
    obtain ⟨h1, h2⟩ := Prod.mk.inj (Option.some.inj hf)
    subst h1; subst h2
    exact zw_iret hC hR dX9_wereFund_16
  refine zw_if_eq hC 15 hf dX9_wereFund_5 (by decide) (fun hf => ?_) (fun hf => ?_)
  · exact zw_sub [] rfl (hj15 hf)
  · refine zw_iload_n hC dX9_wereFund_8 rfl 1 rfl ?_
    obtain ⟨v29, hc29, hf⟩ := zb1_some hf
    refine zw_cS hC [.int a1] [] (st1 := [.int v29]) zm_X9_isFund (zc_X9_isFund hc29) kw_3_231 dX9_wereFund_9 rfl (by decide) (Nat.le_of_ble_eq_true rfl) rfl rfl ?_
    refine zw_if_ne hC 17 hf dX9_wereFund_12 (by decide) (fun hf => ?_) (fun hf => ?_)
    · refine zw_aload_n hC dX9_wereFund_17 rfl 0 rfl ?_
      refine zw_getr (k' := 14) hC zF_ClassOfMany_were zk_0 rfl dX9_wereFund_18 kw_2_170 ?_
      refine zw_aload_n hC dX9_wereFund_21 rfl 0 rfl ?_
      refine zw_getr (k' := 12) hC zF_ClassOfMany_now zk_0 rfl dX9_wereFund_22 kw_2_169 ?_
      obtain ⟨M30, hcM30, hf⟩ := zb1_some hf
      refine zw_cV hC [.ref (zad E 12)] [] (st1 := []) zm_X7_copyFrom (zc_X7_copyFrom zk_14 zk_12 hcM30) zk_14 rfl kw_3_134 dX9_wereFund_25 rfl (by decide) (Nat.le_of_ble_eq_true rfl) rfl rfl ?_
      refine zw_aload_n hC dX9_wereFund_28 rfl 0 rfl ?_
      refine zw_getr (k' := 14) hC zF_ClassOfMany_were zk_0 rfl dX9_wereFund_29 kw_2_170 ?_
      refine zw_iload_n hC dX9_wereFund_32 rfl 1 rfl ?_
      refine zw_puti hC hf zF_Standing_fund zk_14 dX9_wereFund_33 kw_1_158 (fun M31 hf => ?_)
      refine zw_aload_n hC dX9_wereFund_36 rfl 0 rfl ?_
      refine zw_getr (k' := 63) hC zF_ClassOfMany_payer zk_0 rfl dX9_wereFund_37 kw_2_174 ?_
      refine zw_aload_n hC dX9_wereFund_40 rfl 0 rfl ?_
      refine zw_getr (k' := 57) hC zF_ClassOfMany_splitter zk_0 rfl dX9_wereFund_41 kw_2_173 ?_
      refine zw_aload_n hC dX9_wereFund_44 rfl 0 rfl ?_
      refine zw_getd hC hf zF_ClassOfMany_told zk_0 dX9_wereFund_45 kw_2_168 (fun o32 ho32 hf => ?_)
      refine zw_aload_n hC dX9_wereFund_48 rfl 0 rfl ?_
      refine zw_getr (k' := 14) hC zF_ClassOfMany_were zk_0 rfl dX9_wereFund_49 kw_2_170 ?_
      obtain ⟨M33, hcM33, hf⟩ := zb1_some hf
      refine zw_cV hC [.ref (zad E 57), .ref (zad E o32), .ref (zad E 14)] [] (st1 := []) zm_X3_pay (zc_X3_pay ho32 zk_14 hcM33) zk_63 rfl kw_4_195 dX9_wereFund_52 rfl (by decide) (Nat.le_of_ble_eq_true rfl) rfl rfl ?_
      refine zw_aload_n hC dX9_wereFund_55 rfl 0 rfl ?_
      refine zw_getr (k' := 63) hC zF_ClassOfMany_payer zk_0 rfl dX9_wereFund_56 kw_2_174 ?_
      refine zw_getr (k' := 69) hC zF_Payer_paidTo zk_63 rfl dX9_wereFund_59 kw_2_67 ?_
      refine zw_iload_n hC dX9_wereFund_62 rfl 2 rfl ?_
      refine zw_iald hC hf zk_69 dX9_wereFund_63 (fun v34 hf => ?_)
      obtain ⟨h1, h2⟩ := Prod.mk.inj (Option.some.inj hf)
      subst h1; subst h2
      exact zw_iret hC hR dX9_wereFund_64
    · exact zw_sub [] rfl (hj15 hf)
/-! ClassOfMany.wereRule(II)I -/
theorem dX9_wereRule_0 : decode cX9_wereRule 0 = .ok (.aload_n 0, 1) := by decide +kernel
theorem dX9_wereRule_1 : decode cX9_wereRule 1 = .ok (.iload_n 2, 1) := by decide +kernel
theorem dX9_wereRule_2 : decode cX9_wereRule 2 = .ok (.invokevirtual 130, 3) := by decide +kernel
theorem dX9_wereRule_5 : decode cX9_wereRule 5 = .ok (.ifCond .eq 19, 3) := by decide +kernel
theorem dX9_wereRule_8 : decode cX9_wereRule 8 = .ok (.iload_n 1, 1) := by decide +kernel
theorem dX9_wereRule_9 : decode cX9_wereRule 9 = .ok (.invokestatic 165, 3) := by decide +kernel
theorem dX9_wereRule_12 : decode cX9_wereRule 12 = .ok (.ifCond .eq 12, 3) := by decide +kernel
theorem dX9_wereRule_15 : decode cX9_wereRule 15 = .ok (.aload_n 0, 1) := by decide +kernel
theorem dX9_wereRule_16 : decode cX9_wereRule 16 = .ok (.iload_n 2, 1) := by decide +kernel
theorem dX9_wereRule_17 : decode cX9_wereRule 17 = .ok (.iload_n 1, 1) := by decide +kernel
theorem dX9_wereRule_18 : decode cX9_wereRule 18 = .ok (.invokevirtual 347, 3) := by decide +kernel
theorem dX9_wereRule_21 : decode cX9_wereRule 21 = .ok (.goto 4, 3) := by decide +kernel
theorem dX9_wereRule_24 : decode cX9_wereRule 24 = .ok (.iconst (-1), 1) := by decide +kernel
theorem dX9_wereRule_25 : decode cX9_wereRule 25 = .ok (.ireturn, 1) := by decide +kernel
theorem zm_X9_wereRule : ZMv "ClassOfMany" yX9_wereRule cX9_wereRule 3 (some .int) 2 := ⟨kw_5_49, kw_5_47, kw_5_48, kw_1_1, by decide +kernel, by decide⟩
def zf_X9_wereRule_j25 (v26 : Int32) (M27 : ZMem) : Option (Int32 × ZMem) :=
  some (v26, M27)
def zf_X9_wereRule_j24 (M : ZMem) : Option (Int32 × ZMem) :=
  (zf_X9_wereRule_j25 (-1 : Int32) M)
def zf_X9_wereRule (n : Nat) (a1 : Int32) (a2 : Int32) (M : ZMem) : Option (Int32 × ZMem) :=
  zb1 (zf_X9_isMember a2 M) (fun v25 => (if v25 = 0 then (zf_X9_wereRule_j24 M) else zb1 (zf_X9_isRule a1) (fun v28 => (if v28 = 0 then (zf_X9_wereRule_j24 M) else zb2 (zf_X9_paidIfRule n a2 a1 M) (fun v29 M30 => (zf_X9_wereRule_j25 v29 M30))))))
set_option maxHeartbeats 4000000 in
set_option maxRecDepth 100000 in
theorem zc_X9_wereRule {l : Launch} {D : va_G} {ad : Nat → Nat} {cA : Nat → ClassId} {n : Nat} {a1 : Int32} {a2 : Int32} {M : ZMem} {r : Int32} {M' : ZMem} (hf : zf_X9_wereRule n a1 a2 M = some (r, M')) : ZCt l D ad cA yX9_wereRule cX9_wereRule 3 (some .int) 19 [.ref (ad 0), .int a1, .int a2] M (some (.int r)) M' := by
  refine zct (by decide +kernel) (Nat.le_of_ble_eq_true rfl) (lv := [(0, .ref (ad 0)), (1, .int a1), (2, .int a2)]) rfl (fun E hl hD had hcA hN hC hR => ?_)
  subst hl; subst hD; subst had; subst hcA
  unfold zf_X9_wereRule at hf
  refine zw_aload_n hC dX9_wereRule_0 rfl 0 rfl ?_
  refine zw_iload_n hC dX9_wereRule_1 rfl 2 rfl ?_
  obtain ⟨v25, hc25, hf⟩ := zb1_some hf
  refine zw_cV hC [.int a2] [] (st1 := [.int v25]) zm_X9_isMember (zc_X9_isMember hc25) zk_0 rfl kw_3_197 dX9_wereRule_2 rfl (by decide) (Nat.le_of_ble_eq_true rfl) rfl rfl ?_
  have hj25 : ∀ (v26 : Int32), ∀ (M27 : ZMem), zf_X9_wereRule_j25 v26 M27 = some (r, M') → ZW E 25 [] [.int v26] M27 := by
    intro v26 M27 hf
    unfold zf_X9_wereRule_j25 at hf
    obtain ⟨h1, h2⟩ := Prod.mk.inj (Option.some.inj hf)
    subst h1; subst h2
    exact zw_iret hC hR dX9_wereRule_25
  have hj24 : zf_X9_wereRule_j24 M = some (r, M') → ZW E 24 [] [] M := by
    intro  hf
    unfold zf_X9_wereRule_j24 at hf
    refine zw_iconst hC (v := (-1 : Int32)) dX9_wereRule_24 (by decide) ?_
    exact hj25 (-1 : Int32) M hf
  refine zw_if_eq hC 24 hf dX9_wereRule_5 (by decide) (fun hf => ?_) (fun hf => ?_)
  · exact zw_sub [] rfl (hj24 hf)
  · refine zw_iload_n hC dX9_wereRule_8 rfl 1 rfl ?_
    obtain ⟨v28, hc28, hf⟩ := zb1_some hf
    refine zw_cS hC [.int a1] [] (st1 := [.int v28]) zm_X9_isRule (zc_X9_isRule hc28) kw_3_239 dX9_wereRule_9 rfl (by decide) (Nat.le_of_ble_eq_true rfl) rfl rfl ?_
    refine zw_if_eq hC 24 hf dX9_wereRule_12 (by decide) (fun hf => ?_) (fun hf => ?_)
    · exact zw_sub [] rfl (hj24 hf)
    · refine zw_aload_n hC dX9_wereRule_15 rfl 0 rfl ?_
      refine zw_iload_n hC dX9_wereRule_16 rfl 2 rfl ?_
      refine zw_iload_n hC dX9_wereRule_17 rfl 1 rfl ?_
      obtain ⟨v29, M30, hcM30, hf⟩ := zb2_some hf
      refine zw_cV hC [.int a2, .int a1] [] (st1 := [.int v29]) zm_X9_paidIfRule (zc_X9_paidIfRule hcM30) zk_0 rfl kw_5_50 dX9_wereRule_18 rfl (by decide) (Nat.le_of_ble_eq_true rfl) rfl rfl ?_
      refine zw_goto hC 25 dX9_wereRule_21 (by decide) ?_
      exact zw_sub [] rfl (hj25 v29 M30 hf)
/-! ClassOfMany.ruleFor(I)I -/
theorem dX9_ruleFor_0 : decode cX9_ruleFor 0 = .ok (.aload_n 0, 1) := by decide +kernel
theorem dX9_ruleFor_1 : decode cX9_ruleFor 1 = .ok (.iload_n 1, 1) := by decide +kernel
theorem dX9_ruleFor_2 : decode cX9_ruleFor 2 = .ok (.invokevirtual 130, 3) := by decide +kernel
theorem dX9_ruleFor_5 : decode cX9_ruleFor 5 = .ok (.ifCond .ne 5, 3) := by decide +kernel
theorem dX9_ruleFor_8 : decode cX9_ruleFor 8 = .ok (.iconst (-1), 1) := by decide +kernel
theorem dX9_ruleFor_9 : decode cX9_ruleFor 9 = .ok (.ireturn, 1) := by decide +kernel
theorem dX9_ruleFor_10 : decode cX9_ruleFor 10 = .ok (.iconst (-1), 1) := by decide +kernel
theorem dX9_ruleFor_11 : decode cX9_ruleFor 11 = .ok (.istore_n 2, 1) := by decide +kernel
theorem dX9_ruleFor_12 : decode cX9_ruleFor 12 = .ok (.iconst 0, 1) := by decide +kernel
theorem dX9_ruleFor_13 : decode cX9_ruleFor 13 = .ok (.istore_n 3, 1) := by decide +kernel
theorem dX9_ruleFor_14 : decode cX9_ruleFor 14 = .ok (.iconst 0, 1) := by decide +kernel
theorem dX9_ruleFor_15 : decode cX9_ruleFor 15 = .ok (.istore 4, 2) := by decide +kernel
theorem dX9_ruleFor_17 : decode cX9_ruleFor 17 = .ok (.iload 4, 2) := by decide +kernel
theorem dX9_ruleFor_19 : decode cX9_ruleFor 19 = .ok (.iconst 3, 1) := by decide +kernel
theorem dX9_ruleFor_20 : decode cX9_ruleFor 20 = .ok (.if_icmp .ge 30, 3) := by decide +kernel
theorem dX9_ruleFor_23 : decode cX9_ruleFor 23 = .ok (.aload_n 0, 1) := by decide +kernel
theorem dX9_ruleFor_24 : decode cX9_ruleFor 24 = .ok (.iload_n 1, 1) := by decide +kernel
theorem dX9_ruleFor_25 : decode cX9_ruleFor 25 = .ok (.iload 4, 2) := by decide +kernel
theorem dX9_ruleFor_27 : decode cX9_ruleFor 27 = .ok (.invokevirtual 347, 3) := by decide +kernel
theorem dX9_ruleFor_30 : decode cX9_ruleFor 30 = .ok (.istore 5, 2) := by decide +kernel
theorem dX9_ruleFor_32 : decode cX9_ruleFor 32 = .ok (.iload 5, 2) := by decide +kernel
theorem dX9_ruleFor_34 : decode cX9_ruleFor 34 = .ok (.iload_n 2, 1) := by decide +kernel
theorem dX9_ruleFor_35 : decode cX9_ruleFor 35 = .ok (.if_icmp .le 9, 3) := by decide +kernel
theorem dX9_ruleFor_38 : decode cX9_ruleFor 38 = .ok (.iload 5, 2) := by decide +kernel
theorem dX9_ruleFor_40 : decode cX9_ruleFor 40 = .ok (.istore_n 2, 1) := by decide +kernel
theorem dX9_ruleFor_41 : decode cX9_ruleFor 41 = .ok (.iload 4, 2) := by decide +kernel
theorem dX9_ruleFor_43 : decode cX9_ruleFor 43 = .ok (.istore_n 3, 1) := by decide +kernel
theorem dX9_ruleFor_44 : decode cX9_ruleFor 44 = .ok (.iinc 4 1, 3) := by decide +kernel
theorem dX9_ruleFor_47 : decode cX9_ruleFor 47 = .ok (.goto (-30), 3) := by decide +kernel
theorem dX9_ruleFor_50 : decode cX9_ruleFor 50 = .ok (.iload_n 3, 1) := by decide +kernel
theorem dX9_ruleFor_51 : decode cX9_ruleFor 51 = .ok (.ireturn, 1) := by decide +kernel
theorem zm_X9_ruleFor : ZMv "ClassOfMany" yX9_ruleFor cX9_ruleFor 6 (some .int) 1 := ⟨kw_5_57, kw_5_55, kw_5_56, kw_1_1, by decide +kernel, by decide⟩
def zf_X9_ruleFor_j44 (R17 : Int32 → Int32 → Int32 → ZMem → Option (Int32 × ZMem)) (v27 : Int32) (M32 : ZMem) (v33 : Int32) (v34 : Int32) : Option (Int32 × ZMem) :=
  (R17 v33 v34 (v27 + (1 : Int32)) M32)
def zf_X9_ruleFor_L17 (n : Nat) (a1 : Int32) (K50 : Int32 → ZMem → Option (Int32 × ZMem)) : Nat → Int32 → Int32 → Int32 → ZMem → Option (Int32 × ZMem)
  | 0, _, _, _, _ => none
  | n17 + 1, v25, v26, v27, M28 =>
  (if (3 : Int32) ≤ v27 then (K50 v26 M28) else zb2 (zf_X9_paidIfRule n a1 v27 M28) (fun v31 M32 => (if v31 ≤ v25 then (zf_X9_ruleFor_j44 (fun x0 x1 x2 x3 => zf_X9_ruleFor_L17 n a1 K50 n17 x0 x1 x2 x3) v27 M32 v25 v26) else (zf_X9_ruleFor_j44 (fun x0 x1 x2 x3 => zf_X9_ruleFor_L17 n a1 K50 n17 x0 x1 x2 x3) v27 M32 v31 v27))))
def zf_X9_ruleFor (n : Nat) (a1 : Int32) (M : ZMem) : Option (Int32 × ZMem) :=
  zb1 (zf_X9_isMember a1 M) (fun v24 => (if v24 = 0 then some ((-1 : Int32), M) else (zf_X9_ruleFor_L17 n a1 (fun v35 M36 => some (v35, M36)) n (-1 : Int32) (0 : Int32) (0 : Int32) M)))
set_option maxHeartbeats 4000000 in
set_option maxRecDepth 100000 in
theorem zc_X9_ruleFor {l : Launch} {D : va_G} {ad : Nat → Nat} {cA : Nat → ClassId} {n : Nat} {a1 : Int32} {M : ZMem} {r : Int32} {M' : ZMem} (hf : zf_X9_ruleFor n a1 M = some (r, M')) : ZCt l D ad cA yX9_ruleFor cX9_ruleFor 6 (some .int) 19 [.ref (ad 0), .int a1] M (some (.int r)) M' := by
  refine zct (by decide +kernel) (Nat.le_of_ble_eq_true rfl) (lv := [(0, .ref (ad 0)), (1, .int a1)]) rfl (fun E hl hD had hcA hN hC hR => ?_)
  subst hl; subst hD; subst had; subst hcA
  unfold zf_X9_ruleFor at hf
  refine zw_aload_n hC dX9_ruleFor_0 rfl 0 rfl ?_
  refine zw_iload_n hC dX9_ruleFor_1 rfl 1 rfl ?_
  obtain ⟨v24, hc24, hf⟩ := zb1_some hf
  refine zw_cV hC [.int a1] [] (st1 := [.int v24]) zm_X9_isMember (zc_X9_isMember hc24) zk_0 rfl kw_3_197 dX9_ruleFor_2 rfl (by decide) (Nat.le_of_ble_eq_true rfl) rfl rfl ?_
  refine zw_if_ne hC 10 hf dX9_ruleFor_5 (by decide) (fun hf => ?_) (fun hf => ?_)
  · refine zw_iconst hC (v := (-1 : Int32)) dX9_ruleFor_10 (by decide) ?_
    refine zw_istore_n hC (lv' := [(2, .int (-1 : Int32)), (0, .ref (zad E 0)), (1, .int a1)]) dX9_ruleFor_11 rfl hN (by decide) rfl ?_
    refine zw_iconst hC (v := (0 : Int32)) dX9_ruleFor_12 (by decide) ?_
    refine zw_istore_n hC (lv' := [(3, .int (0 : Int32)), (2, .int (-1 : Int32)), (0, .ref (zad E 0)), (1, .int a1)]) dX9_ruleFor_13 rfl hN (by decide) rfl ?_
    refine zw_iconst hC (v := (0 : Int32)) dX9_ruleFor_14 (by decide) ?_
    refine zw_istore hC (lv' := [(4, .int (0 : Int32)), (3, .int (0 : Int32)), (2, .int (-1 : Int32)), (0, .ref (zad E 0)), (1, .int a1)]) dX9_ruleFor_15 hN (by decide) rfl ?_
    have hL17 : ∀ (K50 : Int32 → ZMem → Option (Int32 × ZMem)), (∀ (v29 : Int32), ∀ (M30 : ZMem), K50 v29 M30 = some (r, M') → ZW E 50 [(3, .int v29)] [] M30) → ∀ (n17 : Nat), ∀ (v25 : Int32), ∀ (v26 : Int32), ∀ (v27 : Int32), ∀ (M28 : ZMem), zf_X9_ruleFor_L17 n a1 K50 n17 v25 v26 v27 M28 = some (r, M') → ZW E 17 [(0, .ref (zad E 0)), (1, .int a1), (2, .int v25), (3, .int v26), (4, .int v27)] [] M28 := by
      intro K50 hK50
      intro n17
      induction n17 with
      | zero => intro v25 v26 v27 M28 hf; rw [zf_X9_ruleFor_L17] at hf; cases hf
      | succ n17 ih17 =>
        intro v25 v26 v27 M28 hf
        rw [zf_X9_ruleFor_L17] at hf
        refine zw_iload hC dX9_ruleFor_17 4 rfl ?_
        refine zw_iconst hC (v := (3 : Int32)) dX9_ruleFor_19 (by decide) ?_
        refine zw_icmp_ge hC 50 hf dX9_ruleFor_20 (by decide) (fun hf => ?_) (fun hf => ?_)
        · exact zw_sub [3] rfl (hK50 v26 M28 hf)
        · refine zw_aload_n hC dX9_ruleFor_23 rfl 0 rfl ?_
          refine zw_iload_n hC dX9_ruleFor_24 rfl 1 rfl ?_
          refine zw_iload hC dX9_ruleFor_25 4 rfl ?_
          obtain ⟨v31, M32, hcM32, hf⟩ := zb2_some hf
          refine zw_cV hC [.int a1, .int v27] [] (st1 := [.int v31]) zm_X9_paidIfRule (zc_X9_paidIfRule hcM32) zk_0 rfl kw_5_50 dX9_ruleFor_27 rfl (by decide) (Nat.le_of_ble_eq_true rfl) rfl rfl ?_
          refine zw_istore hC (lv' := [(5, .int v31), (0, .ref (zad E 0)), (1, .int a1), (2, .int v25), (3, .int v26), (4, .int v27)]) dX9_ruleFor_30 hN (by decide) rfl ?_
          refine zw_iload hC dX9_ruleFor_32 0 rfl ?_
          refine zw_iload_n hC dX9_ruleFor_34 rfl 3 rfl ?_
          have hj44 : ∀ (v33 : Int32), ∀ (v34 : Int32), zf_X9_ruleFor_j44 (fun x0 x1 x2 x3 => zf_X9_ruleFor_L17 n a1 K50 n17 x0 x1 x2 x3) v27 M32 v33 v34 = some (r, M') → ZW E 44 [(0, .ref (zad E 0)), (1, .int a1), (2, .int v33), (3, .int v34), (4, .int v27)] [] M32 := by
            intro v33 v34 hf
            unfold zf_X9_ruleFor_j44 at hf
            refine zw_iinc hC (v := (1 : Int32)) (lv' := [(4, .int (v27 + (1 : Int32))), (0, .ref (zad E 0)), (1, .int a1), (2, .int v33), (3, .int v34)]) dX9_ruleFor_44 4 rfl (by decide) hN (by decide) rfl ?_
            refine zw_goto hC 17 dX9_ruleFor_47 (by decide) ?_
            exact zw_sub [1, 2, 3, 4, 0] rfl (ih17 v33 v34 (v27 + (1 : Int32)) M32 hf)
          refine zw_icmp_le hC 44 hf dX9_ruleFor_35 (by decide) (fun hf => ?_) (fun hf => ?_)
          · exact zw_sub [1, 2, 3, 4, 5] rfl (hj44 v25 v26 hf)
          · refine zw_iload hC dX9_ruleFor_38 0 rfl ?_
            refine zw_istore_n hC (lv' := [(2, .int v31), (5, .int v31), (0, .ref (zad E 0)), (1, .int a1), (3, .int v26), (4, .int v27)]) dX9_ruleFor_40 rfl hN (by decide) rfl ?_
            refine zw_iload hC dX9_ruleFor_41 5 rfl ?_
            refine zw_istore_n hC (lv' := [(3, .int v27), (2, .int v31), (5, .int v31), (0, .ref (zad E 0)), (1, .int a1), (4, .int v27)]) dX9_ruleFor_43 rfl hN (by decide) rfl ?_
            exact zw_sub [3, 4, 1, 0, 5] rfl (hj44 v31 v27 hf)
    refine zw_sub [3, 4, 2, 1, 0] rfl (hL17 _ ?_ n (-1 : Int32) (0 : Int32) (0 : Int32) M hf)
    · intro v35 M36 hf
      refine zw_iload_n hC dX9_ruleFor_50 rfl 0 rfl ?_
      obtain ⟨h1, h2⟩ := Prod.mk.inj (Option.some.inj hf)
      subst h1; subst h2
      exact zw_iret hC hR dX9_ruleFor_51
  · refine zw_iconst hC (v := (-1 : Int32)) dX9_ruleFor_8 (by decide) ?_
    obtain ⟨h1, h2⟩ := Prod.mk.inj (Option.some.inj hf)
    subst h1; subst h2
    exact zw_iret hC hR dX9_ruleFor_9
/-! ClassOfMany.leaver(I)I -/
theorem dX9_leaver_0 : decode cX9_leaver 0 = .ok (.aload_n 0, 1) := by decide +kernel
theorem dX9_leaver_1 : decode cX9_leaver 1 = .ok (.iload_n 1, 1) := by decide +kernel
theorem dX9_leaver_2 : decode cX9_leaver 2 = .ok (.invokevirtual 130, 3) := by decide +kernel
theorem dX9_leaver_5 : decode cX9_leaver 5 = .ok (.ifCond .ne 5, 3) := by decide +kernel
theorem dX9_leaver_8 : decode cX9_leaver 8 = .ok (.iconst (-1), 1) := by decide +kernel
theorem dX9_leaver_9 : decode cX9_leaver 9 = .ok (.ireturn, 1) := by decide +kernel
theorem dX9_leaver_10 : decode cX9_leaver 10 = .ok (.aload_n 0, 1) := by decide +kernel
theorem dX9_leaver_11 : decode cX9_leaver 11 = .ok (.iload_n 1, 1) := by decide +kernel
theorem dX9_leaver_12 : decode cX9_leaver 12 = .ok (.iconst 0, 1) := by decide +kernel
theorem dX9_leaver_13 : decode cX9_leaver 13 = .ok (.invokevirtual 344, 3) := by decide +kernel
theorem dX9_leaver_16 : decode cX9_leaver 16 = .ok (.istore_n 2, 1) := by decide +kernel
theorem dX9_leaver_17 : decode cX9_leaver 17 = .ok (.bipush (-2), 2) := by decide +kernel
theorem dX9_leaver_19 : decode cX9_leaver 19 = .ok (.istore_n 3, 1) := by decide +kernel
theorem dX9_leaver_20 : decode cX9_leaver 20 = .ok (.iconst 0, 1) := by decide +kernel
theorem dX9_leaver_21 : decode cX9_leaver 21 = .ok (.istore 4, 2) := by decide +kernel
theorem dX9_leaver_23 : decode cX9_leaver 23 = .ok (.iload 4, 2) := by decide +kernel
theorem dX9_leaver_25 : decode cX9_leaver 25 = .ok (.aload_n 0, 1) := by decide +kernel
theorem dX9_leaver_26 : decode cX9_leaver 26 = .ok (.getfield 12, 3) := by decide +kernel
theorem dX9_leaver_29 : decode cX9_leaver 29 = .ok (.getfield 92, 3) := by decide +kernel
theorem dX9_leaver_32 : decode cX9_leaver 32 = .ok (.if_icmp .ge 53, 3) := by decide +kernel
theorem dX9_leaver_35 : decode cX9_leaver 35 = .ok (.iload 4, 2) := by decide +kernel
theorem dX9_leaver_37 : decode cX9_leaver 37 = .ok (.iload_n 1, 1) := by decide +kernel
theorem dX9_leaver_38 : decode cX9_leaver 38 = .ok (.if_icmp .eq 41, 3) := by decide +kernel
theorem dX9_leaver_41 : decode cX9_leaver 41 = .ok (.aload_n 0, 1) := by decide +kernel
theorem dX9_leaver_42 : decode cX9_leaver 42 = .ok (.getfield 19, 3) := by decide +kernel
theorem dX9_leaver_45 : decode cX9_leaver 45 = .ok (.getfield 134, 3) := by decide +kernel
theorem dX9_leaver_48 : decode cX9_leaver 48 = .ok (.iload 4, 2) := by decide +kernel
theorem dX9_leaver_50 : decode cX9_leaver 50 = .ok (.invokestatic 137, 3) := by decide +kernel
theorem dX9_leaver_53 : decode cX9_leaver 53 = .ok (.ifCond .ne 26, 3) := by decide +kernel
theorem dX9_leaver_56 : decode cX9_leaver 56 = .ok (.aload_n 0, 1) := by decide +kernel
theorem dX9_leaver_57 : decode cX9_leaver 57 = .ok (.iload_n 1, 1) := by decide +kernel
theorem dX9_leaver_58 : decode cX9_leaver 58 = .ok (.iconst 1, 1) := by decide +kernel
theorem dX9_leaver_59 : decode cX9_leaver 59 = .ok (.iload 4, 2) := by decide +kernel
theorem dX9_leaver_61 : decode cX9_leaver 61 = .ok (.ishl, 1) := by decide +kernel
theorem dX9_leaver_62 : decode cX9_leaver 62 = .ok (.invokevirtual 344, 3) := by decide +kernel
theorem dX9_leaver_65 : decode cX9_leaver 65 = .ok (.istore 5, 2) := by decide +kernel
theorem dX9_leaver_67 : decode cX9_leaver 67 = .ok (.iload 5, 2) := by decide +kernel
theorem dX9_leaver_69 : decode cX9_leaver 69 = .ok (.iload_n 2, 1) := by decide +kernel
theorem dX9_leaver_70 : decode cX9_leaver 70 = .ok (.if_icmp .le 9, 3) := by decide +kernel
theorem dX9_leaver_73 : decode cX9_leaver 73 = .ok (.iload 5, 2) := by decide +kernel
theorem dX9_leaver_75 : decode cX9_leaver 75 = .ok (.istore_n 2, 1) := by decide +kernel
theorem dX9_leaver_76 : decode cX9_leaver 76 = .ok (.iload 4, 2) := by decide +kernel
theorem dX9_leaver_78 : decode cX9_leaver 78 = .ok (.istore_n 3, 1) := by decide +kernel
theorem dX9_leaver_79 : decode cX9_leaver 79 = .ok (.iinc 4 1, 3) := by decide +kernel
theorem dX9_leaver_82 : decode cX9_leaver 82 = .ok (.goto (-59), 3) := by decide +kernel
theorem dX9_leaver_85 : decode cX9_leaver 85 = .ok (.iload_n 3, 1) := by decide +kernel
theorem dX9_leaver_86 : decode cX9_leaver 86 = .ok (.ireturn, 1) := by decide +kernel
theorem zm_X9_leaver : ZMv "ClassOfMany" yX9_leaver cX9_leaver 6 (some .int) 1 := ⟨kw_5_61, kw_5_59, kw_5_60, kw_1_1, by decide +kernel, by decide⟩
def zf_X9_leaver_j79 (R23 : Int32 → Int32 → Int32 → ZMem → Option (Int32 × ZMem)) (v33 : Int32) (v38 : Int32) (v39 : Int32) (M40 : ZMem) : Option (Int32 × ZMem) :=
  (R23 v38 v39 (v33 + (1 : Int32)) M40)
def zf_X9_leaver_L23 (a1 : Int32) (n : Nat) (K85 : Int32 → ZMem → Option (Int32 × ZMem)) : Nat → Int32 → Int32 → Int32 → ZMem → Option (Int32 × ZMem)
  | 0, _, _, _, _ => none
  | n23 + 1, v31, v32, v33, M34 =>
  zdy M34 0 0 (7, 17) (fun o37 => (if (M34 o37 0) ≤ v33 then (K85 v32 M34) else (if v33 = a1 then (zf_X9_leaver_j79 (fun x0 x1 x2 x3 => zf_X9_leaver_L23 a1 n K85 n23 x0 x1 x2 x3) v33 v31 v32 M34) else zb1 (zf_X9_has (M34 12 4) v33) (fun v41 => (if v41 = 0 then zb2 (zf_X9_paidIfOut n a1 ((1 : Int32) <<< (v33 &&& 31)) M34) (fun v42 M43 => (if v42 ≤ v31 then (zf_X9_leaver_j79 (fun x0 x1 x2 x3 => zf_X9_leaver_L23 a1 n K85 n23 x0 x1 x2 x3) v33 v31 v32 M43) else (zf_X9_leaver_j79 (fun x0 x1 x2 x3 => zf_X9_leaver_L23 a1 n K85 n23 x0 x1 x2 x3) v33 v42 v33 M43))) else (zf_X9_leaver_j79 (fun x0 x1 x2 x3 => zf_X9_leaver_L23 a1 n K85 n23 x0 x1 x2 x3) v33 v31 v32 M34))))))
def zf_X9_leaver (n : Nat) (a1 : Int32) (M : ZMem) : Option (Int32 × ZMem) :=
  zb1 (zf_X9_isMember a1 M) (fun v28 => (if v28 = 0 then some ((-1 : Int32), M) else zb2 (zf_X9_paidIfOut n a1 (0 : Int32) M) (fun v29 M30 => (zf_X9_leaver_L23 a1 n (fun v44 M45 => some (v44, M45)) n v29 (-2 : Int32) (0 : Int32) M30))))
set_option maxHeartbeats 4000000 in
set_option maxRecDepth 100000 in
theorem zc_X9_leaver {l : Launch} {D : va_G} {ad : Nat → Nat} {cA : Nat → ClassId} {n : Nat} {a1 : Int32} {M : ZMem} {r : Int32} {M' : ZMem} (hf : zf_X9_leaver n a1 M = some (r, M')) : ZCt l D ad cA yX9_leaver cX9_leaver 6 (some .int) 19 [.ref (ad 0), .int a1] M (some (.int r)) M' := by
  refine zct (by decide +kernel) (Nat.le_of_ble_eq_true rfl) (lv := [(0, .ref (ad 0)), (1, .int a1)]) rfl (fun E hl hD had hcA hN hC hR => ?_)
  subst hl; subst hD; subst had; subst hcA
  unfold zf_X9_leaver at hf
  refine zw_aload_n hC dX9_leaver_0 rfl 0 rfl ?_
  refine zw_iload_n hC dX9_leaver_1 rfl 1 rfl ?_
  obtain ⟨v28, hc28, hf⟩ := zb1_some hf
  refine zw_cV hC [.int a1] [] (st1 := [.int v28]) zm_X9_isMember (zc_X9_isMember hc28) zk_0 rfl kw_3_197 dX9_leaver_2 rfl (by decide) (Nat.le_of_ble_eq_true rfl) rfl rfl ?_
  refine zw_if_ne hC 10 hf dX9_leaver_5 (by decide) (fun hf => ?_) (fun hf => ?_)
  · refine zw_aload_n hC dX9_leaver_10 rfl 0 rfl ?_
    refine zw_iload_n hC dX9_leaver_11 rfl 1 rfl ?_
    refine zw_iconst hC (v := (0 : Int32)) dX9_leaver_12 (by decide) ?_
    obtain ⟨v29, M30, hcM30, hf⟩ := zb2_some hf
    refine zw_cV hC [.int a1, .int (0 : Int32)] [] (st1 := [.int v29]) zm_X9_paidIfOut (zc_X9_paidIfOut hcM30) zk_0 rfl kw_5_38 dX9_leaver_13 rfl (by decide) (Nat.le_of_ble_eq_true rfl) rfl rfl ?_
    refine zw_istore_n hC (lv' := [(2, .int v29), (0, .ref (zad E 0)), (1, .int a1)]) dX9_leaver_16 rfl hN (by decide) rfl ?_
    refine zw_bipush hC (v := (-2 : Int32)) dX9_leaver_17 (by decide) ?_
    refine zw_istore_n hC (lv' := [(3, .int (-2 : Int32)), (2, .int v29), (0, .ref (zad E 0)), (1, .int a1)]) dX9_leaver_19 rfl hN (by decide) rfl ?_
    refine zw_iconst hC (v := (0 : Int32)) dX9_leaver_20 (by decide) ?_
    refine zw_istore hC (lv' := [(4, .int (0 : Int32)), (3, .int (-2 : Int32)), (2, .int v29), (0, .ref (zad E 0)), (1, .int a1)]) dX9_leaver_21 hN (by decide) rfl ?_
    have hL23 : ∀ (K85 : Int32 → ZMem → Option (Int32 × ZMem)), (∀ (v35 : Int32), ∀ (M36 : ZMem), K85 v35 M36 = some (r, M') → ZW E 85 [(3, .int v35)] [] M36) → ∀ (n23 : Nat), ∀ (v31 : Int32), ∀ (v32 : Int32), ∀ (v33 : Int32), ∀ (M34 : ZMem), zf_X9_leaver_L23 a1 n K85 n23 v31 v32 v33 M34 = some (r, M') → ZW E 23 [(0, .ref (zad E 0)), (1, .int a1), (2, .int v31), (3, .int v32), (4, .int v33)] [] M34 := by
      intro K85 hK85
      intro n23
      induction n23 with
      | zero => intro v31 v32 v33 M34 hf; rw [zf_X9_leaver_L23] at hf; cases hf
      | succ n23 ih23 =>
        intro v31 v32 v33 M34 hf
        rw [zf_X9_leaver_L23] at hf
        refine zw_iload hC dX9_leaver_23 4 rfl ?_
        refine zw_aload_n hC dX9_leaver_25 rfl 0 rfl ?_
        refine zw_getd hC hf zF_ClassOfMany_told zk_0 dX9_leaver_26 kw_2_168 (fun o37 ho37 hf => ?_)
        refine zw_geti hC zF_Told_members ho37 dX9_leaver_29 kw_1_38 ?_
        refine zw_icmp_ge hC 85 hf dX9_leaver_32 (by decide) (fun hf => ?_) (fun hf => ?_)
        · exact zw_sub [3] rfl (hK85 v32 M34 hf)
        · refine zw_iload hC dX9_leaver_35 4 rfl ?_
          refine zw_iload_n hC dX9_leaver_37 rfl 1 rfl ?_
          have hj79 : ∀ (v38 : Int32), ∀ (v39 : Int32), ∀ (M40 : ZMem), zf_X9_leaver_j79 (fun x0 x1 x2 x3 => zf_X9_leaver_L23 a1 n K85 n23 x0 x1 x2 x3) v33 v38 v39 M40 = some (r, M') → ZW E 79 [(0, .ref (zad E 0)), (1, .int a1), (2, .int v38), (3, .int v39), (4, .int v33)] [] M40 := by
            intro v38 v39 M40 hf
            unfold zf_X9_leaver_j79 at hf
            refine zw_iinc hC (v := (1 : Int32)) (lv' := [(4, .int (v33 + (1 : Int32))), (0, .ref (zad E 0)), (1, .int a1), (2, .int v38), (3, .int v39)]) dX9_leaver_79 4 rfl (by decide) hN (by decide) rfl ?_
            refine zw_goto hC 23 dX9_leaver_82 (by decide) ?_
            exact zw_sub [1, 2, 3, 4, 0] rfl (ih23 v38 v39 (v33 + (1 : Int32)) M40 hf)
          refine zw_icmp_eq hC 79 hf dX9_leaver_38 (by decide) (fun hf => ?_) (fun hf => ?_)
          · exact hj79 v31 v32 M34 hf
          · refine zw_aload_n hC dX9_leaver_41 rfl 0 rfl ?_
            refine zw_getr (k' := 12) hC zF_ClassOfMany_now zk_0 rfl dX9_leaver_42 kw_2_169 ?_
            refine zw_geti hC zF_Standing_out zk_12 dX9_leaver_45 kw_1_146 ?_
            refine zw_iload hC dX9_leaver_48 4 rfl ?_
            obtain ⟨v41, hc41, hf⟩ := zb1_some hf
            refine zw_cS hC [.int (M34 12 4), .int v33] [] (st1 := [.int v41]) zm_X9_has (zc_X9_has hc41) kw_3_201 dX9_leaver_50 rfl (by decide) (Nat.le_of_ble_eq_true rfl) rfl rfl ?_
            refine zw_if_ne hC 79 hf dX9_leaver_53 (by decide) (fun hf => ?_) (fun hf => ?_)
            · exact hj79 v31 v32 M34 hf
            · refine zw_aload_n hC dX9_leaver_56 rfl 0 rfl ?_
              refine zw_iload_n hC dX9_leaver_57 rfl 1 rfl ?_
              refine zw_iconst hC (v := (1 : Int32)) dX9_leaver_58 (by decide) ?_
              refine zw_iload hC dX9_leaver_59 4 rfl ?_
              refine zw_ishl hC dX9_leaver_61 ?_
              obtain ⟨v42, M43, hcM43, hf⟩ := zb2_some hf
              refine zw_cV hC [.int a1, .int ((1 : Int32) <<< (v33 &&& 31))] [] (st1 := [.int v42]) zm_X9_paidIfOut (zc_X9_paidIfOut hcM43) zk_0 rfl kw_5_38 dX9_leaver_62 rfl (by decide) (Nat.le_of_ble_eq_true rfl) rfl rfl ?_
              refine zw_istore hC (lv' := [(5, .int v42), (0, .ref (zad E 0)), (1, .int a1), (2, .int v31), (3, .int v32), (4, .int v33)]) dX9_leaver_65 hN (by decide) rfl ?_
              refine zw_iload hC dX9_leaver_67 0 rfl ?_
              refine zw_iload_n hC dX9_leaver_69 rfl 3 rfl ?_
              refine zw_icmp_le hC 79 hf dX9_leaver_70 (by decide) (fun hf => ?_) (fun hf => ?_)
              · exact zw_sub [1, 2, 3, 4, 5] rfl (hj79 v31 v32 M43 hf)
              · refine zw_iload hC dX9_leaver_73 0 rfl ?_
                refine zw_istore_n hC (lv' := [(2, .int v42), (5, .int v42), (0, .ref (zad E 0)), (1, .int a1), (3, .int v32), (4, .int v33)]) dX9_leaver_75 rfl hN (by decide) rfl ?_
                refine zw_iload hC dX9_leaver_76 5 rfl ?_
                refine zw_istore_n hC (lv' := [(3, .int v33), (2, .int v42), (5, .int v42), (0, .ref (zad E 0)), (1, .int a1), (4, .int v33)]) dX9_leaver_78 rfl hN (by decide) rfl ?_
                exact zw_sub [3, 4, 1, 0, 5] rfl (hj79 v42 v33 M43 hf)
    refine zw_sub [3, 4, 2, 1, 0] rfl (hL23 _ ?_ n v29 (-2 : Int32) (0 : Int32) M30 hf)
    · intro v44 M45 hf
      refine zw_iload_n hC dX9_leaver_85 rfl 0 rfl ?_
      obtain ⟨h1, h2⟩ := Prod.mk.inj (Option.some.inj hf)
      subst h1; subst h2
      exact zw_iret hC hR dX9_leaver_86
  · refine zw_iconst hC (v := (-1 : Int32)) dX9_leaver_8 (by decide) ?_
    obtain ⟨h1, h2⟩ := Prod.mk.inj (Option.some.inj hf)
    subst h1; subst h2
    exact zw_iret hC hR dX9_leaver_9
/-! ClassOfMany.alone(I)I -/
theorem dX9_alone_0 : decode cX9_alone 0 = .ok (.aload_n 0, 1) := by decide +kernel
theorem dX9_alone_1 : decode cX9_alone 1 = .ok (.iload_n 1, 1) := by decide +kernel
theorem dX9_alone_2 : decode cX9_alone 2 = .ok (.invokevirtual 350, 3) := by decide +kernel
theorem dX9_alone_5 : decode cX9_alone 5 = .ok (.ifCond .ne 5, 3) := by decide +kernel
theorem dX9_alone_8 : decode cX9_alone 8 = .ok (.iconst (-1), 1) := by decide +kernel
theorem dX9_alone_9 : decode cX9_alone 9 = .ok (.ireturn, 1) := by decide +kernel
theorem dX9_alone_10 : decode cX9_alone 10 = .ok (.aload_n 0, 1) := by decide +kernel
theorem dX9_alone_11 : decode cX9_alone 11 = .ok (.getfield 23, 3) := by decide +kernel
theorem dX9_alone_14 : decode cX9_alone 14 = .ok (.aload_n 0, 1) := by decide +kernel
theorem dX9_alone_15 : decode cX9_alone 15 = .ok (.getfield 19, 3) := by decide +kernel
theorem dX9_alone_18 : decode cX9_alone 18 = .ok (.invokevirtual 84, 3) := by decide +kernel
theorem dX9_alone_21 : decode cX9_alone 21 = .ok (.aload_n 0, 1) := by decide +kernel
theorem dX9_alone_22 : decode cX9_alone 22 = .ok (.getfield 23, 3) := by decide +kernel
theorem dX9_alone_25 : decode cX9_alone 25 = .ok (.dup, 1) := by decide +kernel
theorem dX9_alone_26 : decode cX9_alone 26 = .ok (.getfield 134, 3) := by decide +kernel
theorem dX9_alone_29 : decode cX9_alone 29 = .ok (.aload_n 0, 1) := by decide +kernel
theorem dX9_alone_30 : decode cX9_alone 30 = .ok (.invokevirtual 177, 3) := by decide +kernel
theorem dX9_alone_33 : decode cX9_alone 33 = .ok (.iload_n 1, 1) := by decide +kernel
theorem dX9_alone_34 : decode cX9_alone 34 = .ok (.iconst (-1), 1) := by decide +kernel
theorem dX9_alone_35 : decode cX9_alone 35 = .ok (.ixor, 1) := by decide +kernel
theorem dX9_alone_36 : decode cX9_alone 36 = .ok (.iand, 1) := by decide +kernel
theorem dX9_alone_37 : decode cX9_alone 37 = .ok (.ior, 1) := by decide +kernel
theorem dX9_alone_38 : decode cX9_alone 38 = .ok (.putfield 134, 3) := by decide +kernel
theorem dX9_alone_41 : decode cX9_alone 41 = .ok (.aload_n 0, 1) := by decide +kernel
theorem dX9_alone_42 : decode cX9_alone 42 = .ok (.getfield 50, 3) := by decide +kernel
theorem dX9_alone_45 : decode cX9_alone 45 = .ok (.aload_n 0, 1) := by decide +kernel
theorem dX9_alone_46 : decode cX9_alone 46 = .ok (.getfield 43, 3) := by decide +kernel
theorem dX9_alone_49 : decode cX9_alone 49 = .ok (.aload_n 0, 1) := by decide +kernel
theorem dX9_alone_50 : decode cX9_alone 50 = .ok (.getfield 12, 3) := by decide +kernel
theorem dX9_alone_53 : decode cX9_alone 53 = .ok (.aload_n 0, 1) := by decide +kernel
theorem dX9_alone_54 : decode cX9_alone 54 = .ok (.getfield 23, 3) := by decide +kernel
theorem dX9_alone_57 : decode cX9_alone 57 = .ok (.invokevirtual 301, 3) := by decide +kernel
theorem dX9_alone_60 : decode cX9_alone 60 = .ok (.aload_n 0, 1) := by decide +kernel
theorem dX9_alone_61 : decode cX9_alone 61 = .ok (.getfield 50, 3) := by decide +kernel
theorem dX9_alone_64 : decode cX9_alone 64 = .ok (.getfield 308, 3) := by decide +kernel
theorem dX9_alone_67 : decode cX9_alone 67 = .ok (.aload_n 0, 1) := by decide +kernel
theorem dX9_alone_68 : decode cX9_alone 68 = .ok (.getfield 50, 3) := by decide +kernel
theorem dX9_alone_71 : decode cX9_alone 71 = .ok (.getfield 311, 3) := by decide +kernel
theorem dX9_alone_74 : decode cX9_alone 74 = .ok (.isub, 1) := by decide +kernel
theorem dX9_alone_75 : decode cX9_alone 75 = .ok (.ireturn, 1) := by decide +kernel
theorem zm_X9_alone : ZMv "ClassOfMany" yX9_alone cX9_alone 2 (some .int) 1 := ⟨kw_5_65, kw_5_63, kw_5_64, kw_1_1, by decide +kernel, by decide⟩
def zf_X9_alone (n : Nat) (a1 : Int32) (M : ZMem) : Option (Int32 × ZMem) :=
  zb1 (zf_X9_isSet a1 M) (fun v27 => (if v27 = 0 then some ((-1 : Int32), M) else zb1 (zf_X7_copyFrom 14 12 M) (fun M28 => zb1 (zf_X9_everyone M28) (fun v29 => zput M28 14 4 ((M28 14 4) ||| (v29 &&& (a1 ^^^ (-1 : Int32)))) (fun M30 => zdy M30 0 0 (7, 17) (fun o31 => zb1 (zf_X3_pay n o31 14 M30) (fun M32 => some (((M32 63 15) - (M32 63 17)), M32))))))))
set_option maxHeartbeats 4000000 in
set_option maxRecDepth 100000 in
theorem zc_X9_alone {l : Launch} {D : va_G} {ad : Nat → Nat} {cA : Nat → ClassId} {n : Nat} {a1 : Int32} {M : ZMem} {r : Int32} {M' : ZMem} (hf : zf_X9_alone n a1 M = some (r, M')) : ZCt l D ad cA yX9_alone cX9_alone 2 (some .int) 18 [.ref (ad 0), .int a1] M (some (.int r)) M' := by
  refine zct (by decide +kernel) (Nat.le_of_ble_eq_true rfl) (lv := [(0, .ref (ad 0)), (1, .int a1)]) rfl (fun E hl hD had hcA hN hC hR => ?_)
  subst hl; subst hD; subst had; subst hcA
  unfold zf_X9_alone at hf
  refine zw_aload_n hC dX9_alone_0 rfl 0 rfl ?_
  refine zw_iload_n hC dX9_alone_1 rfl 1 rfl ?_
  obtain ⟨v27, hc27, hf⟩ := zb1_some hf
  refine zw_cV hC [.int a1] [] (st1 := [.int v27]) zm_X9_isSet (zc_X9_isSet hc27) zk_0 rfl kw_5_66 dX9_alone_2 rfl (by decide) (Nat.le_of_ble_eq_true rfl) rfl rfl ?_
  refine zw_if_ne hC 10 hf dX9_alone_5 (by decide) (fun hf => ?_) (fun hf => ?_)
  · refine zw_aload_n hC dX9_alone_10 rfl 0 rfl ?_
    refine zw_getr (k' := 14) hC zF_ClassOfMany_were zk_0 rfl dX9_alone_11 kw_2_170 ?_
    refine zw_aload_n hC dX9_alone_14 rfl 0 rfl ?_
    refine zw_getr (k' := 12) hC zF_ClassOfMany_now zk_0 rfl dX9_alone_15 kw_2_169 ?_
    obtain ⟨M28, hcM28, hf⟩ := zb1_some hf
    refine zw_cV hC [.ref (zad E 12)] [] (st1 := []) zm_X7_copyFrom (zc_X7_copyFrom zk_14 zk_12 hcM28) zk_14 rfl kw_3_134 dX9_alone_18 rfl (by decide) (Nat.le_of_ble_eq_true rfl) rfl rfl ?_
    refine zw_aload_n hC dX9_alone_21 rfl 0 rfl ?_
    refine zw_getr (k' := 14) hC zF_ClassOfMany_were zk_0 rfl dX9_alone_22 kw_2_170 ?_
    refine zw_dup hC dX9_alone_25 rfl ?_
    refine zw_geti hC zF_Standing_out zk_14 dX9_alone_26 kw_1_146 ?_
    refine zw_aload_n hC dX9_alone_29 rfl 0 rfl ?_
    obtain ⟨v29, hc29, hf⟩ := zb1_some hf
    refine zw_cV hC [] [.int (M28 14 4), .ref (zad E 14)] (st1 := [.int v29, .int (M28 14 4), .ref (zad E 14)]) zm_X9_everyone (zc_X9_everyone hc29) zk_0 rfl kw_4_6 dX9_alone_30 rfl (by decide) (Nat.le_of_ble_eq_true rfl) rfl rfl ?_
    refine zw_iload_n hC dX9_alone_33 rfl 1 rfl ?_
    refine zw_iconst hC (v := (-1 : Int32)) dX9_alone_34 (by decide) ?_
    refine zw_ixor hC dX9_alone_35 ?_
    refine zw_iand hC dX9_alone_36 ?_
    refine zw_ior hC dX9_alone_37 ?_
    refine zw_puti hC hf zF_Standing_out zk_14 dX9_alone_38 kw_1_146 (fun M30 hf => ?_)
    refine zw_aload_n hC dX9_alone_41 rfl 0 rfl ?_
    refine zw_getr (k' := 63) hC zF_ClassOfMany_payer zk_0 rfl dX9_alone_42 kw_2_174 ?_
    refine zw_aload_n hC dX9_alone_45 rfl 0 rfl ?_
    refine zw_getr (k' := 57) hC zF_ClassOfMany_splitter zk_0 rfl dX9_alone_46 kw_2_173 ?_
    refine zw_aload_n hC dX9_alone_49 rfl 0 rfl ?_
    refine zw_getd hC hf zF_ClassOfMany_told zk_0 dX9_alone_50 kw_2_168 (fun o31 ho31 hf => ?_)
    refine zw_aload_n hC dX9_alone_53 rfl 0 rfl ?_
    refine zw_getr (k' := 14) hC zF_ClassOfMany_were zk_0 rfl dX9_alone_54 kw_2_170 ?_
    obtain ⟨M32, hcM32, hf⟩ := zb1_some hf
    refine zw_cV hC [.ref (zad E 57), .ref (zad E o31), .ref (zad E 14)] [] (st1 := []) zm_X3_pay (zc_X3_pay ho31 zk_14 hcM32) zk_63 rfl kw_4_195 dX9_alone_57 rfl (by decide) (Nat.le_of_ble_eq_true rfl) rfl rfl ?_
    refine zw_aload_n hC dX9_alone_60 rfl 0 rfl ?_
    refine zw_getr (k' := 63) hC zF_ClassOfMany_payer zk_0 rfl dX9_alone_61 kw_2_174 ?_
    refine zw_geti hC zF_Payer_net zk_63 dX9_alone_64 kw_2_82 ?_
    refine zw_aload_n hC dX9_alone_67 rfl 0 rfl ?_
    refine zw_getr (k' := 63) hC zF_ClassOfMany_payer zk_0 rfl dX9_alone_68 kw_2_174 ?_
    refine zw_geti hC zF_Payer_left zk_63 dX9_alone_71 kw_2_86 ?_
    refine zw_isub hC dX9_alone_74 ?_
    obtain ⟨h1, h2⟩ := Prod.mk.inj (Option.some.inj hf)
    subst h1; subst h2
    exact zw_iret hC hR dX9_alone_75
  · refine zw_iconst hC (v := (-1 : Int32)) dX9_alone_8 (by decide) ?_
    obtain ⟨h1, h2⟩ := Prod.mk.inj (Option.some.inj hf)
    subst h1; subst h2
    exact zw_iret hC hR dX9_alone_9
/-! ClassOfMany.needs()I -/
theorem dX9_needs_0 : decode cX9_needs 0 = .ok (.aload_n 0, 1) := by decide +kernel
theorem dX9_needs_1 : decode cX9_needs 1 = .ok (.getfield 50, 3) := by decide +kernel
theorem dX9_needs_4 : decode cX9_needs 4 = .ok (.aload_n 0, 1) := by decide +kernel
theorem dX9_needs_5 : decode cX9_needs 5 = .ok (.getfield 43, 3) := by decide +kernel
theorem dX9_needs_8 : decode cX9_needs 8 = .ok (.aload_n 0, 1) := by decide +kernel
theorem dX9_needs_9 : decode cX9_needs 9 = .ok (.getfield 12, 3) := by decide +kernel
theorem dX9_needs_12 : decode cX9_needs 12 = .ok (.aload_n 0, 1) := by decide +kernel
theorem dX9_needs_13 : decode cX9_needs 13 = .ok (.getfield 19, 3) := by decide +kernel
theorem dX9_needs_16 : decode cX9_needs 16 = .ok (.invokevirtual 353, 3) := by decide +kernel
theorem dX9_needs_19 : decode cX9_needs 19 = .ok (.istore_n 1, 1) := by decide +kernel
theorem dX9_needs_20 : decode cX9_needs 20 = .ok (.iload_n 1, 1) := by decide +kernel
theorem dX9_needs_21 : decode cX9_needs 21 = .ok (.bipush (-2), 2) := by decide +kernel
theorem dX9_needs_23 : decode cX9_needs 23 = .ok (.if_icmp .ne 6, 3) := by decide +kernel
theorem dX9_needs_26 : decode cX9_needs 26 = .ok (.bipush (-2), 2) := by decide +kernel
theorem dX9_needs_28 : decode cX9_needs 28 = .ok (.ireturn, 1) := by decide +kernel
theorem dX9_needs_29 : decode cX9_needs 29 = .ok (.iload_n 1, 1) := by decide +kernel
theorem dX9_needs_30 : decode cX9_needs 30 = .ok (.ifCond .ne 7, 3) := by decide +kernel
theorem dX9_needs_33 : decode cX9_needs 33 = .ok (.iconst 0, 1) := by decide +kernel
theorem dX9_needs_34 : decode cX9_needs 34 = .ok (.goto 8, 3) := by decide +kernel
theorem dX9_needs_37 : decode cX9_needs 37 = .ok (.aload_n 0, 1) := by decide +kernel
theorem dX9_needs_38 : decode cX9_needs 38 = .ok (.iload_n 1, 1) := by decide +kernel
theorem dX9_needs_39 : decode cX9_needs 39 = .ok (.invokevirtual 357, 3) := by decide +kernel
theorem dX9_needs_42 : decode cX9_needs 42 = .ok (.ireturn, 1) := by decide +kernel
theorem zm_X9_needs : ZMv "ClassOfMany" yX9_needs cX9_needs 2 (some .int) 0 := ⟨kw_5_73, kw_5_71, kw_5_72, kw_1_1, by decide +kernel, by decide⟩
def zf_X9_needs_j42 (M27 : ZMem) (v28 : Int32) : Option (Int32 × ZMem) :=
  some (v28, M27)
def zf_X9_needs (n : Nat) (M : ZMem) : Option (Int32 × ZMem) :=
  zdy M 0 0 (7, 17) (fun o25 => zb2 (zf_X3_leastNet n o25 12 M) (fun v26 M27 => (if v26 = (-2 : Int32) then some ((-2 : Int32), M27) else (if v26 = 0 then (zf_X9_needs_j42 M27 (0 : Int32)) else zb1 (zf_X9_fundFor n v26 M27) (fun v29 => (zf_X9_needs_j42 M27 v29))))))
set_option maxHeartbeats 4000000 in
set_option maxRecDepth 100000 in
theorem zc_X9_needs {l : Launch} {D : va_G} {ad : Nat → Nat} {cA : Nat → ClassId} {n : Nat} {M : ZMem} {r : Int32} {M' : ZMem} (hf : zf_X9_needs n M = some (r, M')) : ZCt l D ad cA yX9_needs cX9_needs 2 (some .int) 18 [.ref (ad 0)] M (some (.int r)) M' := by
  refine zct (by decide +kernel) (Nat.le_of_ble_eq_true rfl) (lv := [(0, .ref (ad 0))]) rfl (fun E hl hD had hcA hN hC hR => ?_)
  subst hl; subst hD; subst had; subst hcA
  unfold zf_X9_needs at hf
  refine zw_aload_n hC dX9_needs_0 rfl 0 rfl ?_
  refine zw_getr (k' := 63) hC zF_ClassOfMany_payer zk_0 rfl dX9_needs_1 kw_2_174 ?_
  refine zw_aload_n hC dX9_needs_4 rfl 0 rfl ?_
  refine zw_getr (k' := 57) hC zF_ClassOfMany_splitter zk_0 rfl dX9_needs_5 kw_2_173 ?_
  refine zw_aload_n hC dX9_needs_8 rfl 0 rfl ?_
  refine zw_getd hC hf zF_ClassOfMany_told zk_0 dX9_needs_9 kw_2_168 (fun o25 ho25 hf => ?_)
  refine zw_aload_n hC dX9_needs_12 rfl 0 rfl ?_
  refine zw_getr (k' := 12) hC zF_ClassOfMany_now zk_0 rfl dX9_needs_13 kw_2_169 ?_
  obtain ⟨v26, M27, hcM27, hf⟩ := zb2_some hf
  refine zw_cV hC [.ref (zad E 57), .ref (zad E o25), .ref (zad E 12)] [] (st1 := [.int v26]) zm_X3_leastNet (zc_X3_leastNet ho25 zk_12 hcM27) zk_63 rfl kw_5_74 dX9_needs_16 rfl (by decide) (Nat.le_of_ble_eq_true rfl) rfl rfl ?_
  refine zw_istore_n hC (lv' := [(1, .int v26), (0, .ref (zad E 0))]) dX9_needs_19 rfl hN (by decide) rfl ?_
  refine zw_iload_n hC dX9_needs_20 rfl 0 rfl ?_
  refine zw_bipush hC (v := (-2 : Int32)) dX9_needs_21 (by decide) ?_
  refine zw_icmp_ne hC 29 hf dX9_needs_23 (by decide) (fun hf => ?_) (fun hf => ?_)
  · refine zw_iload_n hC dX9_needs_29 rfl 0 rfl ?_
    have hj42 : ∀ (v28 : Int32), zf_X9_needs_j42 M27 v28 = some (r, M') → ZW E 42 [] [.int v28] M27 := by
      intro v28 hf
      unfold zf_X9_needs_j42 at hf
      obtain ⟨h1, h2⟩ := Prod.mk.inj (Option.some.inj hf)
      subst h1; subst h2
      exact zw_iret hC hR dX9_needs_42
    refine zw_if_ne hC 37 hf dX9_needs_30 (by decide) (fun hf => ?_) (fun hf => ?_)
    · refine zw_aload_n hC dX9_needs_37 rfl 1 rfl ?_
      refine zw_iload_n hC dX9_needs_38 rfl 0 rfl ?_
      obtain ⟨v29, hc29, hf⟩ := zb1_some hf
      refine zw_cV hC [.int v26] [] (st1 := [.int v29]) zm_X9_fundFor (zc_X9_fundFor hc29) zk_0 rfl kw_5_98 dX9_needs_39 rfl (by decide) (Nat.le_of_ble_eq_true rfl) rfl rfl ?_
      exact zw_sub [] rfl (hj42 v29 hf)
    · refine zw_iconst hC (v := (0 : Int32)) dX9_needs_33 (by decide) ?_
      refine zw_goto hC 42 dX9_needs_34 (by decide) ?_
      exact zw_sub [] rfl (hj42 (0 : Int32) hf)
  · refine zw_bipush hC (v := (-2 : Int32)) dX9_needs_26 (by decide) ?_
    obtain ⟨h1, h2⟩ := Prod.mk.inj (Option.some.inj hf)
    subst h1; subst h2
    exact zw_iret hC hR dX9_needs_28
/-! ClassOfMany.rests(III)I -/
theorem dX9_rests_0 : decode cX9_rests 0 = .ok (.iload_n 1, 1) := by decide +kernel
theorem dX9_rests_1 : decode cX9_rests 1 = .ok (.invokestatic 335, 3) := by decide +kernel
theorem dX9_rests_4 : decode cX9_rests 4 = .ok (.ifCond .eq 19, 3) := by decide +kernel
theorem dX9_rests_7 : decode cX9_rests 7 = .ok (.iload_n 2, 1) := by decide +kernel
theorem dX9_rests_8 : decode cX9_rests 8 = .ok (.ifCond .lt 15, 3) := by decide +kernel
theorem dX9_rests_11 : decode cX9_rests 11 = .ok (.iload_n 2, 1) := by decide +kernel
theorem dX9_rests_12 : decode cX9_rests 12 = .ok (.sipush 999, 3) := by decide +kernel
theorem dX9_rests_15 : decode cX9_rests 15 = .ok (.if_icmp .gt 8, 3) := by decide +kernel
theorem dX9_rests_18 : decode cX9_rests 18 = .ok (.iload_n 3, 1) := by decide +kernel
theorem dX9_rests_19 : decode cX9_rests 19 = .ok (.iconst (-1), 1) := by decide +kernel
theorem dX9_rests_20 : decode cX9_rests 20 = .ok (.if_icmp .ge 5, 3) := by decide +kernel
theorem dX9_rests_23 : decode cX9_rests 23 = .ok (.iconst (-1), 1) := by decide +kernel
theorem dX9_rests_24 : decode cX9_rests 24 = .ok (.ireturn, 1) := by decide +kernel
theorem dX9_rests_25 : decode cX9_rests 25 = .ok (.aload_n 0, 1) := by decide +kernel
theorem dX9_rests_26 : decode cX9_rests 26 = .ok (.getfield 57, 3) := by decide +kernel
theorem dX9_rests_29 : decode cX9_rests 29 = .ok (.iload_n 1, 1) := by decide +kernel
theorem dX9_rests_30 : decode cX9_rests 30 = .ok (.iload_n 2, 1) := by decide +kernel
theorem dX9_rests_31 : decode cX9_rests 31 = .ok (.invokevirtual 364, 3) := by decide +kernel
theorem dX9_rests_34 : decode cX9_rests 34 = .ok (.ifCond .ne 39, 3) := by decide +kernel
theorem dX9_rests_37 : decode cX9_rests 37 = .ok (.aload_n 0, 1) := by decide +kernel
theorem dX9_rests_38 : decode cX9_rests 38 = .ok (.getfield 23, 3) := by decide +kernel
theorem dX9_rests_41 : decode cX9_rests 41 = .ok (.aload_n 0, 1) := by decide +kernel
theorem dX9_rests_42 : decode cX9_rests 42 = .ok (.getfield 19, 3) := by decide +kernel
theorem dX9_rests_45 : decode cX9_rests 45 = .ok (.invokevirtual 84, 3) := by decide +kernel
theorem dX9_rests_48 : decode cX9_rests 48 = .ok (.aload_n 0, 1) := by decide +kernel
theorem dX9_rests_49 : decode cX9_rests 49 = .ok (.getfield 57, 3) := by decide +kernel
theorem dX9_rests_52 : decode cX9_rests 52 = .ok (.aload_n 0, 1) := by decide +kernel
theorem dX9_rests_53 : decode cX9_rests 53 = .ok (.getfield 43, 3) := by decide +kernel
theorem dX9_rests_56 : decode cX9_rests 56 = .ok (.aload_n 0, 1) := by decide +kernel
theorem dX9_rests_57 : decode cX9_rests 57 = .ok (.getfield 50, 3) := by decide +kernel
theorem dX9_rests_60 : decode cX9_rests 60 = .ok (.aload_n 0, 1) := by decide +kernel
theorem dX9_rests_61 : decode cX9_rests 61 = .ok (.getfield 12, 3) := by decide +kernel
theorem dX9_rests_64 : decode cX9_rests 64 = .ok (.aload_n 0, 1) := by decide +kernel
theorem dX9_rests_65 : decode cX9_rests 65 = .ok (.getfield 23, 3) := by decide +kernel
theorem dX9_rests_68 : decode cX9_rests 68 = .ok (.iload_n 1, 1) := by decide +kernel
theorem dX9_rests_69 : decode cX9_rests 69 = .ok (.iload_n 2, 1) := by decide +kernel
theorem dX9_rests_70 : decode cX9_rests 70 = .ok (.invokevirtual 367, 3) := by decide +kernel
theorem dX9_rests_73 : decode cX9_rests 73 = .ok (.iload_n 3, 1) := by decide +kernel
theorem dX9_rests_74 : decode cX9_rests 74 = .ok (.iconst (-1), 1) := by decide +kernel
theorem dX9_rests_75 : decode cX9_rests 75 = .ok (.if_icmp .ne 11, 3) := by decide +kernel
theorem dX9_rests_78 : decode cX9_rests 78 = .ok (.aload_n 0, 1) := by decide +kernel
theorem dX9_rests_79 : decode cX9_rests 79 = .ok (.getfield 57, 3) := by decide +kernel
theorem dX9_rests_82 : decode cX9_rests 82 = .ok (.getfield 371, 3) := by decide +kernel
theorem dX9_rests_85 : decode cX9_rests 85 = .ok (.ireturn, 1) := by decide +kernel
theorem dX9_rests_86 : decode cX9_rests 86 = .ok (.iload_n 3, 1) := by decide +kernel
theorem dX9_rests_87 : decode cX9_rests 87 = .ok (.aload_n 0, 1) := by decide +kernel
theorem dX9_rests_88 : decode cX9_rests 88 = .ok (.getfield 57, 3) := by decide +kernel
theorem dX9_rests_91 : decode cX9_rests 91 = .ok (.getfield 371, 3) := by decide +kernel
theorem dX9_rests_94 : decode cX9_rests 94 = .ok (.if_icmp .ge 15, 3) := by decide +kernel
theorem dX9_rests_97 : decode cX9_rests 97 = .ok (.aload_n 0, 1) := by decide +kernel
theorem dX9_rests_98 : decode cX9_rests 98 = .ok (.getfield 57, 3) := by decide +kernel
theorem dX9_rests_101 : decode cX9_rests 101 = .ok (.getfield 372, 3) := by decide +kernel
theorem dX9_rests_104 : decode cX9_rests 104 = .ok (.iload_n 3, 1) := by decide +kernel
theorem dX9_rests_105 : decode cX9_rests 105 = .ok (.iaload, 1) := by decide +kernel
theorem dX9_rests_106 : decode cX9_rests 106 = .ok (.goto 5, 3) := by decide +kernel
theorem dX9_rests_109 : decode cX9_rests 109 = .ok (.bipush (-2), 2) := by decide +kernel
theorem dX9_rests_111 : decode cX9_rests 111 = .ok (.ireturn, 1) := by decide +kernel
theorem zm_X9_rests : ZMv "ClassOfMany" yX9_rests cX9_rests 4 (some .int) 3 := ⟨kw_5_106, kw_5_104, kw_5_105, kw_1_1, by decide +kernel, by decide⟩
def zf_X9_rests_j23 (M : ZMem) : Option (Int32 × ZMem) :=
  some ((-1 : Int32), M)
def zf_X9_rests_j111 (M29 : ZMem) (v30 : Int32) : Option (Int32 × ZMem) :=
  some (v30, M29)
def zf_X9_rests_j73 (a3 : Int32) (M29 : ZMem) : Option (Int32 × ZMem) :=
  (if a3 = (-1 : Int32) then some ((M29 71 3), M29) else (if (M29 71 3) ≤ a3 then (zf_X9_rests_j111 M29 (-2 : Int32)) else zrd M29 72 1024 a3 (fun v31 => (zf_X9_rests_j111 M29 v31))))
def zf_X9_rests (n : Nat) (a1 : Int32) (a2 : Int32) (a3 : Int32) (M : ZMem) : Option (Int32 × ZMem) :=
  zb1 (zf_X9_isHundredths a1) (fun v27 => (if v27 = 0 then (zf_X9_rests_j23 M) else (if a2 < 0 then (zf_X9_rests_j23 M) else (if (999 : Int32) < a2 then (zf_X9_rests_j23 M) else (if (-1 : Int32) ≤ a3 then zb1 (zf_X5_isKnown a1 a2 M) (fun v28 => (if v28 = 0 then zb1 (zf_X7_copyFrom 14 12 M) (fun M32 => zdy M32 0 0 (7, 17) (fun o33 => zb1 (zf_X5_find n o33 14 a1 a2 M32) (fun M34 => (zf_X9_rests_j73 a3 M34)))) else (zf_X9_rests_j73 a3 M))) else (zf_X9_rests_j23 M))))))
set_option maxHeartbeats 4000000 in
set_option maxRecDepth 100000 in
theorem zc_X9_rests {l : Launch} {D : va_G} {ad : Nat → Nat} {cA : Nat → ClassId} {n : Nat} {a1 : Int32} {a2 : Int32} {a3 : Int32} {M : ZMem} {r : Int32} {M' : ZMem} (hf : zf_X9_rests n a1 a2 a3 M = some (r, M')) : ZCt l D ad cA yX9_rests cX9_rests 4 (some .int) 19 [.ref (ad 0), .int a1, .int a2, .int a3] M (some (.int r)) M' := by
  refine zct (by decide +kernel) (Nat.le_of_ble_eq_true rfl) (lv := [(0, .ref (ad 0)), (1, .int a1), (2, .int a2), (3, .int a3)]) rfl (fun E hl hD had hcA hN hC hR => ?_)
  subst hl; subst hD; subst had; subst hcA
  unfold zf_X9_rests at hf
  refine zw_iload_n hC dX9_rests_0 rfl 1 rfl ?_
  obtain ⟨v27, hc27, hf⟩ := zb1_some hf
  refine zw_cS hC [.int a1] [] (st1 := [.int v27]) zm_X9_isHundredths (zc_X9_isHundredths hc27) kw_5_31 dX9_rests_1 rfl (by decide) (Nat.le_of_ble_eq_true rfl) rfl rfl ?_
  have hj23 : zf_X9_rests_j23 M = some (r, M') → ZW E 23 [] [] M := by
    intro  hf
    unfold zf_X9_rests_j23 at hf
    refine zw_iconst hC (v := (-1 : Int32)) dX9_rests_23 (by decide) ?_
    obtain ⟨h1, h2⟩ := Prod.mk.inj (Option.some.inj hf)
    subst h1; subst h2
    exact zw_iret hC hR dX9_rests_24
  refine zw_if_eq hC 23 hf dX9_rests_4 (by decide) (fun hf => ?_) (fun hf => ?_)
  · exact zw_sub [] rfl (hj23 hf)
  · refine zw_iload_n hC dX9_rests_7 rfl 2 rfl ?_
    refine zw_if_lt hC 23 hf dX9_rests_8 (by decide) (fun hf => ?_) (fun hf => ?_)
    · exact zw_sub [] rfl (hj23 hf)
    · refine zw_iload_n hC dX9_rests_11 rfl 2 rfl ?_
      refine zw_sipush hC (v := (999 : Int32)) dX9_rests_12 (by decide) ?_
      refine zw_icmp_gt hC 23 hf dX9_rests_15 (by decide) (fun hf => ?_) (fun hf => ?_)
      · exact zw_sub [] rfl (hj23 hf)
      · refine zw_iload_n hC dX9_rests_18 rfl 3 rfl ?_
        refine zw_iconst hC (v := (-1 : Int32)) dX9_rests_19 (by decide) ?_
        refine zw_icmp_ge hC 25 hf dX9_rests_20 (by decide) (fun hf => ?_) (fun hf => ?_)
        · refine zw_aload_n hC dX9_rests_25 rfl 0 rfl ?_
          refine zw_getr (k' := 71) hC zF_ClassOfMany_resting zk_0 rfl dX9_rests_26 kw_2_175 ?_
          refine zw_iload_n hC dX9_rests_29 rfl 1 rfl ?_
          refine zw_iload_n hC dX9_rests_30 rfl 2 rfl ?_
          obtain ⟨v28, hc28, hf⟩ := zb1_some hf
          refine zw_cV hC [.int a1, .int a2] [] (st1 := [.int v28]) zm_X5_isKnown (zc_X5_isKnown hc28) zk_71 rfl kw_5_107 dX9_rests_31 rfl (by decide) (Nat.le_of_ble_eq_true rfl) rfl rfl ?_
          have hj73 : ∀ (M29 : ZMem), zf_X9_rests_j73 a3 M29 = some (r, M') → ZW E 73 [(0, .ref (zad E 0)), (3, .int a3)] [] M29 := by
            intro M29 hf
            unfold zf_X9_rests_j73 at hf
            refine zw_iload_n hC dX9_rests_73 rfl 1 rfl ?_
            refine zw_iconst hC (v := (-1 : Int32)) dX9_rests_74 (by decide) ?_
            refine zw_icmp_ne hC 86 hf dX9_rests_75 (by decide) (fun hf => ?_) (fun hf => ?_)
            · refine zw_iload_n hC dX9_rests_86 rfl 1 rfl ?_
              refine zw_aload_n hC dX9_rests_87 rfl 0 rfl ?_
              refine zw_getr (k' := 71) hC zF_ClassOfMany_resting zk_0 rfl dX9_rests_88 kw_2_175 ?_
              refine zw_geti hC zF_Resting_size zk_71 dX9_rests_91 kw_2_134 ?_
              have hj111 : ∀ (v30 : Int32), zf_X9_rests_j111 M29 v30 = some (r, M') → ZW E 111 [] [.int v30] M29 := by
                intro v30 hf
                unfold zf_X9_rests_j111 at hf
                obtain ⟨h1, h2⟩ := Prod.mk.inj (Option.some.inj hf)
                subst h1; subst h2
                exact zw_iret hC hR dX9_rests_111
              refine zw_icmp_ge hC 109 hf dX9_rests_94 (by decide) (fun hf => ?_) (fun hf => ?_)
              · refine zw_bipush hC (v := (-2 : Int32)) dX9_rests_109 (by decide) ?_
                exact zw_sub [] rfl (hj111 (-2 : Int32) hf)
              · refine zw_aload_n hC dX9_rests_97 rfl 0 rfl ?_
                refine zw_getr (k' := 71) hC zF_ClassOfMany_resting zk_0 rfl dX9_rests_98 kw_2_175 ?_
                refine zw_getr (k' := 72) hC zF_Resting_sets zk_71 rfl dX9_rests_101 kw_2_136 ?_
                refine zw_iload_n hC dX9_rests_104 rfl 1 rfl ?_
                refine zw_iald hC hf zk_72 dX9_rests_105 (fun v31 hf => ?_)
                refine zw_goto hC 111 dX9_rests_106 (by decide) ?_
                exact zw_sub [] rfl (hj111 v31 hf)
            · refine zw_aload_n hC dX9_rests_78 rfl 0 rfl ?_
              refine zw_getr (k' := 71) hC zF_ClassOfMany_resting zk_0 rfl dX9_rests_79 kw_2_175 ?_
              refine zw_geti hC zF_Resting_size zk_71 dX9_rests_82 kw_2_134 ?_
              obtain ⟨h1, h2⟩ := Prod.mk.inj (Option.some.inj hf)
              subst h1; subst h2
              exact zw_iret hC hR dX9_rests_85
          refine zw_if_ne hC 73 hf dX9_rests_34 (by decide) (fun hf => ?_) (fun hf => ?_)
          · exact zw_sub [0, 3] rfl (hj73 M hf)
          · refine zw_aload_n hC dX9_rests_37 rfl 0 rfl ?_
            refine zw_getr (k' := 14) hC zF_ClassOfMany_were zk_0 rfl dX9_rests_38 kw_2_170 ?_
            refine zw_aload_n hC dX9_rests_41 rfl 0 rfl ?_
            refine zw_getr (k' := 12) hC zF_ClassOfMany_now zk_0 rfl dX9_rests_42 kw_2_169 ?_
            obtain ⟨M32, hcM32, hf⟩ := zb1_some hf
            refine zw_cV hC [.ref (zad E 12)] [] (st1 := []) zm_X7_copyFrom (zc_X7_copyFrom zk_14 zk_12 hcM32) zk_14 rfl kw_3_134 dX9_rests_45 rfl (by decide) (Nat.le_of_ble_eq_true rfl) rfl rfl ?_
            refine zw_aload_n hC dX9_rests_48 rfl 0 rfl ?_
            refine zw_getr (k' := 71) hC zF_ClassOfMany_resting zk_0 rfl dX9_rests_49 kw_2_175 ?_
            refine zw_aload_n hC dX9_rests_52 rfl 0 rfl ?_
            refine zw_getr (k' := 57) hC zF_ClassOfMany_splitter zk_0 rfl dX9_rests_53 kw_2_173 ?_
            refine zw_aload_n hC dX9_rests_56 rfl 0 rfl ?_
            refine zw_getr (k' := 63) hC zF_ClassOfMany_payer zk_0 rfl dX9_rests_57 kw_2_174 ?_
            refine zw_aload_n hC dX9_rests_60 rfl 0 rfl ?_
            refine zw_getd hC hf zF_ClassOfMany_told zk_0 dX9_rests_61 kw_2_168 (fun o33 ho33 hf => ?_)
            refine zw_aload_n hC dX9_rests_64 rfl 0 rfl ?_
            refine zw_getr (k' := 14) hC zF_ClassOfMany_were zk_0 rfl dX9_rests_65 kw_2_170 ?_
            refine zw_iload_n hC dX9_rests_68 rfl 1 rfl ?_
            refine zw_iload_n hC dX9_rests_69 rfl 2 rfl ?_
            obtain ⟨M34, hcM34, hf⟩ := zb1_some hf
            refine zw_cV hC [.ref (zad E 57), .ref (zad E 63), .ref (zad E o33), .ref (zad E 14), .int a1, .int a2] [] (st1 := []) zm_X5_find (zc_X5_find ho33 zk_14 hcM34) zk_71 rfl kw_5_111 dX9_rests_70 rfl (by decide) (Nat.le_of_ble_eq_true rfl) rfl rfl ?_
            exact zw_sub [0, 3] rfl (hj73 M34 hf)
        · exact zw_sub [] rfl (hj23 hf)
/-! ClassOfMany.spellMember(I)V -/
theorem dX9_spellMember_0 : decode cX9_spellMember 0 = .ok (.aload_n 0, 1) := by decide +kernel
theorem dX9_spellMember_1 : decode cX9_spellMember 1 = .ok (.getfield 64, 3) := by decide +kernel
theorem dX9_spellMember_4 : decode cX9_spellMember 4 = .ok (.bipush 6, 2) := by decide +kernel
theorem dX9_spellMember_6 : decode cX9_spellMember 6 = .ok (.invokestatic 388, 3) := by decide +kernel
theorem dX9_spellMember_9 : decode cX9_spellMember 9 = .ok (.invokevirtual 415, 3) := by decide +kernel
theorem dX9_spellMember_12 : decode cX9_spellMember 12 = .ok (.aload_n 0, 1) := by decide +kernel
theorem dX9_spellMember_13 : decode cX9_spellMember 13 = .ok (.getfield 64, 3) := by decide +kernel
theorem dX9_spellMember_16 : decode cX9_spellMember 16 = .ok (.aload_n 0, 1) := by decide +kernel
theorem dX9_spellMember_17 : decode cX9_spellMember 17 = .ok (.getfield 12, 3) := by decide +kernel
theorem dX9_spellMember_20 : decode cX9_spellMember 20 = .ok (.getfield 200, 3) := by decide +kernel
theorem dX9_spellMember_23 : decode cX9_spellMember 23 = .ok (.iload_n 1, 1) := by decide +kernel
theorem dX9_spellMember_24 : decode cX9_spellMember 24 = .ok (.iaload, 1) := by decide +kernel
theorem dX9_spellMember_25 : decode cX9_spellMember 25 = .ok (.invokevirtual 419, 3) := by decide +kernel
theorem dX9_spellMember_28 : decode cX9_spellMember 28 = .ok (.aload_n 0, 1) := by decide +kernel
theorem dX9_spellMember_29 : decode cX9_spellMember 29 = .ok (.getfield 64, 3) := by decide +kernel
theorem dX9_spellMember_32 : decode cX9_spellMember 32 = .ok (.aload_n 0, 1) := by decide +kernel
theorem dX9_spellMember_33 : decode cX9_spellMember 33 = .ok (.getfield 12, 3) := by decide +kernel
theorem dX9_spellMember_36 : decode cX9_spellMember 36 = .ok (.getfield 203, 3) := by decide +kernel
theorem dX9_spellMember_39 : decode cX9_spellMember 39 = .ok (.iload_n 1, 1) := by decide +kernel
theorem dX9_spellMember_40 : decode cX9_spellMember 40 = .ok (.iaload, 1) := by decide +kernel
theorem dX9_spellMember_41 : decode cX9_spellMember 41 = .ok (.invokevirtual 419, 3) := by decide +kernel
theorem dX9_spellMember_44 : decode cX9_spellMember 44 = .ok (.aload_n 0, 1) := by decide +kernel
theorem dX9_spellMember_45 : decode cX9_spellMember 45 = .ok (.getfield 64, 3) := by decide +kernel
theorem dX9_spellMember_48 : decode cX9_spellMember 48 = .ok (.aload_n 0, 1) := by decide +kernel
theorem dX9_spellMember_49 : decode cX9_spellMember 49 = .ok (.getfield 12, 3) := by decide +kernel
theorem dX9_spellMember_52 : decode cX9_spellMember 52 = .ok (.getfield 206, 3) := by decide +kernel
theorem dX9_spellMember_55 : decode cX9_spellMember 55 = .ok (.iload_n 1, 1) := by decide +kernel
theorem dX9_spellMember_56 : decode cX9_spellMember 56 = .ok (.iaload, 1) := by decide +kernel
theorem dX9_spellMember_57 : decode cX9_spellMember 57 = .ok (.invokevirtual 419, 3) := by decide +kernel
theorem dX9_spellMember_60 : decode cX9_spellMember 60 = .ok (.aload_n 0, 1) := by decide +kernel
theorem dX9_spellMember_61 : decode cX9_spellMember 61 = .ok (.getfield 12, 3) := by decide +kernel
theorem dX9_spellMember_64 : decode cX9_spellMember 64 = .ok (.getfield 209, 3) := by decide +kernel
theorem dX9_spellMember_67 : decode cX9_spellMember 67 = .ok (.iload_n 1, 1) := by decide +kernel
theorem dX9_spellMember_68 : decode cX9_spellMember 68 = .ok (.iaload, 1) := by decide +kernel
theorem dX9_spellMember_69 : decode cX9_spellMember 69 = .ok (.ifCond .eq 13, 3) := by decide +kernel
theorem dX9_spellMember_72 : decode cX9_spellMember 72 = .ok (.aload_n 0, 1) := by decide +kernel
theorem dX9_spellMember_73 : decode cX9_spellMember 73 = .ok (.getfield 64, 3) := by decide +kernel
theorem dX9_spellMember_76 : decode cX9_spellMember 76 = .ok (.ldc_w 422, 3) := by decide +kernel
theorem dX9_spellMember_79 : decode cX9_spellMember 79 = .ok (.invokevirtual 415, 3) := by decide +kernel
theorem dX9_spellMember_82 : decode cX9_spellMember 82 = .ok (.iconst 0, 1) := by decide +kernel
theorem dX9_spellMember_83 : decode cX9_spellMember 83 = .ok (.istore_n 2, 1) := by decide +kernel
theorem dX9_spellMember_84 : decode cX9_spellMember 84 = .ok (.iload_n 2, 1) := by decide +kernel
theorem dX9_spellMember_85 : decode cX9_spellMember 85 = .ok (.aload_n 0, 1) := by decide +kernel
theorem dX9_spellMember_86 : decode cX9_spellMember 86 = .ok (.getfield 12, 3) := by decide +kernel
theorem dX9_spellMember_89 : decode cX9_spellMember 89 = .ok (.getfield 117, 3) := by decide +kernel
theorem dX9_spellMember_92 : decode cX9_spellMember 92 = .ok (.if_icmp .ge 33, 3) := by decide +kernel
theorem dX9_spellMember_95 : decode cX9_spellMember 95 = .ok (.aload_n 0, 1) := by decide +kernel
theorem dX9_spellMember_96 : decode cX9_spellMember 96 = .ok (.getfield 12, 3) := by decide +kernel
theorem dX9_spellMember_99 : decode cX9_spellMember 99 = .ok (.getfield 209, 3) := by decide +kernel
theorem dX9_spellMember_102 : decode cX9_spellMember 102 = .ok (.iload_n 1, 1) := by decide +kernel
theorem dX9_spellMember_103 : decode cX9_spellMember 103 = .ok (.iaload, 1) := by decide +kernel
theorem dX9_spellMember_104 : decode cX9_spellMember 104 = .ok (.iload_n 2, 1) := by decide +kernel
theorem dX9_spellMember_105 : decode cX9_spellMember 105 = .ok (.invokestatic 137, 3) := by decide +kernel
theorem dX9_spellMember_108 : decode cX9_spellMember 108 = .ok (.ifCond .eq 11, 3) := by decide +kernel
theorem dX9_spellMember_111 : decode cX9_spellMember 111 = .ok (.aload_n 0, 1) := by decide +kernel
theorem dX9_spellMember_112 : decode cX9_spellMember 112 = .ok (.getfield 64, 3) := by decide +kernel
theorem dX9_spellMember_115 : decode cX9_spellMember 115 = .ok (.iload_n 2, 1) := by decide +kernel
theorem dX9_spellMember_116 : decode cX9_spellMember 116 = .ok (.invokevirtual 419, 3) := by decide +kernel
theorem dX9_spellMember_119 : decode cX9_spellMember 119 = .ok (.iinc 2 1, 3) := by decide +kernel
theorem dX9_spellMember_122 : decode cX9_spellMember 122 = .ok (.goto (-38), 3) := by decide +kernel
theorem dX9_spellMember_125 : decode cX9_spellMember 125 = .ok (.aload_n 0, 1) := by decide +kernel
theorem dX9_spellMember_126 : decode cX9_spellMember 126 = .ok (.getfield 64, 3) := by decide +kernel
theorem dX9_spellMember_129 : decode cX9_spellMember 129 = .ok (.ldc_w 424, 3) := by decide +kernel
theorem dX9_spellMember_132 : decode cX9_spellMember 132 = .ok (.invokevirtual 415, 3) := by decide +kernel
theorem dX9_spellMember_135 : decode cX9_spellMember 135 = .ok (.return_, 1) := by decide +kernel
theorem zm_X9_spellMember : ZMv "ClassOfMany" yX9_spellMember cX9_spellMember 3 (none) 1 := ⟨kw_5_190, kw_5_189, kp_54, kw_1_1, by decide +kernel, by decide⟩
def zf_X9_spellMember_j119 (R84 : Int32 → ZMem → Option (ZMem)) (v55 : Int32) (M62 : ZMem) : Option (ZMem) :=
  (R84 (v55 + (1 : Int32)) M62)
def zf_X9_spellMember_L84 (a1 : Int32) (n : Nat) (K125 : ZMem → Option (ZMem)) : Nat → Int32 → ZMem → Option (ZMem)
  | 0, _, _ => none
  | n84 + 1, v55, M56 =>
  zdy M56 0 0 (7, 17) (fun o58 => (if (M56 o58 1) ≤ v55 then (K125 M56) else zdy M56 0 0 (7, 17) (fun o59 => zrd M56 (o59 + 4) 10 a1 (fun v60 => zb1 (zf_X9_has v60 v55) (fun v61 => (if v61 = 0 then (zf_X9_spellMember_j119 (fun x0 x1 => zf_X9_spellMember_L84 a1 n K125 n84 x0 x1) v55 M56) else zb1 (zf_X2_putNumber n v55 M56) (fun M63 => (zf_X9_spellMember_j119 (fun x0 x1 => zf_X9_spellMember_L84 a1 n K125 n84 x0 x1) v55 M63))))))))
def zf_X9_spellMember_j82 (a1 : Int32) (n : Nat) (M54 : ZMem) : Option (ZMem) :=
  (zf_X9_spellMember_L84 a1 n (fun M64 => zb1 (zf_X2_putText n 9 M64) (fun M65 => some M65)) n (0 : Int32) M54)
def zf_X9_spellMember (n : Nat) (a1 : Int32) (M : ZMem) : Option (ZMem) :=
  zb1 (zf_X9_wordOf (6 : Int32)) (fun s41 => zb1 (zf_X2_putText n s41 M) (fun M42 => zdy M42 0 0 (7, 17) (fun o43 => zrd M42 (o43 + 1) 10 a1 (fun v44 => zb1 (zf_X2_putNumber n v44 M42) (fun M45 => zdy M45 0 0 (7, 17) (fun o46 => zrd M45 (o46 + 2) 10 a1 (fun v47 => zb1 (zf_X2_putNumber n v47 M45) (fun M48 => zdy M48 0 0 (7, 17) (fun o49 => zrd M48 (o49 + 3) 10 a1 (fun v50 => zb1 (zf_X2_putNumber n v50 M48) (fun M51 => zdy M51 0 0 (7, 17) (fun o52 => zrd M51 (o52 + 4) 10 a1 (fun v53 => (if v53 = 0 then (zf_X9_spellMember_j82 a1 n M51) else zb1 (zf_X2_putText n 10 M51) (fun M66 => (zf_X9_spellMember_j82 a1 n M66))))))))))))))))
set_option maxHeartbeats 4000000 in
set_option maxRecDepth 100000 in
theorem zc_X9_spellMember {l : Launch} {D : va_G} {ad : Nat → Nat} {cA : Nat → ClassId} {n : Nat} {a1 : Int32} {M : ZMem} {M' : ZMem} (hf : zf_X9_spellMember n a1 M = some M') : ZCt l D ad cA yX9_spellMember cX9_spellMember 3 (none) 10 [.ref (ad 0), .int a1] M none M' := by
  refine zct (by decide +kernel) (Nat.le_of_ble_eq_true rfl) (lv := [(0, .ref (ad 0)), (1, .int a1)]) rfl (fun E hl hD had hcA hN hC hR => ?_)
  subst hl; subst hD; subst had; subst hcA
  unfold zf_X9_spellMember at hf
  refine zw_aload_n hC dX9_spellMember_0 rfl 0 rfl ?_
  refine zw_getr (k' := 75) hC zF_ClassOfMany_page zk_0 rfl dX9_spellMember_1 kw_2_176 ?_
  refine zw_bipush hC (v := (6 : Int32)) dX9_spellMember_4 (by decide) ?_
  obtain ⟨s41, hc41, hf⟩ := zb1_some hf
  have hs41 := zs_X9_wordOf hc41
  refine zw_cS hC [.int (6 : Int32)] [.ref (zad E 75)] (st1 := [.ref (zad E (1000 + s41)), .ref (zad E 75)]) zm_X9_wordOf (zc_X9_wordOf hc41) kw_5_163 dX9_spellMember_6 rfl (by decide) (Nat.le_of_ble_eq_true rfl) rfl rfl ?_
  obtain ⟨M42, hcM42, hf⟩ := zb1_some hf
  refine zw_cV hC [.ref (zad E (1000 + s41))] [] (st1 := []) zm_X2_putText (zc_X2_putText hs41 hcM42) zk_75 rfl kw_5_191 dX9_spellMember_9 rfl (by decide) (Nat.le_of_ble_eq_true rfl) rfl rfl ?_
  refine zw_aload_n hC dX9_spellMember_12 rfl 0 rfl ?_
  refine zw_getr (k' := 75) hC zF_ClassOfMany_page zk_0 rfl dX9_spellMember_13 kw_2_176 ?_
  refine zw_aload_n hC dX9_spellMember_16 rfl 0 rfl ?_
  refine zw_getd hC hf zF_ClassOfMany_told zk_0 dX9_spellMember_17 kw_2_168 (fun o43 ho43 hf => ?_)
  refine zw_getr (k' := (o43 + 1)) hC zF_Told_from ho43 rfl dX9_spellMember_20 kw_1_48 ?_
  refine zw_iload_n hC dX9_spellMember_23 rfl 1 rfl ?_
  refine zw_iald hC hf (zko_7_1 ho43) dX9_spellMember_24 (fun v44 hf => ?_)
  obtain ⟨M45, hcM45, hf⟩ := zb1_some hf
  refine zw_cV hC [.int v44] [] (st1 := []) zm_X2_putNumber (zc_X2_putNumber hcM45) zk_75 rfl kw_5_192 dX9_spellMember_25 rfl (by decide) (Nat.le_of_ble_eq_true rfl) rfl rfl ?_
  refine zw_aload_n hC dX9_spellMember_28 rfl 0 rfl ?_
  refine zw_getr (k' := 75) hC zF_ClassOfMany_page zk_0 rfl dX9_spellMember_29 kw_2_176 ?_
  refine zw_aload_n hC dX9_spellMember_32 rfl 0 rfl ?_
  refine zw_getd hC hf zF_ClassOfMany_told zk_0 dX9_spellMember_33 kw_2_168 (fun o46 ho46 hf => ?_)
  refine zw_getr (k' := (o46 + 2)) hC zF_Told_to ho46 rfl dX9_spellMember_36 kw_1_52 ?_
  refine zw_iload_n hC dX9_spellMember_39 rfl 1 rfl ?_
  refine zw_iald hC hf (zko_7_2 ho46) dX9_spellMember_40 (fun v47 hf => ?_)
  obtain ⟨M48, hcM48, hf⟩ := zb1_some hf
  refine zw_cV hC [.int v47] [] (st1 := []) zm_X2_putNumber (zc_X2_putNumber hcM48) zk_75 rfl kw_5_192 dX9_spellMember_41 rfl (by decide) (Nat.le_of_ble_eq_true rfl) rfl rfl ?_
  refine zw_aload_n hC dX9_spellMember_44 rfl 0 rfl ?_
  refine zw_getr (k' := 75) hC zF_ClassOfMany_page zk_0 rfl dX9_spellMember_45 kw_2_176 ?_
  refine zw_aload_n hC dX9_spellMember_48 rfl 0 rfl ?_
  refine zw_getd hC hf zF_ClassOfMany_told zk_0 dX9_spellMember_49 kw_2_168 (fun o49 ho49 hf => ?_)
  refine zw_getr (k' := (o49 + 3)) hC zF_Told_rate ho49 rfl dX9_spellMember_52 kw_1_56 ?_
  refine zw_iload_n hC dX9_spellMember_55 rfl 1 rfl ?_
  refine zw_iald hC hf (zko_7_3 ho49) dX9_spellMember_56 (fun v50 hf => ?_)
  obtain ⟨M51, hcM51, hf⟩ := zb1_some hf
  refine zw_cV hC [.int v50] [] (st1 := []) zm_X2_putNumber (zc_X2_putNumber hcM51) zk_75 rfl kw_5_192 dX9_spellMember_57 rfl (by decide) (Nat.le_of_ble_eq_true rfl) rfl rfl ?_
  refine zw_aload_n hC dX9_spellMember_60 rfl 0 rfl ?_
  refine zw_getd hC hf zF_ClassOfMany_told zk_0 dX9_spellMember_61 kw_2_168 (fun o52 ho52 hf => ?_)
  refine zw_getr (k' := (o52 + 4)) hC zF_Told_reach ho52 rfl dX9_spellMember_64 kw_1_60 ?_
  refine zw_iload_n hC dX9_spellMember_67 rfl 1 rfl ?_
  refine zw_iald hC hf (zko_7_4 ho52) dX9_spellMember_68 (fun v53 hf => ?_)
  have hj82 : ∀ (M54 : ZMem), zf_X9_spellMember_j82 a1 n M54 = some M' → ZW E 82 [(0, .ref (zad E 0)), (1, .int a1)] [] M54 := by
    intro M54 hf
    unfold zf_X9_spellMember_j82 at hf
    refine zw_iconst hC (v := (0 : Int32)) dX9_spellMember_82 (by decide) ?_
    refine zw_istore_n hC (lv' := [(2, .int (0 : Int32)), (0, .ref (zad E 0)), (1, .int a1)]) dX9_spellMember_83 rfl hN (by decide) rfl ?_
    have hL84 : ∀ (K125 : ZMem → Option (ZMem)), (∀ (M57 : ZMem), K125 M57 = some M' → ZW E 125 [(0, .ref (zad E 0))] [] M57) → ∀ (n84 : Nat), ∀ (v55 : Int32), ∀ (M56 : ZMem), zf_X9_spellMember_L84 a1 n K125 n84 v55 M56 = some M' → ZW E 84 [(0, .ref (zad E 0)), (1, .int a1), (2, .int v55)] [] M56 := by
      intro K125 hK125
      intro n84
      induction n84 with
      | zero => intro v55 M56 hf; rw [zf_X9_spellMember_L84] at hf; cases hf
      | succ n84 ih84 =>
        intro v55 M56 hf
        rw [zf_X9_spellMember_L84] at hf
        refine zw_iload_n hC dX9_spellMember_84 rfl 2 rfl ?_
        refine zw_aload_n hC dX9_spellMember_85 rfl 0 rfl ?_
        refine zw_getd hC hf zF_ClassOfMany_told zk_0 dX9_spellMember_86 kw_2_168 (fun o58 ho58 hf => ?_)
        refine zw_geti hC zF_Told_channels ho58 dX9_spellMember_89 kw_1_44 ?_
        refine zw_icmp_ge hC 125 hf dX9_spellMember_92 (by decide) (fun hf => ?_) (fun hf => ?_)
        · exact zw_sub [0] rfl (hK125 M56 hf)
        · refine zw_aload_n hC dX9_spellMember_95 rfl 0 rfl ?_
          refine zw_getd hC hf zF_ClassOfMany_told zk_0 dX9_spellMember_96 kw_2_168 (fun o59 ho59 hf => ?_)
          refine zw_getr (k' := (o59 + 4)) hC zF_Told_reach ho59 rfl dX9_spellMember_99 kw_1_60 ?_
          refine zw_iload_n hC dX9_spellMember_102 rfl 1 rfl ?_
          refine zw_iald hC hf (zko_7_4 ho59) dX9_spellMember_103 (fun v60 hf => ?_)
          refine zw_iload_n hC dX9_spellMember_104 rfl 2 rfl ?_
          obtain ⟨v61, hc61, hf⟩ := zb1_some hf
          refine zw_cS hC [.int v60, .int v55] [] (st1 := [.int v61]) zm_X9_has (zc_X9_has hc61) kw_3_201 dX9_spellMember_105 rfl (by decide) (Nat.le_of_ble_eq_true rfl) rfl rfl ?_
          have hj119 : ∀ (M62 : ZMem), zf_X9_spellMember_j119 (fun x0 x1 => zf_X9_spellMember_L84 a1 n K125 n84 x0 x1) v55 M62 = some M' → ZW E 119 [(0, .ref (zad E 0)), (1, .int a1), (2, .int v55)] [] M62 := by
            intro M62 hf
            unfold zf_X9_spellMember_j119 at hf
            refine zw_iinc hC (v := (1 : Int32)) (lv' := [(2, .int (v55 + (1 : Int32))), (0, .ref (zad E 0)), (1, .int a1)]) dX9_spellMember_119 2 rfl (by decide) hN (by decide) rfl ?_
            refine zw_goto hC 84 dX9_spellMember_122 (by decide) ?_
            exact zw_sub [1, 2, 0] rfl (ih84 (v55 + (1 : Int32)) M62 hf)
          refine zw_if_eq hC 119 hf dX9_spellMember_108 (by decide) (fun hf => ?_) (fun hf => ?_)
          · exact hj119 M56 hf
          · refine zw_aload_n hC dX9_spellMember_111 rfl 0 rfl ?_
            refine zw_getr (k' := 75) hC zF_ClassOfMany_page zk_0 rfl dX9_spellMember_112 kw_2_176 ?_
            refine zw_iload_n hC dX9_spellMember_115 rfl 2 rfl ?_
            obtain ⟨M63, hcM63, hf⟩ := zb1_some hf
            refine zw_cV hC [.int v55] [] (st1 := []) zm_X2_putNumber (zc_X2_putNumber hcM63) zk_75 rfl kw_5_192 dX9_spellMember_116 rfl (by decide) (Nat.le_of_ble_eq_true rfl) rfl rfl ?_
            exact hj119 M63 hf
    refine zw_sub [1, 2, 0] rfl (hL84 _ ?_ n (0 : Int32) M54 hf)
    · intro M64 hf
      refine zw_aload_n hC dX9_spellMember_125 rfl 0 rfl ?_
      refine zw_getr (k' := 75) hC zF_ClassOfMany_page zk_0 rfl dX9_spellMember_126 kw_2_176 ?_
      refine zw_ldsw hC (i := 9) dX9_spellMember_129 zl_X9_424 ?_
      obtain ⟨M65, hcM65, hf⟩ := zb1_some hf
      refine zw_cV hC [.ref (zad E (1000 + 9))] [] (st1 := []) zm_X2_putText (zc_X2_putText (by decide) hcM65) zk_75 rfl kw_5_191 dX9_spellMember_132 rfl (by decide) (Nat.le_of_ble_eq_true rfl) rfl rfl ?_
      have h1 := Option.some.inj hf
      subst h1
      exact zw_vret hC hR dX9_spellMember_135
  refine zw_if_eq hC 82 hf dX9_spellMember_69 (by decide) (fun hf => ?_) (fun hf => ?_)
  · exact hj82 M51 hf
  · refine zw_aload_n hC dX9_spellMember_72 rfl 0 rfl ?_
    refine zw_getr (k' := 75) hC zF_ClassOfMany_page zk_0 rfl dX9_spellMember_73 kw_2_176 ?_
    refine zw_ldsw hC (i := 10) dX9_spellMember_76 zl_X9_422 ?_
    obtain ⟨M66, hcM66, hf⟩ := zb1_some hf
    refine zw_cV hC [.ref (zad E (1000 + 10))] [] (st1 := []) zm_X2_putText (zc_X2_putText (by decide) hcM66) zk_75 rfl kw_5_191 dX9_spellMember_79 rfl (by decide) (Nat.le_of_ble_eq_true rfl) rfl rfl ?_
    exact hj82 M66 hf
/-! ClassOfMany.spellConflicts()V -/
theorem dX9_spellConflicts_0 : decode cX9_spellConflicts 0 = .ok (.iconst 0, 1) := by decide +kernel
theorem dX9_spellConflicts_1 : decode cX9_spellConflicts 1 = .ok (.istore_n 1, 1) := by decide +kernel
theorem dX9_spellConflicts_2 : decode cX9_spellConflicts 2 = .ok (.iload_n 1, 1) := by decide +kernel
theorem dX9_spellConflicts_3 : decode cX9_spellConflicts 3 = .ok (.aload_n 0, 1) := by decide +kernel
theorem dX9_spellConflicts_4 : decode cX9_spellConflicts 4 = .ok (.getfield 12, 3) := by decide +kernel
theorem dX9_spellConflicts_7 : decode cX9_spellConflicts 7 = .ok (.getfield 92, 3) := by decide +kernel
theorem dX9_spellConflicts_10 : decode cX9_spellConflicts 10 = .ok (.if_icmp .ge 60, 3) := by decide +kernel
theorem dX9_spellConflicts_13 : decode cX9_spellConflicts 13 = .ok (.iload_n 1, 1) := by decide +kernel
theorem dX9_spellConflicts_14 : decode cX9_spellConflicts 14 = .ok (.iconst 1, 1) := by decide +kernel
theorem dX9_spellConflicts_15 : decode cX9_spellConflicts 15 = .ok (.iadd, 1) := by decide +kernel
theorem dX9_spellConflicts_16 : decode cX9_spellConflicts 16 = .ok (.istore_n 2, 1) := by decide +kernel
theorem dX9_spellConflicts_17 : decode cX9_spellConflicts 17 = .ok (.iload_n 2, 1) := by decide +kernel
theorem dX9_spellConflicts_18 : decode cX9_spellConflicts 18 = .ok (.aload_n 0, 1) := by decide +kernel
theorem dX9_spellConflicts_19 : decode cX9_spellConflicts 19 = .ok (.getfield 12, 3) := by decide +kernel
theorem dX9_spellConflicts_22 : decode cX9_spellConflicts 22 = .ok (.getfield 92, 3) := by decide +kernel
theorem dX9_spellConflicts_25 : decode cX9_spellConflicts 25 = .ok (.if_icmp .ge 39, 3) := by decide +kernel
theorem dX9_spellConflicts_28 : decode cX9_spellConflicts 28 = .ok (.aload_n 0, 1) := by decide +kernel
theorem dX9_spellConflicts_29 : decode cX9_spellConflicts 29 = .ok (.getfield 19, 3) := by decide +kernel
theorem dX9_spellConflicts_32 : decode cX9_spellConflicts 32 = .ok (.getfield 190, 3) := by decide +kernel
theorem dX9_spellConflicts_35 : decode cX9_spellConflicts 35 = .ok (.iload_n 1, 1) := by decide +kernel
theorem dX9_spellConflicts_36 : decode cX9_spellConflicts 36 = .ok (.iaload, 1) := by decide +kernel
theorem dX9_spellConflicts_37 : decode cX9_spellConflicts 37 = .ok (.iload_n 2, 1) := by decide +kernel
theorem dX9_spellConflicts_38 : decode cX9_spellConflicts 38 = .ok (.invokestatic 137, 3) := by decide +kernel
theorem dX9_spellConflicts_41 : decode cX9_spellConflicts 41 = .ok (.ifCond .eq 17, 3) := by decide +kernel
theorem dX9_spellConflicts_44 : decode cX9_spellConflicts 44 = .ok (.aload_n 0, 1) := by decide +kernel
theorem dX9_spellConflicts_45 : decode cX9_spellConflicts 45 = .ok (.getfield 64, 3) := by decide +kernel
theorem dX9_spellConflicts_48 : decode cX9_spellConflicts 48 = .ok (.bipush 7, 2) := by decide +kernel
theorem dX9_spellConflicts_50 : decode cX9_spellConflicts 50 = .ok (.invokestatic 388, 3) := by decide +kernel
theorem dX9_spellConflicts_53 : decode cX9_spellConflicts 53 = .ok (.iload_n 1, 1) := by decide +kernel
theorem dX9_spellConflicts_54 : decode cX9_spellConflicts 54 = .ok (.iload_n 2, 1) := by decide +kernel
theorem dX9_spellConflicts_55 : decode cX9_spellConflicts 55 = .ok (.invokevirtual 402, 3) := by decide +kernel
theorem dX9_spellConflicts_58 : decode cX9_spellConflicts 58 = .ok (.iinc 2 1, 3) := by decide +kernel
theorem dX9_spellConflicts_61 : decode cX9_spellConflicts 61 = .ok (.goto (-44), 3) := by decide +kernel
theorem dX9_spellConflicts_64 : decode cX9_spellConflicts 64 = .ok (.iinc 1 1, 3) := by decide +kernel
theorem dX9_spellConflicts_67 : decode cX9_spellConflicts 67 = .ok (.goto (-65), 3) := by decide +kernel
theorem dX9_spellConflicts_70 : decode cX9_spellConflicts 70 = .ok (.return_, 1) := by decide +kernel
theorem zm_X9_spellConflicts : ZMv "ClassOfMany" yX9_spellConflicts cX9_spellConflicts 3 (none) 0 := ⟨kw_5_198, kw_5_197, kp_55, kw_1_1, by decide +kernel, by decide⟩
def zf_X9_spellConflicts_j58 (R17 : Int32 → ZMem → Option (ZMem)) (v31 : Int32) (M37 : ZMem) : Option (ZMem) :=
  (R17 (v31 + (1 : Int32)) M37)
def zf_X9_spellConflicts_L17 (v27 : Int32) (n : Nat) (K64 : ZMem → Option (ZMem)) : Nat → Int32 → ZMem → Option (ZMem)
  | 0, _, _ => none
  | n17 + 1, v31, M32 =>
  zdy M32 0 0 (7, 17) (fun o34 => (if (M32 o34 0) ≤ v31 then (K64 M32) else zrd M32 13 10 v27 (fun v35 => zb1 (zf_X9_has v35 v31) (fun v36 => (if v36 = 0 then (zf_X9_spellConflicts_j58 (fun x0 x1 => zf_X9_spellConflicts_L17 v27 n K64 n17 x0 x1) v31 M32) else zb1 (zf_X9_wordOf (7 : Int32)) (fun s38 => zb1 (zf_X2_putTwo n s38 v27 v31 M32) (fun M39 => (zf_X9_spellConflicts_j58 (fun x0 x1 => zf_X9_spellConflicts_L17 v27 n K64 n17 x0 x1) v31 M39))))))))
def zf_X9_spellConflicts_L2 (n : Nat) (K70 : ZMem → Option (ZMem)) : Nat → Int32 → ZMem → Option (ZMem)
  | 0, _, _ => none
  | n2 + 1, v27, M28 =>
  zdy M28 0 0 (7, 17) (fun o30 => (if (M28 o30 0) ≤ v27 then (K70 M28) else (zf_X9_spellConflicts_L17 v27 n (fun M40 => (zf_X9_spellConflicts_L2 n K70 n2 (v27 + (1 : Int32)) M40)) n (v27 + (1 : Int32)) M28)))
def zf_X9_spellConflicts (n : Nat) (M : ZMem) : Option (ZMem) :=
  (zf_X9_spellConflicts_L2 n (fun M41 => some M41) n (0 : Int32) M)
set_option maxHeartbeats 4000000 in
set_option maxRecDepth 100000 in
theorem zc_X9_spellConflicts {l : Launch} {D : va_G} {ad : Nat → Nat} {cA : Nat → ClassId} {n : Nat} {M : ZMem} {M' : ZMem} (hf : zf_X9_spellConflicts n M = some M') : ZCt l D ad cA yX9_spellConflicts cX9_spellConflicts 3 (none) 11 [.ref (ad 0)] M none M' := by
  refine zct (by decide +kernel) (Nat.le_of_ble_eq_true rfl) (lv := [(0, .ref (ad 0))]) rfl (fun E hl hD had hcA hN hC hR => ?_)
  subst hl; subst hD; subst had; subst hcA
  unfold zf_X9_spellConflicts at hf
  refine zw_iconst hC (v := (0 : Int32)) dX9_spellConflicts_0 (by decide) ?_
  refine zw_istore_n hC (lv' := [(1, .int (0 : Int32)), (0, .ref (zad E 0))]) dX9_spellConflicts_1 rfl hN (by decide) rfl ?_
  have hL2 : ∀ (K70 : ZMem → Option (ZMem)), (∀ (M29 : ZMem), K70 M29 = some M' → ZW E 70 [] [] M29) → ∀ (n2 : Nat), ∀ (v27 : Int32), ∀ (M28 : ZMem), zf_X9_spellConflicts_L2 n K70 n2 v27 M28 = some M' → ZW E 2 [(0, .ref (zad E 0)), (1, .int v27)] [] M28 := by
    intro K70 hK70
    intro n2
    induction n2 with
    | zero => intro v27 M28 hf; rw [zf_X9_spellConflicts_L2] at hf; cases hf
    | succ n2 ih2 =>
      intro v27 M28 hf
      rw [zf_X9_spellConflicts_L2] at hf
      refine zw_iload_n hC dX9_spellConflicts_2 rfl 1 rfl ?_
      refine zw_aload_n hC dX9_spellConflicts_3 rfl 0 rfl ?_
      refine zw_getd hC hf zF_ClassOfMany_told zk_0 dX9_spellConflicts_4 kw_2_168 (fun o30 ho30 hf => ?_)
      refine zw_geti hC zF_Told_members ho30 dX9_spellConflicts_7 kw_1_38 ?_
      refine zw_icmp_ge hC 70 hf dX9_spellConflicts_10 (by decide) (fun hf => ?_) (fun hf => ?_)
      · exact zw_sub [] rfl (hK70 M28 hf)
      · refine zw_iload_n hC dX9_spellConflicts_13 rfl 1 rfl ?_
        refine zw_iconst hC (v := (1 : Int32)) dX9_spellConflicts_14 (by decide) ?_
        refine zw_iadd hC dX9_spellConflicts_15 ?_
        refine zw_istore_n hC (lv' := [(2, .int (v27 + (1 : Int32))), (0, .ref (zad E 0)), (1, .int v27)]) dX9_spellConflicts_16 rfl hN (by decide) rfl ?_
        have hL17 : ∀ (K64 : ZMem → Option (ZMem)), (∀ (M33 : ZMem), K64 M33 = some M' → ZW E 64 [(0, .ref (zad E 0)), (1, .int v27)] [] M33) → ∀ (n17 : Nat), ∀ (v31 : Int32), ∀ (M32 : ZMem), zf_X9_spellConflicts_L17 v27 n K64 n17 v31 M32 = some M' → ZW E 17 [(0, .ref (zad E 0)), (1, .int v27), (2, .int v31)] [] M32 := by
          intro K64 hK64
          intro n17
          induction n17 with
          | zero => intro v31 M32 hf; rw [zf_X9_spellConflicts_L17] at hf; cases hf
          | succ n17 ih17 =>
            intro v31 M32 hf
            rw [zf_X9_spellConflicts_L17] at hf
            refine zw_iload_n hC dX9_spellConflicts_17 rfl 2 rfl ?_
            refine zw_aload_n hC dX9_spellConflicts_18 rfl 0 rfl ?_
            refine zw_getd hC hf zF_ClassOfMany_told zk_0 dX9_spellConflicts_19 kw_2_168 (fun o34 ho34 hf => ?_)
            refine zw_geti hC zF_Told_members ho34 dX9_spellConflicts_22 kw_1_38 ?_
            refine zw_icmp_ge hC 64 hf dX9_spellConflicts_25 (by decide) (fun hf => ?_) (fun hf => ?_)
            · exact zw_sub [0, 1] rfl (hK64 M32 hf)
            · refine zw_aload_n hC dX9_spellConflicts_28 rfl 0 rfl ?_
              refine zw_getr (k' := 12) hC zF_ClassOfMany_now zk_0 rfl dX9_spellConflicts_29 kw_2_169 ?_
              refine zw_getr (k' := 13) hC zF_Standing_foes zk_12 rfl dX9_spellConflicts_32 kw_1_171 ?_
              refine zw_iload_n hC dX9_spellConflicts_35 rfl 1 rfl ?_
              refine zw_iald hC hf zk_13 dX9_spellConflicts_36 (fun v35 hf => ?_)
              refine zw_iload_n hC dX9_spellConflicts_37 rfl 2 rfl ?_
              obtain ⟨v36, hc36, hf⟩ := zb1_some hf
              refine zw_cS hC [.int v35, .int v31] [] (st1 := [.int v36]) zm_X9_has (zc_X9_has hc36) kw_3_201 dX9_spellConflicts_38 rfl (by decide) (Nat.le_of_ble_eq_true rfl) rfl rfl ?_
              have hj58 : ∀ (M37 : ZMem), zf_X9_spellConflicts_j58 (fun x0 x1 => zf_X9_spellConflicts_L17 v27 n K64 n17 x0 x1) v31 M37 = some M' → ZW E 58 [(0, .ref (zad E 0)), (1, .int v27), (2, .int v31)] [] M37 := by
                intro M37 hf
                unfold zf_X9_spellConflicts_j58 at hf
                refine zw_iinc hC (v := (1 : Int32)) (lv' := [(2, .int (v31 + (1 : Int32))), (0, .ref (zad E 0)), (1, .int v27)]) dX9_spellConflicts_58 2 rfl (by decide) hN (by decide) rfl ?_
                refine zw_goto hC 17 dX9_spellConflicts_61 (by decide) ?_
                exact zw_sub [1, 2, 0] rfl (ih17 (v31 + (1 : Int32)) M37 hf)
              refine zw_if_eq hC 58 hf dX9_spellConflicts_41 (by decide) (fun hf => ?_) (fun hf => ?_)
              · exact hj58 M32 hf
              · refine zw_aload_n hC dX9_spellConflicts_44 rfl 0 rfl ?_
                refine zw_getr (k' := 75) hC zF_ClassOfMany_page zk_0 rfl dX9_spellConflicts_45 kw_2_176 ?_
                refine zw_bipush hC (v := (7 : Int32)) dX9_spellConflicts_48 (by decide) ?_
                obtain ⟨s38, hc38, hf⟩ := zb1_some hf
                have hs38 := zs_X9_wordOf hc38
                refine zw_cS hC [.int (7 : Int32)] [.ref (zad E 75)] (st1 := [.ref (zad E (1000 + s38)), .ref (zad E 75)]) zm_X9_wordOf (zc_X9_wordOf hc38) kw_5_163 dX9_spellConflicts_50 rfl (by decide) (Nat.le_of_ble_eq_true rfl) rfl rfl ?_
                refine zw_iload_n hC dX9_spellConflicts_53 rfl 1 rfl ?_
                refine zw_iload_n hC dX9_spellConflicts_54 rfl 2 rfl ?_
                obtain ⟨M39, hcM39, hf⟩ := zb1_some hf
                refine zw_cV hC [.ref (zad E (1000 + s38)), .int v27, .int v31] [] (st1 := []) zm_X2_putTwo (zc_X2_putTwo hs38 hcM39) zk_75 rfl kw_5_183 dX9_spellConflicts_55 rfl (by decide) (Nat.le_of_ble_eq_true rfl) rfl rfl ?_
                exact hj58 M39 hf
        refine zw_sub [1, 2, 0] rfl (hL17 _ ?_ n (v27 + (1 : Int32)) M28 hf)
        · intro M40 hf
          refine zw_iinc hC (v := (1 : Int32)) (lv' := [(1, .int (v27 + (1 : Int32))), (0, .ref (zad E 0))]) dX9_spellConflicts_64 1 rfl (by decide) hN (by decide) rfl ?_
          refine zw_goto hC 2 dX9_spellConflicts_67 (by decide) ?_
          exact zw_sub [1, 0] rfl (ih2 (v27 + (1 : Int32)) M40 hf)
  refine zw_sub [1, 0] rfl (hL2 _ ?_ n (0 : Int32) M hf)
  · intro M41 hf
    have h1 := Option.some.inj hf
    subst h1
    exact zw_vret hC hR dX9_spellConflicts_70
/-! ClassOfMany.spell(I)I -/
theorem dX9_spell_0 : decode cX9_spell 0 = .ok (.iload_n 1, 1) := by decide +kernel
theorem dX9_spell_1 : decode cX9_spell 1 = .ok (.iconst (-1), 1) := by decide +kernel
theorem dX9_spell_2 : decode cX9_spell 2 = .ok (.if_icmp .ge 5, 3) := by decide +kernel
theorem dX9_spell_5 : decode cX9_spell 5 = .ok (.iconst (-1), 1) := by decide +kernel
theorem dX9_spell_6 : decode cX9_spell 6 = .ok (.ireturn, 1) := by decide +kernel
theorem dX9_spell_7 : decode cX9_spell 7 = .ok (.aload_n 0, 1) := by decide +kernel
theorem dX9_spell_8 : decode cX9_spell 8 = .ok (.getfield 64, 3) := by decide +kernel
theorem dX9_spell_11 : decode cX9_spell 11 = .ok (.invokevirtual 385, 3) := by decide +kernel
theorem dX9_spell_14 : decode cX9_spell 14 = .ok (.aload_n 0, 1) := by decide +kernel
theorem dX9_spell_15 : decode cX9_spell 15 = .ok (.getfield 64, 3) := by decide +kernel
theorem dX9_spell_18 : decode cX9_spell 18 = .ok (.iconst 0, 1) := by decide +kernel
theorem dX9_spell_19 : decode cX9_spell 19 = .ok (.invokestatic 388, 3) := by decide +kernel
theorem dX9_spell_22 : decode cX9_spell 22 = .ok (.aload_n 0, 1) := by decide +kernel
theorem dX9_spell_23 : decode cX9_spell 23 = .ok (.getfield 19, 3) := by decide +kernel
theorem dX9_spell_26 : decode cX9_spell 26 = .ok (.getfield 162, 3) := by decide +kernel
theorem dX9_spell_29 : decode cX9_spell 29 = .ok (.invokevirtual 392, 3) := by decide +kernel
theorem dX9_spell_32 : decode cX9_spell 32 = .ok (.aload_n 0, 1) := by decide +kernel
theorem dX9_spell_33 : decode cX9_spell 33 = .ok (.getfield 64, 3) := by decide +kernel
theorem dX9_spell_36 : decode cX9_spell 36 = .ok (.iconst 1, 1) := by decide +kernel
theorem dX9_spell_37 : decode cX9_spell 37 = .ok (.invokestatic 388, 3) := by decide +kernel
theorem dX9_spell_40 : decode cX9_spell 40 = .ok (.aload_n 0, 1) := by decide +kernel
theorem dX9_spell_41 : decode cX9_spell 41 = .ok (.getfield 12, 3) := by decide +kernel
theorem dX9_spell_44 : decode cX9_spell 44 = .ok (.getfield 396, 3) := by decide +kernel
theorem dX9_spell_47 : decode cX9_spell 47 = .ok (.invokevirtual 392, 3) := by decide +kernel
theorem dX9_spell_50 : decode cX9_spell 50 = .ok (.aload_n 0, 1) := by decide +kernel
theorem dX9_spell_51 : decode cX9_spell 51 = .ok (.getfield 64, 3) := by decide +kernel
theorem dX9_spell_54 : decode cX9_spell 54 = .ok (.iconst 2, 1) := by decide +kernel
theorem dX9_spell_55 : decode cX9_spell 55 = .ok (.invokestatic 388, 3) := by decide +kernel
theorem dX9_spell_58 : decode cX9_spell 58 = .ok (.aload_n 0, 1) := by decide +kernel
theorem dX9_spell_59 : decode cX9_spell 59 = .ok (.getfield 12, 3) := by decide +kernel
theorem dX9_spell_62 : decode cX9_spell 62 = .ok (.getfield 399, 3) := by decide +kernel
theorem dX9_spell_65 : decode cX9_spell 65 = .ok (.invokevirtual 392, 3) := by decide +kernel
theorem dX9_spell_68 : decode cX9_spell 68 = .ok (.aload_n 0, 1) := by decide +kernel
theorem dX9_spell_69 : decode cX9_spell 69 = .ok (.getfield 64, 3) := by decide +kernel
theorem dX9_spell_72 : decode cX9_spell 72 = .ok (.iconst 3, 1) := by decide +kernel
theorem dX9_spell_73 : decode cX9_spell 73 = .ok (.invokestatic 388, 3) := by decide +kernel
theorem dX9_spell_76 : decode cX9_spell 76 = .ok (.aload_n 0, 1) := by decide +kernel
theorem dX9_spell_77 : decode cX9_spell 77 = .ok (.getfield 12, 3) := by decide +kernel
theorem dX9_spell_80 : decode cX9_spell 80 = .ok (.getfield 144, 3) := by decide +kernel
theorem dX9_spell_83 : decode cX9_spell 83 = .ok (.invokevirtual 392, 3) := by decide +kernel
theorem dX9_spell_86 : decode cX9_spell 86 = .ok (.aload_n 0, 1) := by decide +kernel
theorem dX9_spell_87 : decode cX9_spell 87 = .ok (.getfield 64, 3) := by decide +kernel
theorem dX9_spell_90 : decode cX9_spell 90 = .ok (.iconst 4, 1) := by decide +kernel
theorem dX9_spell_91 : decode cX9_spell 91 = .ok (.invokestatic 388, 3) := by decide +kernel
theorem dX9_spell_94 : decode cX9_spell 94 = .ok (.aload_n 0, 1) := by decide +kernel
theorem dX9_spell_95 : decode cX9_spell 95 = .ok (.getfield 19, 3) := by decide +kernel
theorem dX9_spell_98 : decode cX9_spell 98 = .ok (.getfield 171, 3) := by decide +kernel
theorem dX9_spell_101 : decode cX9_spell 101 = .ok (.aload_n 0, 1) := by decide +kernel
theorem dX9_spell_102 : decode cX9_spell 102 = .ok (.getfield 19, 3) := by decide +kernel
theorem dX9_spell_105 : decode cX9_spell 105 = .ok (.getfield 174, 3) := by decide +kernel
theorem dX9_spell_108 : decode cX9_spell 108 = .ok (.invokevirtual 402, 3) := by decide +kernel
theorem dX9_spell_111 : decode cX9_spell 111 = .ok (.iconst 0, 1) := by decide +kernel
theorem dX9_spell_112 : decode cX9_spell 112 = .ok (.istore_n 2, 1) := by decide +kernel
theorem dX9_spell_113 : decode cX9_spell 113 = .ok (.iload_n 2, 1) := by decide +kernel
theorem dX9_spell_114 : decode cX9_spell 114 = .ok (.aload_n 0, 1) := by decide +kernel
theorem dX9_spell_115 : decode cX9_spell 115 = .ok (.getfield 12, 3) := by decide +kernel
theorem dX9_spell_118 : decode cX9_spell 118 = .ok (.getfield 117, 3) := by decide +kernel
theorem dX9_spell_121 : decode cX9_spell 121 = .ok (.if_icmp .ge 38, 3) := by decide +kernel
theorem dX9_spell_124 : decode cX9_spell 124 = .ok (.aload_n 0, 1) := by decide +kernel
theorem dX9_spell_125 : decode cX9_spell 125 = .ok (.getfield 64, 3) := by decide +kernel
theorem dX9_spell_128 : decode cX9_spell 128 = .ok (.iconst 5, 1) := by decide +kernel
theorem dX9_spell_129 : decode cX9_spell 129 = .ok (.invokestatic 388, 3) := by decide +kernel
theorem dX9_spell_132 : decode cX9_spell 132 = .ok (.aload_n 0, 1) := by decide +kernel
theorem dX9_spell_133 : decode cX9_spell 133 = .ok (.getfield 12, 3) := by decide +kernel
theorem dX9_spell_136 : decode cX9_spell 136 = .ok (.getfield 222, 3) := by decide +kernel
theorem dX9_spell_139 : decode cX9_spell 139 = .ok (.iload_n 2, 1) := by decide +kernel
theorem dX9_spell_140 : decode cX9_spell 140 = .ok (.iaload, 1) := by decide +kernel
theorem dX9_spell_141 : decode cX9_spell 141 = .ok (.aload_n 0, 1) := by decide +kernel
theorem dX9_spell_142 : decode cX9_spell 142 = .ok (.getfield 12, 3) := by decide +kernel
theorem dX9_spell_145 : decode cX9_spell 145 = .ok (.getfield 225, 3) := by decide +kernel
theorem dX9_spell_148 : decode cX9_spell 148 = .ok (.iload_n 2, 1) := by decide +kernel
theorem dX9_spell_149 : decode cX9_spell 149 = .ok (.iaload, 1) := by decide +kernel
theorem dX9_spell_150 : decode cX9_spell 150 = .ok (.invokevirtual 402, 3) := by decide +kernel
theorem dX9_spell_153 : decode cX9_spell 153 = .ok (.iinc 2 1, 3) := by decide +kernel
theorem dX9_spell_156 : decode cX9_spell 156 = .ok (.goto (-43), 3) := by decide +kernel
theorem dX9_spell_159 : decode cX9_spell 159 = .ok (.iconst 0, 1) := by decide +kernel
theorem dX9_spell_160 : decode cX9_spell 160 = .ok (.istore_n 2, 1) := by decide +kernel
theorem dX9_spell_161 : decode cX9_spell 161 = .ok (.iload_n 2, 1) := by decide +kernel
theorem dX9_spell_162 : decode cX9_spell 162 = .ok (.aload_n 0, 1) := by decide +kernel
theorem dX9_spell_163 : decode cX9_spell 163 = .ok (.getfield 12, 3) := by decide +kernel
theorem dX9_spell_166 : decode cX9_spell 166 = .ok (.getfield 92, 3) := by decide +kernel
theorem dX9_spell_169 : decode cX9_spell 169 = .ok (.if_icmp .ge 14, 3) := by decide +kernel
theorem dX9_spell_172 : decode cX9_spell 172 = .ok (.aload_n 0, 1) := by decide +kernel
theorem dX9_spell_173 : decode cX9_spell 173 = .ok (.iload_n 2, 1) := by decide +kernel
theorem dX9_spell_174 : decode cX9_spell 174 = .ok (.invokevirtual 406, 3) := by decide +kernel
theorem dX9_spell_177 : decode cX9_spell 177 = .ok (.iinc 2 1, 3) := by decide +kernel
theorem dX9_spell_180 : decode cX9_spell 180 = .ok (.goto (-19), 3) := by decide +kernel
theorem dX9_spell_183 : decode cX9_spell 183 = .ok (.aload_n 0, 1) := by decide +kernel
theorem dX9_spell_184 : decode cX9_spell 184 = .ok (.invokevirtual 409, 3) := by decide +kernel
theorem dX9_spell_187 : decode cX9_spell 187 = .ok (.aload_n 0, 1) := by decide +kernel
theorem dX9_spell_188 : decode cX9_spell 188 = .ok (.getfield 64, 3) := by decide +kernel
theorem dX9_spell_191 : decode cX9_spell 191 = .ok (.iload_n 1, 1) := by decide +kernel
theorem dX9_spell_192 : decode cX9_spell 192 = .ok (.invokevirtual 412, 3) := by decide +kernel
theorem dX9_spell_195 : decode cX9_spell 195 = .ok (.ireturn, 1) := by decide +kernel
theorem zm_X9_spell : ZMv "ClassOfMany" yX9_spell cX9_spell 3 (some .int) 1 := ⟨kw_5_158, kw_5_156, kw_5_157, kw_1_1, by decide +kernel, by decide⟩
def zf_X9_spell_L113 (n : Nat) (K159 : ZMem → Option (Int32 × ZMem)) : Nat → Int32 → ZMem → Option (Int32 × ZMem)
  | 0, _, _ => none
  | n113 + 1, v60, M61 =>
  zdy M61 0 0 (7, 17) (fun o63 => (if (M61 o63 1) ≤ v60 then (K159 M61) else zb1 (zf_X9_wordOf (5 : Int32)) (fun s64 => zdy M61 0 0 (7, 17) (fun o65 => zrd M61 (o65 + 5) 4 v60 (fun v66 => zdy M61 0 0 (7, 17) (fun o67 => zrd M61 (o67 + 6) 4 v60 (fun v68 => zb1 (zf_X2_putTwo n s64 v66 v68 M61) (fun M69 => (zf_X9_spell_L113 n K159 n113 (v60 + (1 : Int32)) M69)))))))))
def zf_X9_spell_L161 (n : Nat) (K183 : ZMem → Option (Int32 × ZMem)) : Nat → Int32 → ZMem → Option (Int32 × ZMem)
  | 0, _, _ => none
  | n161 + 1, v71, M72 =>
  zdy M72 0 0 (7, 17) (fun o74 => (if (M72 o74 0) ≤ v71 then (K183 M72) else zb1 (zf_X9_spellMember n v71 M72) (fun M75 => (zf_X9_spell_L161 n K183 n161 (v71 + (1 : Int32)) M75))))
def zf_X9_spell (n : Nat) (a1 : Int32) (M : ZMem) : Option (Int32 × ZMem) :=
  (if (-1 : Int32) ≤ a1 then zb1 (zf_X2_clear M) (fun M46 => zb1 (zf_X9_wordOf (0 : Int32)) (fun s47 => zb1 (zf_X2_putOne n s47 (M46 12 7) M46) (fun M48 => zb1 (zf_X9_wordOf (1 : Int32)) (fun s49 => zdy M48 0 0 (7, 17) (fun o50 => zb1 (zf_X2_putOne n s49 (M48 o50 8) M48) (fun M51 => zb1 (zf_X9_wordOf (2 : Int32)) (fun s52 => zdy M51 0 0 (7, 17) (fun o53 => zb1 (zf_X2_putOne n s52 (M51 o53 9) M51) (fun M54 => zb1 (zf_X9_wordOf (3 : Int32)) (fun s55 => zdy M54 0 0 (7, 17) (fun o56 => zb1 (zf_X2_putOne n s55 (M54 o56 10) M54) (fun M57 => zb1 (zf_X9_wordOf (4 : Int32)) (fun s58 => zb1 (zf_X2_putTwo n s58 (M57 12 9) (M57 12 10) M57) (fun M59 => (zf_X9_spell_L113 n (fun M70 => (zf_X9_spell_L161 n (fun M76 => zb1 (zf_X9_spellConflicts n M76) (fun M77 => zb1 (zf_X2_answer a1 M77) (fun v78 => some (v78, M77)))) n (0 : Int32) M70)) n (0 : Int32) M59))))))))))))))) else some ((-1 : Int32), M))
set_option maxHeartbeats 4000000 in
set_option maxRecDepth 100000 in
theorem zc_X9_spell {l : Launch} {D : va_G} {ad : Nat → Nat} {cA : Nat → ClassId} {n : Nat} {a1 : Int32} {M : ZMem} {r : Int32} {M' : ZMem} (hf : zf_X9_spell n a1 M = some (r, M')) : ZCt l D ad cA yX9_spell cX9_spell 3 (some .int) 12 [.ref (ad 0), .int a1] M (some (.int r)) M' := by
  refine zct (by decide +kernel) (Nat.le_of_ble_eq_true rfl) (lv := [(0, .ref (ad 0)), (1, .int a1)]) rfl (fun E hl hD had hcA hN hC hR => ?_)
  subst hl; subst hD; subst had; subst hcA
  unfold zf_X9_spell at hf
  refine zw_iload_n hC dX9_spell_0 rfl 1 rfl ?_
  refine zw_iconst hC (v := (-1 : Int32)) dX9_spell_1 (by decide) ?_
  refine zw_icmp_ge hC 7 hf dX9_spell_2 (by decide) (fun hf => ?_) (fun hf => ?_)
  · refine zw_aload_n hC dX9_spell_7 rfl 0 rfl ?_
    refine zw_getr (k' := 75) hC zF_ClassOfMany_page zk_0 rfl dX9_spell_8 kw_2_176 ?_
    obtain ⟨M46, hcM46, hf⟩ := zb1_some hf
    refine zw_cV hC [] [] (st1 := []) zm_X2_clear (zc_X2_clear hcM46) zk_75 rfl kw_5_159 dX9_spell_11 rfl (by decide) (Nat.le_of_ble_eq_true rfl) rfl rfl ?_
    refine zw_aload_n hC dX9_spell_14 rfl 0 rfl ?_
    refine zw_getr (k' := 75) hC zF_ClassOfMany_page zk_0 rfl dX9_spell_15 kw_2_176 ?_
    refine zw_iconst hC (v := (0 : Int32)) dX9_spell_18 (by decide) ?_
    obtain ⟨s47, hc47, hf⟩ := zb1_some hf
    have hs47 := zs_X9_wordOf hc47
    refine zw_cS hC [.int (0 : Int32)] [.ref (zad E 75)] (st1 := [.ref (zad E (1000 + s47)), .ref (zad E 75)]) zm_X9_wordOf (zc_X9_wordOf hc47) kw_5_163 dX9_spell_19 rfl (by decide) (Nat.le_of_ble_eq_true rfl) rfl rfl ?_
    refine zw_aload_n hC dX9_spell_22 rfl 0 rfl ?_
    refine zw_getr (k' := 12) hC zF_ClassOfMany_now zk_0 rfl dX9_spell_23 kw_2_169 ?_
    refine zw_geti hC zF_Standing_fund zk_12 dX9_spell_26 kw_1_158 ?_
    obtain ⟨M48, hcM48, hf⟩ := zb1_some hf
    refine zw_cV hC [.ref (zad E (1000 + s47)), .int (M46 12 7)] [] (st1 := []) zm_X2_putOne (zc_X2_putOne hs47 hcM48) zk_75 rfl kw_5_164 dX9_spell_29 rfl (by decide) (Nat.le_of_ble_eq_true rfl) rfl rfl ?_
    refine zw_aload_n hC dX9_spell_32 rfl 0 rfl ?_
    refine zw_getr (k' := 75) hC zF_ClassOfMany_page zk_0 rfl dX9_spell_33 kw_2_176 ?_
    refine zw_iconst hC (v := (1 : Int32)) dX9_spell_36 (by decide) ?_
    obtain ⟨s49, hc49, hf⟩ := zb1_some hf
    have hs49 := zs_X9_wordOf hc49
    refine zw_cS hC [.int (1 : Int32)] [.ref (zad E 75)] (st1 := [.ref (zad E (1000 + s49)), .ref (zad E 75)]) zm_X9_wordOf (zc_X9_wordOf hc49) kw_5_163 dX9_spell_37 rfl (by decide) (Nat.le_of_ble_eq_true rfl) rfl rfl ?_
    refine zw_aload_n hC dX9_spell_40 rfl 0 rfl ?_
    refine zw_getd hC hf zF_ClassOfMany_told zk_0 dX9_spell_41 kw_2_168 (fun o50 ho50 hf => ?_)
    refine zw_geti hC zF_Told_fee ho50 dX9_spell_44 kw_1_71 ?_
    obtain ⟨M51, hcM51, hf⟩ := zb1_some hf
    refine zw_cV hC [.ref (zad E (1000 + s49)), .int (M48 o50 8)] [] (st1 := []) zm_X2_putOne (zc_X2_putOne hs49 hcM51) zk_75 rfl kw_5_164 dX9_spell_47 rfl (by decide) (Nat.le_of_ble_eq_true rfl) rfl rfl ?_
    refine zw_aload_n hC dX9_spell_50 rfl 0 rfl ?_
    refine zw_getr (k' := 75) hC zF_ClassOfMany_page zk_0 rfl dX9_spell_51 kw_2_176 ?_
    refine zw_iconst hC (v := (2 : Int32)) dX9_spell_54 (by decide) ?_
    obtain ⟨s52, hc52, hf⟩ := zb1_some hf
    have hs52 := zs_X9_wordOf hc52
    refine zw_cS hC [.int (2 : Int32)] [.ref (zad E 75)] (st1 := [.ref (zad E (1000 + s52)), .ref (zad E 75)]) zm_X9_wordOf (zc_X9_wordOf hc52) kw_5_163 dX9_spell_55 rfl (by decide) (Nat.le_of_ble_eq_true rfl) rfl rfl ?_
    refine zw_aload_n hC dX9_spell_58 rfl 0 rfl ?_
    refine zw_getd hC hf zF_ClassOfMany_told zk_0 dX9_spell_59 kw_2_168 (fun o53 ho53 hf => ?_)
    refine zw_geti hC zF_Told_least ho53 dX9_spell_62 kw_1_75 ?_
    obtain ⟨M54, hcM54, hf⟩ := zb1_some hf
    refine zw_cV hC [.ref (zad E (1000 + s52)), .int (M51 o53 9)] [] (st1 := []) zm_X2_putOne (zc_X2_putOne hs52 hcM54) zk_75 rfl kw_5_164 dX9_spell_65 rfl (by decide) (Nat.le_of_ble_eq_true rfl) rfl rfl ?_
    refine zw_aload_n hC dX9_spell_68 rfl 0 rfl ?_
    refine zw_getr (k' := 75) hC zF_ClassOfMany_page zk_0 rfl dX9_spell_69 kw_2_176 ?_
    refine zw_iconst hC (v := (3 : Int32)) dX9_spell_72 (by decide) ?_
    obtain ⟨s55, hc55, hf⟩ := zb1_some hf
    have hs55 := zs_X9_wordOf hc55
    refine zw_cS hC [.int (3 : Int32)] [.ref (zad E 75)] (st1 := [.ref (zad E (1000 + s55)), .ref (zad E 75)]) zm_X9_wordOf (zc_X9_wordOf hc55) kw_5_163 dX9_spell_73 rfl (by decide) (Nat.le_of_ble_eq_true rfl) rfl rfl ?_
    refine zw_aload_n hC dX9_spell_76 rfl 0 rfl ?_
    refine zw_getd hC hf zF_ClassOfMany_told zk_0 dX9_spell_77 kw_2_168 (fun o56 ho56 hf => ?_)
    refine zw_geti hC zF_Told_till ho56 dX9_spell_80 kw_1_78 ?_
    obtain ⟨M57, hcM57, hf⟩ := zb1_some hf
    refine zw_cV hC [.ref (zad E (1000 + s55)), .int (M54 o56 10)] [] (st1 := []) zm_X2_putOne (zc_X2_putOne hs55 hcM57) zk_75 rfl kw_5_164 dX9_spell_83 rfl (by decide) (Nat.le_of_ble_eq_true rfl) rfl rfl ?_
    refine zw_aload_n hC dX9_spell_86 rfl 0 rfl ?_
    refine zw_getr (k' := 75) hC zF_ClassOfMany_page zk_0 rfl dX9_spell_87 kw_2_176 ?_
    refine zw_iconst hC (v := (4 : Int32)) dX9_spell_90 (by decide) ?_
    obtain ⟨s58, hc58, hf⟩ := zb1_some hf
    have hs58 := zs_X9_wordOf hc58
    refine zw_cS hC [.int (4 : Int32)] [.ref (zad E 75)] (st1 := [.ref (zad E (1000 + s58)), .ref (zad E 75)]) zm_X9_wordOf (zc_X9_wordOf hc58) kw_5_163 dX9_spell_91 rfl (by decide) (Nat.le_of_ble_eq_true rfl) rfl rfl ?_
    refine zw_aload_n hC dX9_spell_94 rfl 0 rfl ?_
    refine zw_getr (k' := 12) hC zF_ClassOfMany_now zk_0 rfl dX9_spell_95 kw_2_169 ?_
    refine zw_geti hC zF_Standing_periodFrom zk_12 dX9_spell_98 kw_1_164 ?_
    refine zw_aload_n hC dX9_spell_101 rfl 0 rfl ?_
    refine zw_getr (k' := 12) hC zF_ClassOfMany_now zk_0 rfl dX9_spell_102 kw_2_169 ?_
    refine zw_geti hC zF_Standing_periodTo zk_12 dX9_spell_105 kw_1_167 ?_
    obtain ⟨M59, hcM59, hf⟩ := zb1_some hf
    refine zw_cV hC [.ref (zad E (1000 + s58)), .int (M57 12 9), .int (M57 12 10)] [] (st1 := []) zm_X2_putTwo (zc_X2_putTwo hs58 hcM59) zk_75 rfl kw_5_183 dX9_spell_108 rfl (by decide) (Nat.le_of_ble_eq_true rfl) rfl rfl ?_
    refine zw_iconst hC (v := (0 : Int32)) dX9_spell_111 (by decide) ?_
    refine zw_istore_n hC (lv' := [(2, .int (0 : Int32)), (0, .ref (zad E 0)), (1, .int a1)]) dX9_spell_112 rfl hN (by decide) rfl ?_
    have hL113 : ∀ (K159 : ZMem → Option (Int32 × ZMem)), (∀ (M62 : ZMem), K159 M62 = some (r, M') → ZW E 159 [(0, .ref (zad E 0)), (1, .int a1)] [] M62) → ∀ (n113 : Nat), ∀ (v60 : Int32), ∀ (M61 : ZMem), zf_X9_spell_L113 n K159 n113 v60 M61 = some (r, M') → ZW E 113 [(0, .ref (zad E 0)), (1, .int a1), (2, .int v60)] [] M61 := by
      intro K159 hK159
      intro n113
      induction n113 with
      | zero => intro v60 M61 hf; rw [zf_X9_spell_L113] at hf; cases hf
      | succ n113 ih113 =>
        intro v60 M61 hf
        rw [zf_X9_spell_L113] at hf
        refine zw_iload_n hC dX9_spell_113 rfl 2 rfl ?_
        refine zw_aload_n hC dX9_spell_114 rfl 0 rfl ?_
        refine zw_getd hC hf zF_ClassOfMany_told zk_0 dX9_spell_115 kw_2_168 (fun o63 ho63 hf => ?_)
        refine zw_geti hC zF_Told_channels ho63 dX9_spell_118 kw_1_44 ?_
        refine zw_icmp_ge hC 159 hf dX9_spell_121 (by decide) (fun hf => ?_) (fun hf => ?_)
        · exact zw_sub [0, 1] rfl (hK159 M61 hf)
        · refine zw_aload_n hC dX9_spell_124 rfl 0 rfl ?_
          refine zw_getr (k' := 75) hC zF_ClassOfMany_page zk_0 rfl dX9_spell_125 kw_2_176 ?_
          refine zw_iconst hC (v := (5 : Int32)) dX9_spell_128 (by decide) ?_
          obtain ⟨s64, hc64, hf⟩ := zb1_some hf
          have hs64 := zs_X9_wordOf hc64
          refine zw_cS hC [.int (5 : Int32)] [.ref (zad E 75)] (st1 := [.ref (zad E (1000 + s64)), .ref (zad E 75)]) zm_X9_wordOf (zc_X9_wordOf hc64) kw_5_163 dX9_spell_129 rfl (by decide) (Nat.le_of_ble_eq_true rfl) rfl rfl ?_
          refine zw_aload_n hC dX9_spell_132 rfl 0 rfl ?_
          refine zw_getd hC hf zF_ClassOfMany_told zk_0 dX9_spell_133 kw_2_168 (fun o65 ho65 hf => ?_)
          refine zw_getr (k' := (o65 + 5)) hC zF_Told_cost ho65 rfl dX9_spell_136 kw_1_64 ?_
          refine zw_iload_n hC dX9_spell_139 rfl 2 rfl ?_
          refine zw_iald hC hf (zko_7_5 ho65) dX9_spell_140 (fun v66 hf => ?_)
          refine zw_aload_n hC dX9_spell_141 rfl 0 rfl ?_
          refine zw_getd hC hf zF_ClassOfMany_told zk_0 dX9_spell_142 kw_2_168 (fun o67 ho67 hf => ?_)
          refine zw_getr (k' := (o67 + 6)) hC zF_Told_wait ho67 rfl dX9_spell_145 kw_1_68 ?_
          refine zw_iload_n hC dX9_spell_148 rfl 2 rfl ?_
          refine zw_iald hC hf (zko_7_6 ho67) dX9_spell_149 (fun v68 hf => ?_)
          obtain ⟨M69, hcM69, hf⟩ := zb1_some hf
          refine zw_cV hC [.ref (zad E (1000 + s64)), .int v66, .int v68] [] (st1 := []) zm_X2_putTwo (zc_X2_putTwo hs64 hcM69) zk_75 rfl kw_5_183 dX9_spell_150 rfl (by decide) (Nat.le_of_ble_eq_true rfl) rfl rfl ?_
          refine zw_iinc hC (v := (1 : Int32)) (lv' := [(2, .int (v60 + (1 : Int32))), (0, .ref (zad E 0)), (1, .int a1)]) dX9_spell_153 2 rfl (by decide) hN (by decide) rfl ?_
          refine zw_goto hC 113 dX9_spell_156 (by decide) ?_
          exact zw_sub [1, 2, 0] rfl (ih113 (v60 + (1 : Int32)) M69 hf)
    refine zw_sub [1, 2, 0] rfl (hL113 _ ?_ n (0 : Int32) M59 hf)
    · intro M70 hf
      refine zw_iconst hC (v := (0 : Int32)) dX9_spell_159 (by decide) ?_
      refine zw_istore_n hC (lv' := [(2, .int (0 : Int32)), (0, .ref (zad E 0)), (1, .int a1)]) dX9_spell_160 rfl hN (by decide) rfl ?_
      have hL161 : ∀ (K183 : ZMem → Option (Int32 × ZMem)), (∀ (M73 : ZMem), K183 M73 = some (r, M') → ZW E 183 [(0, .ref (zad E 0)), (1, .int a1)] [] M73) → ∀ (n161 : Nat), ∀ (v71 : Int32), ∀ (M72 : ZMem), zf_X9_spell_L161 n K183 n161 v71 M72 = some (r, M') → ZW E 161 [(0, .ref (zad E 0)), (1, .int a1), (2, .int v71)] [] M72 := by
        intro K183 hK183
        intro n161
        induction n161 with
        | zero => intro v71 M72 hf; rw [zf_X9_spell_L161] at hf; cases hf
        | succ n161 ih161 =>
          intro v71 M72 hf
          rw [zf_X9_spell_L161] at hf
          refine zw_iload_n hC dX9_spell_161 rfl 2 rfl ?_
          refine zw_aload_n hC dX9_spell_162 rfl 0 rfl ?_
          refine zw_getd hC hf zF_ClassOfMany_told zk_0 dX9_spell_163 kw_2_168 (fun o74 ho74 hf => ?_)
          refine zw_geti hC zF_Told_members ho74 dX9_spell_166 kw_1_38 ?_
          refine zw_icmp_ge hC 183 hf dX9_spell_169 (by decide) (fun hf => ?_) (fun hf => ?_)
          · exact zw_sub [0, 1] rfl (hK183 M72 hf)
          · refine zw_aload_n hC dX9_spell_172 rfl 0 rfl ?_
            refine zw_iload_n hC dX9_spell_173 rfl 2 rfl ?_
            obtain ⟨M75, hcM75, hf⟩ := zb1_some hf
            refine zw_cV hC [.int v71] [] (st1 := []) zm_X9_spellMember (zc_X9_spellMember hcM75) zk_0 rfl kw_5_187 dX9_spell_174 rfl (by decide) (Nat.le_of_ble_eq_true rfl) rfl rfl ?_
            refine zw_iinc hC (v := (1 : Int32)) (lv' := [(2, .int (v71 + (1 : Int32))), (0, .ref (zad E 0)), (1, .int a1)]) dX9_spell_177 2 rfl (by decide) hN (by decide) rfl ?_
            refine zw_goto hC 161 dX9_spell_180 (by decide) ?_
            exact zw_sub [1, 2, 0] rfl (ih161 (v71 + (1 : Int32)) M75 hf)
      refine zw_sub [1, 2, 0] rfl (hL161 _ ?_ n (0 : Int32) M70 hf)
      · intro M76 hf
        refine zw_aload_n hC dX9_spell_183 rfl 0 rfl ?_
        obtain ⟨M77, hcM77, hf⟩ := zb1_some hf
        refine zw_cV hC [] [] (st1 := []) zm_X9_spellConflicts (zc_X9_spellConflicts hcM77) zk_0 rfl kw_5_195 dX9_spell_184 rfl (by decide) (Nat.le_of_ble_eq_true rfl) rfl rfl ?_
        refine zw_aload_n hC dX9_spell_187 rfl 0 rfl ?_
        refine zw_getr (k' := 75) hC zF_ClassOfMany_page zk_0 rfl dX9_spell_188 kw_2_176 ?_
        refine zw_iload_n hC dX9_spell_191 rfl 1 rfl ?_
        obtain ⟨v78, hc78, hf⟩ := zb1_some hf
        refine zw_cV hC [.int a1] [] (st1 := [.int v78]) zm_X2_answer (zc_X2_answer hc78) zk_75 rfl kw_5_199 dX9_spell_192 rfl (by decide) (Nat.le_of_ble_eq_true rfl) rfl rfl ?_
        obtain ⟨h1, h2⟩ := Prod.mk.inj (Option.some.inj hf)
        subst h1; subst h2
        exact zw_iret hC hR dX9_spell_195
  · refine zw_iconst hC (v := (-1 : Int32)) dX9_spell_5 (by decide) ?_
    obtain ⟨h1, h2⟩ := Prod.mk.inj (Option.some.inj hf)
    subst h1; subst h2
    exact zw_iret hC hR dX9_spell_6
/-! ClassOfMany.report(I)I -/
theorem dX9_report_0 : decode cX9_report 0 = .ok (.iload_n 1, 1) := by decide +kernel
theorem dX9_report_1 : decode cX9_report 1 = .ok (.iconst (-1), 1) := by decide +kernel
theorem dX9_report_2 : decode cX9_report 2 = .ok (.if_icmp .ge 5, 3) := by decide +kernel
theorem dX9_report_5 : decode cX9_report 5 = .ok (.iconst (-1), 1) := by decide +kernel
theorem dX9_report_6 : decode cX9_report 6 = .ok (.ireturn, 1) := by decide +kernel
theorem dX9_report_7 : decode cX9_report 7 = .ok (.aload_n 0, 1) := by decide +kernel
theorem dX9_report_8 : decode cX9_report 8 = .ok (.invokevirtual 305, 3) := by decide +kernel
theorem dX9_report_11 : decode cX9_report 11 = .ok (.aload_n 0, 1) := by decide +kernel
theorem dX9_report_12 : decode cX9_report 12 = .ok (.getfield 64, 3) := by decide +kernel
theorem dX9_report_15 : decode cX9_report 15 = .ok (.invokevirtual 385, 3) := by decide +kernel
theorem dX9_report_18 : decode cX9_report 18 = .ok (.iconst 0, 1) := by decide +kernel
theorem dX9_report_19 : decode cX9_report 19 = .ok (.istore_n 2, 1) := by decide +kernel
theorem dX9_report_20 : decode cX9_report 20 = .ok (.iload_n 2, 1) := by decide +kernel
theorem dX9_report_21 : decode cX9_report 21 = .ok (.aload_n 0, 1) := by decide +kernel
theorem dX9_report_22 : decode cX9_report 22 = .ok (.getfield 12, 3) := by decide +kernel
theorem dX9_report_25 : decode cX9_report 25 = .ok (.getfield 92, 3) := by decide +kernel
theorem dX9_report_28 : decode cX9_report 28 = .ok (.if_icmp .ge 43, 3) := by decide +kernel
theorem dX9_report_31 : decode cX9_report 31 = .ok (.aload_n 0, 1) := by decide +kernel
theorem dX9_report_32 : decode cX9_report 32 = .ok (.getfield 50, 3) := by decide +kernel
theorem dX9_report_35 : decode cX9_report 35 = .ok (.getfield 338, 3) := by decide +kernel
theorem dX9_report_38 : decode cX9_report 38 = .ok (.iload_n 2, 1) := by decide +kernel
theorem dX9_report_39 : decode cX9_report 39 = .ok (.invokestatic 137, 3) := by decide +kernel
theorem dX9_report_42 : decode cX9_report 42 = .ok (.ifCond .eq 23, 3) := by decide +kernel
theorem dX9_report_45 : decode cX9_report 45 = .ok (.aload_n 0, 1) := by decide +kernel
theorem dX9_report_46 : decode cX9_report 46 = .ok (.getfield 64, 3) := by decide +kernel
theorem dX9_report_49 : decode cX9_report 49 = .ok (.ldc_w 426, 3) := by decide +kernel
theorem dX9_report_52 : decode cX9_report 52 = .ok (.iload_n 2, 1) := by decide +kernel
theorem dX9_report_53 : decode cX9_report 53 = .ok (.aload_n 0, 1) := by decide +kernel
theorem dX9_report_54 : decode cX9_report 54 = .ok (.getfield 50, 3) := by decide +kernel
theorem dX9_report_57 : decode cX9_report 57 = .ok (.getfield 326, 3) := by decide +kernel
theorem dX9_report_60 : decode cX9_report 60 = .ok (.iload_n 2, 1) := by decide +kernel
theorem dX9_report_61 : decode cX9_report 61 = .ok (.iaload, 1) := by decide +kernel
theorem dX9_report_62 : decode cX9_report 62 = .ok (.invokevirtual 402, 3) := by decide +kernel
theorem dX9_report_65 : decode cX9_report 65 = .ok (.iinc 2 1, 3) := by decide +kernel
theorem dX9_report_68 : decode cX9_report 68 = .ok (.goto (-48), 3) := by decide +kernel
theorem dX9_report_71 : decode cX9_report 71 = .ok (.aload_n 0, 1) := by decide +kernel
theorem dX9_report_72 : decode cX9_report 72 = .ok (.getfield 64, 3) := by decide +kernel
theorem dX9_report_75 : decode cX9_report 75 = .ok (.ldc_w 428, 3) := by decide +kernel
theorem dX9_report_78 : decode cX9_report 78 = .ok (.aload_n 0, 1) := by decide +kernel
theorem dX9_report_79 : decode cX9_report 79 = .ok (.getfield 50, 3) := by decide +kernel
theorem dX9_report_82 : decode cX9_report 82 = .ok (.getfield 311, 3) := by decide +kernel
theorem dX9_report_85 : decode cX9_report 85 = .ok (.invokevirtual 392, 3) := by decide +kernel
theorem dX9_report_88 : decode cX9_report 88 = .ok (.aload_n 0, 1) := by decide +kernel
theorem dX9_report_89 : decode cX9_report 89 = .ok (.getfield 64, 3) := by decide +kernel
theorem dX9_report_92 : decode cX9_report 92 = .ok (.iload_n 1, 1) := by decide +kernel
theorem dX9_report_93 : decode cX9_report 93 = .ok (.invokevirtual 412, 3) := by decide +kernel
theorem dX9_report_96 : decode cX9_report 96 = .ok (.ireturn, 1) := by decide +kernel
theorem zm_X9_report : ZMv "ClassOfMany" yX9_report cX9_report 3 (some .int) 1 := ⟨kw_5_206, kw_5_204, kw_5_205, kw_1_1, by decide +kernel, by decide⟩
def zf_X9_report_j65 (R20 : Int32 → ZMem → Option (Int32 × ZMem)) (v31 : Int32) (M36 : ZMem) : Option (Int32 × ZMem) :=
  (R20 (v31 + (1 : Int32)) M36)
def zf_X9_report_L20 (n : Nat) (K71 : ZMem → Option (Int32 × ZMem)) : Nat → Int32 → ZMem → Option (Int32 × ZMem)
  | 0, _, _ => none
  | n20 + 1, v31, M32 =>
  zdy M32 0 0 (7, 17) (fun o34 => (if (M32 o34 0) ≤ v31 then (K71 M32) else zb1 (zf_X9_has (M32 63 10) v31) (fun v35 => (if v35 = 0 then (zf_X9_report_j65 (fun x0 x1 => zf_X9_report_L20 n K71 n20 x0 x1) v31 M32) else zrd M32 69 10 v31 (fun v37 => zb1 (zf_X2_putTwo n 11 v31 v37 M32) (fun M38 => (zf_X9_report_j65 (fun x0 x1 => zf_X9_report_L20 n K71 n20 x0 x1) v31 M38)))))))
def zf_X9_report (n : Nat) (a1 : Int32) (M : ZMem) : Option (Int32 × ZMem) :=
  (if (-1 : Int32) ≤ a1 then zb1 (zf_X9_payNow n M) (fun M29 => zb1 (zf_X2_clear M29) (fun M30 => (zf_X9_report_L20 n (fun M39 => zb1 (zf_X2_putOne n 12 (M39 63 17) M39) (fun M40 => zb1 (zf_X2_answer a1 M40) (fun v41 => some (v41, M40)))) n (0 : Int32) M30))) else some ((-1 : Int32), M))
set_option maxHeartbeats 4000000 in
set_option maxRecDepth 100000 in
theorem zc_X9_report {l : Launch} {D : va_G} {ad : Nat → Nat} {cA : Nat → ClassId} {n : Nat} {a1 : Int32} {M : ZMem} {r : Int32} {M' : ZMem} (hf : zf_X9_report n a1 M = some (r, M')) : ZCt l D ad cA yX9_report cX9_report 3 (some .int) 19 [.ref (ad 0), .int a1] M (some (.int r)) M' := by
  refine zct (by decide +kernel) (Nat.le_of_ble_eq_true rfl) (lv := [(0, .ref (ad 0)), (1, .int a1)]) rfl (fun E hl hD had hcA hN hC hR => ?_)
  subst hl; subst hD; subst had; subst hcA
  unfold zf_X9_report at hf
  refine zw_iload_n hC dX9_report_0 rfl 1 rfl ?_
  refine zw_iconst hC (v := (-1 : Int32)) dX9_report_1 (by decide) ?_
  refine zw_icmp_ge hC 7 hf dX9_report_2 (by decide) (fun hf => ?_) (fun hf => ?_)
  · refine zw_aload_n hC dX9_report_7 rfl 0 rfl ?_
    obtain ⟨M29, hcM29, hf⟩ := zb1_some hf
    refine zw_cV hC [] [] (st1 := []) zm_X9_payNow (zc_X9_payNow hcM29) zk_0 rfl kw_4_191 dX9_report_8 rfl (by decide) (Nat.le_of_ble_eq_true rfl) rfl rfl ?_
    refine zw_aload_n hC dX9_report_11 rfl 0 rfl ?_
    refine zw_getr (k' := 75) hC zF_ClassOfMany_page zk_0 rfl dX9_report_12 kw_2_176 ?_
    obtain ⟨M30, hcM30, hf⟩ := zb1_some hf
    refine zw_cV hC [] [] (st1 := []) zm_X2_clear (zc_X2_clear hcM30) zk_75 rfl kw_5_159 dX9_report_15 rfl (by decide) (Nat.le_of_ble_eq_true rfl) rfl rfl ?_
    refine zw_iconst hC (v := (0 : Int32)) dX9_report_18 (by decide) ?_
    refine zw_istore_n hC (lv' := [(2, .int (0 : Int32)), (0, .ref (zad E 0)), (1, .int a1)]) dX9_report_19 rfl hN (by decide) rfl ?_
    have hL20 : ∀ (K71 : ZMem → Option (Int32 × ZMem)), (∀ (M33 : ZMem), K71 M33 = some (r, M') → ZW E 71 [(0, .ref (zad E 0)), (1, .int a1)] [] M33) → ∀ (n20 : Nat), ∀ (v31 : Int32), ∀ (M32 : ZMem), zf_X9_report_L20 n K71 n20 v31 M32 = some (r, M') → ZW E 20 [(0, .ref (zad E 0)), (1, .int a1), (2, .int v31)] [] M32 := by
      intro K71 hK71
      intro n20
      induction n20 with
      | zero => intro v31 M32 hf; rw [zf_X9_report_L20] at hf; cases hf
      | succ n20 ih20 =>
        intro v31 M32 hf
        rw [zf_X9_report_L20] at hf
        refine zw_iload_n hC dX9_report_20 rfl 2 rfl ?_
        refine zw_aload_n hC dX9_report_21 rfl 0 rfl ?_
        refine zw_getd hC hf zF_ClassOfMany_told zk_0 dX9_report_22 kw_2_168 (fun o34 ho34 hf => ?_)
        refine zw_geti hC zF_Told_members ho34 dX9_report_25 kw_1_38 ?_
        refine zw_icmp_ge hC 71 hf dX9_report_28 (by decide) (fun hf => ?_) (fun hf => ?_)
        · exact zw_sub [0, 1] rfl (hK71 M32 hf)
        · refine zw_aload_n hC dX9_report_31 rfl 0 rfl ?_
          refine zw_getr (k' := 63) hC zF_ClassOfMany_payer zk_0 rfl dX9_report_32 kw_2_174 ?_
          refine zw_geti hC zF_Payer_counted zk_63 dX9_report_35 kw_2_74 ?_
          refine zw_iload_n hC dX9_report_38 rfl 2 rfl ?_
          obtain ⟨v35, hc35, hf⟩ := zb1_some hf
          refine zw_cS hC [.int (M32 63 10), .int v31] [] (st1 := [.int v35]) zm_X9_has (zc_X9_has hc35) kw_3_201 dX9_report_39 rfl (by decide) (Nat.le_of_ble_eq_true rfl) rfl rfl ?_
          have hj65 : ∀ (M36 : ZMem), zf_X9_report_j65 (fun x0 x1 => zf_X9_report_L20 n K71 n20 x0 x1) v31 M36 = some (r, M') → ZW E 65 [(0, .ref (zad E 0)), (1, .int a1), (2, .int v31)] [] M36 := by
            intro M36 hf
            unfold zf_X9_report_j65 at hf
            refine zw_iinc hC (v := (1 : Int32)) (lv' := [(2, .int (v31 + (1 : Int32))), (0, .ref (zad E 0)), (1, .int a1)]) dX9_report_65 2 rfl (by decide) hN (by decide) rfl ?_
            refine zw_goto hC 20 dX9_report_68 (by decide) ?_
            exact zw_sub [1, 2, 0] rfl (ih20 (v31 + (1 : Int32)) M36 hf)
          refine zw_if_eq hC 65 hf dX9_report_42 (by decide) (fun hf => ?_) (fun hf => ?_)
          · exact hj65 M32 hf
          · refine zw_aload_n hC dX9_report_45 rfl 0 rfl ?_
            refine zw_getr (k' := 75) hC zF_ClassOfMany_page zk_0 rfl dX9_report_46 kw_2_176 ?_
            refine zw_ldsw hC (i := 11) dX9_report_49 zl_X9_426 ?_
            refine zw_iload_n hC dX9_report_52 rfl 2 rfl ?_
            refine zw_aload_n hC dX9_report_53 rfl 0 rfl ?_
            refine zw_getr (k' := 63) hC zF_ClassOfMany_payer zk_0 rfl dX9_report_54 kw_2_174 ?_
            refine zw_getr (k' := 69) hC zF_Payer_paidTo zk_63 rfl dX9_report_57 kw_2_67 ?_
            refine zw_iload_n hC dX9_report_60 rfl 2 rfl ?_
            refine zw_iald hC hf zk_69 dX9_report_61 (fun v37 hf => ?_)
            obtain ⟨M38, hcM38, hf⟩ := zb1_some hf
            refine zw_cV hC [.ref (zad E (1000 + 11)), .int v31, .int v37] [] (st1 := []) zm_X2_putTwo (zc_X2_putTwo (by decide) hcM38) zk_75 rfl kw_5_183 dX9_report_62 rfl (by decide) (Nat.le_of_ble_eq_true rfl) rfl rfl ?_
            exact hj65 M38 hf
    refine zw_sub [1, 2, 0] rfl (hL20 _ ?_ n (0 : Int32) M30 hf)
    · intro M39 hf
      refine zw_aload_n hC dX9_report_71 rfl 0 rfl ?_
      refine zw_getr (k' := 75) hC zF_ClassOfMany_page zk_0 rfl dX9_report_72 kw_2_176 ?_
      refine zw_ldsw hC (i := 12) dX9_report_75 zl_X9_428 ?_
      refine zw_aload_n hC dX9_report_78 rfl 0 rfl ?_
      refine zw_getr (k' := 63) hC zF_ClassOfMany_payer zk_0 rfl dX9_report_79 kw_2_174 ?_
      refine zw_geti hC zF_Payer_left zk_63 dX9_report_82 kw_2_86 ?_
      obtain ⟨M40, hcM40, hf⟩ := zb1_some hf
      refine zw_cV hC [.ref (zad E (1000 + 12)), .int (M39 63 17)] [] (st1 := []) zm_X2_putOne (zc_X2_putOne (by decide) hcM40) zk_75 rfl kw_5_164 dX9_report_85 rfl (by decide) (Nat.le_of_ble_eq_true rfl) rfl rfl ?_
      refine zw_aload_n hC dX9_report_88 rfl 0 rfl ?_
      refine zw_getr (k' := 75) hC zF_ClassOfMany_page zk_0 rfl dX9_report_89 kw_2_176 ?_
      refine zw_iload_n hC dX9_report_92 rfl 1 rfl ?_
      obtain ⟨v41, hc41, hf⟩ := zb1_some hf
      refine zw_cV hC [.int a1] [] (st1 := [.int v41]) zm_X2_answer (zc_X2_answer hc41) zk_75 rfl kw_5_199 dX9_report_93 rfl (by decide) (Nat.le_of_ble_eq_true rfl) rfl rfl ?_
      obtain ⟨h1, h2⟩ := Prod.mk.inj (Option.some.inj hf)
      subst h1; subst h2
      exact zw_iret hC hR dX9_report_96
  · refine zw_iconst hC (v := (-1 : Int32)) dX9_report_5 (by decide) ?_
    obtain ⟨h1, h2⟩ := Prod.mk.inj (Option.some.inj hf)
    subst h1; subst h2
    exact zw_iret hC hR dX9_report_6
