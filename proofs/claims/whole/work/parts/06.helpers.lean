/-! helpers of the printed functions and rows -/
def zb1 {α β : Type} (o : Option α) (K : α → Option β) : Option β := match o with
  | none => none
  | some x => K x
theorem zb1_some {α β : Type} {o : Option α} {K : α → Option β} {r : β} (h : zb1 o K = some r) : ∃ x, o = some x ∧ K x = some r := by
  cases o with
  | none => cases h
  | some x => exact ⟨x, rfl, h⟩
def zb2 {α γ β : Type} (o : Option (α × γ)) (K : α → γ → Option β) : Option β := match o with
  | none => none
  | some x => K x.1 x.2
theorem zb2_some {α γ β : Type} {o : Option (α × γ)} {K : α → γ → Option β} {r : β} (h : zb2 o K = some r) : ∃ x y, o = some (x, y) ∧ K x y = some r := by
  cases o with
  | none => cases h
  | some x => exact ⟨x.1, x.2, rfl, h⟩
def zbz {β : Type} (v : Int32) (K : Option β) : Option β := if v = 0 ∨ v = 1 then K else none
theorem zbz_some {β : Type} {v : Int32} {K : Option β} {r : β} (h : zbz v K = some r) : narrow .boolean (.int v) = .int v ∧ K = some r := by
  unfold zbz at h
  split at h
  · rename_i hv
    rcases hv with rfl | rfl
    · exact ⟨rfl, h⟩
    · exact ⟨rfl, h⟩
  · cases h
theorem zw_sub {E : ZEnv} {pc : Nat} {lv lv' : List (Nat × Value)} {st : List Value} {M : ZMem} (ks : List Nat) (h : lv_pick lv ks = lv') (kk : ZW E pc lv' st M) : ZW E pc lv st M := by
  obtain ⟨p, l, e, R, s, m, args, below, meth, c, cells, slots, Q, D, ad, cA, nL⟩ := E
  intro H locs ls hP hS hl
  exact kk H locs ls hP hS (lv_sub hl ks h)
theorem zw_idivc {E : ZEnv} {cc : ByteArray} {own : String} {d pc : Nat} {lv : List (Nat × Value)} {st : List Value} {M : ZMem} (hC : ZCx E cc own d) {x y : Int32} (hd : decode cc pc = .ok (.idiv, 1)) (hy : ¬ y = 0) (kk : ZW E (pc + 1) lv (.int (x / y) :: st) M) : ZW E pc lv (.int y :: .int x :: st) M := by
  obtain ⟨p, l, e, R, s, m, args, below, meth, c, cells, slots, Q, D, ad, cA, nL⟩ := E
  intro H locs ls hP hS hl
  exact lv_idiv hC.1 hC.2.1 hd hy (kk H locs ls hP hS hl)
theorem zw_iremc {E : ZEnv} {cc : ByteArray} {own : String} {d pc : Nat} {lv : List (Nat × Value)} {st : List Value} {M : ZMem} (hC : ZCx E cc own d) {x y : Int32} (hd : decode cc pc = .ok (.irem, 1)) (hy : ¬ y = 0) (kk : ZW E (pc + 1) lv (.int (x - x / y * y) :: st) M) : ZW E pc lv (.int y :: .int x :: st) M := by
  obtain ⟨p, l, e, R, s, m, args, below, meth, c, cells, slots, Q, D, ad, cA, nL⟩ := E
  intro H locs ls hP hS hl
  exact lv_irem hC.1 hC.2.1 hd hy (kk H locs ls hP hS hl)
theorem zw_ldivc {E : ZEnv} {cc : ByteArray} {own : String} {d pc : Nat} {lv : List (Nat × Value)} {st : List Value} {M : ZMem} (hC : ZCx E cc own d) {x y : Int64} (hd : decode cc pc = .ok (.ldiv, 1)) (hy : ¬ y = 0) (kk : ZW E (pc + 1) lv (.long (x / y) :: st) M) : ZW E pc lv (.long y :: .long x :: st) M := by
  obtain ⟨p, l, e, R, s, m, args, below, meth, c, cells, slots, Q, D, ad, cA, nL⟩ := E
  intro H locs ls hP hS hl
  exact lv_ldiv hC.1 hC.2.1 hd hy (kk H locs ls hP hS hl)
theorem zw_lremc {E : ZEnv} {cc : ByteArray} {own : String} {d pc : Nat} {lv : List (Nat × Value)} {st : List Value} {M : ZMem} (hC : ZCx E cc own d) {x y : Int64} (hd : decode cc pc = .ok (.lrem, 1)) (hy : ¬ y = 0) (kk : ZW E (pc + 1) lv (.long (x - x / y * y) :: st) M) : ZW E pc lv (.long y :: .long x :: st) M := by
  obtain ⟨p, l, e, R, s, m, args, below, meth, c, cells, slots, Q, D, ad, cA, nL⟩ := E
  intro H locs ls hP hS hl
  exact lv_lrem hC.1 hC.2.1 hd hy (kk H locs ls hP hS hl)
/-! switches -/
theorem zw_tin {E : ZEnv} {cc : ByteArray} {own : String} {d pc : Nat} {lv : List (Nat × Value)} {st : List Value} {M : ZMem} (hC : ZCx E cc own d) {x c : Int32} (hx : x = c) {dflt lo hi off : Int} {offs : Array Int} {len tgt : Nat} (hd : decode cc pc = .ok (.tableswitch dflt lo hi offs, len)) (h1 : ¬ c.toInt < lo) (h2 : ¬ hi < c.toInt) (ho : offs[(c.toInt - lo).toNat]? = some off) (ht : (pc : Int) + off = (tgt : Int)) (kk : ZW E tgt lv st M) : ZW E pc lv (.int x :: st) M := by
  subst hx
  obtain ⟨p, l, e, R, s, m, args, below, meth, c, cells, slots, Q, D, ad, cA, nL⟩ := E
  intro H locs ls hP hS hl
  exact lv_tableIn hC.1 hC.2.1 hd h1 h2 ho ht (kk H locs ls hP hS hl)
theorem zw_tout {E : ZEnv} {cc : ByteArray} {own : String} {d pc : Nat} {lv : List (Nat × Value)} {st : List Value} {M : ZMem} (hC : ZCx E cc own d) {x : Int32} {dflt lo hi : Int} {offs : Array Int} {len tgt : Nat} (hd : decode cc pc = .ok (.tableswitch dflt lo hi offs, len)) (h : x.toInt < lo ∨ hi < x.toInt) (ht : (pc : Int) + dflt = (tgt : Int)) (kk : ZW E tgt lv st M) : ZW E pc lv (.int x :: st) M := by
  obtain ⟨p, l, e, R, s, m, args, below, meth, c, cells, slots, Q, D, ad, cA, nL⟩ := E
  intro H locs ls hP hS hl
  exact lv_tableOut hC.1 hC.2.1 hd h ht (kk H locs ls hP hS hl)
theorem ztout {x : Int32} {n : Nat} (h : ∀ k : Nat, k ≤ n → ¬ x = Int32.ofNat k) : x.toInt < 0 ∨ (n : Int) < x.toInt := by
  rcases Int.lt_or_le x.toInt 0 with g | g
  · exact Or.inl g
  · rcases Int.lt_or_le (n : Int) x.toInt with g2 | g2
    · exact Or.inr g2
    · exfalso
      obtain ⟨j, hj, e⟩ := nI_of (x := x) (fun z => by have := Int32.lt_iff_toInt_lt.mp z; simp at this; omega)
      have h2 := nI_toInt hj
      rw [← e] at h2
      exact h j (by omega) e
theorem zw_kin {E : ZEnv} {cc : ByteArray} {own : String} {d pc : Nat} {lv : List (Nat × Value)} {st : List Value} {M : ZMem} (hC : ZCx E cc own d) {x c : Int32} (hx : x = c) {dflt off : Int} {ps : Array (Int × Int)} {len tgt : Nat} (hd : decode cc pc = .ok (.lookupswitch dflt ps, len)) (hp : (ps.toList.zip (ps.toList.drop 1)).all (fun (a, next) => a.1 < next.1) = true) (ho : Op.lookupswitch.offset ps.toList dflt c.toInt = off) (ht : (pc : Int) + off = (tgt : Int)) (kk : ZW E tgt lv st M) : ZW E pc lv (.int x :: st) M := by
  subst hx
  obtain ⟨p, l, e, R, s, m, args, below, meth, c, cells, slots, Q, D, ad, cA, nL⟩ := E
  intro H locs ls hP hS hl
  exact lv_lookup hC.1 hC.2.1 hd hp ho ht (kk H locs ls hP hS hl)
/-! kinds of the cells and fields, by number -/
theorem zk_0 : zk 0 = (8, 9) := by decide +kernel
theorem zk_1 : zk 1 = (7, 17) := by decide +kernel
theorem zk_2 : zk 2 = (10, 10) := by decide +kernel
theorem zk_3 : zk 3 = (10, 10) := by decide +kernel
theorem zk_4 : zk 4 = (10, 10) := by decide +kernel
theorem zk_5 : zk 5 = (10, 10) := by decide +kernel
theorem zk_6 : zk 6 = (10, 4) := by decide +kernel
theorem zk_7 : zk 7 = (10, 4) := by decide +kernel
theorem zk_8 : zk 8 = (10, 80) := by decide +kernel
theorem zk_9 : zk 9 = (10, 80) := by decide +kernel
theorem zk_10 : zk 10 = (10, 80) := by decide +kernel
theorem zk_11 : zk 11 = (10, 200) := by decide +kernel
theorem zk_12 : zk 12 = (6, 12) := by decide +kernel
theorem zk_13 : zk 13 = (10, 10) := by decide +kernel
theorem zk_14 : zk 14 = (6, 12) := by decide +kernel
theorem zk_15 : zk 15 = (10, 10) := by decide +kernel
theorem zk_16 : zk 16 = (0, 3) := by decide +kernel
theorem zk_17 : zk 17 = (13, 12) := by decide +kernel
theorem zk_18 : zk 18 = (6, 12) := by decide +kernel
theorem zk_19 : zk 19 = (10, 10) := by decide +kernel
theorem zk_20 : zk 20 = (6, 12) := by decide +kernel
theorem zk_21 : zk 21 = (10, 10) := by decide +kernel
theorem zk_22 : zk 22 = (6, 12) := by decide +kernel
theorem zk_23 : zk 23 = (10, 10) := by decide +kernel
theorem zk_24 : zk 24 = (6, 12) := by decide +kernel
theorem zk_25 : zk 25 = (10, 10) := by decide +kernel
theorem zk_26 : zk 26 = (6, 12) := by decide +kernel
theorem zk_27 : zk 27 = (10, 10) := by decide +kernel
theorem zk_28 : zk 28 = (6, 12) := by decide +kernel
theorem zk_29 : zk 29 = (10, 10) := by decide +kernel
theorem zk_30 : zk 30 = (6, 12) := by decide +kernel
theorem zk_31 : zk 31 = (10, 10) := by decide +kernel
theorem zk_32 : zk 32 = (6, 12) := by decide +kernel
theorem zk_33 : zk 33 = (10, 10) := by decide +kernel
theorem zk_34 : zk 34 = (6, 12) := by decide +kernel
theorem zk_35 : zk 35 = (10, 10) := by decide +kernel
theorem zk_36 : zk 36 = (6, 12) := by decide +kernel
theorem zk_37 : zk 37 = (10, 10) := by decide +kernel
theorem zk_38 : zk 38 = (6, 12) := by decide +kernel
theorem zk_39 : zk 39 = (10, 10) := by decide +kernel
theorem zk_40 : zk 40 = (6, 12) := by decide +kernel
theorem zk_41 : zk 41 = (10, 10) := by decide +kernel
theorem zk_42 : zk 42 = (3, 8) := by decide +kernel
theorem zk_43 : zk 43 = (10, 400) := by decide +kernel
theorem zk_44 : zk 44 = (7, 17) := by decide +kernel
theorem zk_45 : zk 45 = (10, 10) := by decide +kernel
theorem zk_46 : zk 46 = (10, 10) := by decide +kernel
theorem zk_47 : zk 47 = (10, 10) := by decide +kernel
theorem zk_48 : zk 48 = (10, 10) := by decide +kernel
theorem zk_49 : zk 49 = (10, 4) := by decide +kernel
theorem zk_50 : zk 50 = (10, 4) := by decide +kernel
theorem zk_51 : zk 51 = (10, 80) := by decide +kernel
theorem zk_52 : zk 52 = (10, 80) := by decide +kernel
theorem zk_53 : zk 53 = (10, 80) := by decide +kernel
theorem zk_54 : zk 54 = (10, 200) := by decide +kernel
theorem zk_55 : zk 55 = (6, 12) := by decide +kernel
theorem zk_56 : zk 56 = (10, 10) := by decide +kernel
theorem zk_57 : zk 57 = (5, 9) := by decide +kernel
theorem zk_58 : zk 58 = (10, 10) := by decide +kernel
theorem zk_59 : zk 59 = (10, 10) := by decide +kernel
theorem zk_60 : zk 60 = (12, 1024) := by decide +kernel
theorem zk_61 : zk 61 = (10, 1024) := by decide +kernel
theorem zk_62 : zk 62 = (10, 1024) := by decide +kernel
theorem zk_63 : zk 63 = (2, 18) := by decide +kernel
theorem zk_64 : zk 64 = (10, 10) := by decide +kernel
theorem zk_65 : zk 65 = (10, 10) := by decide +kernel
theorem zk_66 : zk 66 = (10, 10) := by decide +kernel
theorem zk_67 : zk 67 = (10, 10) := by decide +kernel
theorem zk_68 : zk 68 = (10, 10) := by decide +kernel
theorem zk_69 : zk 69 = (10, 10) := by decide +kernel
theorem zk_70 : zk 70 = (10, 90) := by decide +kernel
theorem zk_71 : zk 71 = (4, 7) := by decide +kernel
theorem zk_72 : zk 72 = (10, 1024) := by decide +kernel
theorem zk_73 : zk 73 = (10, 1024) := by decide +kernel
theorem zk_74 : zk 74 = (10, 10) := by decide +kernel
theorem zk_75 : zk 75 = (1, 2) := by decide +kernel
theorem zk_76 : zk 76 = (11, 1024) := by decide +kernel
theorem zk_77 : zk 77 = (9, 37) := by decide +kernel
theorem zk_78 : zk 78 = (10, 73) := by decide +kernel
theorem zk_79 : zk 79 = (10, 73) := by decide +kernel
theorem zk_80 : zk 80 = (10, 876) := by decide +kernel
theorem zk_81 : zk 81 = (10, 400) := by decide +kernel
theorem zk_82 : zk 82 = (10, 140) := by decide +kernel
theorem zk_83 : zk 83 = (10, 140) := by decide +kernel
theorem zk_84 : zk 84 = (10, 1120) := by decide +kernel
theorem zk_85 : zk 85 = (10, 10) := by decide +kernel
theorem zk_86 : zk 86 = (10, 10) := by decide +kernel
theorem zk_87 : zk 87 = (10, 90) := by decide +kernel
theorem zk_88 : zk 88 = (10, 10) := by decide +kernel
theorem zk_89 : zk 89 = (10, 10) := by decide +kernel
theorem zk_90 : zk 90 = (10, 10) := by decide +kernel
theorem zk_91 : zk 91 = (10, 10) := by decide +kernel
theorem zk_92 : zk 92 = (10, 10240) := by decide +kernel
theorem zk_93 : zk 93 = (10, 2000) := by decide +kernel
theorem zko_7_1 {k : Nat} (h : zk k = (7, 17)) : zk (k + 1) = (10, 10) := (show ∀ k, k < zn → zk k = (7, 17) → zk (k + 1) = (10, 10) by decide +kernel) k (zk_lt h (by decide)) h
theorem zko_7_2 {k : Nat} (h : zk k = (7, 17)) : zk (k + 2) = (10, 10) := (show ∀ k, k < zn → zk k = (7, 17) → zk (k + 2) = (10, 10) by decide +kernel) k (zk_lt h (by decide)) h
theorem zko_7_3 {k : Nat} (h : zk k = (7, 17)) : zk (k + 3) = (10, 10) := (show ∀ k, k < zn → zk k = (7, 17) → zk (k + 3) = (10, 10) by decide +kernel) k (zk_lt h (by decide)) h
theorem zko_7_4 {k : Nat} (h : zk k = (7, 17)) : zk (k + 4) = (10, 10) := (show ∀ k, k < zn → zk k = (7, 17) → zk (k + 4) = (10, 10) by decide +kernel) k (zk_lt h (by decide)) h
theorem zko_7_5 {k : Nat} (h : zk k = (7, 17)) : zk (k + 5) = (10, 4) := (show ∀ k, k < zn → zk k = (7, 17) → zk (k + 5) = (10, 4) by decide +kernel) k (zk_lt h (by decide)) h
theorem zko_7_6 {k : Nat} (h : zk k = (7, 17)) : zk (k + 6) = (10, 4) := (show ∀ k, k < zn → zk k = (7, 17) → zk (k + 6) = (10, 4) by decide +kernel) k (zk_lt h (by decide)) h
theorem zko_7_7 {k : Nat} (h : zk k = (7, 17)) : zk (k + 7) = (10, 80) := (show ∀ k, k < zn → zk k = (7, 17) → zk (k + 7) = (10, 80) by decide +kernel) k (zk_lt h (by decide)) h
theorem zko_7_8 {k : Nat} (h : zk k = (7, 17)) : zk (k + 8) = (10, 80) := (show ∀ k, k < zn → zk k = (7, 17) → zk (k + 8) = (10, 80) by decide +kernel) k (zk_lt h (by decide)) h
theorem zko_7_9 {k : Nat} (h : zk k = (7, 17)) : zk (k + 9) = (10, 80) := (show ∀ k, k < zn → zk k = (7, 17) → zk (k + 9) = (10, 80) by decide +kernel) k (zk_lt h (by decide)) h
theorem zko_7_10 {k : Nat} (h : zk k = (7, 17)) : zk (k + 10) = (10, 200) := (show ∀ k, k < zn → zk k = (7, 17) → zk (k + 10) = (10, 200) by decide +kernel) k (zk_lt h (by decide)) h
theorem zko_6_1 {k : Nat} (h : zk k = (6, 12)) : zk (k + 1) = (10, 10) := (show ∀ k, k < zn → zk k = (6, 12) → zk (k + 1) = (10, 10) by decide +kernel) k (zk_lt h (by decide)) h
theorem zF_Journal_kept : ZFld 0 3 0 "ClassOfMany$Journal" "kept" "[LClassOfMany$Standing;" true ∧ zfk 0 0 = 3 := ⟨⟨TX0, rfl, by decide, by decide, rfl⟩, by decide +kernel⟩
theorem zF_Journal_next : ZFld 0 3 1 "ClassOfMany$Journal" "next" "I" false ∧ zfk 0 1 = 0 := ⟨⟨TX0, rfl, by decide, by decide, rfl⟩, by decide +kernel⟩
theorem zF_Journal_size : ZFld 0 3 2 "ClassOfMany$Journal" "size" "I" false ∧ zfk 0 2 = 0 := ⟨⟨TX0, rfl, by decide, by decide, rfl⟩, by decide +kernel⟩
theorem zF_Page_row : ZFld 1 2 0 "ClassOfMany$Page" "row" "[B" true ∧ zfk 1 0 = 3 := ⟨⟨TX2, rfl, by decide, by decide, rfl⟩, by decide +kernel⟩
theorem zF_Page_size : ZFld 1 2 1 "ClassOfMany$Page" "size" "I" false ∧ zfk 1 1 = 0 := ⟨⟨TX2, rfl, by decide, by decide, rfl⟩, by decide +kernel⟩
theorem zF_Payer_claims : ZFld 2 18 0 "ClassOfMany$Payer" "claims" "[I" true ∧ zfk 2 0 = 3 := ⟨⟨TX3, rfl, by decide, by decide, rfl⟩, by decide +kernel⟩
theorem zF_Payer_groupOf : ZFld 2 18 1 "ClassOfMany$Payer" "groupOf" "[I" true ∧ zfk 2 1 = 4 := ⟨⟨TX3, rfl, by decide, by decide, rfl⟩, by decide +kernel⟩
theorem zF_Payer_groupClaims : ZFld 2 18 2 "ClassOfMany$Payer" "groupClaims" "[I" true ∧ zfk 2 2 = 5 := ⟨⟨TX3, rfl, by decide, by decide, rfl⟩, by decide +kernel⟩
theorem zF_Payer_groupHeads : ZFld 2 18 3 "ClassOfMany$Payer" "groupHeads" "[I" true ∧ zfk 2 3 = 6 := ⟨⟨TX3, rfl, by decide, by decide, rfl⟩, by decide +kernel⟩
theorem zF_Payer_pots : ZFld 2 18 4 "ClassOfMany$Payer" "pots" "[I" true ∧ zfk 2 4 = 7 := ⟨⟨TX3, rfl, by decide, by decide, rfl⟩, by decide +kernel⟩
theorem zF_Payer_paidTo : ZFld 2 18 5 "ClassOfMany$Payer" "paidTo" "[I" true ∧ zfk 2 5 = 8 := ⟨⟨TX3, rfl, by decide, by decide, rfl⟩, by decide +kernel⟩
theorem zF_Payer_hadIn : ZFld 2 18 6 "ClassOfMany$Payer" "hadIn" "[I" true ∧ zfk 2 6 = 9 := ⟨⟨TX3, rfl, by decide, by decide, rfl⟩, by decide +kernel⟩
theorem zF_Payer_members : ZFld 2 18 7 "ClassOfMany$Payer" "members" "I" false ∧ zfk 2 7 = 0 := ⟨⟨TX3, rfl, by decide, by decide, rfl⟩, by decide +kernel⟩
theorem zF_Payer_least : ZFld 2 18 8 "ClassOfMany$Payer" "least" "I" false ∧ zfk 2 8 = 0 := ⟨⟨TX3, rfl, by decide, by decide, rfl⟩, by decide +kernel⟩
theorem zF_Payer_rule : ZFld 2 18 9 "ClassOfMany$Payer" "rule" "I" false ∧ zfk 2 9 = 0 := ⟨⟨TX3, rfl, by decide, by decide, rfl⟩, by decide +kernel⟩
theorem zF_Payer_counted : ZFld 2 18 10 "ClassOfMany$Payer" "counted" "I" false ∧ zfk 2 10 = 0 := ⟨⟨TX3, rfl, by decide, by decide, rfl⟩, by decide +kernel⟩
theorem zF_Payer_hungry : ZFld 2 18 11 "ClassOfMany$Payer" "hungry" "I" false ∧ zfk 2 11 = 0 := ⟨⟨TX3, rfl, by decide, by decide, rfl⟩, by decide +kernel⟩
theorem zF_Payer_claimsInAll : ZFld 2 18 12 "ClassOfMany$Payer" "claimsInAll" "I" false ∧ zfk 2 12 = 0 := ⟨⟨TX3, rfl, by decide, by decide, rfl⟩, by decide +kernel⟩
theorem zF_Payer_heads : ZFld 2 18 13 "ClassOfMany$Payer" "heads" "I" false ∧ zfk 2 13 = 0 := ⟨⟨TX3, rfl, by decide, by decide, rfl⟩, by decide +kernel⟩
theorem zF_Payer_groupsPaid : ZFld 2 18 14 "ClassOfMany$Payer" "groupsPaid" "I" false ∧ zfk 2 14 = 0 := ⟨⟨TX3, rfl, by decide, by decide, rfl⟩, by decide +kernel⟩
theorem zF_Payer_net : ZFld 2 18 15 "ClassOfMany$Payer" "net" "I" false ∧ zfk 2 15 = 0 := ⟨⟨TX3, rfl, by decide, by decide, rfl⟩, by decide +kernel⟩
theorem zF_Payer_rounds : ZFld 2 18 16 "ClassOfMany$Payer" "rounds" "I" false ∧ zfk 2 16 = 0 := ⟨⟨TX3, rfl, by decide, by decide, rfl⟩, by decide +kernel⟩
theorem zF_Payer_left : ZFld 2 18 17 "ClassOfMany$Payer" "left" "I" false ∧ zfk 2 17 = 0 := ⟨⟨TX3, rfl, by decide, by decide, rfl⟩, by decide +kernel⟩
theorem zF_Reader_tape : ZFld 3 8 0 "ClassOfMany$Reader" "tape" "[I" true ∧ zfk 3 0 = 3 := ⟨⟨TX4, rfl, by decide, by decide, rfl⟩, by decide +kernel⟩
theorem zF_Reader_length : ZFld 3 8 1 "ClassOfMany$Reader" "length" "I" false ∧ zfk 3 1 = 0 := ⟨⟨TX4, rfl, by decide, by decide, rfl⟩, by decide +kernel⟩
theorem zF_Reader_at : ZFld 3 8 2 "ClassOfMany$Reader" "at" "I" false ∧ zfk 3 2 = 0 := ⟨⟨TX4, rfl, by decide, by decide, rfl⟩, by decide +kernel⟩
theorem zF_Reader_lastNumber : ZFld 3 8 3 "ClassOfMany$Reader" "lastNumber" "I" false ∧ zfk 3 3 = 0 := ⟨⟨TX4, rfl, by decide, by decide, rfl⟩, by decide +kernel⟩
theorem zF_Reader_fault : ZFld 3 8 4 "ClassOfMany$Reader" "fault" "I" false ∧ zfk 3 4 = 0 := ⟨⟨TX4, rfl, by decide, by decide, rfl⟩, by decide +kernel⟩
theorem zF_Reader_seenSorts : ZFld 3 8 5 "ClassOfMany$Reader" "seenSorts" "I" false ∧ zfk 3 5 = 0 := ⟨⟨TX4, rfl, by decide, by decide, rfl⟩, by decide +kernel⟩
theorem zF_Reader_told : ZFld 3 8 6 "ClassOfMany$Reader" "told" "LClassOfMany$Told;" false ∧ zfk 3 6 = 1 := ⟨⟨TX4, rfl, by decide, by decide, rfl⟩, by decide +kernel⟩
theorem zF_Reader_standing : ZFld 3 8 7 "ClassOfMany$Reader" "standing" "LClassOfMany$Standing;" true ∧ zfk 3 7 = 15 := ⟨⟨TX4, rfl, by decide, by decide, rfl⟩, by decide +kernel⟩
theorem zF_Resting_known : ZFld 4 7 0 "ClassOfMany$Resting" "known" "Z" false ∧ zfk 4 0 = 0 := ⟨⟨TX5, rfl, by decide, by decide, rfl⟩, by decide +kernel⟩
theorem zF_Resting_odds : ZFld 4 7 1 "ClassOfMany$Resting" "odds" "I" false ∧ zfk 4 1 = 0 := ⟨⟨TX5, rfl, by decide, by decide, rfl⟩, by decide +kernel⟩
theorem zF_Resting_suit : ZFld 4 7 2 "ClassOfMany$Resting" "suit" "I" false ∧ zfk 4 2 = 0 := ⟨⟨TX5, rfl, by decide, by decide, rfl⟩, by decide +kernel⟩
theorem zF_Resting_size : ZFld 4 7 3 "ClassOfMany$Resting" "size" "I" false ∧ zfk 4 3 = 0 := ⟨⟨TX5, rfl, by decide, by decide, rfl⟩, by decide +kernel⟩
theorem zF_Resting_sets : ZFld 4 7 4 "ClassOfMany$Resting" "sets" "[I" true ∧ zfk 4 4 = 3 := ⟨⟨TX5, rfl, by decide, by decide, rfl⟩, by decide +kernel⟩
theorem zF_Resting_gladIn : ZFld 4 7 5 "ClassOfMany$Resting" "gladIn" "[I" true ∧ zfk 4 5 = 4 := ⟨⟨TX5, rfl, by decide, by decide, rfl⟩, by decide +kernel⟩
theorem zF_Resting_outside : ZFld 4 7 6 "ClassOfMany$Resting" "outside" "[I" true ∧ zfk 4 6 = 5 := ⟨⟨TX5, rfl, by decide, by decide, rfl⟩, by decide +kernel⟩
theorem zF_Splitter_members : ZFld 5 9 0 "ClassOfMany$Splitter" "members" "I" false ∧ zfk 5 0 = 0 := ⟨⟨TX6, rfl, by decide, by decide, rfl⟩, by decide +kernel⟩
theorem zF_Splitter_in : ZFld 5 9 1 "ClassOfMany$Splitter" "in" "I" false ∧ zfk 5 1 = 0 := ⟨⟨TX6, rfl, by decide, by decide, rfl⟩, by decide +kernel⟩
theorem zF_Splitter_limit : ZFld 5 9 2 "ClassOfMany$Splitter" "limit" "I" false ∧ zfk 5 2 = 0 := ⟨⟨TX6, rfl, by decide, by decide, rfl⟩, by decide +kernel⟩
theorem zF_Splitter_foes : ZFld 5 9 3 "ClassOfMany$Splitter" "foes" "[I" true ∧ zfk 5 3 = 3 := ⟨⟨TX6, rfl, by decide, by decide, rfl⟩, by decide +kernel⟩
theorem zF_Splitter_groups : ZFld 5 9 4 "ClassOfMany$Splitter" "groups" "[I" true ∧ zfk 5 4 = 4 := ⟨⟨TX6, rfl, by decide, by decide, rfl⟩, by decide +kernel⟩
theorem zF_Splitter_size : ZFld 5 9 5 "ClassOfMany$Splitter" "size" "I" false ∧ zfk 5 5 = 0 := ⟨⟨TX6, rfl, by decide, by decide, rfl⟩, by decide +kernel⟩
theorem zF_Splitter_peaceful : ZFld 5 9 6 "ClassOfMany$Splitter" "peaceful" "[Z" true ∧ zfk 5 6 = 5 := ⟨⟨TX6, rfl, by decide, by decide, rfl⟩, by decide +kernel⟩
theorem zF_Splitter_ways : ZFld 5 9 7 "ClassOfMany$Splitter" "ways" "[I" false ∧ zfk 5 7 = 1 := ⟨⟨TX6, rfl, by decide, by decide, rfl⟩, by decide +kernel⟩
theorem zF_Splitter_fewerWays : ZFld 5 9 8 "ClassOfMany$Splitter" "fewerWays" "[I" false ∧ zfk 5 8 = 1 := ⟨⟨TX6, rfl, by decide, by decide, rfl⟩, by decide +kernel⟩
theorem zF_Standing_today : ZFld 6 12 0 "ClassOfMany$Standing" "today" "I" false ∧ zfk 6 0 = 0 := ⟨⟨TX7, rfl, by decide, by decide, rfl⟩, by decide +kernel⟩
theorem zF_Standing_order : ZFld 6 12 1 "ClassOfMany$Standing" "order" "I" false ∧ zfk 6 1 = 0 := ⟨⟨TX7, rfl, by decide, by decide, rfl⟩, by decide +kernel⟩
theorem zF_Standing_sentDay : ZFld 6 12 2 "ClassOfMany$Standing" "sentDay" "I" false ∧ zfk 6 2 = 0 := ⟨⟨TX7, rfl, by decide, by decide, rfl⟩, by decide +kernel⟩
theorem zF_Standing_costs : ZFld 6 12 3 "ClassOfMany$Standing" "costs" "I" false ∧ zfk 6 3 = 0 := ⟨⟨TX7, rfl, by decide, by decide, rfl⟩, by decide +kernel⟩
theorem zF_Standing_out : ZFld 6 12 4 "ClassOfMany$Standing" "out" "I" false ∧ zfk 6 4 = 0 := ⟨⟨TX7, rfl, by decide, by decide, rfl⟩, by decide +kernel⟩
theorem zF_Standing_filed : ZFld 6 12 5 "ClassOfMany$Standing" "filed" "I" false ∧ zfk 6 5 = 0 := ⟨⟨TX7, rfl, by decide, by decide, rfl⟩, by decide +kernel⟩
theorem zF_Standing_lazy : ZFld 6 12 6 "ClassOfMany$Standing" "lazy" "I" false ∧ zfk 6 6 = 0 := ⟨⟨TX7, rfl, by decide, by decide, rfl⟩, by decide +kernel⟩
theorem zF_Standing_fund : ZFld 6 12 7 "ClassOfMany$Standing" "fund" "I" false ∧ zfk 6 7 = 0 := ⟨⟨TX7, rfl, by decide, by decide, rfl⟩, by decide +kernel⟩
theorem zF_Standing_rule : ZFld 6 12 8 "ClassOfMany$Standing" "rule" "I" false ∧ zfk 6 8 = 0 := ⟨⟨TX7, rfl, by decide, by decide, rfl⟩, by decide +kernel⟩
theorem zF_Standing_periodFrom : ZFld 6 12 9 "ClassOfMany$Standing" "periodFrom" "I" false ∧ zfk 6 9 = 0 := ⟨⟨TX7, rfl, by decide, by decide, rfl⟩, by decide +kernel⟩
theorem zF_Standing_periodTo : ZFld 6 12 10 "ClassOfMany$Standing" "periodTo" "I" false ∧ zfk 6 10 = 0 := ⟨⟨TX7, rfl, by decide, by decide, rfl⟩, by decide +kernel⟩
theorem zF_Standing_foes : ZFld 6 12 11 "ClassOfMany$Standing" "foes" "[I" true ∧ zfk 6 11 = 3 := ⟨⟨TX7, rfl, by decide, by decide, rfl⟩, by decide +kernel⟩
theorem zF_Told_members : ZFld 7 17 0 "ClassOfMany$Told" "members" "I" false ∧ zfk 7 0 = 0 := ⟨⟨TX8, rfl, by decide, by decide, rfl⟩, by decide +kernel⟩
theorem zF_Told_channels : ZFld 7 17 1 "ClassOfMany$Told" "channels" "I" false ∧ zfk 7 1 = 0 := ⟨⟨TX8, rfl, by decide, by decide, rfl⟩, by decide +kernel⟩
theorem zF_Told_from : ZFld 7 17 2 "ClassOfMany$Told" "from" "[I" true ∧ zfk 7 2 = 3 := ⟨⟨TX8, rfl, by decide, by decide, rfl⟩, by decide +kernel⟩
theorem zF_Told_to : ZFld 7 17 3 "ClassOfMany$Told" "to" "[I" true ∧ zfk 7 3 = 4 := ⟨⟨TX8, rfl, by decide, by decide, rfl⟩, by decide +kernel⟩
theorem zF_Told_rate : ZFld 7 17 4 "ClassOfMany$Told" "rate" "[I" true ∧ zfk 7 4 = 5 := ⟨⟨TX8, rfl, by decide, by decide, rfl⟩, by decide +kernel⟩
theorem zF_Told_reach : ZFld 7 17 5 "ClassOfMany$Told" "reach" "[I" true ∧ zfk 7 5 = 6 := ⟨⟨TX8, rfl, by decide, by decide, rfl⟩, by decide +kernel⟩
theorem zF_Told_cost : ZFld 7 17 6 "ClassOfMany$Told" "cost" "[I" true ∧ zfk 7 6 = 7 := ⟨⟨TX8, rfl, by decide, by decide, rfl⟩, by decide +kernel⟩
theorem zF_Told_wait : ZFld 7 17 7 "ClassOfMany$Told" "wait" "[I" true ∧ zfk 7 7 = 8 := ⟨⟨TX8, rfl, by decide, by decide, rfl⟩, by decide +kernel⟩
theorem zF_Told_fee : ZFld 7 17 8 "ClassOfMany$Told" "fee" "I" false ∧ zfk 7 8 = 0 := ⟨⟨TX8, rfl, by decide, by decide, rfl⟩, by decide +kernel⟩
theorem zF_Told_least : ZFld 7 17 9 "ClassOfMany$Told" "least" "I" false ∧ zfk 7 9 = 0 := ⟨⟨TX8, rfl, by decide, by decide, rfl⟩, by decide +kernel⟩
theorem zF_Told_till : ZFld 7 17 10 "ClassOfMany$Told" "till" "I" false ∧ zfk 7 10 = 0 := ⟨⟨TX8, rfl, by decide, by decide, rfl⟩, by decide +kernel⟩
theorem zF_Told_lines : ZFld 7 17 11 "ClassOfMany$Told" "lines" "I" false ∧ zfk 7 11 = 0 := ⟨⟨TX8, rfl, by decide, by decide, rfl⟩, by decide +kernel⟩
theorem zF_Told_sorts : ZFld 7 17 12 "ClassOfMany$Told" "sorts" "[I" true ∧ zfk 7 12 = 9 := ⟨⟨TX8, rfl, by decide, by decide, rfl⟩, by decide +kernel⟩
theorem zF_Told_starts : ZFld 7 17 13 "ClassOfMany$Told" "starts" "[I" true ∧ zfk 7 13 = 10 := ⟨⟨TX8, rfl, by decide, by decide, rfl⟩, by decide +kernel⟩
theorem zF_Told_sizes : ZFld 7 17 14 "ClassOfMany$Told" "sizes" "[I" true ∧ zfk 7 14 = 11 := ⟨⟨TX8, rfl, by decide, by decide, rfl⟩, by decide +kernel⟩
theorem zF_Told_used : ZFld 7 17 15 "ClassOfMany$Told" "used" "I" false ∧ zfk 7 15 = 0 := ⟨⟨TX8, rfl, by decide, by decide, rfl⟩, by decide +kernel⟩
theorem zF_Told_numbers : ZFld 7 17 16 "ClassOfMany$Told" "numbers" "[I" true ∧ zfk 7 16 = 12 := ⟨⟨TX8, rfl, by decide, by decide, rfl⟩, by decide +kernel⟩
theorem zF_ClassOfMany_told : ZFld 8 9 0 "ClassOfMany" "told" "LClassOfMany$Told;" false ∧ zfk 8 0 = 1 := ⟨⟨TX9, rfl, by decide, by decide, rfl⟩, by decide +kernel⟩
theorem zF_ClassOfMany_now : ZFld 8 9 1 "ClassOfMany" "now" "LClassOfMany$Standing;" true ∧ zfk 8 1 = 14 := ⟨⟨TX9, rfl, by decide, by decide, rfl⟩, by decide +kernel⟩
theorem zF_ClassOfMany_were : ZFld 8 9 2 "ClassOfMany" "were" "LClassOfMany$Standing;" true ∧ zfk 8 2 = 16 := ⟨⟨TX9, rfl, by decide, by decide, rfl⟩, by decide +kernel⟩
theorem zF_ClassOfMany_journal : ZFld 8 9 3 "ClassOfMany" "journal" "LClassOfMany$Journal;" true ∧ zfk 8 3 = 18 := ⟨⟨TX9, rfl, by decide, by decide, rfl⟩, by decide +kernel⟩
theorem zF_ClassOfMany_reader : ZFld 8 9 4 "ClassOfMany" "reader" "LClassOfMany$Reader;" true ∧ zfk 8 4 = 44 := ⟨⟨TX9, rfl, by decide, by decide, rfl⟩, by decide +kernel⟩
theorem zF_ClassOfMany_splitter : ZFld 8 9 5 "ClassOfMany" "splitter" "LClassOfMany$Splitter;" true ∧ zfk 8 5 = 59 := ⟨⟨TX9, rfl, by decide, by decide, rfl⟩, by decide +kernel⟩
theorem zF_ClassOfMany_payer : ZFld 8 9 6 "ClassOfMany" "payer" "LClassOfMany$Payer;" true ∧ zfk 8 6 = 65 := ⟨⟨TX9, rfl, by decide, by decide, rfl⟩, by decide +kernel⟩
theorem zF_ClassOfMany_resting : ZFld 8 9 7 "ClassOfMany" "resting" "LClassOfMany$Resting;" true ∧ zfk 8 7 = 73 := ⟨⟨TX9, rfl, by decide, by decide, rfl⟩, by decide +kernel⟩
theorem zF_ClassOfMany_page : ZFld 8 9 8 "ClassOfMany" "page" "LClassOfMany$Page;" true ∧ zfk 8 8 = 77 := ⟨⟨TX9, rfl, by decide, by decide, rfl⟩, by decide +kernel⟩
theorem zF_Model_thrown : ZFld 9 37 0 "ClassOfManyModel" "thrown" "I" false ∧ zfk 9 0 = 0 := ⟨⟨TX10, rfl, by decide, by decide, rfl⟩, by decide +kernel⟩
theorem zF_Model_now : ZFld 9 37 1 "ClassOfManyModel" "now" "[I" true ∧ zfk 9 1 = 3 := ⟨⟨TX10, rfl, by decide, by decide, rfl⟩, by decide +kernel⟩
theorem zF_Model_aside : ZFld 9 37 2 "ClassOfManyModel" "aside" "[I" true ∧ zfk 9 2 = 4 := ⟨⟨TX10, rfl, by decide, by decide, rfl⟩, by decide +kernel⟩
theorem zF_Model_undos : ZFld 9 37 3 "ClassOfManyModel" "undos" "[I" true ∧ zfk 9 3 = 5 := ⟨⟨TX10, rfl, by decide, by decide, rfl⟩, by decide +kernel⟩
theorem zF_Model_undoMany : ZFld 9 37 4 "ClassOfManyModel" "undoMany" "I" false ∧ zfk 9 4 = 0 := ⟨⟨TX10, rfl, by decide, by decide, rfl⟩, by decide +kernel⟩
theorem zF_Model_tape : ZFld 9 37 5 "ClassOfManyModel" "tape" "[I" true ∧ zfk 9 5 = 6 := ⟨⟨TX10, rfl, by decide, by decide, rfl⟩, by decide +kernel⟩
theorem zF_Model_taped : ZFld 9 37 6 "ClassOfManyModel" "taped" "I" false ∧ zfk 9 6 = 0 := ⟨⟨TX10, rfl, by decide, by decide, rfl⟩, by decide +kernel⟩
theorem zF_Model_size : ZFld 9 37 7 "ClassOfManyModel" "size" "I" false ∧ zfk 9 7 = 0 := ⟨⟨TX10, rfl, by decide, by decide, rfl⟩, by decide +kernel⟩
theorem zF_Model_at : ZFld 9 37 8 "ClassOfManyModel" "at" "I" false ∧ zfk 9 8 = 0 := ⟨⟨TX10, rfl, by decide, by decide, rfl⟩, by decide +kernel⟩
theorem zF_Model_token : ZFld 9 37 9 "ClassOfManyModel" "token" "I" false ∧ zfk 9 9 = 0 := ⟨⟨TX10, rfl, by decide, by decide, rfl⟩, by decide +kernel⟩
theorem zF_Model_from : ZFld 9 37 10 "ClassOfManyModel" "from" "I" false ∧ zfk 9 10 = 0 := ⟨⟨TX10, rfl, by decide, by decide, rfl⟩, by decide +kernel⟩
theorem zF_Model_value : ZFld 9 37 11 "ClassOfManyModel" "value" "I" false ∧ zfk 9 11 = 0 := ⟨⟨TX10, rfl, by decide, by decide, rfl⟩, by decide +kernel⟩
theorem zF_Model_fault : ZFld 9 37 12 "ClassOfManyModel" "fault" "I" false ∧ zfk 9 12 = 0 := ⟨⟨TX10, rfl, by decide, by decide, rfl⟩, by decide +kernel⟩
theorem zF_Model_lineSort : ZFld 9 37 13 "ClassOfManyModel" "lineSort" "[I" true ∧ zfk 9 13 = 7 := ⟨⟨TX10, rfl, by decide, by decide, rfl⟩, by decide +kernel⟩
theorem zF_Model_lineMany : ZFld 9 37 14 "ClassOfManyModel" "lineMany" "[I" true ∧ zfk 9 14 = 8 := ⟨⟨TX10, rfl, by decide, by decide, rfl⟩, by decide +kernel⟩
theorem zF_Model_lineN : ZFld 9 37 15 "ClassOfManyModel" "lineN" "[I" true ∧ zfk 9 15 = 9 := ⟨⟨TX10, rfl, by decide, by decide, rfl⟩, by decide +kernel⟩
theorem zF_Model_lines : ZFld 9 37 16 "ClassOfManyModel" "lines" "I" false ∧ zfk 9 16 = 0 := ⟨⟨TX10, rfl, by decide, by decide, rfl⟩, by decide +kernel⟩
theorem zF_Model_read : ZFld 9 37 17 "ClassOfManyModel" "read" "I" false ∧ zfk 9 17 = 0 := ⟨⟨TX10, rfl, by decide, by decide, rfl⟩, by decide +kernel⟩
theorem zF_Model_told : ZFld 9 37 18 "ClassOfManyModel" "told" "I" false ∧ zfk 9 18 = 0 := ⟨⟨TX10, rfl, by decide, by decide, rfl⟩, by decide +kernel⟩
theorem zF_Model_part : ZFld 9 37 19 "ClassOfManyModel" "part" "[I" true ∧ zfk 9 19 = 10 := ⟨⟨TX10, rfl, by decide, by decide, rfl⟩, by decide +kernel⟩
theorem zF_Model_parts : ZFld 9 37 20 "ClassOfManyModel" "parts" "I" false ∧ zfk 9 20 = 0 := ⟨⟨TX10, rfl, by decide, by decide, rfl⟩, by decide +kernel⟩
theorem zF_Model_nowIn : ZFld 9 37 21 "ClassOfManyModel" "nowIn" "I" false ∧ zfk 9 21 = 0 := ⟨⟨TX10, rfl, by decide, by decide, rfl⟩, by decide +kernel⟩
theorem zF_Model_nowCounted : ZFld 9 37 22 "ClassOfManyModel" "nowCounted" "I" false ∧ zfk 9 22 = 0 := ⟨⟨TX10, rfl, by decide, by decide, rfl⟩, by decide +kernel⟩
theorem zF_Model_nowLazy : ZFld 9 37 23 "ClassOfManyModel" "nowLazy" "I" false ∧ zfk 9 23 = 0 := ⟨⟨TX10, rfl, by decide, by decide, rfl⟩, by decide +kernel⟩
theorem zF_Model_nowFund : ZFld 9 37 24 "ClassOfManyModel" "nowFund" "I" false ∧ zfk 9 24 = 0 := ⟨⟨TX10, rfl, by decide, by decide, rfl⟩, by decide +kernel⟩
theorem zF_Model_nowRule : ZFld 9 37 25 "ClassOfManyModel" "nowRule" "I" false ∧ zfk 9 25 = 0 := ⟨⟨TX10, rfl, by decide, by decide, rfl⟩, by decide +kernel⟩
theorem zF_Model_paid : ZFld 9 37 26 "ClassOfManyModel" "paid" "[I" true ∧ zfk 9 26 = 11 := ⟨⟨TX10, rfl, by decide, by decide, rfl⟩, by decide +kernel⟩
theorem zF_Model_hadIn : ZFld 9 37 27 "ClassOfManyModel" "hadIn" "[I" true ∧ zfk 9 27 = 12 := ⟨⟨TX10, rfl, by decide, by decide, rfl⟩, by decide +kernel⟩
theorem zF_Model_rounds : ZFld 9 37 28 "ClassOfManyModel" "rounds" "I" false ∧ zfk 9 28 = 0 := ⟨⟨TX10, rfl, by decide, by decide, rfl⟩, by decide +kernel⟩
theorem zF_Model_left : ZFld 9 37 29 "ClassOfManyModel" "left" "I" false ∧ zfk 9 29 = 0 := ⟨⟨TX10, rfl, by decide, by decide, rfl⟩, by decide +kernel⟩
theorem zF_Model_pots : ZFld 9 37 30 "ClassOfManyModel" "pots" "[I" true ∧ zfk 9 30 = 13 := ⟨⟨TX10, rfl, by decide, by decide, rfl⟩, by decide +kernel⟩
theorem zF_Model_potClaims : ZFld 9 37 31 "ClassOfManyModel" "potClaims" "[I" true ∧ zfk 9 31 = 14 := ⟨⟨TX10, rfl, by decide, by decide, rfl⟩, by decide +kernel⟩
theorem zF_Model_who : ZFld 9 37 32 "ClassOfManyModel" "who" "[I" true ∧ zfk 9 32 = 15 := ⟨⟨TX10, rfl, by decide, by decide, rfl⟩, by decide +kernel⟩
theorem zF_Model_its : ZFld 9 37 33 "ClassOfManyModel" "its" "[I" true ∧ zfk 9 33 = 16 := ⟨⟨TX10, rfl, by decide, by decide, rfl⟩, by decide +kernel⟩
theorem zF_Model_table : ZFld 9 37 34 "ClassOfManyModel" "table" "[I" true ∧ zfk 9 34 = 17 := ⟨⟨TX10, rfl, by decide, by decide, rfl⟩, by decide +kernel⟩
theorem zF_Model_spelt : ZFld 9 37 35 "ClassOfManyModel" "spelt" "[I" true ∧ zfk 9 35 = 18 := ⟨⟨TX10, rfl, by decide, by decide, rfl⟩, by decide +kernel⟩
theorem zF_Model_speltMany : ZFld 9 37 36 "ClassOfManyModel" "speltMany" "I" false ∧ zfk 9 36 = 0 := ⟨⟨TX10, rfl, by decide, by decide, rfl⟩, by decide +kernel⟩
/-! words of the tables by their places -/
theorem zt1 {w : Cond} (i : Nat) (h : tables_1_1[i]? = some w) (g : goodWord w = true) : w ∈ zTw := List.mem_filter.mpr ⟨List.mem_append_right _ (List.mem_append_left _ (List.mem_of_getElem? h)), g⟩
theorem zt2 {w : Cond} (i : Nat) (h : tables_1_2[i]? = some w) (g : goodWord w = true) : w ∈ zTw := List.mem_filter.mpr ⟨List.mem_append_right _ (List.mem_append_right _ (List.mem_append_left _ (List.mem_of_getElem? h))), g⟩
theorem zt3 {w : Cond} (i : Nat) (h : tables_1_3[i]? = some w) (g : goodWord w = true) : w ∈ zTw := List.mem_filter.mpr ⟨List.mem_append_right _ (List.mem_append_right _ (List.mem_append_right _ (List.mem_append_left _ (List.mem_of_getElem? h)))), g⟩
theorem zt4 {w : Cond} (i : Nat) (h : tables_1_4[i]? = some w) (g : goodWord w = true) : w ∈ zTw := List.mem_filter.mpr ⟨List.mem_append_right _ (List.mem_append_right _ (List.mem_append_right _ (List.mem_append_right _ (List.mem_append_left _ (List.mem_of_getElem? h))))), g⟩
theorem zt5 {w : Cond} (i : Nat) (h : tables_1_5[i]? = some w) (g : goodWord w = true) : w ∈ zTw := List.mem_filter.mpr ⟨List.mem_append_right _ (List.mem_append_right _ (List.mem_append_right _ (List.mem_append_right _ (List.mem_append_right _ (List.mem_append_left _ (List.mem_of_getElem? h)))))), g⟩
theorem zt6 {w : Cond} (i : Nat) (h : tables_1_6[i]? = some w) (g : goodWord w = true) : w ∈ zTw := List.mem_filter.mpr ⟨List.mem_append_right _ (List.mem_append_right _ (List.mem_append_right _ (List.mem_append_right _ (List.mem_append_right _ (List.mem_append_right _ (List.mem_append_left _ (List.mem_of_getElem? h))))))), g⟩
theorem zt7 {w : Cond} (i : Nat) (h : tables_1_7[i]? = some w) (g : goodWord w = true) : w ∈ zTw := List.mem_filter.mpr ⟨List.mem_append_right _ (List.mem_append_right _ (List.mem_append_right _ (List.mem_append_right _ (List.mem_append_right _ (List.mem_append_right _ (List.mem_append_right _ (List.mem_append_left _ (List.mem_of_getElem? h)))))))), g⟩
theorem zt8 {w : Cond} (i : Nat) (h : tables_1_8[i]? = some w) (g : goodWord w = true) : w ∈ zTw := List.mem_filter.mpr ⟨List.mem_append_right _ (List.mem_append_right _ (List.mem_append_right _ (List.mem_append_right _ (List.mem_append_right _ (List.mem_append_right _ (List.mem_append_right _ (List.mem_append_right _ (List.mem_of_getElem? h)))))))), g⟩
/-! the methods' code and names -/
abbrev cX0_init : ByteArray := prog_2_method_1_code
def yX0_init : MethodName := ⟨RX0, "<init>", "()V"⟩
abbrev cX0_keep : ByteArray := prog_2_method_2_code
def yX0_keep : MethodName := ⟨RX0, "keep", "(LClassOfMany$Standing;)V"⟩
abbrev cX0_restore : ByteArray := prog_2_method_3_code
def yX0_restore : MethodName := ⟨RX0, "restore", "(LClassOfMany$Standing;)V"⟩
abbrev cX0_forget : ByteArray := prog_2_method_4_code
def yX0_forget : MethodName := ⟨RX0, "forget", "()V"⟩
abbrev cX1_numbersOf : ByteArray := prog_3_method_2_code
def yX1_numbersOf : MethodName := ⟨RX1, "numbersOf", "(I)I"⟩
abbrev cX1_orderAsTold : ByteArray := prog_3_method_3_code
def yX1_orderAsTold : MethodName := ⟨RX1, "orderAsTold", "(I)I"⟩
abbrev cX1_channelAt : ByteArray := prog_3_method_4_code
def yX1_channelAt : MethodName := ⟨RX1, "channelAt", "(LClassOfMany$Told;II)I"⟩
abbrev cX1_isOrder : ByteArray := prog_3_method_5_code
def yX1_isOrder : MethodName := ⟨RX1, "isOrder", "(LClassOfMany$Told;I)Z"⟩
abbrev cX1_costsBy : ByteArray := prog_3_method_6_code
def yX1_costsBy : MethodName := ⟨RX1, "costsBy", "(LClassOfMany$Told;I)I"⟩
abbrev cX1_costTo : ByteArray := prog_3_method_7_code
def yX1_costTo : MethodName := ⟨RX1, "costTo", "(LClassOfMany$Told;II)I"⟩
abbrev cX1_daysTo : ByteArray := prog_3_method_8_code
def yX1_daysTo : MethodName := ⟨RX1, "daysTo", "(LClassOfMany$Told;II)I"⟩
abbrev cX1_isInTime : ByteArray := prog_3_method_9_code
def yX1_isInTime : MethodName := ⟨RX1, "isInTime", "(LClassOfMany$Told;II)Z"⟩
abbrev cX2_init : ByteArray := prog_4_method_1_code
def yX2_init : MethodName := ⟨RX2, "<init>", "()V"⟩
abbrev cX2_clear : ByteArray := prog_4_method_2_code
def yX2_clear : MethodName := ⟨RX2, "clear", "()V"⟩
abbrev cX2_putOne : ByteArray := prog_4_method_3_code
def yX2_putOne : MethodName := ⟨RX2, "putOne", "(Ljava/lang/String;I)V"⟩
abbrev cX2_putTwo : ByteArray := prog_4_method_4_code
def yX2_putTwo : MethodName := ⟨RX2, "putTwo", "(Ljava/lang/String;II)V"⟩
abbrev cX2_putText : ByteArray := prog_4_method_5_code
def yX2_putText : MethodName := ⟨RX2, "putText", "(Ljava/lang/String;)V"⟩
abbrev cX2_putNumber : ByteArray := prog_4_method_6_code
def yX2_putNumber : MethodName := ⟨RX2, "putNumber", "(I)V"⟩
abbrev cX2_putByte : ByteArray := prog_4_method_7_code
def yX2_putByte : MethodName := ⟨RX2, "putByte", "(I)V"⟩
abbrev cX2_answer : ByteArray := prog_4_method_8_code
def yX2_answer : MethodName := ⟨RX2, "answer", "(I)I"⟩
abbrev cX3_init : ByteArray := prog_5_method_1_code
def yX3_init : MethodName := ⟨RX3, "<init>", "()V"⟩
abbrev cX3_pay : ByteArray := prog_5_method_2_code
def yX3_pay : MethodName := ⟨RX3, "pay", "(LClassOfMany$Splitter;LClassOfMany$Told;LClassOfMany$Standing;)V"⟩
abbrev cX3_gather : ByteArray := prog_5_method_3_code
def yX3_gather : MethodName := ⟨RX3, "gather", "(LClassOfMany$Splitter;LClassOfMany$Told;LClassOfMany$Standing;)V"⟩
abbrev cX3_admit : ByteArray := prog_5_method_4_code
def yX3_admit : MethodName := yPay4
abbrev cX3_fillPots : ByteArray := prog_5_method_5_code
def yX3_fillPots : MethodName := ⟨RX3, "fillPots", "(I)V"⟩
abbrev cX3_weightOf : ByteArray := prog_5_method_6_code
def yX3_weightOf : MethodName := ⟨RX3, "weightOf", "(I)I"⟩
abbrev cX3_weightInAll : ByteArray := prog_5_method_7_code
def yX3_weightInAll : MethodName := ⟨RX3, "weightInAll", "()I"⟩
abbrev cX3_firstSent : ByteArray := prog_5_method_8_code
def yX3_firstSent : MethodName := ⟨RX3, "firstSent", "(I)I"⟩
abbrev cX3_payFirst : ByteArray := prog_5_method_9_code
def yX3_payFirst : MethodName := ⟨RX3, "payFirst", "()Z"⟩
abbrev cX3_payFurther : ByteArray := prog_5_method_10_code
def yX3_payFurther : MethodName := ⟨RX3, "payFurther", "(I)Z"⟩
abbrev cX3_give : ByteArray := prog_5_method_11_code
def yX3_give : MethodName := ⟨RX3, "give", "(III)V"⟩
abbrev cX3_satisfied : ByteArray := prog_5_method_12_code
def yX3_satisfied : MethodName := ⟨RX3, "satisfied", "(I)I"⟩
abbrev cX3_leastNet : ByteArray := prog_5_method_13_code
def yX3_leastNet : MethodName := ⟨RX3, "leastNet", "(LClassOfMany$Splitter;LClassOfMany$Told;LClassOfMany$Standing;)I"⟩
abbrev cX3_nextNet : ByteArray := prog_5_method_14_code
def yX3_nextNet : MethodName := ⟨RX3, "nextNet", "(I)J"⟩
abbrev cX3_netForSent : ByteArray := prog_5_method_15_code
def yX3_netForSent : MethodName := ⟨RX3, "netForSent", "(IJ)J"⟩
abbrev cX3_netForPot : ByteArray := prog_5_method_16_code
def yX3_netForPot : MethodName := ⟨RX3, "netForPot", "(IJ)J"⟩
abbrev cX3_cutUp : ByteArray := prog_5_method_17_code
def yX3_cutUp : MethodName := ⟨RX3, "cutUp", "(JJ)J"⟩
abbrev cX4_init : ByteArray := prog_6_method_1_code
def yX4_init : MethodName := ⟨RX4, "<init>", "()V"⟩
abbrev cX4_putFour : ByteArray := prog_6_method_2_code
def yX4_putFour : MethodName := ⟨RX4, "putFour", "(I)V"⟩
abbrev cX4_read : ByteArray := prog_6_method_3_code
def yX4_read : MethodName := ⟨RX4, "read", "()I"⟩
abbrev cX4_isRight : ByteArray := prog_6_method_4_code
def yX4_isRight : MethodName := ⟨RX4, "isRight", "()Z"⟩
abbrev cX4_fail : ByteArray := prog_6_method_5_code
def yX4_fail : MethodName := ⟨RX4, "fail", "(I)V"⟩
abbrev cX4_readLine : ByteArray := prog_6_method_6_code
def yX4_readLine : MethodName := ⟨RX4, "readLine", "()V"⟩
abbrev cX4_readSort : ByteArray := prog_6_method_7_code
def yX4_readSort : MethodName := ⟨RX4, "readSort", "()I"⟩
abbrev cX4_mayStand : ByteArray := prog_6_method_8_code
def yX4_mayStand : MethodName := ⟨RX4, "mayStand", "(I)Z"⟩
abbrev cX4_readChannel : ByteArray := prog_6_method_9_code
def yX4_readChannel : MethodName := ⟨RX4, "readChannel", "()V"⟩
abbrev cX4_readMember : ByteArray := prog_6_method_10_code
def yX4_readMember : MethodName := ⟨RX4, "readMember", "()V"⟩
abbrev cX4_readReach : ByteArray := prog_6_method_11_code
def yX4_readReach : MethodName := ⟨RX4, "readReach", "()I"⟩
abbrev cX4_readConflict : ByteArray := prog_6_method_12_code
def yX4_readConflict : MethodName := ⟨RX4, "readConflict", "()V"⟩
abbrev cX4_readNumber : ByteArray := prog_6_method_13_code
def yX4_readNumber : MethodName := ⟨RX4, "readNumber", "(II)I"⟩
abbrev cX4_readEnd : ByteArray := prog_6_method_14_code
def yX4_readEnd : MethodName := ⟨RX4, "readEnd", "()V"⟩
abbrev cX4_skipBlanks : ByteArray := prog_6_method_15_code
def yX4_skipBlanks : MethodName := ⟨RX4, "skipBlanks", "()V"⟩
abbrev cX4_wordEnd : ByteArray := prog_6_method_16_code
def yX4_wordEnd : MethodName := ⟨RX4, "wordEnd", "(I)I"⟩
abbrev cX4_isWord : ByteArray := prog_6_method_17_code
def yX4_isWord : MethodName := ⟨RX4, "isWord", "(Ljava/lang/String;II)Z"⟩
abbrev cX4_isLetterAt : ByteArray := prog_6_method_18_code
def yX4_isLetterAt : MethodName := ⟨RX4, "isLetterAt", "(I)Z"⟩
abbrev cX4_isDigitAt : ByteArray := prog_6_method_19_code
def yX4_isDigitAt : MethodName := ⟨RX4, "isDigitAt", "(I)Z"⟩
abbrev cX4_isBlankAt : ByteArray := prog_6_method_20_code
def yX4_isBlankAt : MethodName := ⟨RX4, "isBlankAt", "(I)Z"⟩
abbrev cX5_init : ByteArray := prog_7_method_1_code
def yX5_init : MethodName := ⟨RX5, "<init>", "()V"⟩
abbrev cX5_forget : ByteArray := prog_7_method_2_code
def yX5_forget : MethodName := ⟨RX5, "forget", "()V"⟩
abbrev cX5_isKnown : ByteArray := prog_7_method_3_code
def yX5_isKnown : MethodName := ⟨RX5, "isKnown", "(II)Z"⟩
abbrev cX5_find : ByteArray := prog_7_method_4_code
def yX5_find : MethodName := ⟨RX5, "find", "(LClassOfMany$Splitter;LClassOfMany$Payer;LClassOfMany$Told;LClassOfMany$Standing;II)V"⟩
abbrev cX5_weigh : ByteArray := prog_7_method_5_code
def yX5_weigh : MethodName := ⟨RX5, "weigh", "(IILClassOfMany$Payer;)Z"⟩
abbrev cX5_noneComesIn : ByteArray := prog_7_method_6_code
def yX5_noneComesIn : MethodName := ⟨RX5, "noneComesIn", "(II)Z"⟩
abbrev cX6_init : ByteArray := prog_8_method_1_code
def yX6_init : MethodName := ⟨RX6, "<init>", "()V"⟩
abbrev cX6_take : ByteArray := prog_8_method_2_code
def yX6_take : MethodName := ⟨RX6, "take", "(LClassOfMany$Told;LClassOfMany$Standing;)V"⟩
abbrev cX6_split : ByteArray := prog_8_method_3_code
def yX6_split : MethodName := ⟨RX6, "split", "(LClassOfMany$Told;LClassOfMany$Standing;)V"⟩
abbrev cX6_fitsInto : ByteArray := prog_8_method_4_code
def yX6_fitsInto : MethodName := ⟨RX6, "fitsInto", "(I)Z"⟩
abbrev cX6_place : ByteArray := prog_8_method_5_code
def yX6_place : MethodName := ⟨RX6, "place", "(LClassOfMany$Splitter;II)Z"⟩
abbrev cX6_isGroup : ByteArray := prog_8_method_6_code
def yX6_isGroup : MethodName := ⟨RX6, "isGroup", "(I)Z"⟩
abbrev cX6_groupOf : ByteArray := prog_8_method_7_code
def yX6_groupOf : MethodName := ⟨RX6, "groupOf", "(I)I"⟩
abbrev cX6_isFewerWithout : ByteArray := prog_8_method_8_code
def yX6_isFewerWithout : MethodName := ⟨RX6, "isFewerWithout", "(III)Z"⟩
abbrev cX6_waysInto : ByteArray := prog_8_method_9_code
def yX6_waysInto : MethodName := ⟨RX6, "waysInto", "(I)I"⟩
abbrev cX6_markPeaceful : ByteArray := prog_8_method_10_code
def yX6_markPeaceful : MethodName := ⟨RX6, "markPeaceful", "()V"⟩
abbrev cX6_waysOf : ByteArray := prog_8_method_11_code
def yX6_waysOf : MethodName := ⟨RX6, "waysOf", "(I[I)I"⟩
abbrev cX6_greatestFeud : ByteArray := prog_8_method_12_code
def yX6_greatestFeud : MethodName := ⟨RX6, "greatestFeud", "()I"⟩
abbrev cX6_isFeud : ByteArray := prog_8_method_13_code
def yX6_isFeud : MethodName := ⟨RX6, "isFeud", "(I)Z"⟩
abbrev cX7_init : ByteArray := prog_9_method_1_code
def yX7_init : MethodName := ⟨RX7, "<init>", "()V"⟩
abbrev cX7_clear : ByteArray := prog_9_method_2_code
def yX7_clear : MethodName := ⟨RX7, "clear", "()V"⟩
abbrev cX7_copyFrom : ByteArray := prog_9_method_3_code
def yX7_copyFrom : MethodName := ⟨RX7, "copyFrom", "(LClassOfMany$Standing;)V"⟩
abbrev cX7_isSent : ByteArray := prog_9_method_4_code
def yX7_isSent : MethodName := ⟨RX7, "isSent", "()Z"⟩
abbrev cX7_toggleConflict : ByteArray := prog_9_method_5_code
def yX7_toggleConflict : MethodName := ⟨RX7, "toggleConflict", "(II)V"⟩
abbrev cX7_claimOf : ByteArray := prog_9_method_6_code
def yX7_claimOf : MethodName := ⟨RX7, "claimOf", "(LClassOfMany$Told;I)I"⟩
abbrev cX8_init : ByteArray := prog_10_method_1_code
def yX8_init : MethodName := ⟨RX8, "<init>", "()V"⟩
abbrev cX8_clear : ByteArray := prog_10_method_2_code
def yX8_clear : MethodName := ⟨RX8, "clear", "()V"⟩
abbrev cX8_openLine : ByteArray := prog_10_method_3_code
def yX8_openLine : MethodName := ⟨RX8, "openLine", "(I)V"⟩
abbrev cX8_addNumber : ByteArray := prog_10_method_4_code
def yX8_addNumber : MethodName := ⟨RX8, "addNumber", "(I)V"⟩
abbrev cX9_init : ByteArray := prog_1_method_1_code
def yX9_init : MethodName := ⟨RX9, "<init>", "()V"⟩
abbrev cX9_feed : ByteArray := prog_1_method_2_code
def yX9_feed : MethodName := ⟨RX9, "feed", "(IIIII)I"⟩
abbrev cX9_back : ByteArray := prog_1_method_3_code
def yX9_back : MethodName := ⟨RX9, "back", "(I)I"⟩
abbrev cX9_text : ByteArray := prog_1_method_4_code
def yX9_text : MethodName := ⟨RX9, "text", "()I"⟩
abbrev cX9_remember : ByteArray := prog_1_method_5_code
def yX9_remember : MethodName := ⟨RX9, "remember", "()V"⟩
abbrev cX9_days : ByteArray := prog_1_method_6_code
def yX9_days : MethodName := ⟨RX9, "days", "(I)I"⟩
abbrev cX9_order : ByteArray := prog_1_method_7_code
def yX9_order : MethodName := ⟨RX9, "order", "(I)I"⟩
abbrev cX9_send : ByteArray := prog_1_method_8_code
def yX9_send : MethodName := ⟨RX9, "send", "()I"⟩
abbrev cX9_out : ByteArray := prog_1_method_9_code
def yX9_out : MethodName := ⟨RX9, "out", "(I)I"⟩
abbrev cX9_file : ByteArray := prog_1_method_10_code
def yX9_file : MethodName := ⟨RX9, "file", "(I)I"⟩
abbrev cX9_lazy : ByteArray := prog_1_method_11_code
def yX9_lazy : MethodName := ⟨RX9, "lazy", "(IZ)Z"⟩
abbrev cX9_fund : ByteArray := prog_1_method_12_code
def yX9_fund : MethodName := ⟨RX9, "fund", "(I)I"⟩
abbrev cX9_rule : ByteArray := prog_1_method_13_code
def yX9_rule : MethodName := ⟨RX9, "rule", "(I)I"⟩
abbrev cX9_period : ByteArray := prog_1_method_14_code
def yX9_period : MethodName := ⟨RX9, "period", "(II)I"⟩
abbrev cX9_quarrel : ByteArray := prog_1_method_15_code
def yX9_quarrel : MethodName := ⟨RX9, "quarrel", "(II)I"⟩
abbrev cX9_undo : ByteArray := prog_1_method_16_code
def yX9_undo : MethodName := ⟨RX9, "undo", "()I"⟩
abbrev cX9_member : ByteArray := prog_1_method_17_code
def yX9_member : MethodName := ⟨RX9, "member", "(II)I"⟩
abbrev cX9_channel : ByteArray := prog_1_method_18_code
def yX9_channel : MethodName := ⟨RX9, "channel", "(II)I"⟩
abbrev cX9_reachedThrough : ByteArray := prog_1_method_19_code
def yX9_reachedThrough : MethodName := ⟨RX9, "reachedThrough", "(I)I"⟩
abbrev cX9_line : ByteArray := prog_1_method_20_code
def yX9_line : MethodName := ⟨RX9, "line", "(II)I"⟩
abbrev cX9_ranked : ByteArray := prog_1_method_21_code
def yX9_ranked : MethodName := ⟨RX9, "ranked", "(I)I"⟩
abbrev cX9_rankOf : ByteArray := prog_1_method_22_code
def yX9_rankOf : MethodName := ⟨RX9, "rankOf", "(I)I"⟩
abbrev cX9_together : ByteArray := prog_1_method_23_code
def yX9_together : MethodName := ⟨RX9, "together", "(II)I"⟩
abbrev cX9_busiest : ByteArray := prog_1_method_24_code
def yX9_busiest : MethodName := ⟨RX9, "busiest", "(I)I"⟩
abbrev cX9_claimantsOn : ByteArray := prog_1_method_25_code
def yX9_claimantsOn : MethodName := ⟨RX9, "claimantsOn", "(I)I"⟩
abbrev cX9_splitNow : ByteArray := prog_1_method_26_code
def yX9_splitNow : MethodName := ⟨RX9, "splitNow", "()V"⟩
abbrev cX9_classes : ByteArray := prog_1_method_27_code
def yX9_classes : MethodName := ⟨RX9, "classes", "()I"⟩
abbrev cX9_classOf : ByteArray := prog_1_method_28_code
def yX9_classOf : MethodName := ⟨RX9, "classOf", "(I)I"⟩
abbrev cX9_classBits : ByteArray := prog_1_method_29_code
def yX9_classBits : MethodName := ⟨RX9, "classBits", "(I)I"⟩
abbrev cX9_splits : ByteArray := prog_1_method_30_code
def yX9_splits : MethodName := ⟨RX9, "splits", "(I)I"⟩
abbrev cX9_feud : ByteArray := prog_1_method_31_code
def yX9_feud : MethodName := ⟨RX9, "feud", "()I"⟩
abbrev cX9_settles : ByteArray := prog_1_method_32_code
def yX9_settles : MethodName := ⟨RX9, "settles", "()I"⟩
abbrev cX9_lead : ByteArray := prog_1_method_33_code
def yX9_lead : MethodName := ⟨RX9, "lead", "(I)I"⟩
abbrev cX9_costFor : ByteArray := prog_1_method_34_code
def yX9_costFor : MethodName := ⟨RX9, "costFor", "(I)I"⟩
abbrev cX9_reachFor : ByteArray := prog_1_method_35_code
def yX9_reachFor : MethodName := ⟨RX9, "reachFor", "(II)I"⟩
abbrev cX9_cheapest : ByteArray := prog_1_method_36_code
def yX9_cheapest : MethodName := ⟨RX9, "cheapest", "(II)I"⟩
abbrev cX9_reachedBy : ByteArray := prog_1_method_37_code
def yX9_reachedBy : MethodName := ⟨RX9, "reachedBy", "(I)I"⟩
abbrev cX9_payNow : ByteArray := prog_1_method_38_code
def yX9_payNow : MethodName := ⟨RX9, "payNow", "()V"⟩
abbrev cX9_fundOf : ByteArray := prog_1_method_39_code
def yX9_fundOf : MethodName := ⟨RX9, "fundOf", "(I)I"⟩
abbrev cX9_pot : ByteArray := prog_1_method_40_code
def yX9_pot : MethodName := ⟨RX9, "pot", "(I)I"⟩
abbrev cX9_paid : ByteArray := prog_1_method_41_code
def yX9_paid : MethodName := ⟨RX9, "paid", "(I)I"⟩
abbrev cX9_had : ByteArray := prog_1_method_42_code
def yX9_had : MethodName := ⟨RX9, "had", "(II)I"⟩
abbrev cX9_share : ByteArray := prog_1_method_43_code
def yX9_share : MethodName := ⟨RX9, "share", "()I"⟩
abbrev cX9_votes : ByteArray := prog_1_method_44_code
def yX9_votes : MethodName := ⟨RX9, "votes", "(I)I"⟩
abbrev cX9_paidIfOut : ByteArray := prog_1_method_45_code
def yX9_paidIfOut : MethodName := ⟨RX9, "paidIfOut", "(II)I"⟩
abbrev cX9_paidIfRule : ByteArray := prog_1_method_46_code
def yX9_paidIfRule : MethodName := ⟨RX9, "paidIfRule", "(II)I"⟩
abbrev cX9_wereOut : ByteArray := prog_1_method_47_code
def yX9_wereOut : MethodName := ⟨RX9, "wereOut", "(II)I"⟩
abbrev cX9_wereFund : ByteArray := prog_1_method_48_code
def yX9_wereFund : MethodName := ⟨RX9, "wereFund", "(II)I"⟩
abbrev cX9_wereRule : ByteArray := prog_1_method_49_code
def yX9_wereRule : MethodName := ⟨RX9, "wereRule", "(II)I"⟩
abbrev cX9_ruleFor : ByteArray := prog_1_method_50_code
def yX9_ruleFor : MethodName := ⟨RX9, "ruleFor", "(I)I"⟩
abbrev cX9_leaver : ByteArray := prog_1_method_51_code
def yX9_leaver : MethodName := ⟨RX9, "leaver", "(I)I"⟩
abbrev cX9_alone : ByteArray := prog_1_method_52_code
def yX9_alone : MethodName := ⟨RX9, "alone", "(I)I"⟩
abbrev cX9_needs : ByteArray := prog_1_method_53_code
def yX9_needs : MethodName := ⟨RX9, "needs", "()I"⟩
abbrev cX9_fundFor : ByteArray := prog_1_method_54_code
def yX9_fundFor : MethodName := ⟨RX9, "fundFor", "(I)I"⟩
abbrev cX9_rests : ByteArray := prog_1_method_55_code
def yX9_rests : MethodName := ⟨RX9, "rests", "(III)I"⟩
abbrev cX9_sample : ByteArray := prog_1_method_56_code
def yX9_sample : MethodName := ⟨RX9, "sample", "(II)I"⟩
abbrev cX9_undrawnMember : ByteArray := prog_1_method_57_code
def yX9_undrawnMember : MethodName := ⟨RX9, "undrawnMember", "(II)I"⟩
abbrev cX9_estimate : ByteArray := prog_1_method_58_code
def yX9_estimate : MethodName := ⟨RX9, "estimate", "(I)I"⟩
abbrev cX9_estimateBy : ByteArray := prog_1_method_59_code
def yX9_estimateBy : MethodName := ⟨RX9, "estimateBy", "(I)I"⟩
abbrev cX9_nearest : ByteArray := prog_1_method_60_code
def yX9_nearest : MethodName := ⟨RX9, "nearest", "(II)I"⟩
abbrev cX9_within : ByteArray := prog_1_method_61_code
def yX9_within : MethodName := ⟨RX9, "within", "(II)I"⟩
abbrev cX9_spell : ByteArray := prog_1_method_62_code
def yX9_spell : MethodName := ⟨RX9, "spell", "(I)I"⟩
abbrev cX9_spellMember : ByteArray := prog_1_method_63_code
def yX9_spellMember : MethodName := ⟨RX9, "spellMember", "(I)V"⟩
abbrev cX9_spellConflicts : ByteArray := prog_1_method_64_code
def yX9_spellConflicts : MethodName := ⟨RX9, "spellConflicts", "()V"⟩
abbrev cX9_report : ByteArray := prog_1_method_65_code
def yX9_report : MethodName := ⟨RX9, "report", "(I)I"⟩
abbrev cX9_count : ByteArray := prog_1_method_66_code
def yX9_count : MethodName := ⟨RX9, "count", "(I)I"⟩
abbrev cX9_conflictCount : ByteArray := prog_1_method_67_code
def yX9_conflictCount : MethodName := ⟨RX9, "conflictCount", "()I"⟩
abbrev cX9_everyone : ByteArray := prog_1_method_68_code
def yX9_everyone : MethodName := ⟨RX9, "everyone", "()I"⟩
abbrev cX9_isMember : ByteArray := prog_1_method_69_code
def yX9_isMember : MethodName := ⟨RX9, "isMember", "(I)Z"⟩
abbrev cX9_arePair : ByteArray := prog_1_method_70_code
def yX9_arePair : MethodName := ⟨RX9, "arePair", "(II)Z"⟩
abbrev cX9_isSet : ByteArray := prog_1_method_71_code
def yX9_isSet : MethodName := ⟨RX9, "isSet", "(I)Z"⟩
abbrev cX9_isFund : ByteArray := prog_1_method_72_code
def yX9_isFund : MethodName := ⟨RX9, "isFund", "(I)Z"⟩
abbrev cX9_isRule : ByteArray := prog_1_method_73_code
def yX9_isRule : MethodName := ⟨RX9, "isRule", "(I)Z"⟩
abbrev cX9_isHundredths : ByteArray := prog_1_method_74_code
def yX9_isHundredths : MethodName := ⟨RX9, "isHundredths", "(I)Z"⟩
abbrev cX9_has : ByteArray := prog_1_method_75_code
def yX9_has : MethodName := ⟨RX9, "has", "(II)Z"⟩
abbrev cX9_bitOf : ByteArray := prog_1_method_76_code
def yX9_bitOf : MethodName := ⟨RX9, "bitOf", "(II)I"⟩
abbrev cX9_claimsOf : ByteArray := prog_1_method_77_code
def yX9_claimsOf : MethodName := ⟨RX9, "claimsOf", "(I)I"⟩
abbrev cX9_reachDay : ByteArray := prog_1_method_78_code
def yX9_reachDay : MethodName := ⟨RX9, "reachDay", "(I)I"⟩
abbrev cX9_isReached : ByteArray := prog_1_method_79_code
def yX9_isReached : MethodName := ⟨RX9, "isReached", "(I)Z"⟩
abbrev cX9_netOf : ByteArray := prog_1_method_80_code
def yX9_netOf : MethodName := ⟨RX9, "netOf", "(LClassOfMany$Told;II)I"⟩
abbrev cX9_wordOf : ByteArray := prog_1_method_81_code
def yX9_wordOf : MethodName := ⟨RX9, "wordOf", "(I)Ljava/lang/String;"⟩
abbrev cX10_init : ByteArray := prog_12_method_1_code
def yX10_init : MethodName := ⟨RX10, "<init>", "()V"⟩
abbrev cX10_anew : ByteArray := prog_12_method_3_code
def yX10_anew : MethodName := ⟨RX10, "anew", "()V"⟩
abbrev cX10_isIn : ByteArray := prog_12_method_4_code
def yX10_isIn : MethodName := ⟨RX10, "isIn", "(III)Z"⟩
abbrev cX10_has : ByteArray := prog_12_method_5_code
def yX10_has : MethodName := ⟨RX10, "has", "(II)Z"⟩
abbrev cX10_bits : ByteArray := prog_12_method_6_code
def yX10_bits : MethodName := ⟨RX10, "bits", "(I)I"⟩
abbrev cX10_isMember : ByteArray := prog_12_method_7_code
def yX10_isMember : MethodName := ⟨RX10, "isMember", "(I)Z"⟩
abbrev cX10_all : ByteArray := prog_12_method_8_code
def yX10_all : MethodName := ⟨RX10, "all", "()I"⟩
abbrev cX10_feed : ByteArray := prog_12_method_9_code
def yX10_feed : MethodName := ⟨RX10, "feed", "(IIIII)I"⟩
abbrev cX10_back : ByteArray := prog_12_method_10_code
def yX10_back : MethodName := ⟨RX10, "back", "(I)I"⟩
abbrev cX10_isLetter : ByteArray := prog_12_method_11_code
def yX10_isLetter : MethodName := ⟨RX10, "isLetter", "(I)Z"⟩
abbrev cX10_isDigit : ByteArray := prog_12_method_12_code
def yX10_isDigit : MethodName := ⟨RX10, "isDigit", "(I)Z"⟩
abbrev cX10_wrong : ByteArray := prog_12_method_13_code
def yX10_wrong : MethodName := ⟨RX10, "wrong", "(I)V"⟩
abbrev cX10_nextToken : ByteArray := prog_12_method_14_code
def yX10_nextToken : MethodName := ⟨RX10, "nextToken", "()V"⟩
abbrev cX10_isWord : ByteArray := prog_12_method_15_code
def yX10_isWord : MethodName := ⟨RX10, "isWord", "(J)Z"⟩
abbrev cX10_number : ByteArray := prog_12_method_16_code
def yX10_number : MethodName := ⟨RX10, "number", "(II)I"⟩
abbrev cX10_keepsNumber : ByteArray := prog_12_method_17_code
def yX10_keepsNumber : MethodName := ⟨RX10, "keepsNumber", "(I)V"⟩
abbrev cX10_begins : ByteArray := prog_12_method_18_code
def yX10_begins : MethodName := ⟨RX10, "begins", "(I)V"⟩
abbrev cX10_closes : ByteArray := prog_12_method_19_code
def yX10_closes : MethodName := ⟨RX10, "closes", "()V"⟩
abbrev cX10_once : ByteArray := prog_12_method_20_code
def yX10_once : MethodName := ⟨RX10, "once", "(I)V"⟩
abbrev cX10_readMember : ByteArray := prog_12_method_21_code
def yX10_readMember : MethodName := ⟨RX10, "readMember", "()V"⟩
abbrev cX10_readChannel : ByteArray := prog_12_method_22_code
def yX10_readChannel : MethodName := ⟨RX10, "readChannel", "()V"⟩
abbrev cX10_readConflict : ByteArray := prog_12_method_23_code
def yX10_readConflict : MethodName := ⟨RX10, "readConflict", "()V"⟩
abbrev cX10_quarrels : ByteArray := prog_12_method_24_code
def yX10_quarrels : MethodName := ⟨RX10, "quarrels", "(II)V"⟩
abbrev cX10_readOne : ByteArray := prog_12_method_25_code
def yX10_readOne : MethodName := ⟨RX10, "readOne", "(III)V"⟩
abbrev cX10_readPeriod : ByteArray := prog_12_method_26_code
def yX10_readPeriod : MethodName := ⟨RX10, "readPeriod", "()V"⟩
abbrev cX10_readLine : ByteArray := prog_12_method_27_code
def yX10_readLine : MethodName := ⟨RX10, "readLine", "()V"⟩
abbrev cX10_text : ByteArray := prog_12_method_28_code
def yX10_text : MethodName := ⟨RX10, "text", "()I"⟩
abbrev cX10_firstOrder : ByteArray := prog_12_method_29_code
def yX10_firstOrder : MethodName := ⟨RX10, "firstOrder", "()I"⟩
abbrev cX10_orders : ByteArray := prog_12_method_30_code
def yX10_orders : MethodName := ⟨RX10, "orders", "()I"⟩
abbrev cX10_channelAt : ByteArray := prog_12_method_31_code
def yX10_channelAt : MethodName := ⟨RX10, "channelAt", "(II)I"⟩
abbrev cX10_isOrder : ByteArray := prog_12_method_32_code
def yX10_isOrder : MethodName := ⟨RX10, "isOrder", "(I)Z"⟩
abbrev cX10_waitFor : ByteArray := prog_12_method_33_code
def yX10_waitFor : MethodName := ⟨RX10, "waitFor", "(II)I"⟩
abbrev cX10_costsFor : ByteArray := prog_12_method_34_code
def yX10_costsFor : MethodName := ⟨RX10, "costsFor", "(I)I"⟩
abbrev cX10_costs : ByteArray := prog_12_method_35_code
def yX10_costs : MethodName := ⟨RX10, "costs", "()I"⟩
abbrev cX10_reachedOn : ByteArray := prog_12_method_36_code
def yX10_reachedOn : MethodName := ⟨RX10, "reachedOn", "(I)I"⟩
abbrev cX10_isReached : ByteArray := prog_12_method_37_code
def yX10_isReached : MethodName := ⟨RX10, "isReached", "(I)Z"⟩
abbrev cX10_daysOf : ByteArray := prog_12_method_38_code
def yX10_daysOf : MethodName := ⟨RX10, "daysOf", "(IIII)I"⟩
abbrev cX10_claim : ByteArray := prog_12_method_39_code
def yX10_claim : MethodName := ⟨RX10, "claim", "(I)I"⟩
abbrev cX10_claims : ByteArray := prog_12_method_40_code
def yX10_claims : MethodName := ⟨RX10, "claims", "(I)I"⟩
abbrev cX10_isFree : ByteArray := prog_12_method_41_code
def yX10_isFree : MethodName := ⟨RX10, "isFree", "(II)Z"⟩
abbrev cX10_fits : ByteArray := prog_12_method_42_code
def yX10_fits : MethodName := ⟨RX10, "fits", "(II)Z"⟩
abbrev cX10_divides : ByteArray := prog_12_method_43_code
def yX10_divides : MethodName := ⟨RX10, "divides", "(I)V"⟩
abbrev cX10_inNow : ByteArray := prog_12_method_44_code
def yX10_inNow : MethodName := ⟨RX10, "inNow", "()I"⟩
abbrev cX10_setsNow : ByteArray := prog_12_method_45_code
def yX10_setsNow : MethodName := ⟨RX10, "setsNow", "()V"⟩
abbrev cX10_countedOf : ByteArray := prog_12_method_46_code
def yX10_countedOf : MethodName := ⟨RX10, "countedOf", "(I)I"⟩
abbrev cX10_net : ByteArray := prog_12_method_47_code
def yX10_net : MethodName := ⟨RX10, "net", "()I"⟩
abbrev cX10_countedIn : ByteArray := prog_12_method_48_code
def yX10_countedIn : MethodName := ⟨RX10, "countedIn", "(I)I"⟩
abbrev cX10_potOf : ByteArray := prog_12_method_49_code
def yX10_potOf : MethodName := ⟨RX10, "potOf", "(I)I"⟩
abbrev cX10_sent : ByteArray := prog_12_method_50_code
def yX10_sent : MethodName := ⟨RX10, "sent", "(IJI)I"⟩
abbrev cX10_pays : ByteArray := prog_12_method_51_code
def yX10_pays : MethodName := ⟨RX10, "pays", "()V"⟩
abbrev cX10_lackedByAll : ByteArray := prog_12_method_52_code
def yX10_lackedByAll : MethodName := ⟨RX10, "lackedByAll", "()I"⟩
abbrev cX10_paysNow : ByteArray := prog_12_method_53_code
def yX10_paysNow : MethodName := ⟨RX10, "paysNow", "()V"⟩
abbrev cX10_paidAll : ByteArray := prog_12_method_54_code
def yX10_paidAll : MethodName := ⟨RX10, "paidAll", "(I)I"⟩
abbrev cX10_paysWithout : ByteArray := prog_12_method_55_code
def yX10_paysWithout : MethodName := ⟨RX10, "paysWithout", "(I)V"⟩
abbrev cX10_remembers : ByteArray := prog_12_method_56_code
def yX10_remembers : MethodName := ⟨RX10, "remembers", "()V"⟩
abbrev cX10_put : ByteArray := prog_12_method_57_code
def yX10_put : MethodName := ⟨RX10, "put", "(II)I"⟩
abbrev cX10_days : ByteArray := prog_12_method_58_code
def yX10_days : MethodName := ⟨RX10, "days", "(I)I"⟩
abbrev cX10_order : ByteArray := prog_12_method_59_code
def yX10_order : MethodName := ⟨RX10, "order", "(I)I"⟩
abbrev cX10_send : ByteArray := prog_12_method_60_code
def yX10_send : MethodName := ⟨RX10, "send", "()I"⟩
abbrev cX10_out : ByteArray := prog_12_method_61_code
def yX10_out : MethodName := ⟨RX10, "out", "(I)I"⟩
abbrev cX10_file : ByteArray := prog_12_method_62_code
def yX10_file : MethodName := ⟨RX10, "file", "(I)I"⟩
abbrev cX10_lazy : ByteArray := prog_12_method_63_code
def yX10_lazy : MethodName := ⟨RX10, "lazy", "(IZ)Z"⟩
abbrev cX10_fund : ByteArray := prog_12_method_64_code
def yX10_fund : MethodName := ⟨RX10, "fund", "(I)I"⟩
abbrev cX10_rule : ByteArray := prog_12_method_65_code
def yX10_rule : MethodName := ⟨RX10, "rule", "(I)I"⟩
abbrev cX10_period : ByteArray := prog_12_method_66_code
def yX10_period : MethodName := ⟨RX10, "period", "(II)I"⟩
abbrev cX10_areTwo : ByteArray := prog_12_method_67_code
def yX10_areTwo : MethodName := ⟨RX10, "areTwo", "(II)Z"⟩
abbrev cX10_quarrel : ByteArray := prog_12_method_68_code
def yX10_quarrel : MethodName := ⟨RX10, "quarrel", "(II)I"⟩
abbrev cX10_undo : ByteArray := prog_12_method_69_code
def yX10_undo : MethodName := ⟨RX10, "undo", "()I"⟩
abbrev cX10_member : ByteArray := prog_12_method_70_code
def yX10_member : MethodName := ⟨RX10, "member", "(II)I"⟩
abbrev cX10_channel : ByteArray := prog_12_method_71_code
def yX10_channel : MethodName := ⟨RX10, "channel", "(II)I"⟩
abbrev cX10_line : ByteArray := prog_12_method_72_code
def yX10_line : MethodName := ⟨RX10, "line", "(II)I"⟩
abbrev cX10_ranked : ByteArray := prog_12_method_73_code
def yX10_ranked : MethodName := ⟨RX10, "ranked", "(I)I"⟩
abbrev cX10_isOn : ByteArray := prog_12_method_74_code
def yX10_isOn : MethodName := ⟨RX10, "isOn", "(II)Z"⟩
abbrev cX10_together : ByteArray := prog_12_method_75_code
def yX10_together : MethodName := ⟨RX10, "together", "(II)I"⟩
abbrev cX10_busiest : ByteArray := prog_12_method_76_code
def yX10_busiest : MethodName := ⟨RX10, "busiest", "(I)I"⟩
abbrev cX10_classes : ByteArray := prog_12_method_77_code
def yX10_classes : MethodName := ⟨RX10, "classes", "()I"⟩
abbrev cX10_classOf : ByteArray := prog_12_method_78_code
def yX10_classOf : MethodName := ⟨RX10, "classOf", "(I)I"⟩
abbrev cX10_partBits : ByteArray := prog_12_method_79_code
def yX10_partBits : MethodName := ⟨RX10, "partBits", "(I)I"⟩
abbrev cX10_classBits : ByteArray := prog_12_method_80_code
def yX10_classBits : MethodName := ⟨RX10, "classBits", "(I)I"⟩
abbrev cX10_splits : ByteArray := prog_12_method_81_code
def yX10_splits : MethodName := ⟨RX10, "splits", "(I)I"⟩
abbrev cX10_highest : ByteArray := prog_12_method_82_code
def yX10_highest : MethodName := ⟨RX10, "highest", "([II)I"⟩
abbrev cX10_stands : ByteArray := prog_12_method_83_code
def yX10_stands : MethodName := ⟨RX10, "stands", "(I)Z"⟩
abbrev cX10_feud : ByteArray := prog_12_method_84_code
def yX10_feud : MethodName := ⟨RX10, "feud", "()I"⟩
abbrev cX10_settles : ByteArray := prog_12_method_85_code
def yX10_settles : MethodName := ⟨RX10, "settles", "()I"⟩
abbrev cX10_lead : ByteArray := prog_12_method_86_code
def yX10_lead : MethodName := ⟨RX10, "lead", "(I)I"⟩
abbrev cX10_costFor : ByteArray := prog_12_method_87_code
def yX10_costFor : MethodName := ⟨RX10, "costFor", "(I)I"⟩
abbrev cX10_reachFor : ByteArray := prog_12_method_88_code
def yX10_reachFor : MethodName := ⟨RX10, "reachFor", "(II)I"⟩
abbrev cX10_isSoon : ByteArray := prog_12_method_89_code
def yX10_isSoon : MethodName := ⟨RX10, "isSoon", "(II)Z"⟩
abbrev cX10_cheapest : ByteArray := prog_12_method_90_code
def yX10_cheapest : MethodName := ⟨RX10, "cheapest", "(II)I"⟩
abbrev cX10_reachedBy : ByteArray := prog_12_method_91_code
def yX10_reachedBy : MethodName := ⟨RX10, "reachedBy", "(I)I"⟩
abbrev cX10_fundOf : ByteArray := prog_12_method_92_code
def yX10_fundOf : MethodName := ⟨RX10, "fundOf", "(I)I"⟩
abbrev cX10_pot : ByteArray := prog_12_method_93_code
def yX10_pot : MethodName := ⟨RX10, "pot", "(I)I"⟩
abbrev cX10_paid : ByteArray := prog_12_method_94_code
def yX10_paid : MethodName := ⟨RX10, "paid", "(I)I"⟩
abbrev cX10_had : ByteArray := prog_12_method_95_code
def yX10_had : MethodName := ⟨RX10, "had", "(II)I"⟩
abbrev cX10_share : ByteArray := prog_12_method_96_code
def yX10_share : MethodName := ⟨RX10, "share", "()I"⟩
abbrev cX10_votes : ByteArray := prog_12_method_97_code
def yX10_votes : MethodName := ⟨RX10, "votes", "(I)I"⟩
abbrev cX10_wereOut : ByteArray := prog_12_method_98_code
def yX10_wereOut : MethodName := ⟨RX10, "wereOut", "(II)I"⟩
abbrev cX10_wereFund : ByteArray := prog_12_method_99_code
def yX10_wereFund : MethodName := ⟨RX10, "wereFund", "(II)I"⟩
abbrev cX10_paidBy : ByteArray := prog_12_method_100_code
def yX10_paidBy : MethodName := ⟨RX10, "paidBy", "(II)I"⟩
abbrev cX10_wereRule : ByteArray := prog_12_method_101_code
def yX10_wereRule : MethodName := ⟨RX10, "wereRule", "(II)I"⟩
abbrev cX10_ruleFor : ByteArray := prog_12_method_102_code
def yX10_ruleFor : MethodName := ⟨RX10, "ruleFor", "(I)I"⟩
abbrev cX10_leaver : ByteArray := prog_12_method_103_code
def yX10_leaver : MethodName := ⟨RX10, "leaver", "(I)I"⟩
abbrev cX10_isSet : ByteArray := prog_12_method_104_code
def yX10_isSet : MethodName := ⟨RX10, "isSet", "(I)Z"⟩
abbrev cX10_alone : ByteArray := prog_12_method_105_code
def yX10_alone : MethodName := ⟨RX10, "alone", "(I)I"⟩
abbrev cX10_needs : ByteArray := prog_12_method_106_code
def yX10_needs : MethodName := ⟨RX10, "needs", "()I"⟩
abbrev cX10_rests : ByteArray := prog_12_method_107_code
def yX10_rests : MethodName := ⟨RX10, "rests", "(III)I"⟩
abbrev cX10_sample : ByteArray := prog_12_method_108_code
def yX10_sample : MethodName := ⟨RX10, "sample", "(II)I"⟩
abbrev cX10_estimated : ByteArray := prog_12_method_109_code
def yX10_estimated : MethodName := ⟨RX10, "estimated", "(I)I"⟩
abbrev cX10_offBy : ByteArray := prog_12_method_110_code
def yX10_offBy : MethodName := ⟨RX10, "offBy", "(I)I"⟩
abbrev cX10_estimate : ByteArray := prog_12_method_111_code
def yX10_estimate : MethodName := ⟨RX10, "estimate", "(I)I"⟩
abbrev cX10_nearest : ByteArray := prog_12_method_112_code
def yX10_nearest : MethodName := ⟨RX10, "nearest", "(II)I"⟩
abbrev cX10_within : ByteArray := prog_12_method_113_code
def yX10_within : MethodName := ⟨RX10, "within", "(II)I"⟩
abbrev cX10_spellsByte : ByteArray := prog_12_method_114_code
def yX10_spellsByte : MethodName := ⟨RX10, "spellsByte", "(I)V"⟩
abbrev cX10_spells : ByteArray := prog_12_method_115_code
def yX10_spells : MethodName := ⟨RX10, "spells", "(J)V"⟩
abbrev cX10_spellsNumber : ByteArray := prog_12_method_116_code
def yX10_spellsNumber : MethodName := ⟨RX10, "spellsNumber", "(I)V"⟩
abbrev cX10_spellsOne : ByteArray := prog_12_method_117_code
def yX10_spellsOne : MethodName := ⟨RX10, "spellsOne", "(JI)V"⟩
abbrev cX10_spellsTwo : ByteArray := prog_12_method_118_code
def yX10_spellsTwo : MethodName := ⟨RX10, "spellsTwo", "(JII)V"⟩
abbrev cX10_spelled : ByteArray := prog_12_method_119_code
def yX10_spelled : MethodName := ⟨RX10, "spelled", "(I)I"⟩
abbrev cX10_spellsMember : ByteArray := prog_12_method_120_code
def yX10_spellsMember : MethodName := ⟨RX10, "spellsMember", "(I)V"⟩
abbrev cX10_spell : ByteArray := prog_12_method_121_code
def yX10_spell : MethodName := ⟨RX10, "spell", "(I)I"⟩
abbrev cX10_report : ByteArray := prog_12_method_122_code
def yX10_report : MethodName := ⟨RX10, "report", "(I)I"⟩
abbrev cX10_conflicts : ByteArray := prog_12_method_123_code
def yX10_conflicts : MethodName := ⟨RX10, "conflicts", "()I"⟩
abbrev cX10_count : ByteArray := prog_12_method_124_code
def yX10_count : MethodName := ⟨RX10, "count", "(I)I"⟩
abbrev cJ6_bitCount_0f7a4 : ByteArray := prog_13_method_49_code
def yJ6_bitCount_0f7a4 : MethodName := ⟨RJ6, "bitCount", "(I)I"⟩
abbrev cJ9_abs_0f7a4 : ByteArray := prog_14_method_59_code
def yJ9_abs_0f7a4 : MethodName := ⟨RJ9, "abs", "(I)I"⟩
abbrev cJ9_max_7cf53 : ByteArray := prog_14_method_65_code
def yJ9_max_7cf53 : MethodName := ⟨RJ9, "max", "(II)I"⟩
abbrev cJ9_max_f86c9 : ByteArray := prog_14_method_66_code
def yJ9_max_f86c9 : MethodName := ⟨RJ9, "max", "(JJ)J"⟩
abbrev cJ9_min_7cf53 : ByteArray := prog_14_method_69_code
def yJ9_min_7cf53 : MethodName := ⟨RJ9, "min", "(II)I"⟩
abbrev cJ9_min_f86c9 : ByteArray := prog_14_method_70_code
def yJ9_min_f86c9 : MethodName := ⟨RJ9, "min", "(JJ)J"⟩
abbrev cJ0_length_8abf5 : ByteArray := prog_15_method_54_code
def yJ0_length_8abf5 : MethodName := ⟨RJ0, "length", "()I"⟩
abbrev cJ0_charAt_5068e : ByteArray := prog_15_method_56_code
def yJ0_charAt_5068e : MethodName := ⟨RJ0, "charAt", "(I)C"⟩
abbrev cJ0_coder_7d493 : ByteArray := prog_15_method_152_code
def yJ0_coder_7d493 : MethodName := ⟨RJ0, "coder", "()B"⟩
abbrev cJ0_isLatin1_aae02 : ByteArray := prog_15_method_154_code
def yJ0_isLatin1_aae02 : MethodName := ⟨RJ0, "isLatin1", "()Z"⟩
abbrev cJ0_checkIndex_df160 : ByteArray := prog_15_method_155_code
def yJ0_checkIndex_df160 : MethodName := ⟨RJ0, "checkIndex", "(II)V"⟩
abbrev cJ1_charAt_3b067 : ByteArray := prog_16_method_2_code
def yJ1_charAt_3b067 : MethodName := ⟨RJ1, "charAt", "([BI)C"⟩
abbrev cJ2_getChar_3b067 : ByteArray := prog_17_method_5_code
def yJ2_getChar_3b067 : MethodName := ⟨RJ2, "getChar", "([BI)C"⟩
abbrev cJ2_length_9d52b : ByteArray := prog_17_method_6_code
def yJ2_length_9d52b : MethodName := ⟨RJ2, "length", "([B)I"⟩
abbrev cJ2_charAt_3b067 : ByteArray := prog_17_method_83_code
def yJ2_charAt_3b067 : MethodName := ⟨RJ2, "charAt", "([BI)C"⟩
abbrev cJ2_checkIndex_2214a : ByteArray := prog_17_method_91_code
def yJ2_checkIndex_2214a : MethodName := ⟨RJ2, "checkIndex", "(I[B)V"⟩
abbrev cJ7_fill_53178 : ByteArray := prog_19_method_103_code
def yJ7_fill_53178 : MethodName := ⟨RJ7, "fill", "([II)V"⟩
abbrev cJ3_checkIndex_8e157 : ByteArray := prog_20_method_11_code
def yJ3_checkIndex_8e157 : MethodName := ⟨RJ3, "checkIndex", "(IILjava/util/function/BiFunction;)I"⟩
abbrev cL_law : ByteArray := code
def yL_law : MethodName := ⟨RL, "law", "([I)Z"⟩
