theorem yf_ex : ∀ i, i < 13 → Cond.exactly (yTm i) "java/lang/String" ∈ yFl := by decide +kernel
theorem yf_co : ∀ i, i < 13 → Cond.eq (.field (yTm i) "java/lang/String" "coder" "B") (.int 0) ∈ yFl := by decide +kernel
theorem yf_ar : ∀ i, i < 13 → Cond.arrayOf (.field (yTm i) "java/lang/String" "value" "[B") .byte ∈ yFl := by decide +kernel
theorem yf_le : ∀ i, i < 13 → Cond.eq (.length (.field (yTm i) "java/lang/String" "value" "[B")) (.int (Int32.ofNat (zLen.getD i 0))) ∈ yFl := by decide +kernel
theorem yf_el : ∀ i, i < 13 → ∀ j, j < zLen.getD i 0 → Cond.eq (.elem (.field (yTm i) "java/lang/String" "value" "[B") (.int (Int32.ofNat j))) (.int ((zByt.getD i []).getD j 0)) ∈ yFl := by decide +kernel
theorem yf_ne_0 : ∀ j, j < 13 → 0 < j → Cond.not (Cond.eq (yTm 0) (yTm j)) ∈ yFl ∨ Cond.not (Cond.eq (yTm j) (yTm 0)) ∈ yFl := by decide +kernel
theorem yf_ne_1 : ∀ j, j < 13 → 1 < j → Cond.not (Cond.eq (yTm 1) (yTm j)) ∈ yFl ∨ Cond.not (Cond.eq (yTm j) (yTm 1)) ∈ yFl := by decide +kernel
theorem yf_ne_2 : ∀ j, j < 13 → 2 < j → Cond.not (Cond.eq (yTm 2) (yTm j)) ∈ yFl ∨ Cond.not (Cond.eq (yTm j) (yTm 2)) ∈ yFl := by decide +kernel
theorem yf_ne_3 : ∀ j, j < 13 → 3 < j → Cond.not (Cond.eq (yTm 3) (yTm j)) ∈ yFl ∨ Cond.not (Cond.eq (yTm j) (yTm 3)) ∈ yFl := by decide +kernel
theorem yf_ne_4 : ∀ j, j < 13 → 4 < j → Cond.not (Cond.eq (yTm 4) (yTm j)) ∈ yFl ∨ Cond.not (Cond.eq (yTm j) (yTm 4)) ∈ yFl := by decide +kernel
theorem yf_ne_5 : ∀ j, j < 13 → 5 < j → Cond.not (Cond.eq (yTm 5) (yTm j)) ∈ yFl ∨ Cond.not (Cond.eq (yTm j) (yTm 5)) ∈ yFl := by decide +kernel
theorem yf_ne_6 : ∀ j, j < 13 → 6 < j → Cond.not (Cond.eq (yTm 6) (yTm j)) ∈ yFl ∨ Cond.not (Cond.eq (yTm j) (yTm 6)) ∈ yFl := by decide +kernel
theorem yf_ne_7 : ∀ j, j < 13 → 7 < j → Cond.not (Cond.eq (yTm 7) (yTm j)) ∈ yFl ∨ Cond.not (Cond.eq (yTm j) (yTm 7)) ∈ yFl := by decide +kernel
theorem yf_ne_8 : ∀ j, j < 13 → 8 < j → Cond.not (Cond.eq (yTm 8) (yTm j)) ∈ yFl ∨ Cond.not (Cond.eq (yTm j) (yTm 8)) ∈ yFl := by decide +kernel
theorem yf_ne_9 : ∀ j, j < 13 → 9 < j → Cond.not (Cond.eq (yTm 9) (yTm j)) ∈ yFl ∨ Cond.not (Cond.eq (yTm j) (yTm 9)) ∈ yFl := by decide +kernel
theorem yf_ne_10 : ∀ j, j < 13 → 10 < j → Cond.not (Cond.eq (yTm 10) (yTm j)) ∈ yFl ∨ Cond.not (Cond.eq (yTm j) (yTm 10)) ∈ yFl := by decide +kernel
theorem yf_ne_11 : ∀ j, j < 13 → 11 < j → Cond.not (Cond.eq (yTm 11) (yTm j)) ∈ yFl ∨ Cond.not (Cond.eq (yTm j) (yTm 11)) ∈ yFl := by decide +kernel
theorem yf_lt : ∀ i, i < 13 → ∀ j, j < 13 → i < j → Cond.not (Cond.eq (yTm i) (yTm j)) ∈ yFl ∨ Cond.not (Cond.eq (yTm j) (yTm i)) ∈ yFl := by
  intro i hi j hj h
  match i, hi, h with
  | 0, _, h => exact yf_ne_0 j hj h
  | 1, _, h => exact yf_ne_1 j hj h
  | 2, _, h => exact yf_ne_2 j hj h
  | 3, _, h => exact yf_ne_3 j hj h
  | 4, _, h => exact yf_ne_4 j hj h
  | 5, _, h => exact yf_ne_5 j hj h
  | 6, _, h => exact yf_ne_6 j hj h
  | 7, _, h => exact yf_ne_7 j hj h
  | 8, _, h => exact yf_ne_8 j hj h
  | 9, _, h => exact yf_ne_9 j hj h
  | 10, _, h => exact yf_ne_10 j hj h
  | 11, _, h => exact yf_ne_11 j hj h
  | 12, _, h => exact absurd h (by omega)
  | k + 13, h, _ => exact absurd h (by omega)
theorem yf_ne : ∀ i, i < 13 → ∀ j, j < 13 → i ≠ j → Cond.not (Cond.eq (yTm i) (yTm j)) ∈ yFl ∨ Cond.not (Cond.eq (yTm j) (yTm i)) ∈ yFl := by
  intro i hi j hj h
  rcases Nat.lt_or_gt_of_ne h with g | g
  · exact yf_lt i hi j hj g
  · exact (yf_lt j hj i hi g).symm
theorem yf_semi : Cond.eq (Term.string "ClassOfMany$Page" 27) (Term.string "ClassOfMany" 424) ∈ yFl := by decide +kernel
theorem yf_cs : Cond.eq (Term.static "java/lang/String" "COMPACT_STRINGS" "Z") (.int 1) ∈ yFl := by decide +kernel
theorem yf_sf : Cond.isRef (Term.static "jdk/internal/util/Preconditions" "SIOOBE_FORMATTER" "Ljava/util/function/BiFunction;") ∈ yFl := by decide +kernel
theorem yf_len : ∀ i, i < 13 → zLen.getD i 0 < 2 ^ 31 := by decide +kernel
set_option maxRecDepth 100000 in
theorem ystr {s : State} {b : Nat} (hts : ∀ w ∈ lw_tbl, w.before #[Value.ref b] s = true) (hgv : (Jvm.Cond.and given_1 narrow_1).before #[Value.ref b] s = true) : ∃ sk sv : Nat → Nat, vk_S 13 zLen zByt sk sv (fun q => s.heap.size ≤ q) s s.heap ∧ (∀ q ∈ zLdc, vk_R q.1 q.2.1 q.2.2.1 (sk q.2.2.2) s) := by
  have hs := flat_of_before _ hgv
  obtain ⟨sk, sv, hS, he⟩ := vk_Sof (N := 13) (tm := yTm) (len := zLen) (byt := zByt) (A := fun q => s.heap.size ≤ q) yf_len (fun i hi => hs _ (yf_ex i hi)) (fun i hi => hs _ (yf_co i hi)) (fun i hi => hs _ (yf_ar i hi)) (fun i hi => hs _ (yf_le i hi)) (fun i hi j hj => hs _ (yf_el i hi j hj)) (fun i j hi hj h => (yf_ne i hi j hj h).imp (hs _) (hs _)) (fun a h => Nat.not_le.mpr h)
  have h9 := va_eqR (hs _ yf_semi) (he 9 (by decide))
  exact ⟨sk, sv, hS, List.forall_mem_cons.mpr ⟨⟨hts _ yr_C_433, he 0 (by decide)⟩, List.forall_mem_cons.mpr ⟨⟨hts _ yr_C_434, he 1 (by decide)⟩, List.forall_mem_cons.mpr ⟨⟨hts _ yr_C_435, he 2 (by decide)⟩, List.forall_mem_cons.mpr ⟨⟨hts _ yr_C_436, he 3 (by decide)⟩, List.forall_mem_cons.mpr ⟨⟨hts _ yr_C_437, he 4 (by decide)⟩, List.forall_mem_cons.mpr ⟨⟨hts _ yr_C_439, he 5 (by decide)⟩, List.forall_mem_cons.mpr ⟨⟨hts _ yr_C_441, he 6 (by decide)⟩, List.forall_mem_cons.mpr ⟨⟨hts _ yr_C_443, he 7 (by decide)⟩, List.forall_mem_cons.mpr ⟨⟨hts _ yr_CReader_163, he 8 (by decide)⟩, List.forall_mem_cons.mpr ⟨⟨hts _ yr_CPage_27, he 9 (by decide)⟩, List.forall_mem_cons.mpr ⟨⟨hts _ yr_C_422, he 10 (by decide)⟩, List.forall_mem_cons.mpr ⟨⟨hts _ yr_C_424, h9⟩, List.forall_mem_cons.mpr ⟨⟨hts _ yr_C_426, he 11 (by decide)⟩, List.forall_mem_cons.mpr ⟨⟨hts _ yr_C_428, he 12 (by decide)⟩, fun _ h => absurd h List.not_mem_nil⟩⟩⟩⟩⟩⟩⟩⟩⟩⟩⟩⟩⟩⟩⟩
