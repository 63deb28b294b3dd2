theorem ykeptc {c : ClassId} {f g : Nat → Option Nat} (h : ∀ j, j < 12 → f j = g j) : vp_cell c (12, Sum.inr (Sum.inr (Sum.inr (Sum.inr f)))) = vp_cell c (12, Sum.inr (Sum.inr (Sum.inr (Sum.inr g)))) := by
  show arrV c 12 (fun j => va_rf (f j)) = arrV c 12 (fun j => va_rf (g j))
  unfold arrV
  have e : (fun j : Fin 12 => va_rf (f j.val)) = (fun j : Fin 12 => va_rf (g j.val)) := funext fun j => by rw [h j.val j.isLt]
  rw [e]
set_option maxHeartbeats 4000000 in
set_option maxRecDepth 100000 in
theorem ybridge {p : Program} {l : Launch} {e : Env} {s : State} {m : MethodId} {below : List Frame} {meth : Method} {c : Code} {b L n : Nat} {xs : Nat → Int32} {D : va_G} {cA : Nat → ClassId} {sk sv v : Nat → Nat} {u : YS} {q r : Nat} (hf : zf_law n L xs zM0 = some 1) (C0 : lw_At p s m meth c b L xs) (hI : ZI D cA s) (hVS : vk_S 13 zLen zByt sk sv (fun q => s.heap.size ≤ q) s s.heap) (hVR : ∀ q ∈ zLdc, vk_R q.1 q.2.1 q.2.2.1 (sk q.2.2.2) s) : YW (p, l, e, room_1, s, m, #[Value.ref b], below, meth, c, lw_Z below #[Value.ref b] s, D, cA, (fun q => s.heap.size ≤ q), 4) 16 [(2, .ref r), (1, .ref q), (0, .ref b)] [] (yp_ClassOfMany cA q u ++ yp_Mod cA r v) 94 23381 := by
  obtain ⟨hx, hb, hr, hml, hown, hts, hX, hbl, hlocks, hgv⟩ := C0
  intro H locs ls hP hD hS hl
  have had : ∀ i, i < 13 → zadF q r u v sk sv (1000 + i) = sk i := fun i hi => by
    unfold zadF
    rw [if_neg (by omega), if_pos (by omega), Nat.add_sub_cancel_left]
  have hav : ∀ i, i < 13 → zadF q r u v sk sv (2000 + i) = sv i := fun i hi => by
    unfold zadF
    rw [if_neg (by omega), if_neg (by omega), Nat.add_sub_cancel_left]
  rw [zpic0 cA q r u v sk sv] at hP hD
  have h77 : zadF q r u v sk sv 77 = r := rfl
  have h00 : zadF q r u v sk sv 0 = q := rfl
  have hkp := ykept q r u v sk sv
  generalize zadF q r u v sk sv = ad at hP hD had hav h77 h00 hkp
  generalize hX9 : (Sum.inl (cA 13, 12, Sum.inr (Sum.inr (Sum.inr (Sum.inr (fun j => if j < 12 then some (u.2.2.2.2.2.2.2.1 (2 + 2 * j)) else none))))) : va_E) = X9 at hP hD
  have hat : ∀ k, k < zn → ∃ e, ((zpic ad cA zM0).set 17 (ad 17, X9))[k]? = some (ad k, e) := by
    intro k hk
    by_cases h : k = 17
    · subst h
      exact ⟨X9, by rw [List.getElem?_set_self (by rw [zpic_len]; exact hk)]⟩
    · exact ⟨_, by rw [List.getElem?_set_ne (Ne.symm h), zpic_at hk]⟩
  have hge : ∀ k, k < zn → s.heap.size ≤ ad k := fun k hk => by
    obtain ⟨e, he⟩ := hat k hk
    exact hD.2 k _ he
  have hinj : ∀ i j, i < zn → j < zn → ad i = ad j → i = j := fun i j hi hj h => by
    obtain ⟨e, he⟩ := hat i hi
    obtain ⟨e', he'⟩ := hat j hj
    exact hD.1 i j _ _ he he' h
  have hP0 : va_P D vwCl (zpic ad cA zM0) H := by
    intro k z hk
    by_cases h : k = 17
    · subst h
      have h17 := hP 17 (ad 17, X9) (by rw [List.getElem?_set_self (by rw [zpic_len]; decide)])
      rw [zpic_at (by decide)] at hk
      have hz := Option.some.inj hk
      subst hz
      subst hX9
      have h18 : H[ad 17]? = some (vp_cell (cA 13) (12, Sum.inr (Sum.inr (Sum.inr (Sum.inr (fun j => if j < 12 then some (u.2.2.2.2.2.2.2.1 (2 + 2 * j)) else none)))))) := h17
      have h19 : va_at D vwCl (ad 17, Sum.inl (cA 13, 12, Sum.inr (Sum.inr (Sum.inr (Sum.inr (fun j => some (ad (17 + 1 + 2 * j)))))))) H := h18.trans (congrArg some (ykeptc (fun j hj => by rw [if_pos hj, hkp j hj])))
      rw [zcE_kept (show zk 17 = (13, 12) by decide +kernel)]
      exact h19
    · exact hP k z (by rw [List.getElem?_set_ne (Ne.symm h)]; exact hk)
  have hZA : ∀ q, ZA ad q → s.heap.size ≤ q := fun q ⟨k, hk, e⟩ => e ▸ hge k hk
  have hVS2 : vk_S zNs zLen zByt (fun i => ad (1000 + i)) (fun i => ad (2000 + i)) (fun q => s.heap.size ≤ q) s s.heap := by
    refine ⟨fun i hi => ?_, fun i j hi hj h => ?_⟩
    · have h1 := hVS.1 i hi
      show va_O _ (ad (1000 + i)) _ s s.heap ∧ va_OF _ _ _ _ (ad (1000 + i)) _ s s.heap ∧ va_OF _ _ _ (.ref (ad (2000 + i))) (ad (1000 + i)) _ s s.heap ∧ va_T _ (ad (2000 + i)) _ _ _ s s.heap
      rw [had i hi, hav i hi]
      exact h1
    · have h' : ad (1000 + i) = ad (1000 + j) := h
      rw [had i hi, had j hj] at h'
      exact hVS.2 i j hi hj h'
  have hs9 := flat_of_before _ hgv
  have hX2 : ZSx ad s s.heap := ⟨hI.2.1, hVS2.narrow hZA, fun z hz => by
      have h1 := hVR z hz
      have h2 : z.2.2.2 < 13 := (show ∀ z ∈ zLdc, z.2.2.2 < 13 by decide +kernel) z hz
      rw [had _ h2]
      exact h1, (va_Zof (hts _ yo_ls) (hts _ (zTw_in _ kw_1_12)) (va_eqi (hs9 _ yf_cs)) (fun a h => Nat.not_le.mpr h)).narrow hZA, ?_⟩
  · let E : ZEnv := (p, l, e, room_1, s, m, #[Value.ref b], below, meth, c, 94, 23381, lw_Z below #[Value.ref b] s, D, ad, cA, 4)
    have hC : ZCx E cL_law R_law 40 := ⟨hx, hb, hml, hown, fun w hw => hts w (zTw_in w hw), hI.1, hinj, hX2, Nat.le_of_ble_eq_true rfl, Nat.le_of_ble_eq_true rfl, Nat.le_of_ble_eq_true rfl, Nat.le_of_ble_eq_true rfl⟩
    have hXs : ZXs E b L xs := ⟨hX, hbl, fun h => absurd (hZA b h) (Nat.not_le.mpr hbl)⟩
    have hR : ∀ (pc : Nat) (lv : List (Nat × Value)) (M : ZMem), decode cL_law pc = .ok (.ireturn, 1) → ZW E pc lv [.int 1] M := by
      intro pc lv M hd H locs ls hP hS hl
      refine va_forget (fun q hq => hZA _ (hS.2.2 q hq)) ?_
      refine W.widen (k := 600000) (n := 7302250) (Nat.le_of_ble_eq_true rfl) (Nat.le_of_ble_eq_true rfl) ?_
      exact lw_ret hx hb hr hlocks hd
    have h16 := zc_law (E := E) rfl hC hXs hR hf
    refine va_forget (fun q hq => hS.2.2 q hq) ?_
    refine h16 H [] ls hP0 ⟨hS.1, fun q h1 h2 => hS.2.1 q h1 (Nat.not_le.mpr h1), fun _ h => by cases h⟩ ?_
    show lv_has ls 4 [(2, .ref (ad 77)), (1, .ref (ad 0)), (0, .ref b)]
    rw [h77, h00]
    exact hl
  · rcases va_Zqof (A := fun q => s.heap.size ≤ q) (hts _ yo_lf) (hts _ (zTw_in _ kw_1_14)) (hs9 _ yf_sf) (fun a h => Nat.not_le.mpr h) with z | ⟨t, z⟩
    · exact Or.inl (z.narrow hZA)
    · exact Or.inr ⟨t, z.narrow hZA⟩
set_option maxHeartbeats 4000000 in
set_option maxRecDepth 100000 in
/-- the law, from its entry, if its function answers 1 -/
theorem whole_open {p : Program} {e : Env} {s : State} {m : MethodId} {below : List Frame} {meth : Method} {c : Code} (l : Launch) {b L : Nat} {xs : Nat → Int32} (hpure : ∃ n, zf_law n L xs zM0 = some 1) (C0 : lw_At p s m meth c b L xs) : W p l e room_1 s m #[Value.ref b] below meth c s.heap [] 0 0 (lw_Z below #[Value.ref b] s) (entryFrame m ([Value.ref b] : List Value).toArray 4) := by
  obtain ⟨n, hf⟩ := hpure
  obtain ⟨hx, hb, hr, hml, hown, hts, hX, hbl, hlocks, hgv⟩ := id C0
  obtain ⟨D, cA, hK⟩ := yK hts
  obtain ⟨sk, sv, hVS, hVR⟩ := ystr hts hgv
  have hI : ZI D cA s := ⟨hK, fun q hq => va_Nw.of rfl (hts _ (yn_all q hq)), va_AO.of (hts _ yo_ao)⟩
  have hl := lv_entry ([Value.ref b]) (n := 4) (Nat.le_of_ble_eq_true rfl)
  rw [lg_entry_eq]
  have hC : YCx (p, l, e, room_1, s, m, #[Value.ref b], below, meth, c, lw_Z below #[Value.ref b] s, D, cA, (fun q => s.heap.size ≤ q), 4) cL_law R_law 40 94 23381 := ⟨hx, hb, hml, hown, fun w hw => hts w (zTw_in w hw), hI, fun _ h => h, Nat.le_of_ble_eq_true rfl, Nat.le_of_ble_eq_true rfl, Nat.le_of_ble_eq_true rfl, Nat.le_of_ble_eq_true rfl⟩
  have key : YW (p, l, e, room_1, s, m, #[Value.ref b], below, meth, c, lw_Z below #[Value.ref b] s, D, cA, (fun q => s.heap.size ≤ q), 4) 0 [(0, .ref b)] [] [] 0 0 := by
    refine yw_new hC (ci := 8) (N := 9) (T := TX9) (C := "ClassOfMany") (fs := [.null, .null, .null, .null, .null, .null, .null, .null, .null]) rfl tyX9 tyX9_ok (fun j hj => by match j, hj with | 0, _ => rfl | 1, _ => rfl | 2, _ => rfl | 3, _ => rfl | 4, _ => rfl | 5, _ => rfl | 6, _ => rfl | 7, _ => rfl | 8, _ => rfl | k + 9, h => exact absurd h (by omega)) kw_1_20 kw_1_21 kw_1_1 (Nat.le_of_ble_eq_true rfl) (Nat.le_of_ble_eq_true rfl) dL_law_0 (fun q => ?_)
    refine yw_dup hC dL_law_3 rfl ?_
    refine yw_callI hC (yc_ClassOfMany (h0 := q)) kw_1_24 kw_1_1 kw_1_22 kw_1_23 rfl (by decide +kernel) (by decide) (by decide) (Nat.le_of_ble_eq_true rfl) dL_law_4 (Nat.le_of_ble_eq_true rfl) (Nat.le_of_ble_eq_true rfl) (fun u => ?_)
    refine yw_astore_n hC (nL := 4) (lv' := [(1, .ref q), (0, .ref b)]) dL_law_7 rfl rfl (by decide) rfl ?_
    refine yw_new hC (ci := 9) (N := 37) (T := TX10) (C := "ClassOfManyModel") (fs := [.int 0, .null, .null, .null, .int 0, .null, .int 0, .int 0, .int 0, .int 0, .int 0, .int 0, .int 0, .null, .null, .null, .int 0, .int 0, .int 0, .null, .int 0, .int 0, .int 0, .int 0, .int 0, .int 0, .null, .null, .int 0, .int 0, .null, .null, .null, .null, .null, .null, .int 0]) rfl tyX10 tyX10_ok (fun j hj => by match j, hj with | 0, _ => rfl | 1, _ => rfl | 2, _ => rfl | 3, _ => rfl | 4, _ => rfl | 5, _ => rfl | 6, _ => rfl | 7, _ => rfl | 8, _ => rfl | 9, _ => rfl | 10, _ => rfl | 11, _ => rfl | 12, _ => rfl | 13, _ => rfl | 14, _ => rfl | 15, _ => rfl | 16, _ => rfl | 17, _ => rfl | 18, _ => rfl | 19, _ => rfl | 20, _ => rfl | 21, _ => rfl | 22, _ => rfl | 23, _ => rfl | 24, _ => rfl | 25, _ => rfl | 26, _ => rfl | 27, _ => rfl | 28, _ => rfl | 29, _ => rfl | 30, _ => rfl | 31, _ => rfl | 32, _ => rfl | 33, _ => rfl | 34, _ => rfl | 35, _ => rfl | 36, _ => rfl | k + 37, h => exact absurd h (by omega)) kw_5_217 kw_5_218 kw_1_10 (Nat.le_of_ble_eq_true rfl) (Nat.le_of_ble_eq_true rfl) dL_law_8 (fun r => ?_)
    refine yw_dup hC dL_law_11 rfl ?_
    refine yw_callI hC (yc_Model (h0 := r)) kw_5_221 kw_1_10 kw_5_219 kw_5_220 rfl (by decide +kernel) (by decide) (by decide) (Nat.le_of_ble_eq_true rfl) dL_law_12 (Nat.le_of_ble_eq_true rfl) (Nat.le_of_ble_eq_true rfl) (fun v => ?_)
    refine yw_astore_n hC (nL := 4) (lv' := [(2, .ref r), (1, .ref q), (0, .ref b)]) dL_law_15 rfl rfl (by decide) rfl ?_
    exact ybridge hf C0 hI hVS hVR
  exact key s.heap [] _ (fun k q h => by simp at h) ⟨fun i j p q h => by simp at h, fun k q h => by simp at h⟩ va_S.rf hl
