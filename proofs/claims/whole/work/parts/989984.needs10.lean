/-! LAYER 2: the reference tries FUND by FUND -/
/-- but for the FUND two rows are the same -/
theorem fq_row {r : ZRow} (v : Nat) : SQ r (zat r 2 v) ∧ zat r 2 v 0 = r 0 ∧ zat r 2 v 4 = r 4 ∧ zat r 2 v 9 = r 9 ∧ zat r 2 v 12 = r 12 ∧ zat r 2 v 13 = r 13 ∧ zat r 2 v 14 = r 14 := ⟨sq_at (by omega), zat_ne (by omega), zat_ne (by omega), zat_ne (by omega), zat_ne (by omega), zat_ne (by omega), zat_ne (by omega)⟩
theorem f2_claim {r : ZRow} (v : Nat) : zclaim (zat r 2 v) = zclaim r := by
  funext i
  exact sq_claim (fq_row v).1 i
theorem f2_in {r : ZRow} (v : Nat) : zin (zat r 2 v) = zin r := by
  obtain ⟨a, b, c, d, e, f, g⟩ := fq_row (r := r) v
  unfold zin
  rw [b, e]
theorem f2_dv {r : ZRow} (v : Nat) : zdv (zat r 2 v) (zin (zat r 2 v)) = zdv r (zin r) := by rw [sq_dv (fq_row v).1, f2_in]
theorem f2_part {r : ZRow} (v : Nat) : zpart (zat r 2 v) = zpart r := by
  funext i
  unfold zpart
  rw [f2_dv]
theorem f2_parts {r : ZRow} (v : Nat) : zparts (zat r 2 v) = zparts r := by
  unfold zparts
  rw [f2_dv]
theorem f2_cnt {r : ZRow} (v : Nat) : zcnt (zat r 2 v) = zcnt r := by
  obtain ⟨a, b, c, d, e, f, g⟩ := fq_row (r := r) v
  funext i
  unfold zcnt
  rw [e, f, f2_claim]
theorem f2_cntS {r : ZRow} (v : Nat) : zcntS (zat r 2 v) = zcntS r := by
  obtain ⟨a, b, c, d, e, f, g⟩ := fq_row (r := r) v
  unfold zcntS
  rw [f2_cnt, b]
theorem f2_hun {r : ZRow} (v : Nat) : zhun (zat r 2 v) = zhun r := by
  obtain ⟨a, b, c, d, e, f, g⟩ := fq_row (r := r) v
  funext i
  unfold zhun
  rw [g, f2_cnt]
theorem f2_gc {r : ZRow} (v : Nat) : zgc (zat r 2 v) = zgc r := by
  obtain ⟨a, b, c, d, e, f, g⟩ := fq_row (r := r) v
  funext k
  unfold zgc
  rw [b, f2_cnt, f2_part, f2_claim]
theorem f2_gh {r : ZRow} (v : Nat) : zgh (zat r 2 v) = zgh r := by
  obtain ⟨a, b, c, d, e, f, g⟩ := fq_row (r := r) v
  funext k
  unfold zgh
  rw [b, f2_cnt, f2_part]
theorem f2_ca {r : ZRow} (v : Nat) : zca (zat r 2 v) = zca r := by
  obtain ⟨a, b, c, d, e, f, g⟩ := fq_row (r := r) v
  unfold zca
  rw [b, f2_cnt, f2_claim]
theorem f2_hd {r : ZRow} (v : Nat) : zhd (zat r 2 v) = zhd r := by
  obtain ⟨a, b, c, d, e, f, g⟩ := fq_row (r := r) v
  unfold zhd
  rw [b, f2_cnt]
theorem f2_gp {r : ZRow} (v : Nat) : zgp (zat r 2 v) = zgp r := by
  unfold zgp
  rw [f2_gh]
theorem f2_wt {r : ZRow} (v : Nat) : zwt (zat r 2 v) = zwt r := by
  obtain ⟨a, b, c, d, e, f, g⟩ := fq_row (r := r) v
  funext k
  unfold zwt
  rw [d, f2_gc, f2_gh]
theorem f2_wa {r : ZRow} (v : Nat) : zwa (zat r 2 v) = zwa r := by
  obtain ⟨a, b, c, d, e, f, g⟩ := fq_row (r := r) v
  unfold zwa
  rw [d, f2_ca, f2_hd, f2_gp]
theorem f2_pot {r : ZRow} (v : Nat) : zpotF (zat r 2 v) = zpotF r := by
  funext x k
  unfold zpotF
  rw [f2_gh, f2_wt, f2_wa]
theorem f2_least {r : ZRow} (v : Nat) : zleastOf (zat r 2 v) = zleastOf r := by
  obtain ⟨a, b, c, d, e, f, g⟩ := fq_row (r := r) v
  funext x
  unfold zleastOf
  rw [c]
theorem f2_fst {r : ZRow} (v : Nat) : zfst (zat r 2 v) = zfst r := by
  funext x i
  unfold zfst
  rw [f2_least, f2_claim, f2_pot, f2_part, f2_gc]
theorem f2_lack {r : ZRow} (v : Nat) : zlack (zat r 2 v) = zlack r := by
  obtain ⟨a, b, c, d, e, f, g⟩ := fq_row (r := r) v
  funext p
  unfold zlack
  rw [b, f2_hun, f2_claim]
theorem f2_fur {r : ZRow} (v : Nat) : zfur (zat r 2 v) = zfur r := by
  funext p left i
  unfold zfur
  rw [f2_least, f2_claim, f2_lack]
theorem f2_snt {r : ZRow} (v : Nat) : zsnt (zat r 2 v) = zsnt r := by
  funext x k p left go i
  unfold zsnt
  rw [f2_hun, f2_fst, f2_fur]
theorem zrnd_s (q : ZRow) (v k : Nat) : zrnd q v (k + 1) = (fun i => (zrnd q v k).1 i + zsnt q v k (zrnd q v k).1 (zrnd q v k).2.1 (zrnd q v k).2.2 i, (zrnd q v k).2.1 - zsum (zsnt q v k (zrnd q v k).1 (zrnd q v k).2.1 (zrnd q v k).2.2) (q 0), (zrnd q v k).2.2 && decide (0 < zsum (zsnt q v k (zrnd q v k).1 (zrnd q v k).2.1 (zrnd q v k).2.2) (q 0))) := rfl
theorem f2_rnd {r : ZRow} (v x : Nat) : ∀ k, zrnd (zat r 2 v) x k = zrnd r x k
  | 0 => rfl
  | k + 1 => by
    obtain ⟨a, b, c, d, e, f, g⟩ := fq_row (r := r) v
    rw [zrnd_s, zrnd_s, f2_rnd v x k, f2_snt, b]
theorem f2_paid {r : ZRow} (v x i : Nat) : zpaidF (zat r 2 v) x i = zpaidF r x i := by
  unfold zpaidF
  rw [f2_rnd]
theorem f2_net {r : ZRow} (h0 : r 0 ≤ 10) (v : Nat) : znet (zat r 2 v) = znetF r v := by
  unfold znet znetF
  rw [zat_eq, zat_ne (show 3 ≠ 2 by omega), sq_cost (fq_row v).1 h0]
theorem rq_fund {M : ZMem} {r : ZRow} {v v' : Nat} (h : RQ M r (zat r 2 v)) : RQ (zwr M 77 24 (nI v')) r (zat r 2 v') := by
  obtain ⟨q1, q2, q3, q4, q5, q6, q7⟩ := h
  refine ⟨q1.congr (wrn (by omega)), ?_, fun i hi => ?_, ?_, ?_, ?_, ?_⟩
  · rw [wrj (by omega), q2, f2_parts, f2_parts]
  · rw [wrn (by omega), q3 i hi, f2_in, f2_in, f2_part, f2_part, zat_ne (by omega), zat_ne (by omega)]
  · rw [wrj (by omega), q4, f2_cntS, f2_cntS]
  · rw [wrj (by omega), q5, zat_ne (by omega), zat_ne (by omega)]
  · rw [wre, zat_eq]
  · rw [wrj (by omega), q7, zat_ne (by omega), zat_ne (by omega)]
theorem zat_same (r : ZRow) (p : Nat) : zat r p (r p) = r := by
  funext j
  unfold zat
  by_cases h : j = p
  · rw [if_pos h, h]
  · rw [if_neg h]
theorem hunS_and {r : ZRow} (hw : WF r) : zcntS r &&& (r 14 ^^^ 1023) = zhunS r := by
  refine tb_ext (n := 10) (andn_lt (zcntS_lt hw.1)) (zhunS_lt hw.1) (fun i hi => ?_)
  rw [andn_tb hi]
  unfold zcntS zhunS zhun
  rw [zset_tb, zset_tb]
  by_cases g : i < r 0
  · rw [decide_eq_true g, Bool.true_and, Bool.true_and]
  · rw [decide_eq_false g, Bool.false_and, Bool.false_and, Bool.false_and]
theorem claims_hun {r : ZRow} : zclaims r (zhunS r) = zcH r := zsum_congr (fun i hi => by rw [zhunS_tb hi])
theorem needs10 {M : ZMem} {r : ZRow} {n : Nat} (h : IR M r) (hg : GD r) (hn : 400000000001 < n) : ∃ M1, zf_X10_needs n M = some (zans (zfnd (zokF r) 100000 0), M1) ∧ F10 M M1 := by
  have hw := hg.1
  have hb := hw.b
  obtain ⟨M0, a1, a2, a3, a4⟩ := setsNow10 (n := n) h hg hn
  have hhl := zhunS_lt (q := r) hw.1
  have hwh : (M0 77 22) &&& ((M0 77 23) ^^^ (-1 : Int32)) = nI (zhunS r) := by
    rw [a2.2.2.2.1, a2.2.2.2.2.1, nI_andn (zcntS_lt hw.1) (by omega), hunS_and hw]
  have hcl := zcH_le hw
  have key : ∀ d v m (A : ZMem) v0, v + d = 100000 → d < m → RQ A r (zat r 2 v0) → F10 M A → ∃ M1, zf_X10_needs_L18 n M0 (fun M39 => some ((-2 : Int32), M39)) m (nI v) A = some (zans (zfnd (zokF r) d v), M1) ∧ F10 M M1 := by
    intro d
    induction d with
    | zero =>
      intro v m A v0 hv hm hQ hF
      obtain ⟨m, rfl⟩ : ∃ y, m = y + 1 := ⟨m - 1, by omega⟩
      refine ⟨A, ?_, hF⟩
      rw [zf_X10_needs_L18, show (99999 : Int32) = nI 99999 from rfl, zi_lt (by omega) (by omega), if_pos (by omega)]
      rfl
    | succ d ih =>
      intro v m A v0 hv hm hQ hF
      obtain ⟨m, rfl⟩ : ∃ y, m = y + 1 := ⟨m - 1, by omega⟩
      have hQ1 : RQ (zwr A 77 24 (nI v)) r (zat r 2 v) := rq_fund hQ
      have hF1 : F10 M (zwr A 77 24 (nI v)) := hF.trans (f10_77 (by omega))
      have hgq : GD (zat r 2 v) := hg.put 2 v (by simp; omega)
      have hr : RG r (zat r 2 v) := ⟨hg, hgq, (fq_row v).1⟩
      have hnet := net10 (n := n) hQ1 hr (by omega)
      rw [f2_net hw.1] at hnet
      have hnl : znetF r v ≤ 99999 := by unfold znetF; omega
      have hc1 := claims10 (n := n) hQ1.1 hw hhl (by omega)
      rw [claims_hun] at hc1
      rw [zf_X10_needs_L18, show (99999 : Int32) = nI 99999 from rfl, zi_lt (by omega) (by omega), if_neg (by omega), zput_at, hwh, zb1_at hnet, zb1_at hc1, zi_le (by omega) (by omega), zfnd_s]
      unfold zf_X10_needs_j63
      by_cases c1 : zcH r ≤ znetF r v
      · obtain ⟨B, b1, b2, b3, b4⟩ := pays10 (n := n) hQ1 hr (by omega)
        have hF2 : F10 M B := hF1.trans (fq_f10 b4)
        have hpa := paidAll10 (n := n) (a := zhunS r) b3.1 hw (rme_rd b2).1 hhl (by omega)
        have hpe : zsum (fun i => if (zhunS r).testBit i then zpaid (zat r 2 v) i else 0) (r 0) = zgot r (znetF r v) := zsum_congr (fun i hi => by
          rw [zhunS_tb hi]
          unfold zpaid
          rw [f2_net hw.1, f2_paid])
        rw [hpe] at hpa
        have hgl : zgot r (znetF r v) ≤ zcH r := zsum_mono (fun i hi => by
          show (if zhun r i = true then zpaidF r (znetF r v) i else 0) ≤ (if zhun r i = true then zclaim r i else 0)
          split
          · exact zpk_le 9 i
          · exact Nat.le_refl _)
        have hc2 := claims10 (n := n) b3.1 hw hhl (by omega)
        rw [claims_hun] at hc2
        rw [if_pos c1, zb1_at b1, zb1_at hpa, zb1_at hc2, zi_eq (by omega) (by omega)]
        by_cases c2 : zgot r (znetF r v) = zcH r
        · have e2 : zokF r v = true := by unfold zokF; rw [decide_eq_true c1, decide_eq_true c2]; rfl
          rw [if_pos c2, e2, if_pos rfl]
          exact ⟨B, rfl, hF2⟩
        · have e2 : zokF r v = false := by unfold zokF; rw [decide_eq_false c2, Bool.and_false]
          rw [if_neg c2, e2, if_neg (by decide), nI_1]
          exact ih (v + 1) m B v (by omega) (by omega) b3 hF2
      · have e2 : zokF r v = false := by unfold zokF; rw [decide_eq_false c1, Bool.false_and]
        rw [if_neg c1, e2, if_neg (by decide), nI_1]
        exact ih (v + 1) m (zwr A 77 24 (nI v)) v (by omega) (by omega) hQ1 hF1
  obtain ⟨M1, c1, c2⟩ := key 100000 0 n M0 (r 2) (by omega) (by omega) (by rw [zat_same]; exact a2) a4
  refine ⟨M1, ?_, c2⟩
  unfold zf_X10_needs
  rw [zb1_at a1]
  exact c1
theorem op_needs {n : Nat} (hn : 400000000001 < n) {M : ZMem} (hI : INV M) : OPW (zf_X9_needs n) (zf_X10_needs n) M := by
  obtain ⟨t, nx, r, u, U, T, L, hS, hC, hM⟩ := hI
  exact OPW.scr hS hC hM (zans (zfnd (zokF r) 100000 0)) (needs9 hC hS.1 (by omega)) (fun M1 hM1 => needs10 hM1.1 hS.1 hn)
