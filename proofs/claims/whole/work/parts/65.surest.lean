/-! ===== the surest worth: eight halves ===== -/
theorem iI_loss : ∀ k : Nat, k < 100 → -(nI k) = iI (-(k : Int)) := by decide +kernel
section SW
variable {v : zA} {d p : Nat}
theorem vEw_near (ho : Ok v) (hp : p < 4) (e : Nat) : ∃ x : Int, vEw v p e = iI x ∧ -99 ≤ x ∧ x ≤ 54 := by
  unfold vEw
  split
  · obtain ⟨x, e1, e2, e3⟩ := vWs_near ho hp (m := e) 6 (by omega)
    exact ⟨x, e1, by omega, by omega⟩
  · obtain ⟨e1, e2⟩ := ho.loss.clamp (by decide)
    refine ⟨-((v 1 4).toNatClampNeg : Int), ?_, by omega, by omega⟩
    rw [← iI_loss _ e2, ← e1]; rfl
theorem vGn_near (ho : Ok v) (hp : p < 4) {x : Int32} : ∃ w : Int, vGn v p x 4 = iI w ∧ -99 ≤ w ∧ w ≤ 54 := by
  have hc : ∀ e n, ∃ w : Int, vCt v p x 4 e n = iI w ∧ -99 ≤ w ∧ w ≤ 54 := fun e n => by
    have : vCt v p x 4 e n = vEw v p e := rfl
    rw [this]; exact vEw_near ho hp e
  unfold vGn
  split
  · exact vGm_in (Q := fun z => ∃ w : Int, z = iI w ∧ -99 ≤ w ∧ w ≤ 54) hc _ _ _ _
  · exact hc _ _
theorem zWt_of {A B : zA} (h : zWt A v) (e : B 54 = A 54) : zWt B v := by
  unfold zWt at *
  rw [e]; exact h
theorem cHalves {w : Int} {x : Int32} (ho : Ok v) (hp : p < vP v) (hw : vGn v p x 4 = iI w) (hw1 : -99 ≤ w) (hw2 : w ≤ 54) :
    ∀ k i l m A L, i + k = 8 → (m - l) * 2 ^ i ≤ 153 → -99 ≤ l → l ≤ w → w ≤ m → m ≤ 54 → zv A = v → zWt A v →
    ∃ A' L', zO_surestWorth_1 (d + 8) (nI p) (iI l) (iI m) (nI i) A L = some (some (.int (iI w)), A', L') ∧ (∀ c, c ≠ 56 → A' c = A c) ∧ (∀ c, c ≠ 56 → c ≠ 57 → L' c = L c) := by
  intro k
  induction k with
  | zero =>
    intro i l m A L hi hb h1 h2 h3 h4 hv hwt
    have e : i = 8 := by omega
    subst e
    have : l = w := by omega
    exact ⟨A, L, by rw [zO_surestWorth_1_q, if_pos (by decide), zO_surestWorth_6_q, this], fun _ _ => rfl, fun _ _ _ => rfl⟩
  | succ k ih =>
    intro i l m A L hi hb h1 h2 h3 h4 hv hwt
    rw [zO_surestWorth_1_q, if_neg (nI_g8 (by omega))]
    by_cases hml : m ≤ l
    · have : l = w := by omega
      exact ⟨A, L, by rw [if_pos ((iI_le (by omega) (by omega) (by omega) (by omega)).mpr hml), zO_surestWorth_6_q, this], fun _ _ => rfl, fun _ _ _ => rfl⟩
    · obtain ⟨r, r1, r2⟩ := cWorthSet (d := d + 4) (A := A) (L := L) (y := iI ((l + m + 1) / 2)) ho hwt hp
      obtain ⟨A1, L1, a1, a2, a3⟩ := cEnsuresNow (d := d) (A := A) (L := L) (stuck := decide (iI ((l + m + 1) / 2) ≤ -(vLoss v))) ho hv hp r2
      have hv1 : zv A1 = v := (zv_of (fun c hc => a2 c (by omega))).trans hv
      have hwt1 := zWt_of hwt (a2 54 (by decide))
      have key := vGn_worth (v := v) (p := p) ho (x := x) (y := iI ((l + m + 1) / 2))
      rw [hw, iI_le (by omega) (by omega) (by omega) (by omega)] at key
      have hpow : (m - l) * 2 ^ (i + 1) = 2 * ((m - l) * 2 ^ i) := by rw [Int.pow_succ]; ac_rfl
      have hstep : ∀ a : Int, 2 * a ≤ m - l → a * 2 ^ (i + 1) ≤ 153 := by
        intro a ha
        have h2p : (0 : Int) ≤ 2 ^ i := Int.pow_nonneg (by decide)
        have : (2 * a) * 2 ^ i ≤ (m - l) * 2 ^ i := Int.mul_le_mul_of_nonneg_right ha h2p
        have e : a * 2 ^ (i + 1) = (2 * a) * 2 ^ i := by rw [Int.pow_succ]; ac_rfl
        omega
      have h3' : zO_surestWorth_3 (d + 8) (nI p) (iI l) (iI m) (nI i) (iI ((l + m + 1) / 2)) (nI p) r (if decide (iI ((l + m + 1) / 2) ≤ -(vLoss v)) = true then 1 else 0) A L = if vSn v p (fun e => decide (iI ((l + m + 1) / 2) ≤ vEw v p e)) (decide (iI ((l + m + 1) / 2) ≤ -(vLoss v))) = true then zO_surestWorth_5 (d + 8) (nI p) (iI ((l + m + 1) / 2)) (iI m) (nI i) A1 L1 else zO_surestWorth_4 (d + 8) (nI p) (iI l) (nI i) (iI ((l + m + 1) / 2)) A1 L1 := by
        rw [zO_surestWorth_3_q, a1, zbi_s]
        cases vSn v p (fun e => decide (iI ((l + m + 1) / 2) ≤ vEw v p e)) (decide (iI ((l + m + 1) / 2) ≤ -(vLoss v)))
        · rw [ite_ft, ite_ft, if_pos rfl]
        · rw [ite_tt, ite_tt, if_neg (by decide)]
      have hhead : (if iI m ≤ iI l then zO_surestWorth_6 (d + 8) (iI l) A L else zbi (zJM_floorDiv (d + 7) ((iI l + iI m) + (1)) (2) A L) (fun r1 A1 L1 => zbl (zO_meaningsWorth (d + 7) (nI p) r1 A1 L1) (fun r2 A2 L2 => if (-(A2 1 4)) < r1 then zO_surestWorth_2 (d + 8) (nI p) (iI l) (iI m) (nI i) r1 (nI p) r2 A2 L2 else zO_surestWorth_3 (d + 8) (nI p) (iI l) (iI m) (nI i) r1 (nI p) r2 (1) A2 L2))) = zO_surestWorth_3 (d + 8) (nI p) (iI l) (iI m) (nI i) (iI ((l + m + 1) / 2)) (nI p) r (if decide (iI ((l + m + 1) / 2) ≤ -(vLoss v)) = true then 1 else 0) A L := by
        rw [if_neg (mt (iI_le (by omega) (by omega) (by omega) (by omega)).mp hml), show iI l + iI m + 1 = iI (l + m + 1) by rw [iI_add, show (1 : Int32) = iI 1 from rfl, iI_add], cHalf (by omega) (by omega), zbi_s, r1, zbl_s, zv_c hv 1 (by decide)]
        show (if -(vLoss v) < iI ((l + m + 1) / 2) then _ else _) = _
        by_cases c : iI ((l + m + 1) / 2) ≤ -(vLoss v)
        · rw [if_neg (Int32.not_lt.mpr c), decide_eq_true c, ite_tt]
        · rw [if_pos (Int32.not_le.mp c), decide_eq_false c, ite_ft, zO_surestWorth_2_q]
      have hh := hhead.trans h3'
      by_cases c : vSn v p (fun e => decide (iI ((l + m + 1) / 2) ≤ vEw v p e)) (decide (iI ((l + m + 1) / 2) ≤ -(vLoss v))) = true
      · have hmid := key.mpr c
        obtain ⟨A', L', e1, e2, e3⟩ := ih (i + 1) ((l + m + 1) / 2) m A1 L1 (by omega) (hstep _ (by omega)) (by omega) hmid h3 h4 hv1 hwt1
        refine ⟨A', L', ?_, fun c hc => by rw [e2 c hc, a2 c hc], fun c h1 h2 => by rw [e3 c h1 h2, a3 c h1 h2]⟩
        refine hh.trans ?_
        rw [if_pos c, zO_surestWorth_5_q, nI_1]
        exact e1
      · have hmid : ¬ ((l + m + 1) / 2 ≤ w) := fun h => c (key.mp h)
        obtain ⟨A', L', e1, e2, e3⟩ := ih (i + 1) l ((l + m + 1) / 2 - 1) A1 L1 (by omega) (hstep _ (by omega)) h1 h2 (by omega) (by omega) hv1 hwt1
        refine ⟨A', L', ?_, fun c hc => by rw [e2 c hc, a2 c hc], fun c h1 h2 => by rw [e3 c h1 h2, a3 c h1 h2]⟩
        refine hh.trans ?_
        have hm1 : iI ((l + m + 1) / 2) - 1 = iI ((l + m + 1) / 2 - 1) := (Int32.ofInt_sub ((l + m + 1) / 2) 1).symm
        rw [if_neg c, zO_surestWorth_4_q, hm1, zO_surestWorth_5_q, nI_1]
        exact e1
end SW
