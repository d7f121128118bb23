/-! ===== the meanings in a row ===== -/
/-- the place of the one of which so many are before it -/
def zfd (f : Nat → Bool) (i : Int32) : Nat → Nat → Int32
  | 0, _ => -9
  | q + 1, k => if f k && decide (i = nI (zpc f k)) then nI k else zfd f i q (k + 1)
theorem zfd_s {f : Nat → Bool} {i : Int32} {q k : Nat} : zfd f i (q + 1) k = if f k && decide (i = nI (zpc f k)) then nI k else zfd f i q (k + 1) := rfl
def zmn (f : Nat → Bool) (i : Int32) : Int32 := if i = -1 then nI (zpc f 64) else zfd f i 64 0
theorem zsub0 (i c : Int32) : (i - c = 0) ↔ i = c := by
  rw [← Int32.toBitVec_inj, ← Int32.toBitVec_inj, Int32.toBitVec_sub]
  show i.toBitVec - c.toBitVec = 0#32 ↔ _
  constructor
  · intro h; bv_omega
  · intro h; bv_omega
theorem zsub1 (i : Int32) (c : Nat) : i - nI c + (-1) = i - nI (c + 1) := by
  rw [← nI_1, ← Int32.toBitVec_inj, Int32.toBitVec_add, Int32.toBitVec_sub, Int32.toBitVec_sub, Int32.toBitVec_add]
  show i.toBitVec - (nI c).toBitVec + (-1 : Int32).toBitVec = i.toBitVec - ((nI c).toBitVec + (1 : Int32).toBitVec)
  rw [show (-1 : Int32).toBitVec = -1#32 by decide, show (1 : Int32).toBitVec = 1#32 by decide]
  bv_omega
section MN
variable {v A : zA} {L : zL} {d : Nat}
theorem cBitInRow1 {x : Int64} {i : Int32} : ∀ q k, k + q = 64 → zX_bitInRow_1 d x (i - nI (zpc (lb x) k)) (nI k) A L = some (some (.int (zfd (lb x) i q k)), A, L) := by
  intro q
  induction q with
  | zero =>
    intro k hk
    have e : k = 64 := by omega
    subst e
    rw [zX_bitInRow_1_q, if_pos (by decide), zX_bitInRow_4_q]; rfl
  | succ q ih =>
    intro k hk
    have hih := ih (k + 1) (by omega)
    rw [zpc_s] at hih
    rw [zX_bitInRow_1_q, if_neg (nI_g64 (by omega)), zifi (lb_test x (show k < 64 by omega)), zfd_s]
    cases hb : lb x k with
    | false =>
      rw [hb, ite_ft, Nat.add_zero] at hih
      rw [if_pos rfl, zX_bitInRow_3_q, nI_1, Bool.false_and, ite_ft]
      exact hih
    | true =>
      rw [hb, ite_tt] at hih
      rw [if_neg (by decide), zifi (zsub0 i _), Bool.true_and]
      by_cases h : i = nI (zpc (lb x) k)
      · rw [if_pos h, if_pos (decide_eq_true h)]
      · rw [if_neg h, if_neg (by rw [decide_eq_false h]; decide), zX_bitInRow_2_q, zX_bitInRow_3_q, nI_1, zsub1]
        exact hih
theorem cBitInRow {x : Int64} {i : Int32} : zX_bitInRow d x i A L = some (some (.int (zfd (lb x) i 64 0)), A, L) := by
  have h := cBitInRow1 (A := A) (L := L) (d := d) (x := x) (i := i) 64 0 (by omega)
  have e : i - nI (zpc (lb x) 0) = i := by
    show i - 0 = i
    exact Int32.sub_zero i
  rw [e] at h
  rw [zX_bitInRow_q]
  exact h
theorem mMeanings5 {x : Int64} {i : Int32} : ∀ q k, k + q = 64 → zM_meanings_5 d i x (nI (zpc (lb x) k)) (nI k) A L = some (some (.int (if i = -1 then nI (zpc (lb x) 64) else zfd (lb x) i q k)), A, L) := by
  intro q
  induction q with
  | zero =>
    intro k hk
    have e : k = 64 := by omega
    subst e
    rw [zM_meanings_5_q, if_pos (by decide), zM_meanings_9_q]
    by_cases h : i = -1
    · rw [if_pos h, if_pos h, zM_meanings_11_q]
    · rw [if_neg h, if_neg h, zM_meanings_10_q, zM_meanings_11_q]; rfl
  | succ q ih =>
    intro k hk
    have hih := ih (k + 1) (by omega)
    have hle := zpc_le (f := lb x) k
    rw [zpc_s] at hih
    rw [zM_meanings_5_q, if_neg (nI_g64 (by omega)), zifi (lb_test x (show k < 64 by omega)), zfd_s]
    cases hb : lb x k with
    | false =>
      rw [hb, ite_ft, Nat.add_zero] at hih
      rw [if_pos rfl, zM_meanings_8_q, nI_1, Bool.false_and, ite_ft]
      exact hih
    | true =>
      rw [hb, ite_tt] at hih
      rw [if_neg (by decide), zM_meanings_6_q, Bool.true_and]
      by_cases h : i = nI (zpc (lb x) k)
      · have hm1 : ¬ i = -1 := by
          intro e
          rw [h] at e
          have h2 := congrArg Int32.toInt e
          rw [nI_toInt (by omega)] at h2
          have : (-1 : Int32).toInt = -1 := by decide
          omega
        rw [if_pos h.symm, if_neg hm1, if_pos (decide_eq_true h)]
      · rw [if_neg (fun e => h e.symm), if_neg (show ¬ decide (i = nI (zpc (lb x) k)) = true by rw [decide_eq_false h]; decide), zM_meanings_7_q, zM_meanings_8_q, nI_1, nI_1]
        exact hih
theorem mMeanings {i : Int32} (ho : Ok v) (hw : zmw A v) (hg : A 63 33 = 0) : ∃ A' L' x, zM_meanings_2 (d + 4) i A L = some (some (.int (zmn (lb x) i)), A', L') ∧ (∀ c, (c < 82 ∨ 85 < c) → c ≠ 91 → A' c = A c) ∧ ∀ m, m < 64 → lb x m = vRmn v m := by
  have h9 := ho.sz
  obtain ⟨e1, e2, e3⟩ := vSp_eq ho
  obtain ⟨A', L', a1, a2, a3, a4⟩ := mFillMeant (d := d) (L0 := L) ho hw hg
  have hw2 : zmw A' v := zmw_of hw (fun c h1 h2 => a2 c (by omega) (by omega))
  obtain ⟨-, -, -, -, -, -, -, -, -, -, -, -, -, -, w15, w18, w16, w17⟩ := hw2
  have h5 : ∀ x, zM_meanings_4 (d + 4) i x A' L' = some (some (.int (zmn (lb x) i)), A', L') := fun x => by
    rw [zM_meanings_4_q]
    exact mMeanings5 64 0 (by omega)
  have hsp : zsp (vSz v) (vSt v) (vMe v) < 4608 := zsp_lt (b := 9) (by omega) e2 e3
  unfold vRmn
  rcases ho.stop with h | h
  · refine ⟨A', L', L' 90 (zsp (vSz v) (vSt v) (vMe v)), ?_, a2, fun m hm => ?_⟩
    · rw [zM_meanings_2_q, a1, zbv_s, w18, h, if_neg (by decide), zM_meanings_3_q, w15, w16, w17, h9.1, mPlaceAt, zbi_s, zck_n (by omega) (by decide), nI_clamp (by omega), h5]
    · rw [h, if_pos rfl]; exact (a4 _ _ _ (by omega) e2 e3).1 m hm
  · refine ⟨A', L', zlshl 1 (nI (vMe v)), ?_, a2, fun m hm => ?_⟩
    · rw [zM_meanings_2_q, a1, zbv_s, w18, h, if_pos (by rfl), w17, h5]
    · rw [h, if_neg (by decide), lb_pow e3 hm]
theorem cMeanings {i : Int32} (ho : Ok v) (hv : zv A = v) : ∃ A' L' x, zX_meanings_2 (d + 6) i A L = some (some (.int (zmn (lb x) i)), A', L') ∧ (∀ c, c ≠ 59 → A' c = A c) ∧ ∀ m, m < 64 → lb x m = vRmn v m := by
  obtain ⟨A', L', a1, a2, a3, a4, a5⟩ := cLook (d := d) (L := L) ho hv
  refine ⟨A', L', L' 59 2, ?_, a2, a4⟩
  unfold zmn
  rw [zX_meanings_2_q, a1, zbv_s]
  by_cases h : i = -1
  · rw [if_pos h, if_pos h, zBitCount, zbi_s, zX_meanings_4_q]
  · rw [if_neg h, if_neg h, zX_meanings_3_q, cBitInRow, zbi_s, zX_meanings_4_q]
theorem mCanStick (ho : Ok v) (hw : zmw A v) (hg : A 63 33 = 0) : ∃ A' L', zM_canStick_1 (d + 4) A L = some (some (.int (if vRsn v then 1 else 0)), A', L') ∧ (∀ c, (c < 82 ∨ 85 < c) → c ≠ 91 → A' c = A c) := by
  have h9 := ho.sz
  obtain ⟨e1, e2, e3⟩ := vSp_eq ho
  obtain ⟨A', L', a1, a2, a3, a4⟩ := mFillMeant (d := d) (L0 := L) ho hw hg
  have hw2 : zmw A' v := zmw_of hw (fun c h1 h2 => a2 c (by omega) (by omega))
  obtain ⟨-, -, -, -, -, -, -, -, -, -, -, -, -, -, w15, w18, w16, w17⟩ := hw2
  have hsp : zsp (vSz v) (vSt v) (vMe v) < 4608 := zsp_lt (b := 9) (by omega) e2 e3
  refine ⟨A', L', ?_, a2⟩
  unfold vRsn
  rw [zM_canStick_1_q, a1, zbv_s, w18]
  rcases ho.stop with h | h
  · rw [h, if_pos rfl, w15, w16, w17, h9.1, mPlaceAt, zbi_s, zck_n (by omega) (by decide), nI_clamp (by omega), (a4 _ _ _ (by omega) e2 e3).2, decide_eq_true rfl, Bool.true_and]
    cases vRs v (9 - vSz v) (vSz v) (vSt v)
    · rw [ite_ft, if_pos rfl, zM_canStick_2_q, zM_canStick_3_q]
    · rw [ite_tt, if_neg (by decide), zM_canStick_3_q]
  · rw [h, if_neg (by decide), zM_canStick_2_q, zM_canStick_3_q, decide_eq_false (by decide), Bool.false_and, ite_ft]
theorem cCanStick (ho : Ok v) (hv : zv A = v) : ∃ A' L', zX_canStick_1 (d + 6) A L = some (some (.int (if vRsn v then 1 else 0)), A', L') ∧ (∀ c, c ≠ 59 → A' c = A c) := by
  obtain ⟨A', L', a1, a2, a3, a4, a5⟩ := cLook (d := d) (L := L) ho hv
  refine ⟨A', L', ?_, a2⟩
  rw [zX_canStick_1_q, a1, zbv_s, a5]
  cases vRsn v
  · rw [ite_ft, if_pos rfl, zX_canStick_2_q, zX_canStick_3_q]
  · rw [ite_tt, if_neg (by decide), zX_canStick_3_q]
end MN
