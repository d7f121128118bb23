/-! ===== the halves ===== -/
def iI (x : Int) : Int32 := Int32.ofInt x
theorem iI_int {x : Int} (h1 : -1000 ≤ x) (h2 : x ≤ 1000) : (iI x).toInt = x := by
  unfold iI
  exact Int32.toInt_ofInt_of_le (by omega) (by omega)
theorem iI_of {y : Int32} : iI y.toInt = y := Int32.ofInt_toInt y
theorem iI_le {x y : Int} (h1 : -1000 ≤ x) (h2 : x ≤ 1000) (h3 : -1000 ≤ y) (h4 : y ≤ 1000) : iI x ≤ iI y ↔ x ≤ y := by
  rw [Int32.le_iff_toInt_le, iI_int h1 h2, iI_int h3 h4]
theorem iI_lt {x y : Int} (h1 : -1000 ≤ x) (h2 : x ≤ 1000) (h3 : -1000 ≤ y) (h4 : y ≤ 1000) : iI x < iI y ↔ x < y := by
  rw [Int32.lt_iff_toInt_lt, iI_int h1 h2, iI_int h3 h4]
theorem iI_add (x y : Int) : iI x + iI y = iI (x + y) := (Int32.ofInt_add x y).symm
theorem iI_half : ∀ a : Nat, a < 400 → (if (0 : Int32) ≤ (iI ((a : Int) - 200) ^^^ 2) then iI ((a : Int) - 200) / 2 else if (iI ((a : Int) - 200) / 2) * 2 = iI ((a : Int) - 200) then iI ((a : Int) - 200) / 2 else iI ((a : Int) - 200) / 2 - 1) = iI (((a : Int) - 200) / 2) := by decide +kernel
section HV
variable {v A : zA} {L : zL} {d p : Nat}
theorem cHalf {x : Int} (h1 : -200 ≤ x) (h2 : x < 200) : zJM_floorDiv d (iI x) 2 A L = some (some (.int (iI (x / 2))), A, L) := by
  have h := iI_half (x + 200).toNat (by omega)
  rw [show (((x + 200).toNat : Int) - 200) = x by omega] at h
  rw [zJM_floorDiv_q, show zcd (2 : Int32) = fun k => k from rfl]
  show (if (0 : Int32) ≤ (iI x ^^^ 2) then zJM_floorDiv_1 d (iI x / 2) A L else if (iI x / 2) * 2 = iI x then zJM_floorDiv_1 d (iI x / 2) A L else some (some (.int (iI x / 2 - 1)), A, L)) = _
  rw [zJM_floorDiv_1_q, ← h]
  by_cases c1 : (0 : Int32) ≤ (iI x ^^^ 2)
  · rw [if_pos c1, if_pos c1]
  · rw [if_neg c1, if_neg c1]
    by_cases c2 : (iI x / 2) * 2 = iI x
    · rw [if_pos c2, if_pos c2]
    · rw [if_neg c2, if_neg c2]
/-- the sums of worths stay near -/
theorem vWs_near (ho : Ok v) (hp : p < 4) {m : Nat} : ∀ k, k ≤ 6 → ∃ x : Int, vWs v p m k = iI x ∧ -(9 * k : Int) ≤ x ∧ x ≤ 9 * k
  | 0, _ => ⟨0, rfl, by omega, by omega⟩
  | k + 1, h => by
    obtain ⟨x, e1, e2, e3⟩ := vWs_near ho hp (m := m) k (by omega)
    have hw := ho.wo (i := 6 * p + k) (by omega)
    show ∃ x : Int, vWs v p m k + (if m.testBit k then vWo v p k else 0) = iI x ∧ _
    cases m.testBit k
    · refine ⟨x, ?_, by omega, by omega⟩
      rw [ite_ft, e1, Int32.add_zero]
    · refine ⟨x + (vWo v p k).toInt, ?_, ?_, ?_⟩
      · rw [ite_tt, e1, ← iI_add, iI_of]
      · have : -9 ≤ (vWo v p k).toInt := hw.1
        omega
      · have : (vWo v p k).toInt ≤ 9 := hw.2
        omega
end HV
