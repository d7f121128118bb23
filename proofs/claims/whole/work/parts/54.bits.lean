/-! ===== rows of 64 bits ===== -/
def lb (x : Int64) (m : Nat) : Bool := x.toBitVec.getLsbD m
theorem lb_and (x y : Int64) (m : Nat) : lb (x &&& y) m = (lb x m && lb y m) := by unfold lb; rw [Int64.toBitVec_and, BitVec.getLsbD_and]
theorem lb_or (x y : Int64) (m : Nat) : lb (x ||| y) m = (lb x m || lb y m) := by unfold lb; rw [Int64.toBitVec_or, BitVec.getLsbD_or]
theorem lb_not (x : Int64) {m : Nat} (hm : m < 64) : lb (~~~x) m = !(lb x m) := by unfold lb; rw [Int64.toBitVec_not, BitVec.getLsbD_not]; simp [hm]
theorem lb_0 (m : Nat) : lb 0 m = false := by
  show (0#64).getLsbD m = false
  simp
theorem lb_m1 : ∀ m, m < 64 → lb (-1) m = true := by decide +kernel
theorem lb_1 : ∀ m, m < 64 → lb 1 m = decide (m = 0) := by decide +kernel
theorem zMW_b : ∀ j, j < 6 → ∀ m, m < 64 → lb (zMW j) m = !(m.testBit j) := by decide +kernel
theorem lb_ext {x y : Int64} (h : ∀ m, m < 64 → lb x m = lb y m) : x = y := by
  apply Int64.toBitVec_inj.mp
  apply BitVec.eq_of_getLsbD_eq
  intro i hi
  exact h i hi
theorem lb_shl (x : Int64) : ∀ {k : Nat}, k < 64 → ∀ {m : Nat}, m < 64 → lb (zlshl x (nI k)) m = (decide (k ≤ m) && lb x (m - k)) := by
  intro k hk m hm
  have hc : ∀ k, k < 64 → ((((nI k).toInt64 &&& 63).toBitVec).smod 64).toNat = k := by decide +kernel
  have e : zlshl x (nI k) = ⟨⟨x.toBitVec <<< k⟩⟩ := by
    apply Int64.toBitVec_inj.mp
    show (x <<< ((nI k).toInt64 &&& 63)).toBitVec = x.toBitVec <<< k
    rw [Int64.toBitVec_shiftLeft, BitVec.shiftLeft_eq', hc k hk]
  unfold lb
  rw [e]
  show (x.toBitVec <<< k).getLsbD m = _
  rw [BitVec.getLsbD_shiftLeft]
  by_cases h : k ≤ m
  · simp [hm, h]
  · simp [hm, h]
theorem lb_ushr (x : Int64) {k : Nat} (hk : k < 64) (m : Nat) : lb (zlushr x (nI k)) m = lb x (m + k) := by
  have hc : ∀ k, k < 64 → ((((nI k).toInt64.toUInt64 &&& Int64.toUInt64 63).toBitVec) % 64).toNat = k := by decide +kernel
  have e : zlushr x (nI k) = ⟨⟨x.toBitVec >>> k⟩⟩ := by
    apply Int64.toBitVec_inj.mp
    show (x.toUInt64 >>> ((nI k).toInt64.toUInt64 &&& Int64.toUInt64 63)).toBitVec = x.toBitVec >>> k
    rw [UInt64.toBitVec_shiftRight, BitVec.ushiftRight_eq', hc k hk]
    rfl
  unfold lb
  rw [e]
  show (x.toBitVec >>> k).getLsbD m = _
  rw [BitVec.getLsbD_ushiftRight, Nat.add_comm]

/-- the bit alone -/
theorem lb_bit (x : Int64) {m : Nat} (hm : m < 64) : zlushr x (nI m) &&& 1 = if lb x m then 1 else 0 := by
  apply lb_ext
  intro i hi
  rw [lb_and, lb_ushr x hm, lb_1 i hi]
  by_cases h : i = 0
  · subst h
    rw [Nat.zero_add]
    cases lb x m
    · rw [ite_ft, lb_0]; rfl
    · rw [ite_tt, lb_1 0 (by omega)]; rfl
  · cases lb x m
    · rw [ite_ft, lb_0]; simp [h]
    · rw [ite_tt, lb_1 i hi]; simp [h]
theorem lb_test (x : Int64) {m : Nat} (hm : m < 64) : (lg_cmp (zlushr x (nI m) &&& 1) 0 = 0) ↔ lb x m = false := by
  rw [lb_bit x hm]
  cases lb x m
  · rw [ite_ft]; decide
  · rw [ite_tt]; decide
theorem lb_pow {k : Nat} (hk : k < 64) {m : Nat} (hm : m < 64) : lb (zlshl 1 (nI k)) m = decide (m = k) := by
  rw [lb_shl 1 hk hm]
  by_cases h : k ≤ m
  · rw [lb_1 (m - k) (by omega)]
    simp only [h, decide_true, Bool.true_and, decide_eq_decide]
    omega
  · simp only [h, decide_false, Bool.false_and]
    have : ¬ m = k := by omega
    simp [this]
theorem zsw_1 : ∀ j, j < 6 → ∀ m, m < 64 → m.testBit j = true → 2 ^ j ≤ m ∧ (m - 2 ^ j).testBit j = false ∧ m ^^^ 2 ^ j = m - 2 ^ j := by decide +kernel
theorem zsw_0 : ∀ j, j < 6 → ∀ m, m < 64 → m.testBit j = false → (2 ^ j ≤ m → (m - 2 ^ j).testBit j = true) ∧ m ^^^ 2 ^ j = m + 2 ^ j ∧ m + 2 ^ j < 64 := by decide +kernel
/-- the meanings across a mark -/
theorem lb_across (x : Int64) {j m : Nat} (hj : j < 6) (hm : m < 64) : lb (zlshl (x &&& zMW j) (nI (2 ^ j)) ||| (zlushr x (nI (2 ^ j)) &&& zMW j)) m = lb x (m ^^^ 2 ^ j) := by
  have hp : 2 ^ j < 64 := by
    have := Nat.pow_lt_pow_right (a := 2) (by omega) hj
    omega
  rw [lb_or, lb_and, lb_shl _ hp hm, lb_and, lb_ushr x hp, zMW_b j hj m hm]
  cases h : m.testBit j with
  | true =>
    obtain ⟨h1, h2, h3⟩ := zsw_1 j hj m hm h
    rw [zMW_b j hj (m - 2 ^ j) (Nat.lt_of_le_of_lt (Nat.sub_le _ _) hm), h2, h3]
    simp [h1]
  | false =>
    obtain ⟨h1, h2, h3⟩ := zsw_0 j hj m hm h
    rw [h2]
    by_cases hle : 2 ^ j ≤ m
    · rw [zMW_b j hj (m - 2 ^ j) (Nat.lt_of_le_of_lt (Nat.sub_le _ _) hm), h1 hle]; simp
    · simp [hle]
