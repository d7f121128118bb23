/-! ===== forces, keeps, sticks ===== -/
theorem lb_xor (x y : Int64) (m : Nat) : lb (x ^^^ y) m = (lb x m ^^ lb y m) := by unfold lb; rw [Int64.toBitVec_xor, BitVec.getLsbD_xor]
section FK
variable {v A : zA} {L : zL} {d p k : Nat}
theorem cMeaningsWithout (hk : k < 6) : zG_meaningsWithout d (nI k) A L = some (some (.long (zMW k)), A, L) := by
  rw [zG_meaningsWithout_q, if_neg (nI_pos (by omega)), if_neg (by rw [show (6 : Int32) = nI 6 from rfl]; exact nI_ge hk (by omega)), zck_n hk (by decide), nI_clamp (by omega), zG_meaningsWithout_2_q]
theorem cMeaningsWith (hk : k < 6) : ∃ y, zO_meaningsWith (d + 1) (nI k) A L = some (some (.long y), A, L) ∧ ∀ m, m < 64 → lb y m = m.testBit k := by
  refine ⟨zMW k ^^^ (-1), ?_, fun m hm => ?_⟩
  · rw [zO_meaningsWith_q, cMeaningsWithout hk, zbl_s]
  · rw [lb_xor, zMW_b k hk m hm, lb_m1 m hm]
    cases m.testBit k <;> rfl
theorem lb_inv (y : Int64) {m : Nat} (hm : m < 64) : lb (y ^^^ (-1)) m = !(lb y m) := by
  rw [lb_xor, lb_m1 m hm]
  cases lb y m <;> rfl
theorem vGn_forces (ho : Ok v) (hk : k < 6) : vGn v p (nI k) 0 = if vSn v p (fun m => m.testBit k) false then 1 else 0 := by
  rw [vGn_01 (Or.inl rfl)]
  have e1 : decide (vCt v p (nI k) 0 64 0 = 1) = false := by
    unfold vCt
    rw [if_pos rfl, show vB (nI k) 64 = false from vB_64 0]; rfl
  rw [e1, vSn_eq ho (good' := fun m => m.testBit k) (fun m hm => by
    show decide (vCt v p (nI k) 0 m 0 = 1) = _
    unfold vCt
    rw [if_pos rfl, vB_bit hk hm]
    cases m.testBit k <;> rfl)]
theorem vGn_keeps (ho : Ok v) (hk : k < 6) : vGn v p (nI k) 1 = if vSn v p (fun m => !(m.testBit k)) true then 1 else 0 := by
  rw [vGn_01 (Or.inr (Or.inl rfl))]
  have e1 : decide (vCt v p (nI k) 1 64 0 = 1) = true := by
    unfold vCt
    rw [if_neg (by decide), if_pos rfl, show vB (nI k) 64 = false from vB_64 0]; rfl
  rw [e1, vSn_eq ho (good' := fun m => !(m.testBit k)) (fun m hm => by
    show decide (vCt v p (nI k) 1 m 0 = 1) = _
    unfold vCt
    rw [if_neg (by decide), if_pos rfl, vB_bit hk hm]
    cases m.testBit k <;> rfl)]
theorem vGn_sticks (ho : Ok v) {x : Int32} : vGn v p x 2 = if vSn v p (fun _ => false) true then 1 else 0 := by
  rw [vGn_01 (Or.inr (Or.inr rfl))]
  have e1 : decide (vCt v p x 2 64 0 = 1) = true := by
    unfold vCt
    rw [if_neg (by decide), if_neg (by decide), if_pos rfl, if_neg (by decide)]; rfl
  rw [e1, vSn_eq ho (good' := fun _ => false) (fun m hm => by
    show decide (vCt v p x 2 m 0 = 1) = _
    unfold vCt
    rw [if_neg (by decide), if_neg (by decide), if_pos rfl, if_pos hm]; rfl)]
/-- the surest worth is the highest bound that one can be sure of -/
theorem vGn_worth (ho : Ok v) {x y : Int32} : y ≤ vGn v p x 4 ↔ vSn v p (fun m => decide (y ≤ vEw v p m)) (decide (y ≤ -(vLoss v))) = true := by
  rw [vGn_vSn (by decide)]
  rfl
end FK
