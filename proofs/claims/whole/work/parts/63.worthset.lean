/-! ===== the meanings that are worth enough ===== -/
section WS
variable {v A : zA} {L : zL} {d p : Nat} {y : Int32}
theorem cWorthSet1 (ho : Ok v) (hw : zWt A v) (hp : p < vP v) : ∀ k q z, q + k = 64 → (∀ m, m < 64 → lb z m = (decide (m < q) && decide (y ≤ vEw v p m))) → ∃ r, zO_meaningsWorth_1 (d + 3) (nI p) y z (nI q) A L = some (some (.long r), A, L) ∧ ∀ m, m < 64 → lb r m = decide (y ≤ vEw v p m) := by
  intro k
  induction k with
  | zero =>
    intro q z hq hz
    have e : q = 64 := by omega
    subst e
    refine ⟨z, by rw [zO_meaningsWorth_1_q, if_pos (by decide), zO_meaningsWorth_3_q], fun m hm => ?_⟩
    rw [hz m hm, decide_eq_true hm, Bool.true_and]
  | succ k ih =>
    intro q z hq hz
    have hq6 : q < 64 := by omega
    have he := cEndOf (d := d + 2) (A := A) (L := L) (n := 0) (f := 0) (m := q) (by omega) hq6
    rw [show nI 0 = (0 : Int32) from rfl, show 128 * 0 + (if (0 : Int32) = 0 then q else 64 + q) = q by rw [if_pos rfl]; omega] at he
    rw [zO_meaningsWorth_1_q, if_neg (nI_g64 hq6), he, zbi_s, cWorthOfEnd ho hw hp (by omega), zbi_s, show q % 128 = q by omega]
    by_cases hlt : vEw v p q < y
    · obtain ⟨r, e1, e2⟩ := ih (q + 1) z (by omega) (fun m hm => by
        rw [hz m hm]
        by_cases e : m = q
        · rw [e, decide_eq_false (Int32.not_le.mpr hlt), Bool.and_false, Bool.and_false]
        · rw [show decide (m < q + 1) = decide (m < q) from decide_eq_decide.mpr (by omega)])
      exact ⟨r, by rw [if_pos hlt, zO_meaningsWorth_2_q, nI_1]; exact e1, e2⟩
    · obtain ⟨r, e1, e2⟩ := ih (q + 1) (z ||| zlshl 1 (nI q)) (by omega) (fun m hm => by
        rw [lb_or, hz m hm, lb_pow hq6 hm]
        by_cases e : m = q
        · rw [e, decide_eq_true (Int32.not_lt.mp hlt), decide_eq_true (show q < q + 1 by omega), decide_eq_true (show q = q from rfl), Bool.or_true, Bool.and_true]
        · rw [decide_eq_false e, Bool.or_false, show decide (m < q + 1) = decide (m < q) from decide_eq_decide.mpr (by omega)])
      exact ⟨r, by rw [if_neg hlt, zO_meaningsWorth_2_q, nI_1]; exact e1, e2⟩
theorem cWorthSet (ho : Ok v) (hw : zWt A v) (hp : p < vP v) : ∃ r, zO_meaningsWorth (d + 3) (nI p) y A L = some (some (.long r), A, L) ∧ ∀ m, m < 64 → lb r m = decide (y ≤ vEw v p m) := by
  rw [zO_meaningsWorth_q]
  exact cWorthSet1 ho hw hp 64 0 0 (by omega) (fun m hm => by rw [lb_0, decide_eq_false (Nat.not_lt_zero m), Bool.false_and])
end WS
