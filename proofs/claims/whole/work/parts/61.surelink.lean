/-! ===== sure now: both say the same ===== -/
section SL
variable {v : zA} {p : Nat} {x aim : Int32} {y : Int32}
theorem vCt_flat (h : aim ≠ 3) (e n n' : Nat) : vCt v p x aim e n = vCt v p x aim e n' := by
  unfold vCt
  simp only [h, if_false]
theorem vB_64 (m : Nat) : vB x (64 + m) = false := by
  unfold vB
  rw [decide_eq_false (show ¬ (64 + m < 64) by omega), Bool.false_and]
theorem vCt_stuck (h : aim ≠ 3) (m n : Nat) : vCt v p x aim (64 + m) n = vCt v p x aim 64 n := by
  unfold vCt
  rw [vB_64, show vB x 64 = false from vB_64 0]
  have h1 : ¬ (64 + m < 64) := by omega
  have h2 : ¬ ((64 : Nat) < 64) := by omega
  simp only [h, if_false, h1, h2]
  unfold vEw
  rw [if_neg h1, if_neg h2]
/-- a bound is reached now just if one can be sure of it now -/
theorem vGn_vSn (h : aim ≠ 3) : y ≤ vGn v p x aim ↔ vSn v p (fun m => decide (y ≤ vCt v p x aim m 0)) (decide (y ≤ vCt v p x aim 64 0)) = true := by
  unfold vGn vSn
  by_cases hs : v 14 3 = 0
  · rw [if_pos hs, if_pos hs]
    exact vGm_vS (fun e n n' => vCt_flat h e n n') (fun m n => vCt_stuck h m n) _ _ _ _
  · rw [if_neg hs, if_neg hs, decide_eq_true_eq, vCt_flat h (vMe v) (vSz v) 0]
theorem vCt_01 (h : aim = 0 ∨ aim = 1 ∨ aim = 2) (e n : Nat) : vCt v p x aim e n = 0 ∨ vCt v p x aim e n = 1 := by
  unfold vCt
  rcases h with h | h | h
  · rw [h, if_pos rfl]; cases vB x e <;> simp
  · rw [h, if_neg (by decide), if_pos rfl]; cases vB x e <;> simp
  · rw [h, if_neg (by decide), if_neg (by decide), if_pos rfl]; by_cases h : e < 64 <;> simp [h]
theorem vGn_01 (h : aim = 0 ∨ aim = 1 ∨ aim = 2) : vGn v p x aim = if vSn v p (fun m => decide (vCt v p x aim m 0 = 1)) (decide (vCt v p x aim 64 0 = 1)) then 1 else 0 := by
  have h3 : aim ≠ 3 := by rcases h with h | h | h <;> rw [h] <;> decide
  have hin : vGn v p x aim = 0 ∨ vGn v p x aim = 1 := by
    unfold vGn
    split
    · exact vGm_in (Q := fun z => z = 0 ∨ z = 1) (fun e n => vCt_01 h e n) _ _ _ _
    · exact vCt_01 h _ _
  have hle : ∀ z : Int32, (z = 0 ∨ z = 1) → ((1 : Int32) ≤ z ↔ z = 1) := by
    intro z hz
    rcases hz with hz | hz <;> rw [hz] <;> decide
  have key := vGn_vSn (v := v) (p := p) (x := x) (y := 1) h3
  rw [hle _ hin] at key
  have e1 : (fun m => decide ((1 : Int32) ≤ vCt v p x aim m 0)) = fun m => decide (vCt v p x aim m 0 = 1) := by
    funext m
    exact decide_eq_decide.mpr (hle _ (vCt_01 h m 0))
  have e2 : decide ((1 : Int32) ≤ vCt v p x aim 64 0) = decide (vCt v p x aim 64 0 = 1) := decide_eq_decide.mpr (hle _ (vCt_01 h 64 0))
  rw [e1, e2] at key
  cases hv : vSn v p (fun m => decide (vCt v p x aim m 0 = 1)) (decide (vCt v p x aim 64 0 = 1)) with
  | true => rw [ite_tt]; exact key.mpr hv
  | false =>
    rw [ite_ft]
    rcases hin with h | h
    · exact h
    · rw [key.mp h] at hv; cases hv
theorem vB_bit {k e : Nat} (hk : k < 6) (he : e < 64) : vB (nI k) e = e.testBit k := by
  unfold vB
  rw [decide_eq_true he, decide_eq_false (nI_pos (by omega)), zbit (by omega) (by omega)]
  cases e.testBit k
  · rw [ite_ft]; decide
  · rw [ite_tt]; decide
end SL
/-- what one can be sure of looks at the meanings below 64 alone -/
theorem vS_eq {v : zA} {g p : Nat} {good good' : Nat → Bool} {stuck : Bool} (ho : Ok v) (hg : ∀ m, m < 64 → good m = good' m) : ∀ f n s m, s < 8 → m < 64 → vS v g p good stuck f n s m = vS v g p good' stuck f n s m := by
  intro f
  induction f with
  | zero => intro n s m hs hm; unfold vS; rw [hg m hm]
  | succ f ih =>
    intro n s m hs hm
    rw [vS_s, vS_s, hg m hm]
    have e : ∀ t, t < 8 → vS v g p good stuck f (n + 1) (vTo v s t) (m ^^^ vMk v s t) = vS v g p good' stuck f (n + 1) (vTo v s t) (m ^^^ vMk v s t) := fun t ht => ih _ _ _ (ho.to hs ht).2 (Ok.xor hm (ho.mk hs ht))
    simp only [List.range_succ, List.range_zero, List.any_append, List.any_cons, List.any_nil, List.all_append, List.all_cons, List.all_nil, List.nil_append, e 0 (by omega), e 1 (by omega), e 2 (by omega), e 3 (by omega), e 4 (by omega), e 5 (by omega), e 6 (by omega), e 7 (by omega)]
theorem vSn_eq {v : zA} {p : Nat} {good good' : Nat → Bool} {stuck : Bool} (ho : Ok v) (hg : ∀ m, m < 64 → good m = good' m) : vSn v p good stuck = vSn v p good' stuck := by
  obtain ⟨-, e2, e3⟩ := vSp_eq ho
  unfold vSn
  rw [vS_eq ho hg _ _ _ _ e2 e3, hg _ e3]
