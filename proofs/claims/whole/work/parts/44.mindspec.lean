/-! ===== what sayers do by their kinds, and how a talk ends by that: in numbers ===== -/
/-- the first of several of which the value is most -/
def zbst (ok : Nat → Bool) (val : Nat → Int32) : Nat → Option (Nat × Int32)
  | 0 => none
  | k + 1 => match zbst ok val k with
    | none => if ok k then some (k, val k) else none
    | some (b, x) => if ok k && decide (x < val k) then some (k, val k) else some (b, x)
theorem zbst_in {ok : Nat → Bool} {val : Nat → Int32} : ∀ {k b : Nat} {x : Int32}, zbst ok val k = some (b, x) → b < k ∧ ok b = true ∧ x = val b
  | 0, b, x, h => by cases h
  | k + 1, b, x, h => by
    unfold zbst at h
    cases hz : zbst ok val k with
    | none =>
      rw [hz] at h
      simp only at h
      split at h
      · cases h; exact ⟨by omega, by assumption, rfl⟩
      · cases h
    | some q =>
      obtain ⟨b', x'⟩ := q
      rw [hz] at h
      simp only at h
      obtain ⟨h1, h2, h3⟩ := zbst_in hz
      split at h
      · rename_i hc
        rw [Bool.and_eq_true] at hc
        cases h; exact ⟨by omega, hc.1, rfl⟩
      · cases h; exact ⟨by omega, h2, h3⟩
theorem zbst_none {ok : Nat → Bool} {val : Nat → Int32} : ∀ {k : Nat}, zbst ok val k = none → ∀ b, b < k → ok b = false
  | 0, h, b, hb => absurd hb (Nat.not_lt_zero b)
  | k + 1, h, b, hb => by
    unfold zbst at h
    cases hz : zbst ok val k with
    | none =>
      rw [hz] at h
      simp only at h
      split at h
      · cases h
      · rename_i hk
        by_cases e : b = k
        · rw [e]; simpa using hk
        · exact zbst_none hz b (by omega)
    | some q =>
      obtain ⟨b', x'⟩ := q
      rw [hz] at h
      simp only at h
      split at h <;> cases h
theorem zbst_cong {ok : Nat → Bool} {v1 v2 : Nat → Int32} : ∀ {k : Nat}, (∀ b, b < k → ok b = true → v1 b = v2 b) → zbst ok v1 k = zbst ok v2 k
  | 0, _ => rfl
  | k + 1, h => by
    unfold zbst
    rw [zbst_cong (fun b hb hk => h b (by omega) hk)]
    cases hk : ok k
    · simp
    · rw [h k (by omega) hk]
def zbd (ok : Nat → Bool) (val : Nat → Int32) : Nat := match zbst ok val 9 with
  | some (b, _) => b
  | none => 0
theorem zbd_cong {ok : Nat → Bool} {v1 v2 : Nat → Int32} (h : ∀ b, b < 9 → ok b = true → v1 b = v2 b) : zbd ok v1 = zbd ok v2 := by
  unfold zbd
  rw [zbst_cong h]
theorem zbd_in {ok : Nat → Bool} {val : Nat → Int32} (h : ∃ b, b < 9 ∧ ok b = true) : zbd ok val < 9 ∧ ok (zbd ok val) = true := by
  unfold zbd
  cases hz : zbst ok val 9 with
  | none =>
    obtain ⟨b, h1, h2⟩ := h
    rw [zbst_none hz b h1] at h2
    cases h2
  | some q =>
    obtain ⟨b, x⟩ := q
    obtain ⟨h1, h2, -⟩ := zbst_in hz
    exact ⟨h1, h2⟩
/-- the least bit -/
def zlow (a : Nat) : Nat → Nat
  | 0 => 0
  | k + 1 => if zlow a k < k then zlow a k else if a.testBit k then k else k + 1
theorem zlow_le (a : Nat) : ∀ k, zlow a k ≤ k
  | 0 => Nat.le_refl 0
  | k + 1 => by
    have h := zlow_le a k
    unfold zlow
    split
    · omega
    · split <;> omega
theorem zlow_no (a : Nat) : ∀ k t, t < zlow a k → a.testBit t = false
  | 0, t, h => absurd h (Nat.not_lt_zero t)
  | k + 1, t, h => by
    have ih := zlow_no a k
    have hle := zlow_le a k
    unfold zlow at h
    split at h
    · exact ih t h
    · split at h
      · exact ih t (by omega)
      · rename_i h1 h2
        by_cases e : t = k
        · rw [e]; simpa using h2
        · exact ih t (by omega)
theorem zlow_yes (a : Nat) : ∀ k, zlow a k < k → a.testBit (zlow a k) = true
  | 0, h => absurd h (Nat.not_lt_zero _)
  | k + 1, h => by
    have ih := zlow_yes a k
    have hle := zlow_le a k
    unfold zlow at h ⊢
    split at h
    · rename_i h1; rw [if_pos h1]; exact ih h1
    · rename_i h1
      rw [if_neg h1]
      split at h
      · rename_i h2; rw [if_pos h2]; exact h2
      · omega
theorem zlow_lt {a k : Nat} (ha : a < 2 ^ k) (h0 : a ≠ 0) : zlow a k < k := by
  rcases Nat.lt_or_ge (zlow a k) k with h | h
  · exact h
  · exfalso
    apply h0
    apply Nat.eq_of_testBit_eq
    intro t
    rw [Nat.zero_testBit]
    by_cases ht : t < k
    · exact zlow_no a k t (by omega)
    · exact Nat.testBit_lt_two_pow (Nat.lt_of_lt_of_le ha (Nat.pow_le_pow_right (by omega) (by omega)))
/-- an end, in one number: 128 times the words, 64 if stuck, the meaning -/
def vEa (v : zA) (n s m : Nat) : Nat := 128 * n + (if vEn v s then m else 64 + m)
def vLow (v : zA) (n s : Nat) : Nat := zlow (vMay v n s) 8
def vOk (v : zA) (n s t : Nat) : Bool := (vOpt v n s).testBit t
/-- how the talk ends in the mind of a blind one p; f more than the words that may still come -/
def vDr (v : zA) (p : Nat) : Nat → Nat → Nat → Nat → Nat
  | 0, n, s, m => vEa v n s m
  | f + 1, n, s, m =>
    if vMay v n s = 0 then vEa v n s m else
    let go := fun t => if t = 8 then 128 * n + m else vDr v p f (n + 1) (vTo v s t) (m ^^^ vMk v s t)
    if vTr v n = p then go (zbd (vOk v n s) (fun t => vEw v p (go t % 128))) else go (vLow v n s)
/-- all worths of an end -/
def vAll (v : zA) (e : Nat) : Nat → Int32
  | 0 => 0
  | k + 1 => vAll v e k + vEw v k e
/-- how good an end is to p of a kind -/
def vGd (v : zA) (p k e : Nat) : Int32 := if k = 2 then vEw v p e - vAll v e (vP v) else if k = 3 then vAll v e (vP v) else vEw v p e
/-- what is done at a place: 'go' how the talk ends by a deed, 'dr' how it ends so in the mind of a blind one -/
def vDe (v : zA) (go dr : Nat → Nat) (n s m : Nat) : Nat :=
  let p := vTr v n
  let k := vKd v p
  if k = 5 then (if vEn v s then 8 else vLow v n s) else if k = 1 then vLow v n s
  else if k = 6 then zbd (vOk v n s) (fun t => vWs v p (if t = 8 then m else m ^^^ vMk v s t) 6)
  else if k = 4 then zbd (vOk v n s) (fun t => vEw v p (dr t % 128))
  else zbd (vOk v n s) (fun t => vGd v p k (go t % 128))
def vEd (v : zA) : Nat → Nat → Nat → Nat → Nat
  | 0, n, s, m => vEa v n s m
  | f + 1, n, s, m =>
    if vMay v n s = 0 then vEa v n s m else
    let go := fun t => if t = 8 then 128 * n + m else vEd v f (n + 1) (vTo v s t) (m ^^^ vMk v s t)
    let dr := fun t => if t = 8 then 128 * n + m else vDr v (vTr v n) f (n + 1) (vTo v s t) (m ^^^ vMk v s t)
    go (vDe v go dr n s m)
def vE (v : zA) (n s m : Nat) : Nat := vEd v (8 - n) n s m
def vD (v : zA) (p n s m : Nat) : Nat := vDr v p (8 - n) n s m
/-- how it ends by a deed -/
def vGo (v : zA) (n s m t : Nat) : Nat := if t = 8 then 128 * n + m else vE v (n + 1) (vTo v s t) (m ^^^ vMk v s t)
def vGd4 (v : zA) (p n s m t : Nat) : Nat := if t = 8 then 128 * n + m else vD v p (n + 1) (vTo v s t) (m ^^^ vMk v s t)
/-- the deed at a place -/
def vDeed (v : zA) (n s m : Nat) : Nat := vDe v (vGo v n s m) (vGd4 v (vTr v n) n s m) n s m
section SP
variable {v : zA} (ho : Ok v) {n s m p : Nat}
theorem vMay_8 (ho : Ok v) {n s : Nat} (hn : 8 ≤ n) : vMay v n s = 0 := by
  have := ho.len.2
  unfold vMay
  rw [if_pos (Or.inr (by omega))]
theorem vE_0 (h : vMay v n s = 0) : vE v n s m = vEa v n s m := by
  unfold vE
  cases 8 - n with
  | zero => rfl
  | succ f => simp only [vEd]; rw [if_pos h]
theorem vE_1 (hn : n < 8) (h : vMay v n s ≠ 0) : vE v n s m = vGo v n s m (vDeed v n s m) := by
  unfold vE vDeed vGo vGd4 vE vD
  rw [show 8 - n = (8 - (n + 1)) + 1 by omega]
  simp only [vEd]
  rw [if_neg h]
theorem vD_0 (h : vMay v n s = 0) : vD v p n s m = vEa v n s m := by
  unfold vD
  cases 8 - n with
  | zero => rfl
  | succ f => simp only [vDr]; rw [if_pos h]
theorem vD_1 (hn : n < 8) (h : vMay v n s ≠ 0) : vD v p n s m = if vTr v n = p then vGd4 v p n s m (zbd (vOk v n s) (fun t => vEw v p (vGd4 v p n s m t % 128))) else vGd4 v p n s m (vLow v n s) := by
  unfold vD vGd4 vD
  rw [show 8 - n = (8 - (n + 1)) + 1 by omega]
  simp only [vDr]
  rw [if_neg h]
theorem vLow_lt (ho : Ok v) (hs : s < 8) (h : vMay v n s ≠ 0) : vLow v n s < 8 := zlow_lt (ho.may hs) h
theorem vLow_ok (ho : Ok v) (hs : s < 8) (h : vMay v n s ≠ 0) : vOk v n s (vLow v n s) = true := by
  have h1 := zlow_yes _ _ (vLow_lt ho hs h)
  unfold vOk vOpt
  rw [if_neg h]
  split
  · rw [Nat.testBit_or]; unfold vLow; rw [h1]; rfl
  · exact h1
theorem vOk_8 (ho : Ok v) (hs : s < 8) : vOk v n s 8 = (decide (vMay v n s ≠ 0) && vEn v s) := by
  have hm : (vMay v n s).testBit 8 = false := Nat.testBit_lt_two_pow (ho.may hs)
  unfold vOk vOpt
  by_cases h : vMay v n s = 0
  · rw [if_pos h]; simp [h]
  · rw [if_neg h]
    cases vEn v s
    · simp [hm]
    · simp [hm, h]; decide
theorem vOk_t {t : Nat} (ht : t < 8) : vOk v n s t = (vMay v n s).testBit t := by
  unfold vOk vOpt
  by_cases h : vMay v n s = 0
  · rw [if_pos h, h]
  · rw [if_neg h]
    split
    · have h2 : (256 : Nat).testBit t = false := by
        have : t = 0 ∨ t = 1 ∨ t = 2 ∨ t = 3 ∨ t = 4 ∨ t = 5 ∨ t = 6 ∨ t = 7 := by omega
        rcases this with rfl | rfl | rfl | rfl | rfl | rfl | rfl | rfl <;> decide
      rw [Nat.testBit_or, h2, Bool.or_false]
    · rfl
theorem vOk_9 (ho : Ok v) {t : Nat} (hs : s < 8) (ht : 9 ≤ t) : vOk v n s t = false := Nat.testBit_lt_two_pow (Nat.lt_of_lt_of_le (ho.opt hs) (Nat.pow_le_pow_right (n := 2) (by omega) ht))
theorem vDe_ok (ho : Ok v) (hs : s < 8) (h : vMay v n s ≠ 0) (go dr : Nat → Nat) : vDe v go dr n s m < 9 ∧ vOk v n s (vDe v go dr n s m) = true := by
  have hl := vLow_lt ho hs h
  have hlo := vLow_ok ho hs h
  have hex : ∃ b, b < 9 ∧ vOk v n s b = true := ⟨_, by omega, hlo⟩
  unfold vDe
  simp only
  split
  · split
    · rename_i he
      refine ⟨by omega, ?_⟩
      rw [vOk_8 ho hs, he]; simp [h]
    · exact ⟨by omega, hlo⟩
  · split
    · exact ⟨by omega, hlo⟩
    · split
      · exact zbd_in hex
      · split
        · exact zbd_in hex
        · exact zbd_in hex
/-- ends are small numbers -/
theorem vEa_lt (hn : n ≤ 8) (hm : m < 64) : vEa v n s m < 128 * 9 ∧ n ≤ vEa v n s m / 128 := by
  unfold vEa
  split <;> omega
theorem vDr_lt (ho : Ok v) (p : Nat) : ∀ (f n s m : Nat), n + f ≤ 8 → s < 8 → m < 64 → vDr v p f n s m < 1152
  | 0, n, s, m, hn, hs, hm => (vEa_lt (by omega) hm).1
  | f + 1, n, s, m, hn, hs, hm => by
    have hgo : ∀ t, t < 9 → (if t = 8 then 128 * n + m else vDr v p f (n + 1) (vTo v s t) (m ^^^ vMk v s t)) < 1152 := by
      intro t ht
      split
      · omega
      · exact vDr_lt ho p f (n + 1) _ _ (by omega) (ho.to hs (by omega)).2 (Ok.xor hm (ho.mk hs (by omega)))
    simp only [vDr]
    split
    · exact (vEa_lt (by omega) hm).1
    · rename_i h
      split
      · exact hgo _ (zbd_in ⟨_, by have := vLow_lt ho hs h; omega, vLow_ok ho hs h⟩).1
      · exact hgo _ (by have := vLow_lt ho hs h; omega)
theorem vEd_lt (ho : Ok v) : ∀ (f n s m : Nat), n + f ≤ 8 → s < 8 → m < 64 → vEd v f n s m < 1152
  | 0, n, s, m, hn, hs, hm => (vEa_lt (by omega) hm).1
  | f + 1, n, s, m, hn, hs, hm => by
    have hgo : ∀ t, t < 9 → (if t = 8 then 128 * n + m else vEd v f (n + 1) (vTo v s t) (m ^^^ vMk v s t)) < 1152 := by
      intro t ht
      split
      · omega
      · exact vEd_lt ho f (n + 1) _ _ (by omega) (ho.to hs (by omega)).2 (Ok.xor hm (ho.mk hs (by omega)))
    simp only [vEd]
    split
    · exact (vEa_lt (by omega) hm).1
    · rename_i h
      exact hgo _ (vDe_ok ho hs h _ _).1
theorem vE_lt (ho : Ok v) (hn : n ≤ 8) (hs : s < 8) (hm : m < 64) : vE v n s m < 1152 := vEd_lt ho _ n s m (by omega) hs hm
theorem vD_lt (ho : Ok v) (hn : n ≤ 8) (hs : s < 8) (hm : m < 64) : vD v p n s m < 1152 := vDr_lt ho p _ n s m (by omega) hs hm
end SP
