/-! ===== the model's world, and its tables ===== -/
def vSt (v : zA) : Nat := vSp v / 64 % 8
def vMe (v : zA) : Nat := vSp v % 64
/-- the model's rows are the class's -/
def zmw (A v : zA) : Prop := A 65 = v 3 ∧ A 66 = v 4 ∧ A 67 = v 5 ∧ A 68 = v 6 ∧ A 69 = v 10 ∧ A 70 = v 11 ∧ A 71 = v 12 ∧ A 72 = v 13 ∧ A 73 = v 15 ∧
  A 63 10 = v 2 6 ∧ A 63 11 = v 2 7 ∧ A 63 12 = v 9 4 ∧ A 63 13 = v 1 3 ∧ A 63 14 = v 1 4 ∧ A 63 15 = v 14 2 ∧ A 63 18 = v 14 3 ∧ A 63 16 = nI (vSt v) ∧ A 63 17 = nI (vMe v)
theorem zmw_of {A B v : zA} (h : zmw A v) (hc : ∀ c, 63 ≤ c → c ≤ 73 → B c = A c) : zmw B v := by
  unfold zmw at *
  rw [hc 63 (by decide) (by decide), hc 65 (by decide) (by decide), hc 66 (by decide) (by decide), hc 67 (by decide) (by decide), hc 68 (by decide) (by decide), hc 69 (by decide) (by decide), hc 70 (by decide) (by decide), hc 71 (by decide) (by decide), hc 72 (by decide) (by decide), hc 73 (by decide) (by decide)]
  exact h
/-- a mask of the bits that are told -/
def zmsk (b : Nat → Bool) : Nat → Nat
  | 0 => 0
  | k + 1 => zmsk b k ||| (if b k then 2 ^ k else 0)
theorem zmsk_lt (b : Nat → Bool) : ∀ k, zmsk b k < 2 ^ k
  | 0 => Nat.one_pos
  | k + 1 => by
    have h := zmsk_lt b k
    have h2 : 2 ^ k < 2 ^ (k + 1) := Nat.pow_lt_pow_right (by omega) (by omega)
    unfold zmsk
    refine Nat.or_lt_two_pow (by omega) ?_
    split
    · exact h2
    · exact Nat.two_pow_pos _
theorem zmsk_bit (b : Nat → Bool) : ∀ k t, (zmsk b k).testBit t = (decide (t < k) && b t)
  | 0, t => by simp [zmsk]
  | k + 1, t => by
    unfold zmsk
    rw [Nat.testBit_or, zmsk_bit b k t]
    by_cases hb : b k
    · rw [if_pos hb, Nat.testBit_two_pow]
      by_cases ht : k = t
      · subst ht; simp [hb]
      · have e : decide (t < k + 1) = decide (t < k) := by congr 1; exact propext (by omega)
        simp [ht, e]
    · rw [if_neg hb, Nat.zero_testBit]
      by_cases ht : k = t
      · subst ht; simp [hb]
      · have e : decide (t < k + 1) = decide (t < k) := by congr 1; exact propext (by omega)
        simp [e]
theorem zmsk_id {a k : Nat} (h : a < 2 ^ k) : zmsk a.testBit k = a := by
  apply Nat.eq_of_testBit_eq
  intro t
  rw [zmsk_bit]
  by_cases ht : t < k
  · simp [ht]
  · rw [Nat.testBit_lt_two_pow (Nat.lt_of_lt_of_le h (Nat.pow_le_pow_right (by omega) (by omega)))]
    simp [ht]
/-- words from a state, without the rules of g -/
def vWg (v : zA) (g s : Nat) : Nat := zmsk (fun t => (vWf v s).testBit t && !(g.testBit (vRu v s t))) 8
theorem vWg_lt (v : zA) (g s : Nat) : vWg v g s < 256 := zmsk_lt _ 8
theorem vWg_bit (v : zA) (g s : Nat) {t : Nat} (ht : t < 8) : (vWg v g s).testBit t = ((vWf v s).testBit t && !(g.testBit (vRu v s t))) := by
  unfold vWg
  rw [zmsk_bit]
  simp [ht]
theorem vWg_0 {v : zA} (ho : Ok v) {s : Nat} (hs : s < 8) : vWg v 0 s = vWf v s := by
  have e : (fun t => (vWf v s).testBit t && !(Nat.testBit 0 (vRu v s t))) = (vWf v s).testBit := by
    funext t; simp
  unfold vWg
  rw [e]
  exact zmsk_id (ho.wf hs).2
def vMg (v : zA) (g n s : Nat) : Nat := if vP v = 0 ∨ vLen v ≤ n then 0 else vPw v (vTr v n) &&& vWg v g s
theorem vMg_0 {v : zA} (ho : Ok v) {n s : Nat} (hs : s < 8) : vMg v 0 n s = vMay v n s := by
  unfold vMg vMay
  rw [vWg_0 ho hs]
theorem vMg_lt (v : zA) (g n s : Nat) : vMg v g n s < 256 := by
  unfold vMg
  split
  · omega
  · exact Nat.and_lt_two_pow (n := 8) _ (vWg_lt v g s)
/-- the worth of a meaning -/
def vWs (v : zA) (p m : Nat) : Nat → Int32
  | 0 => 0
  | k + 1 => vWs v p m k + (if m.testBit k then vWo v p k else 0)
/-- the model's tables -/
def zTo (A v : zA) (g s : Nat) : Prop := ∀ t, t < 8 → (vWg v g s).testBit t = true → A 83 (8 * s + t) = nI (vTo v s t) ∧ A 84 (8 * s + t) = nI (vMk v s t)
def zTm (A v : zA) (g s : Nat) : Prop := ∀ p, p < vP v → A 82 (8 * p + s) = nI (vPw v p &&& vWg v g s)
def zTab (A v : zA) (g : Nat) : Prop := (∀ s, s < 8 → zTo A v g s ∧ zTm A v g s) ∧ ∀ p m, p < vP v → m < 64 → A 85 (64 * p + m) = vWs v p m 6
theorem zTab_of {A B v : zA} {g : Nat} (h : zTab A v g) (hc : ∀ c, 82 ≤ c → c ≤ 85 → B c = A c) : zTab B v g := by
  unfold zTab zTo zTm at *
  rw [hc 82 (by decide) (by decide), hc 83 (by decide) (by decide), hc 84 (by decide) (by decide), hc 85 (by decide) (by decide)]
  exact h
section MW
variable {A v : zA} {L : zL} {d n s m t p g : Nat}
theorem mIsIn (x a b : Int32) : zM_isIn d x a b A L = some (some (.int (if x < a ∨ b < x then 0 else 1)), A, L) := by
  rw [zM_isIn_q]
  by_cases h1 : x < a
  · rw [if_pos h1, if_pos (Or.inl h1), zM_isIn_1_q, zM_isIn_2_q, zcb_0]
  · rw [if_neg h1]
    by_cases h2 : b < x
    · rw [if_pos h2, if_pos (Or.inr h2), zM_isIn_1_q, zM_isIn_2_q, zcb_0]
    · rw [if_neg h2, if_neg (fun h => h.elim h1 h2), zM_isIn_2_q, zcb_1]
theorem mIsOne (hw : zmw A v) (x : Int32) : zM_isOne d x A L = some (some (.int (if x < 0 ∨ v 9 4 ≤ x then 0 else 1)), A, L) := by
  obtain ⟨-, -, -, -, -, -, -, -, -, -, -, h12, -⟩ := hw
  rw [zM_isOne_q, h12]
  by_cases h1 : x < 0
  · rw [if_pos h1, if_pos (Or.inl h1), zM_isOne_1_q, zM_isOne_2_q, zcb_0]
  · rw [if_neg h1]
    by_cases h2 : v 9 4 ≤ x
    · rw [if_pos h2, if_pos (Or.inr h2), zM_isOne_1_q, zM_isOne_2_q, zcb_0]
    · rw [if_neg h2, if_neg (fun h => h.elim h1 h2), zM_isOne_2_q, zcb_1]
theorem mIsEnd (ho : Ok v) (hw : zmw A v) (hs : s < 8) : zM_isEnd d (nI s) A L = some (some (.int (if vEn v s then 1 else 0)), A, L) := by
  obtain ⟨-, -, -, -, -, -, -, -, -, -, h11, -⟩ := hw
  rw [zM_isEnd_q, h11, ho.ends.1, zifc (zbit1 (by have := ho.ends.2; omega) (by omega))]
  unfold vEn
  cases (v 2 7).toNatClampNeg.testBit s
  · simp only [zM_isEnd_1_q, zM_isEnd_2_q, zcb_0]; rfl
  · simp only [zM_isEnd_2_q, zcb_1]; rfl
theorem mTurnAt (ho : Ok v) (hw : zmw A v) (hn : n < 65536) (hp : 0 < vP v) : zM_turnAt d (nI n) A L = some (some (.int (nI (vTr v n))), A, L) := by
  have h5 := ho.P.2
  have hm : n % vP v < 4 := by have := Nat.mod_lt n hp; omega
  obtain ⟨-, -, -, -, -, -, -, h72, -, -, -, h12, -⟩ := hw
  rw [zM_turnAt_q, h12, ho.P.1, zcd_n hp (by omega), zrem_n (by omega) hp (by omega), zck_n hm (by decide), nI_clamp (by omega), h72, (ho.tr hp n).1]
theorem mPlaceAt : zM_placeAt d (nI n) (nI s) (nI m) A L = some (some (.int (nI (zsp n s m))), A, L) := by
  rw [zM_placeAt_q, show (64 : Int32) = nI 64 from rfl, show (8 : Int32) = nI 8 from rfl, pk_mul, nI_add, pk_mul, nI_add]
  rfl
theorem mMayAt (ho : Ok v) (hw : zmw A v) (hT : zTab A v g) (hn : n < 65536) (hs : s < 8) : zM_mayAt (d + 1) (nI n) (nI s) A L = some (some (.int (nI (vMg v g n s))), A, L) := by
  have h5 := ho.P.2
  have h9 := ho.len.2
  have hw' := hw
  obtain ⟨-, -, -, -, -, -, -, -, -, -, -, h12, h13, -⟩ := hw'
  unfold vMg
  rw [zM_mayAt_q, h12, ho.P.1, h13, ho.len.1, show (0 : Int32) = nI 0 from rfl, zifi (nI_eq (by omega) (by omega)), zifi (nI_ltI (by omega) (by omega))]
  by_cases hp : vP v = 0
  · rw [if_pos hp, if_pos (Or.inl hp), zM_mayAt_1_q, zM_mayAt_3_q]; rfl
  · rw [if_neg hp]
    by_cases hl : n < vLen v
    · have ht := (ho.tr (Nat.pos_of_ne_zero hp) n).2
      rw [if_pos hl, if_neg (by omega), zM_mayAt_2_q, mTurnAt ho hw hn (Nat.pos_of_ne_zero hp), zbi_s, show (8 : Int32) = nI 8 from rfl, pk_mul, nI_add, zck_n (by omega) (by decide), zM_mayAt_3_q, nI_clamp (by omega), (hT.1 s hs).2 _ ht]
    · rw [if_neg hl, if_pos (Or.inr (by omega)), zM_mayAt_1_q, zM_mayAt_3_q]; rfl
theorem mAfterWord (ho : Ok v) (hT : zTab A v g) (hs : s < 8) (ht : t < 8) (hb : (vWg v g s).testBit t = true) : zM_afterWord (d + 1) (nI n) (nI s) (nI m) (nI t) A L = some (some (.int (nI (zsp (n + 1) (vTo v s t) (m ^^^ vMk v s t)))), A, L) := by
  obtain ⟨e1, e2⟩ := (hT.1 s hs).1 t ht hb
  rw [zM_afterWord_q, show (8 : Int32) = nI 8 from rfl, pk_mul, nI_add, zck_n (by omega) (by decide), zck_n (by omega) (by decide), nI_clamp (by omega), e1, e2, nI_1, nI_xor, mPlaceAt, zbi_s]
theorem mEndAt (ho : Ok v) (hw : zmw A v) (hs : s < 8) : zM_endAt (d + 1) (nI s) (nI m) A L = some (some (.int (nI (if vEn v s then m else 64 + m))), A, L) := by
  rw [zM_endAt_q, mIsEnd ho hw hs, zbi_s]
  cases vEn v s
  · rw [ite_ft, ite_ft, if_pos rfl, zM_endAt_1_q, zM_endAt_2_q, show (64 : Int32) = nI 64 from rfl, nI_add]
  · rw [ite_tt, ite_tt, if_neg (by decide), zM_endAt_2_q]
/-- the worth of an end -/
def vEw (v : zA) (p e : Nat) : Int32 := if e < 64 then vWs v p e 6 else -(vLoss v)
theorem mEndWorth {e : Nat} (hw : zmw A v) (hT : zTab A v g) (h5 : vP v < 5) (hp : p < vP v) (he : e < 128) : zM_endWorth d (nI p) (nI e) A L = some (some (.int (vEw v p e)), A, L) := by
  obtain ⟨-, -, -, -, -, -, -, -, -, -, -, -, -, h14, -⟩ := hw
  unfold vEw vLoss
  rw [zM_endWorth_q, show (64 : Int32) = nI 64 from rfl, zifi (nI_ltI (by omega) (by omega))]
  by_cases h : e < 64
  · rw [if_pos h, if_pos h, zM_endWorth_1_q, show (64 : Int32) = nI 64 from rfl, pk_mul, nI_add, zck_n (by omega) (by decide), zM_endWorth_2_q, nI_clamp (by omega), hT.2 p e hp h]
  · rw [if_neg h, if_neg h, h14, zM_endWorth_2_q]
theorem mRuleAt_1 (ho : Ok v) (hw : zmw A v) (hs : s < 8) (ht : t < 8) : ∀ k r, r + k = vR v → (∀ q, q < r → ¬ (v 3 q = nI s ∧ v 4 q = nI t)) →
    zM_ruleAt_1 d (nI s) (nI t) (nI r) A L = some (some (.int (if (vWf v s).testBit t then nI (vRu v s t) else -9)), A, L) := by
  have hR := ho.R.2
  have hh := ho.has hs ht
  have hw' := hw
  obtain ⟨h65, h66, -, -, -, -, -, -, -, h10, -⟩ := hw'
  intro k
  induction k with
  | zero =>
    intro r hr hno
    rw [zM_ruleAt_1_q, h10, ho.R.1, if_pos (nI_le (by omega) (by omega)), zM_ruleAt_3_q, if_neg]
    intro hb
    obtain ⟨a1, a2, a3⟩ := hh.mp hb
    exact hno _ (by omega) ⟨a2, a3⟩
  | succ k ih =>
    intro r hr hno
    rw [zM_ruleAt_1_q, h10, ho.R.1, if_neg (nI_ge (by omega) (by omega)), zck_n (by omega) (by decide), h65, h66, nI_clamp (by omega)]
    have hgo : ¬ (v 3 r = nI s ∧ v 4 r = nI t) → zM_ruleAt_2 d (nI s) (nI t) (nI r) A L = some (some (.int (if (vWf v s).testBit t then nI (vRu v s t) else -9)), A, L) := by
      intro hn
      rw [zM_ruleAt_2_q, nI_1]
      exact ih (r + 1) (by omega) (fun q hq => by
        by_cases e : q = r
        · rw [e]; exact hn
        · exact hno q (by omega))
    by_cases h3 : v 3 r = nI s
    · rw [if_pos h3, zck_n (by omega) (by decide)]
      by_cases h4 : v 4 r = nI t
      · have hat := ho.at (r := r) (by omega)
        rw [h3, h4, nI_clamp (by omega), nI_clamp (by omega)] at hat
        have e : vRu v s t = r := by unfold vRu; rw [hat, nI_clamp (by omega)]
        have hb : (vWf v s).testBit t = true := hh.mpr ⟨by omega, by rw [e]; exact h3, by rw [e]; exact h4⟩
        rw [if_pos h4, if_pos hb, e]
      · rw [if_neg h4]; exact hgo (fun h => h4 h.2)
    · rw [if_neg h3]; exact hgo (fun h => h3 h.1)
theorem mRuleAt (ho : Ok v) (hw : zmw A v) (hs : s < 8) (ht : t < 8) : zM_ruleAt d (nI s) (nI t) A L = some (some (.int (if (vWf v s).testBit t then nI (vRu v s t) else -9)), A, L) := by
  rw [zM_ruleAt_q]
  exact mRuleAt_1 ho hw hs ht (vR v) 0 (by omega) (fun q h => absurd h (Nat.not_lt_zero q))
theorem mRuleNow (ho : Ok v) (hw : zmw A v) (hg : A 63 33 = nI g) (hg2 : g < 2 ^ 24) (hs : s < 8) (ht : t < 8) : zM_ruleNow (d + 1) (nI s) (nI t) A L = some (some (.int (if (vWg v g s).testBit t then nI (vRu v s t) else -9)), A, L) := by
  have hru := (ho.ru hs ht).2
  rw [zM_ruleNow_q, mRuleAt ho hw hs ht, zbi_s, vWg_bit v g s ht]
  cases (vWf v s).testBit t
  · rw [ite_ft, if_pos (by decide), zM_ruleNow_1_q, zM_ruleNow_2_q, Bool.false_and, ite_ft]
  · rw [ite_tt, if_neg (nI_pos (by omega)), hg, zifc (zbit0 (by omega) (by omega)), Bool.true_and]
    cases g.testBit (vRu v s t)
    · rw [if_pos rfl, zM_ruleNow_2_q]; rfl
    · rw [if_neg (by decide), zM_ruleNow_1_q, zM_ruleNow_2_q]; rfl
end MW
