/-! ===== the model's choices ===== -/
theorem z_sac (a b c : Int32) : (a - b) + c = (a + c) - b := by
  rw [Int32.sub_eq_add_neg, Int32.sub_eq_add_neg, Int32.add_assoc, Int32.add_comm (-b) c, ← Int32.add_assoc]
/-- the best of all deeds, of that of the words -/
theorem zbd_8 {ok : Nat → Bool} {val : Nat → Int32} {b : Nat} {x : Int32} (h : zbst ok val 8 = some (b, x)) : zbd ok val = if ok 8 && decide (x < val 8) then 8 else b := by
  unfold zbd
  rw [show (9 : Nat) = 8 + 1 from rfl]
  unfold zbst
  rw [h]
  cases hc : (ok 8 && decide (x < val 8)) <;> simp [hc]
section MC
variable {A v : zA} {L : zL} {d n s m p : Nat}
theorem mLowest1 {w : Nat} (hw : w < 256) : ∀ k t, t + k = 8 → (∀ q, q < t → w.testBit q = false) → w ≠ 0 → zM_lowest_1 d (nI w) (nI t) A L = some (some (.int (nI (zlow w 8))), A, L) := by
  have hl : w ≠ 0 → zlow w 8 < 8 := fun h => zlow_lt (k := 8) hw h
  intro k
  induction k with
  | zero =>
    intro t ht hno h0
    exfalso
    have h1 := hl h0
    have h2 := zlow_yes w 8 h1
    rw [hno _ (by omega)] at h2
    cases h2
  | succ k ih =>
    intro t ht hno h0
    rw [zM_lowest_1_q, zifc (zbit0 (by omega) (by omega))]
    cases hb : w.testBit t with
    | false =>
      rw [if_pos (by rfl), nI_1]
      exact ih (t + 1) (by omega) (fun q hq => by
        by_cases e : q = t
        · rw [e]; exact hb
        · exact hno q (by omega)) h0
    | true =>
      rw [if_neg (by decide), zM_lowest_2_q]
      have h1 := hl h0
      have e : zlow w 8 = t := by
        rcases Nat.lt_trichotomy (zlow w 8) t with h | h | h
        · have := zlow_yes w 8 h1; rw [hno _ h] at this; cases this
        · exact h
        · have := zlow_no w 8 t h; rw [hb] at this; cases this
      rw [e]
theorem mLowest (ho : Ok v) (hs : s < 8) (h0 : vMay v n s ≠ 0) : zM_lowest d (nI (vMay v n s)) A L = some (some (.int (nI (vLow v n s))), A, L) := by
  rw [zM_lowest_q, show (0 : Int32) = nI 0 from rfl]
  exact mLowest1 (ho.may hs) 8 0 (by omega) (fun q h => absurd h (Nat.not_lt_zero q)) h0
theorem mGoodTo3 {e q kd : Nat} {x : Int32} (ho : Ok v) (hw : zmw A v) (hT : zTab A v 0) (hq : q < vP v) (he : e < 128) : zM_goodTo_3 (d + 1) (nI p) (nI kd) (nI e) (nI q) x A L = zM_goodTo_2 (d + 1) (nI p) (nI kd) (nI e) (x + vEw v q e) (nI (q + 1)) A L := by
  rw [zM_goodTo_3_q, mEndWorth hw hT ho.P.2 hq he, zbi_s, zM_goodTo_4_q, nI_1]
theorem mP (ho : Ok v) (hw : zmw A v) : A 63 12 = nI (vP v) := by
  obtain ⟨-, -, -, -, -, -, -, -, -, -, -, h12, -⟩ := hw
  rw [h12]; exact ho.P.1
theorem mGoodToA {e : Nat} (ho : Ok v) (hw : zmw A v) (hT : zTab A v 0) (hp : p < vP v) (he : e < 128) : ∀ k q, q + k = vP v →
    zM_goodTo_2 (d + 1) (nI p) (nI 2) (nI e) (vAll v e q - (if p < q then vEw v p e else 0)) (nI q) A L = some (some (.int (vEw v p e - vAll v e (vP v))), A, L) := by
  have h5 := ho.P.2
  have hP := mP ho hw
  intro k
  induction k with
  | zero =>
    intro q hq
    have eq : q = vP v := by omega
    rw [eq, if_pos hp, zM_goodTo_2_q, hP, if_pos (nI_le (Nat.le_refl _) (by omega)), zM_goodTo_5_q, if_pos (by decide), zM_goodTo_7_q, Int32.neg_sub]
  | succ k ih =>
    intro q hq
    have hall : vAll v e (q + 1) = vAll v e q + vEw v q e := rfl
    have ih := ih (q + 1) (by omega)
    rw [hall] at ih
    rw [zM_goodTo_2_q, hP, if_neg (nI_ge (by omega) (by omega)), if_pos (show nI 2 = 2 from rfl)]
    by_cases hqp : q = p
    · rw [hqp, if_pos (Eq.refl (nI p)), zM_goodTo_4_q, nI_1, if_neg (Nat.lt_irrefl p), Int32.sub_zero, Int32.add_zero]
      rw [hqp, if_pos (Nat.lt_succ_self p), Int32.add_sub_cancel] at ih
      exact ih
    · rw [if_neg (nI_ne hqp (by omega) (by omega)), mGoodTo3 ho hw hT (by omega) he, z_sac]
      have e3 : (if p < q + 1 then vEw v p e else 0) = if p < q then vEw v p e else 0 := by
        by_cases h : p < q
        · rw [if_pos h, if_pos (by omega)]
        · rw [if_neg h, if_neg (by omega)]
      rw [e3] at ih
      exact ih
theorem mGoodToB {e : Nat} (ho : Ok v) (hw : zmw A v) (hT : zTab A v 0) (hp : p < vP v) (he : e < 128) : ∀ k q, q + k = vP v →
    zM_goodTo_2 (d + 1) (nI p) (nI 3) (nI e) (vAll v e q) (nI q) A L = some (some (.int (vAll v e (vP v))), A, L) := by
  have h5 := ho.P.2
  have hP := mP ho hw
  intro k
  induction k with
  | zero =>
    intro q hq
    have eq : q = vP v := by omega
    rw [eq, zM_goodTo_2_q, hP, if_pos (nI_le (Nat.le_refl _) (by omega)), zM_goodTo_5_q, if_neg (by decide), zM_goodTo_6_q, zM_goodTo_7_q]
  | succ k ih =>
    intro q hq
    rw [zM_goodTo_2_q, hP, if_neg (nI_ge (by omega) (by omega)), if_neg (by decide), mGoodTo3 ho hw hT (by omega) he]
    exact ih (q + 1) (by omega)
theorem mGoodTo {e kd : Nat} (ho : Ok v) (hw : zmw A v) (hT : zTab A v 0) (hp : p < vP v) (he : e < 128) (hk : kd = 0 ∨ kd = 2 ∨ kd = 3) : zM_goodTo (d + 1) (nI p) (nI kd) (nI e) A L = some (some (.int (vGd v p kd e)), A, L) := by
  rcases hk with rfl | rfl | rfl
  · rw [zM_goodTo_q, if_pos (by decide), mEndWorth hw hT ho.P.2 hp he, zbi_s]
    rfl
  · have h := mGoodToA (d := d) (L := L) ho hw hT hp he (vP v) 0 (by omega)
    rw [if_neg (Nat.not_lt_zero p), show vAll v e 0 = 0 from rfl, Int32.sub_zero] at h
    rw [zM_goodTo_q, if_neg (by decide), zM_goodTo_1_q]
    exact h
  · have h := mGoodToB (d := d) (L := L) ho hw hT hp he (vP v) 0 (by omega)
    rw [zM_goodTo_q, if_neg (by decide), zM_goodTo_1_q]
    exact h
/-- what a choice stands at, behind the words below t -/
def zAt (ok : Nat → Bool) (val : Nat → Int32) (t : Nat) (b most : Int32) : Prop := match zbst ok val t with
  | none => b = -9 ∧ most = 0
  | some q => b = nI q.1 ∧ most = q.2
theorem zAt_no {ok : Nat → Bool} {val : Nat → Int32} {t : Nat} {b most : Int32} (h : zAt ok val t b most) (hb : ok t = false) : zAt ok val (t + 1) b most := by
  unfold zAt at *
  unfold zbst
  cases hz : zbst ok val t with
  | none => rw [hz] at h; simp only [hb]; exact h
  | some q => rw [hz] at h; simp only [hb]; exact h
theorem zAt_new {ok : Nat → Bool} {val : Nat → Int32} {t : Nat} {b most : Int32} (ht : t < 16) (h : zAt ok val t b most) (hb : ok t = true) (hn : b < 0 ∨ most < val t) : zAt ok val (t + 1) (nI t) (val t) := by
  unfold zAt at *
  unfold zbst
  cases hz : zbst ok val t with
  | none => simp only [hb, if_true]; exact ⟨trivial, trivial⟩
  | some q =>
    rw [hz] at h
    have hlt : q.2 < val t := by
      rcases hn with hn | hn
      · rw [h.1] at hn
        have := zbst_in (show zbst ok val t = some (q.1, q.2) from hz)
        exact absurd hn (nI_pos (by omega))
      · rw [h.2] at hn; exact hn
    simp only [hb, hlt, decide_true, Bool.and_self, if_true]
    exact ⟨trivial, trivial⟩
theorem zAt_old {ok : Nat → Bool} {val : Nat → Int32} {t : Nat} {b most : Int32} (h : zAt ok val t b most) (hb : ok t = true) (h1 : ¬ b < 0) (h2 : ¬ most < val t) : zAt ok val (t + 1) b most := by
  unfold zAt at *
  unfold zbst
  cases hz : zbst ok val t with
  | none => rw [hz] at h; rw [h.1] at h1; exact absurd (by decide) h1
  | some q =>
    rw [hz] at h
    rw [h.2] at h2
    simp only [hb, h2, decide_false, Bool.and_false, Bool.false_eq_true, if_false]
    exact h
/-- behind the words: the end of a choice, with the stop -/
theorem zAt_end {ok : Nat → Bool} {val : Nat → Int32} {b most : Int32} (h : zAt ok val 8 b most) (hex : ∃ t, t < 8 ∧ ok t = true) : ¬ b < 0 ∧ nI (zbd ok val) = if ok 8 = true then (if val 8 ≤ most then b else 8) else b := by
  unfold zAt at h
  cases hz : zbst ok val 8 with
  | none =>
    obtain ⟨t, h1, h2⟩ := hex
    rw [zbst_none hz t h1] at h2
    cases h2
  | some q =>
    rw [hz] at h
    have hq := (zbst_in (show zbst ok val 8 = some (q.1, q.2) from hz)).1
    refine ⟨by rw [h.1]; exact nI_pos (by omega), ?_⟩
    rw [zbd_8 (show zbst ok val 8 = some (q.1, q.2) from hz), h.1, h.2]
    cases ok 8
    · rfl
    · by_cases hle : val 8 ≤ q.2
      · have : ¬ q.2 < val 8 := Int32.not_lt.mpr hle
        simp [this, hle]
      · have : q.2 < val 8 := Int32.not_le.mp hle
        simp [this, hle]
        rfl
theorem mBlind1 (ho : Ok v) (hw : zmw A v) (hT : zTab A v 0) (hn : n < 8) (hs : s < 8) (hm : m < 64) (hp : p < vP v) (h0 : vMay v n s ≠ 0) {e : Nat → Nat} (he : ∀ t, t < 8 → vOk v n s t = true → e t < 128 ∧ A 88 (4608 * p + zsp (n + 1) (vTo v s t) (m ^^^ vMk v s t)) = nI (e t)) (he8 : e 8 = m) :
    ∀ k t b most, t + k = 8 → zAt (vOk v n s) (fun t => vEw v p (e t)) t b most → zM_blindChoice_1 (d + 3) (nI p) (nI n) (nI s) (nI m) b most (nI (vMay v n s)) (nI t) A L = some (some (.int (nI (zbd (vOk v n s) (fun t => vEw v p (e t))))), A, L) := by
  have hmay := ho.may (n := n) hs
  have h5 := ho.P.2
  intro k
  induction k with
  | zero =>
    intro t b most ht hat
    have et : t = 8 := by omega
    subst et
    obtain ⟨z1, z2⟩ := zAt_end hat ⟨_, vLow_lt ho hs h0, vLow_ok ho hs h0⟩
    rw [zM_blindChoice_1_q, if_pos (by decide), zM_blindChoice_5_q, if_neg z1, mIsEnd ho hw hs, zbi_s, z2, vOk_8 ho hs]
    cases vEn v s
    · rw [ite_ft, if_pos (by rfl), zM_blindChoice_6_q, zM_blindChoice_7_q, if_neg (by simp)]
    · have hd : (decide (vMay v n s ≠ 0) && true) = true := by simp [h0]
      rw [hd, ite_tt, ite_tt, if_neg (by decide), mEndWorth hw hT h5 hp (show m < 128 by omega), zbi_s, he8]
      by_cases hle : vEw v p m ≤ most
      · rw [if_pos hle, if_pos hle, zM_blindChoice_6_q, zM_blindChoice_7_q]
      · rw [if_neg hle, if_neg hle, zM_blindChoice_7_q]
  | succ k ih =>
    intro t b most ht hat
    have ht8 : t < 8 := by omega
    rw [zM_blindChoice_1_q, if_neg (nI_g8 ht8), zifc (zbit0 (by omega) (by omega)), ← vOk_t ht8]
    cases hb : vOk v n s t with
    | false =>
      rw [if_pos (by rfl), zM_blindChoice_4_q, nI_1]
      exact ih (t + 1) b most (by omega) (zAt_no hat hb)
    | true =>
      obtain ⟨e1, e2⟩ := he t ht8 hb
      have hg : (vWg v 0 s).testBit t = true := by
        rw [vWg_0 ho hs]
        rw [vOk_t ht8] at hb
        unfold vMay at hb
        split at hb
        · simp at hb
        · rw [Nat.testBit_and, Bool.and_eq_true] at hb; exact hb.2
      have hto := (ho.to hs ht8).2
      have hmk := Ok.xor hm (ho.mk hs ht8)
      have hsp : zsp (n + 1) (vTo v s t) (m ^^^ vMk v s t) < 4608 := zsp_lt (b := 9) (by omega) hto hmk
      rw [if_neg (by decide), zM_blindChoice_2_q, mAfterWord ho hT hs ht8 hg, zbi_s, show (4608 : Int32) * nI p + nI (zsp (n + 1) (vTo v s t) (m ^^^ vMk v s t)) = nI (4608 * p + zsp (n + 1) (vTo v s t) (m ^^^ vMk v s t)) by rw [show (4608 : Int32) = nI 4608 from rfl, pk_mul, nI_add], zck_n (by omega) (by decide), nI_clamp (by omega), e2, mEndWorth hw hT h5 hp e1, zbi_s]
      by_cases hneg : b < 0
      · rw [if_pos hneg, zM_blindChoice_3_q, zM_blindChoice_4_q, nI_1]
        exact ih (t + 1) _ _ (by omega) (zAt_new (by omega) hat hb (Or.inl hneg))
      · rw [if_neg hneg]
        by_cases hlt : most < vEw v p (e t)
        · rw [if_pos hlt, zM_blindChoice_3_q, zM_blindChoice_4_q, nI_1]
          exact ih (t + 1) _ _ (by omega) (zAt_new (by omega) hat hb (Or.inr hlt))
        · rw [if_neg hlt, zM_blindChoice_4_q, nI_1]
          exact ih (t + 1) _ _ (by omega) (zAt_old hat hb hneg hlt)
end MC
