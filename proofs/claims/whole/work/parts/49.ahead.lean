/-! ===== the model's other choices ===== -/
section MD
variable {A v : zA} {L : zL} {d n s m p : Nat}
theorem mAhead1 (ho : Ok v) (hw : zmw A v) (hT : zTab A v 0) (hn : n < 8) (hs : s < 8) (hm : m < 64) (hp : p < vP v) (h0 : vMay v n s ≠ 0) {kd : Nat} (hk : kd = 0 ∨ kd = 2 ∨ kd = 3) {e : Nat → Nat} (he : ∀ t, t < 8 → vOk v n s t = true → e t < 128 ∧ A 86 (zsp (n + 1) (vTo v s t) (m ^^^ vMk v s t)) = nI (e t)) (he8 : e 8 = m) :
    ∀ k t b most, t + k = 8 → zAt (vOk v n s) (fun t => vGd v p kd (e t)) t b most → zM_aheadChoice_1 (d + 3) (nI p) (nI kd) (nI n) (nI s) (nI m) b most (nI (vMay v n s)) (nI t) A L = some (some (.int (nI (zbd (vOk v n s) (fun t => vGd v p kd (e t))))), A, L) := by
  have hmay := ho.may (n := n) hs
  have h5 := ho.P.2
  intro k
  induction k with
  | zero =>
    intro t b most ht hat
    have et : t = 8 := by omega
    subst et
    obtain ⟨z1, z2⟩ := zAt_end hat ⟨_, vLow_lt ho hs h0, vLow_ok ho hs h0⟩
    rw [zM_aheadChoice_1_q, if_pos (by decide), zM_aheadChoice_5_q, if_neg z1, mIsEnd ho hw hs, zbi_s, z2, vOk_8 ho hs]
    cases vEn v s
    · rw [ite_ft, if_pos (by rfl), zM_aheadChoice_6_q, zM_aheadChoice_7_q, if_neg (by simp)]
    · have hd : (decide (vMay v n s ≠ 0) && true) = true := by simp [h0]
      rw [hd, ite_tt, ite_tt, if_neg (by decide), mGoodTo ho hw hT hp (show m < 128 by omega) hk, zbi_s, he8]
      by_cases hle : vGd v p kd m ≤ most
      · rw [if_pos hle, if_pos hle, zM_aheadChoice_6_q, zM_aheadChoice_7_q]
      · rw [if_neg hle, if_neg hle, zM_aheadChoice_7_q]
  | succ k ih =>
    intro t b most ht hat
    have ht8 : t < 8 := by omega
    rw [zM_aheadChoice_1_q, if_neg (nI_g8 ht8), zifc (zbit0 (by omega) (by omega)), ← vOk_t ht8]
    cases hb : vOk v n s t with
    | false =>
      rw [if_pos (by rfl), zM_aheadChoice_4_q, nI_1]
      exact ih (t + 1) b most (by omega) (zAt_no hat hb)
    | true =>
      obtain ⟨e1, e2⟩ := he t ht8 hb
      have hg : (vWg v 0 s).testBit t = true := by
        rw [vWg_0 ho hs]
        rw [vOk_t ht8] at hb
        unfold vMay at hb
        split at hb
        · simp at hb
        · rw [Nat.testBit_and, Bool.and_eq_true] at hb; exact hb.2
      have hto := (ho.to hs ht8).2
      have hmk := Ok.xor hm (ho.mk hs ht8)
      have hsp : zsp (n + 1) (vTo v s t) (m ^^^ vMk v s t) < 4608 := zsp_lt (b := 9) (by omega) hto hmk
      rw [if_neg (by decide), zM_aheadChoice_2_q, mAfterWord ho hT hs ht8 hg, zbi_s, zck_n (by omega) (by decide), nI_clamp (by omega), e2, mGoodTo ho hw hT hp e1 hk, zbi_s]
      by_cases hneg : b < 0
      · rw [if_pos hneg, zM_aheadChoice_3_q, zM_aheadChoice_4_q, nI_1]
        exact ih (t + 1) _ _ (by omega) (zAt_new (by omega) hat hb (Or.inl hneg))
      · rw [if_neg hneg]
        by_cases hlt : most < vGd v p kd (e t)
        · rw [if_pos hlt, zM_aheadChoice_3_q, zM_aheadChoice_4_q, nI_1]
          exact ih (t + 1) _ _ (by omega) (zAt_new (by omega) hat hb (Or.inr hlt))
        · rw [if_neg hlt, zM_aheadChoice_4_q, nI_1]
          exact ih (t + 1) _ _ (by omega) (zAt_old hat hb hneg hlt)
theorem mGreedy1 (ho : Ok v) (hw : zmw A v) (hT : zTab A v 0) (hn : n < 8) (hs : s < 8) (hm : m < 64) (hp : p < vP v) (h0 : vMay v n s ≠ 0) :
    ∀ k t b most, t + k = 8 → zAt (vOk v n s) (fun t => vWs v p (if t = 8 then m else m ^^^ vMk v s t) 6) t b most → zM_greedyChoice_1 (d + 3) (nI p) (nI s) (nI m) b most (nI (vMay v n s)) (nI t) A L = some (some (.int (nI (zbd (vOk v n s) (fun t => vWs v p (if t = 8 then m else m ^^^ vMk v s t) 6)))), A, L) := by
  have hmay := ho.may (n := n) hs
  have h5 := ho.P.2
  intro k
  induction k with
  | zero =>
    intro t b most ht hat
    have et : t = 8 := by omega
    subst et
    obtain ⟨z1, z2⟩ := zAt_end hat ⟨_, vLow_lt ho hs h0, vLow_ok ho hs h0⟩
    rw [zM_greedyChoice_1_q, if_pos (by decide), zM_greedyChoice_5_q, if_neg z1, mIsEnd ho hw hs, zbi_s, z2, vOk_8 ho hs]
    cases vEn v s
    · rw [ite_ft, if_pos (by rfl), zM_greedyChoice_6_q, zM_greedyChoice_7_q, if_neg (by simp)]
    · have hd : (decide (vMay v n s ≠ 0) && true) = true := by simp [h0]
      rw [hd, ite_tt, ite_tt, if_neg (by decide), show (64 : Int32) * nI p + nI m = nI (64 * p + m) by rw [show (64 : Int32) = nI 64 from rfl, pk_mul, nI_add], zck_n (by omega) (by decide), nI_clamp (by omega), hT.2 p m hp hm, show (if (8 : Nat) = 8 then m else m ^^^ vMk v s 8) = m from if_pos rfl]
      by_cases hle : vWs v p m 6 ≤ most
      · rw [if_pos hle, if_pos hle, zM_greedyChoice_6_q, zM_greedyChoice_7_q]
      · rw [if_neg hle, if_neg hle, zM_greedyChoice_7_q]
  | succ k ih =>
    intro t b most ht hat
    have ht8 : t < 8 := by omega
    rw [zM_greedyChoice_1_q, if_neg (nI_g8 ht8), zifc (zbit0 (by omega) (by omega)), ← vOk_t ht8]
    cases hb : vOk v n s t with
    | false =>
      rw [if_pos (by rfl), zM_greedyChoice_4_q, nI_1]
      exact ih (t + 1) b most (by omega) (zAt_no hat hb)
    | true =>
      have hg : (vWg v 0 s).testBit t = true := by
        rw [vWg_0 ho hs]
        rw [vOk_t ht8] at hb
        unfold vMay at hb
        split at hb
        · simp at hb
        · rw [Nat.testBit_and, Bool.and_eq_true] at hb; exact hb.2
      have hmk := Ok.xor hm (ho.mk hs ht8)
      have ht9 : ¬ t = 8 := by omega
      rw [if_neg (by decide), zM_greedyChoice_2_q, show (8 : Int32) * nI s + nI t = nI (8 * s + t) by rw [show (8 : Int32) = nI 8 from rfl, pk_mul, nI_add], zck_n (by omega) (by decide), nI_clamp (by omega), ((hT.1 s hs).1 t ht8 hg).2, nI_xor, show (64 : Int32) * nI p + nI (m ^^^ vMk v s t) = nI (64 * p + (m ^^^ vMk v s t)) by rw [show (64 : Int32) = nI 64 from rfl, pk_mul, nI_add], zck_n (by omega) (by decide), nI_clamp (by omega), hT.2 p _ hp hmk]
      have hval : vWs v p (if t = 8 then m else m ^^^ vMk v s t) 6 = vWs v p (m ^^^ vMk v s t) 6 := by rw [if_neg ht9]
      rw [← hval]
      by_cases hneg : b < 0
      · rw [if_pos hneg, zM_greedyChoice_3_q, zM_greedyChoice_4_q, nI_1]
        exact ih (t + 1) _ _ (by omega) (zAt_new (by omega) hat hb (Or.inl hneg))
      · rw [if_neg hneg]
        by_cases hlt : most < vWs v p (if t = 8 then m else m ^^^ vMk v s t) 6
        · rw [if_pos hlt, zM_greedyChoice_3_q, zM_greedyChoice_4_q, nI_1]
          exact ih (t + 1) _ _ (by omega) (zAt_new (by omega) hat hb (Or.inr hlt))
        · rw [if_neg hlt, zM_greedyChoice_4_q, nI_1]
          exact ih (t + 1) _ _ (by omega) (zAt_old hat hb hneg hlt)
end MD
/-! ===== three loops in each other: from the last word back, over all states and meanings ===== -/
def zDone (n s m n' s' m' : Nat) : Prop := n < n' ∨ (n' = n ∧ (s' < s ∨ (s' = s ∧ m' < m)))
theorem zLoop3 {σ : Type} (F1 : Int32 → σ → Option zR) (F2 : Int32 → Int32 → σ → Option zR) (F3 : Int32 → Int32 → Int32 → σ → Option zR) (fin : σ → Option zR) (I : (Nat → Nat → Nat → Prop) → σ → Prop)
    (hI : ∀ P Q x, (∀ n s m, n ≤ 8 → s < 8 → m < 64 → Q n s m → P n s m) → I P x → I Q x)
    (h1 : ∀ n x, n ≤ 8 → F1 (nI n) x = F2 (nI n) (nI 0) x) (h1e : ∀ x, F1 (-1) x = fin x)
    (h2 : ∀ n s x, s < 8 → F2 (nI n) (nI s) x = F3 (nI n) (nI s) (nI 0) x) (h2e : ∀ n x, F2 (nI n) (nI 8) x = F1 (nI n + (-1)) x)
    (h3e : ∀ n s x, F3 (nI n) (nI s) (nI 64) x = F2 (nI n) (nI (s + 1)) x)
    (hs : ∀ n s m x, n ≤ 8 → s < 8 → m < 64 → I (zDone n s m) x → ∃ y, F3 (nI n) (nI s) (nI m) x = F3 (nI n) (nI s) (nI (m + 1)) y ∧ I (fun a b c => zDone n s m a b c ∨ (a = n ∧ b = s ∧ c = m)) y)
    (x : σ) (h0 : I (fun _ _ _ => False) x) : ∃ y, F1 (nI 8) x = fin y ∧ I (fun _ _ _ => True) y := by
  have l3 : ∀ k n s m x, m + k = 64 → n ≤ 8 → s < 8 → I (zDone n s m) x → ∃ y, F3 (nI n) (nI s) (nI m) x = F2 (nI n) (nI (s + 1)) y ∧ I (zDone n s 64) y := by
    intro k
    induction k with
    | zero =>
      intro n s m x hm hn hs' hx
      have e : m = 64 := by omega
      subst e
      exact ⟨x, h3e n s x, hx⟩
    | succ k ih =>
      intro n s m x hm hn hs' hx
      obtain ⟨y, e1, e2⟩ := hs n s m x hn hs' (by omega) hx
      obtain ⟨z, f1, f2⟩ := ih n s (m + 1) y (by omega) hn hs' (hI _ _ y (fun a b c _ _ _ h => by unfold zDone at *; omega) e2)
      exact ⟨z, e1.trans f1, f2⟩
  have l2 : ∀ k n s x, s + k = 8 → n ≤ 8 → I (zDone n s 0) x → ∃ y, F2 (nI n) (nI s) x = F1 (nI n + (-1)) y ∧ I (zDone n 8 0) y := by
    intro k
    induction k with
    | zero =>
      intro n s x hs' hn hx
      have e : s = 8 := by omega
      subst e
      exact ⟨x, h2e n x, hx⟩
    | succ k ih =>
      intro n s x hs' hn hx
      obtain ⟨y, e1, e2⟩ := l3 64 n s 0 x (by omega) hn (by omega) hx
      obtain ⟨z, f1, f2⟩ := ih n (s + 1) y (by omega) hn (hI _ _ y (fun a b c _ _ hc h => by unfold zDone at *; omega) e2)
      exact ⟨z, by rw [h2 n s x (by omega), e1, f1], f2⟩
  have l1 : ∀ k n x, n = k → n ≤ 8 → I (zDone n 0 0) x → ∃ y, F1 (nI n) x = fin y ∧ I (fun _ _ _ => True) y := by
    intro k
    induction k with
    | zero =>
      intro n x hk hn hx
      subst hk
      obtain ⟨y, e1, e2⟩ := l2 8 0 0 x (by omega) hn hx
      refine ⟨y, ?_, hI _ _ y (fun a b c _ hb _ _ => by unfold zDone; omega) e2⟩
      rw [h1 0 x hn, e1, show nI 0 + (-1) = (-1 : Int32) by decide, h1e]
    | succ k ih =>
      intro n x hk hn hx
      subst hk
      obtain ⟨y, e1, e2⟩ := l2 8 (k + 1) 0 x (by omega) hn hx
      obtain ⟨z, f1, f2⟩ := ih k y rfl (by omega) (hI _ _ y (fun a b c _ hb _ h => by unfold zDone at *; omega) e2)
      exact ⟨z, by rw [h1 _ x hn, e1, pk_m1, f1], f2⟩
  exact l1 8 8 x rfl (Nat.le_refl 8) (hI _ _ x (fun a b c ha _ _ h => by unfold zDone at h; omega) h0)
