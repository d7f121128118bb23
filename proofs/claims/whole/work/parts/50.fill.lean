/-! ===== the model's mind: its tables are filled ===== -/
/-- a blind one's table, at the places that P tells -/
def zMo (A v : zA) (p : Nat) (P : Nat → Nat → Nat → Prop) : Prop := ∀ n s m, n ≤ 8 → s < 8 → m < 64 → P n s m → A 88 (4608 * p + zsp n s m) = nI (vD v p n s m % 128)
def zEo (A v : zA) (P : Nat → Nat → Nat → Prop) : Prop := ∀ n s m, n ≤ 8 → s < 8 → m < 64 → P n s m → A 86 (zsp n s m) = nI (vE v n s m % 128) ∧ A 87 (zsp n s m) = nI (vE v n s m / 128)
theorem zsp_inj {n s m n' s' m' : Nat} (hs : s < 8) (hm : m < 64) (hs' : s' < 8) (hm' : m' < 64) (h : zsp n s m = zsp n' s' m') : n = n' ∧ s = s' ∧ m = m' := by unfold zsp at h; omega
section MF
variable {v : zA} {L : zL} {d : Nat}
theorem vOk_g (ho : Ok v) {n s t : Nat} (hs : s < 8) (ht : t < 8) (hb : vOk v n s t = true) : (vWg v 0 s).testBit t = true := by
  rw [vWg_0 ho hs]
  rw [vOk_t ht] at hb
  unfold vMay at hb
  split at hb
  · simp at hb
  · rw [Nat.testBit_and, Bool.and_eq_true] at hb; exact hb.2
theorem vGd4_w {n s m t p : Nat} (ht : t < 8) : vGd4 v p n s m t = vD v p (n + 1) (vTo v s t) (m ^^^ vMk v s t) := by unfold vGd4; rw [if_neg (by omega)]
theorem vGo_w {n s m t : Nat} (ht : t < 8) : vGo v n s m t = vE v (n + 1) (vTo v s t) (m ^^^ vMk v s t) := by unfold vGo; rw [if_neg (by omega)]
theorem mBlind {A : zA} {n s m p : Nat} (ho : Ok v) (hw : zmw A v) (hT : zTab A v 0) (hn : n < 8) (hs : s < 8) (hm : m < 64) (hp : p < vP v) (h0 : vMay v n s ≠ 0) {P : Nat → Nat → Nat → Prop} (hM : zMo A v p P) (hP : ∀ s m, P (n + 1) s m) :
    zM_blindChoice (d + 4) (nI p) (nI n) (nI s) (nI m) A L = some (some (.int (nI (zbd (vOk v n s) (fun t => vEw v p (vGd4 v p n s m t % 128))))), A, L) := by
  have h := mBlind1 (d := d + 1) (L := L) ho hw hT hn hs hm hp h0 (e := fun t => vGd4 v p n s m t % 128) (fun t ht hb => ⟨by omega, by
    rw [vGd4_w ht]
    exact hM _ _ _ (by omega) (ho.to hs ht).2 (Ok.xor hm (ho.mk hs ht)) (hP _ _)⟩) (by show vGd4 v p n s m 8 % 128 = m; unfold vGd4; rw [if_pos rfl]; omega) 8 0 (-9) 0 (by omega) ⟨rfl, rfl⟩
  rw [zM_blindChoice_q, mMayAt ho hw hT (by omega) hs, zbi_s, vMg_0 ho hs]
  exact h
theorem mAhead {A : zA} {n s m p kd : Nat} (ho : Ok v) (hw : zmw A v) (hT : zTab A v 0) (hn : n < 8) (hs : s < 8) (hm : m < 64) (hp : p < vP v) (h0 : vMay v n s ≠ 0) (hk : kd = 0 ∨ kd = 2 ∨ kd = 3) {P : Nat → Nat → Nat → Prop} (hE : zEo A v P) (hP : ∀ s m, P (n + 1) s m) :
    zM_aheadChoice (d + 4) (nI p) (nI kd) (nI n) (nI s) (nI m) A L = some (some (.int (nI (zbd (vOk v n s) (fun t => vGd v p kd (vGo v n s m t % 128))))), A, L) := by
  have h := mAhead1 (d := d + 1) (L := L) ho hw hT hn hs hm hp h0 hk (e := fun t => vGo v n s m t % 128) (fun t ht hb => ⟨by omega, by
    rw [vGo_w ht]
    exact (hE _ _ _ (by omega) (ho.to hs ht).2 (Ok.xor hm (ho.mk hs ht)) (hP _ _)).1⟩) (by show vGo v n s m 8 % 128 = m; unfold vGo; rw [if_pos rfl]; omega) 8 0 (-9) 0 (by omega) ⟨rfl, rfl⟩
  rw [zM_aheadChoice_q, mMayAt ho hw hT (by omega) hs, zbi_s, vMg_0 ho hs]
  exact h
theorem mGreedy {A : zA} {n s m p : Nat} (ho : Ok v) (hw : zmw A v) (hT : zTab A v 0) (hn : n < 8) (hs : s < 8) (hm : m < 64) (hp : p < vP v) (h0 : vMay v n s ≠ 0) :
    zM_greedyChoice (d + 4) (nI p) (nI n) (nI s) (nI m) A L = some (some (.int (nI (zbd (vOk v n s) (fun t => vWs v p (if t = 8 then m else m ^^^ vMk v s t) 6)))), A, L) := by
  have h := mGreedy1 (d := d + 1) (L := L) ho hw hT hn hs hm hp h0 8 0 (-9) 0 (by omega) ⟨rfl, rfl⟩
  rw [zM_greedyChoice_q, mMayAt ho hw hT (by omega) hs, zbi_s, vMg_0 ho hs]
  exact h
/-- what the one whose turn it is does -/
theorem mChoice {A : zA} {n s m : Nat} (ho : Ok v) (hw : zmw A v) (hT : zTab A v 0) (hn : n ≤ 8) (hs : s < 8) (hm : m < 64) {P : Nat → Nat → Nat → Prop} (hE : zEo A v P) (hP : ∀ s m, P (n + 1) s m) (hM : ∀ p, p < vP v → vKd v p = 4 → zMo A v p (fun _ _ _ => True)) :
    zM_choiceAt (d + 6) (nI n) (nI s) (nI m) A L = some (some (.int (if vMay v n s = 0 then -9 else nI (vDeed v n s m))), A, L) := by
  have hmay := ho.may (n := n) hs
  rw [zM_choiceAt_q, mMayAt ho hw hT (by omega) hs, zbi_s, vMg_0 ho hs, show (0 : Int32) = nI 0 from rfl, zifi (nI_eq (by omega) (by omega))]
  by_cases h0 : vMay v n s = 0
  · rw [if_pos h0, if_pos h0]
  · have hpp := vMay_P h0
    have h5 := ho.P.2
    have hn8 : n < 8 := by
      rcases Nat.lt_or_ge n 8 with h | h
      · exact h
      · exact absurd (vMay_8 ho h) h0
    have htr := (ho.tr hpp n).2
    have hkd := ho.kd (p := vTr v n) (by omega)
    have h69 : A 69 (vTr v n) = nI (vKd v (vTr v n)) := by
      obtain ⟨-, -, -, -, h, -⟩ := hw
      rw [h]; exact hkd.1
    have hlow := mLowest (A := A) (L := L) (d := d + 5) ho hs h0
    rw [if_neg h0, if_neg h0, zM_choiceAt_1_q, mTurnAt ho hw (by omega) hpp, zbi_s, zck_n (by omega) (by decide), nI_clamp (by omega), h69]
    have hd : vDeed v n s m = vDe v (vGo v n s m) (vGd4 v (vTr v n) n s m) n s m := rfl
    unfold vDe at hd
    simp only at hd
    have hkc : vKd v (vTr v n) = 0 ∨ vKd v (vTr v n) = 1 ∨ vKd v (vTr v n) = 2 ∨ vKd v (vTr v n) = 3 ∨ vKd v (vTr v n) = 4 ∨ vKd v (vTr v n) = 5 ∨ vKd v (vTr v n) = 6 := by omega
    have hah : ∀ kd, vKd v (vTr v n) = kd → (kd = 0 ∨ kd = 2 ∨ kd = 3) → zM_choiceAt_8 (d + 6) (nI n) (nI s) (nI m) (nI (vTr v n)) A L = some (some (.int (nI (zbd (vOk v n s) (fun t => vGd v (vTr v n) kd (vGo v n s m t % 128))))), A, L) := by
      intro kd hkk hk
      rw [zM_choiceAt_8_q, zck_n (by omega) (by decide), nI_clamp (by omega), h69, hkk, mAhead ho hw hT hn8 hs hm htr h0 hk hE hP, zbi_s]
    rcases hkc with hk | hk | hk | hk | hk | hk | hk
    · rw [hk] at hd ⊢
      rw [if_neg (by decide), if_neg (by decide), if_neg (by decide), if_neg (by decide), if_neg (by decide), if_neg (by decide), hah 0 hk (by omega)]
      simp only [show ¬ (0 : Nat) = 5 by omega, show ¬ (0 : Nat) = 1 by omega, show ¬ (0 : Nat) = 6 by omega, show ¬ (0 : Nat) = 4 by omega, if_false] at hd
      rw [hd]
    · rw [hk] at hd ⊢
      rw [if_pos (by rfl), zM_choiceAt_2_q, hlow, zbi_s]
      simp only [show ¬ (1 : Nat) = 5 by omega, if_false, if_true] at hd
      rw [hd]
    · rw [hk] at hd ⊢
      rw [if_neg (by decide), if_pos (by rfl), hah 2 hk (by omega)]
      simp only [show ¬ (2 : Nat) = 5 by omega, show ¬ (2 : Nat) = 1 by omega, show ¬ (2 : Nat) = 6 by omega, show ¬ (2 : Nat) = 4 by omega, if_false] at hd
      rw [hd]
    · rw [hk] at hd ⊢
      rw [if_neg (by decide), if_neg (by decide), if_pos (by rfl), hah 3 hk (by omega)]
      simp only [show ¬ (3 : Nat) = 5 by omega, show ¬ (3 : Nat) = 1 by omega, show ¬ (3 : Nat) = 6 by omega, show ¬ (3 : Nat) = 4 by omega, if_false] at hd
      rw [hd]
    · rw [hk] at hd ⊢
      rw [if_neg (by decide), if_neg (by decide), if_neg (by decide), if_pos (by rfl), zM_choiceAt_3_q, mBlind ho hw hT hn8 hs hm htr h0 (hM _ htr hk) (fun _ _ => trivial), zbi_s]
      simp only [show ¬ (4 : Nat) = 5 by omega, show ¬ (4 : Nat) = 1 by omega, show ¬ (4 : Nat) = 6 by omega, if_false, if_true] at hd
      rw [hd]
    · rw [hk] at hd ⊢
      rw [if_neg (by decide), if_neg (by decide), if_neg (by decide), if_neg (by decide), if_pos (by rfl), zM_choiceAt_4_q, mIsEnd ho hw hs, zbi_s]
      simp only [if_true] at hd
      rw [hd]
      cases vEn v s
      · rw [ite_ft, ite_ft, if_pos (by rfl), zM_choiceAt_5_q, hlow, zbi_s, zM_choiceAt_6_q]
      · rw [ite_tt, ite_tt, if_neg (by decide), zM_choiceAt_6_q]; rfl
    · rw [hk] at hd ⊢
      rw [if_neg (by decide), if_neg (by decide), if_neg (by decide), if_neg (by decide), if_neg (by decide), if_pos (by rfl), zM_choiceAt_7_q, mGreedy ho hw hT hn8 hs hm htr h0, zbi_s]
      simp only [show ¬ (6 : Nat) = 5 by omega, show ¬ (6 : Nat) = 1 by omega, if_false, if_true] at hd
      rw [hd]
end MF
