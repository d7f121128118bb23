/-! ===== the model's game ===== -/
def vB (x : Int32) (e : Nat) : Bool := decide (e < 64) && (!decide (x < 0) && decide (zshr (nI e) x &&& 1 = 1))
/-- what an end counts -/
def vCt (v : zA) (p : Nat) (x aim : Int32) (e n : Nat) : Int32 := if aim = 0 then (if vB x e then 1 else 0) else if aim = 1 then (if vB x e then 0 else 1) else if aim = 2 then (if e < 64 then 0 else 1) else if aim = 3 then nI n else vEw v p e
/-- the game's table, at the places that P tells -/
def zGo (A v : zA) (g p : Nat) (x aim : Int32) (P : Nat → Nat → Nat → Prop) : Prop := ∀ n s m, n ≤ 8 → s < 8 → m < 64 → P n s m → A 89 (zsp n s m) = vGm v g (vCt v p x aim) p (9 - n) n s m
section MGA
variable {v A : zA} {L : zL} {d g n s m p : Nat} {x aim : Int32}
theorem mCounts2 {e : Nat} (hw : zmw A v) (hT : zTab A v g) (h5 : vP v < 5) (hp : p < vP v) (he : e < 128) : zM_counts_2 (d + 1) (nI p) aim (nI e) (nI n) (if vB x e then 1 else 0) A L = some (some (.int (vCt v p x aim e n)), A, L) := by
  unfold vCt
  rw [zM_counts_2_q]
  by_cases h0 : aim = 0
  · rw [if_pos h0, if_pos h0, zM_counts_3_q]
    cases vB x e
    · rw [ite_ft, if_pos (by rfl), zM_counts_4_q, zM_counts_5_q]
    · rw [ite_tt, if_neg (by decide), zM_counts_5_q]
  · rw [if_neg h0, if_neg h0]
    by_cases h1 : aim = 1
    · rw [if_pos h1, if_pos h1, zM_counts_6_q]
      cases vB x e
      · rw [ite_ft, ite_ft, if_pos (by rfl), zM_counts_7_q, zM_counts_8_q]
      · rw [ite_tt, ite_tt, if_neg (by decide), zM_counts_8_q]
    · rw [if_neg h1, if_neg h1]
      by_cases h2 : aim = 2
      · rw [if_pos h2, if_pos h2, zM_counts_9_q, show (64 : Int32) = nI 64 from rfl, zifi (nI_ltI (by omega) (by omega))]
        by_cases h : e < 64
        · rw [if_pos h, if_pos h, zM_counts_10_q, zM_counts_11_q]
        · rw [if_neg h, if_neg h, zM_counts_11_q]
      · rw [if_neg h2, if_neg h2]
        by_cases h3 : aim = 3
        · rw [if_pos h3, if_pos h3, zM_counts_12_q]
        · rw [if_neg h3, if_neg h3, zM_counts_13_q, mEndWorth hw hT h5 hp he, zbi_s]
theorem mCounts {e : Nat} (hw : zmw A v) (hT : zTab A v g) (h5 : vP v < 5) (hp : p < vP v) (he : e < 128) : zM_counts (d + 1) (nI p) x aim (nI e) (nI n) A L = some (some (.int (vCt v p x aim e n)), A, L) := by
  have h := mCounts2 (A := A) (L := L) (d := d) (n := n) (x := x) (aim := aim) hw hT h5 hp he
  rw [zM_counts_q]
  by_cases h1 : e < 64
  · rw [if_neg (by rw [show (64 : Int32) = nI 64 from rfl, nI_leI (by omega) (by omega)]; omega)]
    by_cases h2 : x < 0
    · have e1 : vB x e = false := by unfold vB; simp [h2]
      rw [if_pos h2, zM_counts_1_q]
      rw [e1, ite_ft] at h; exact h
    · rw [if_neg h2]
      by_cases h3 : zshr (nI e) x &&& 1 = 1
      · have e1 : vB x e = true := by unfold vB; simp [h1, h2, h3]
        rw [if_pos h3]
        rw [e1, ite_tt] at h; exact h
      · have e1 : vB x e = false := by unfold vB; simp [h3]
        rw [if_neg h3, zM_counts_1_q]
        rw [e1, ite_ft] at h; exact h
  · have e1 : vB x e = false := by unfold vB; simp [h1]
    rw [if_pos (by rw [show (64 : Int32) = nI 64 from rfl, nI_leI (by omega) (by omega)]; omega), zM_counts_1_q]
    rw [e1, ite_ft] at h; exact h
theorem vMg_g {t : Nat} (hb : (vMg v g n s).testBit t = true) : (vWg v g s).testBit t = true := by
  unfold vMg at hb
  split at hb
  · simp at hb
  · rw [Nat.testBit_and, Bool.and_eq_true] at hb; exact hb.2
theorem vMg_P (h : vMg v g n s ≠ 0) : 0 < vP v ∧ n < vLen v := by
  unfold vMg at h
  split at h
  · exact absurd rfl h
  · omega
/-- the words of one place are gone through -/
theorem mGame6 {own : Bool} {e : Nat → Int32} {st : Bool × Int32} {m0 : Int32} (hm0 : m0 = nI m) (ho : Ok v) (hT : zTab A v g) (hn : n < 8) (hs : s < 8) (hm : m < 64) (he : ∀ t, t < 8 → (vMg v g n s).testBit t = true → A 89 (zsp (n + 1) (vTo v s t) (m ^^^ vMk v s t)) = e t) :
    ∀ k t, t + k = 8 → zM_gameAt_6 (d + 2) (nI n) (nI s) m0 (nI (vMg v g n s)) (if own then 1 else 0) (zfo own (vMg v g n s).testBit e st t).2 (if (zfo own (vMg v g n s).testBit e st t).1 then 1 else 0) (nI t) A L = some (some (.int (zfo own (vMg v g n s).testBit e st 8).2), A, L) := by
  have hmay := vMg_lt v g n s
  subst hm0
  intro k
  induction k with
  | zero =>
    intro t ht
    have et : t = 8 := by omega
    subst et
    rw [zM_gameAt_6_q, if_pos (by decide), zM_gameAt_12_q]
  | succ k ih =>
    intro t ht
    have ht8 : t < 8 := by omega
    have hih := ih (t + 1) (by omega)
    rw [zfo_s] at hih
    generalize zfo own (vMg v g n s).testBit e st t = w at hih ⊢
    rw [zM_gameAt_6_q, if_neg (nI_g8 ht8), zifc (zbit0 (by omega) (by omega))]
    cases hb : (vMg v g n s).testBit t with
    | false =>
      rw [hb, ite_ft] at hih
      rw [if_pos (by rfl), zM_gameAt_11_q, nI_1]
      exact hih
    | true =>
      rw [hb, ite_tt] at hih
      have hto := (ho.to hs ht8).2
      have hmk := Ok.xor hm (ho.mk hs ht8)
      have hsp : zsp (n + 1) (vTo v s t) (m ^^^ vMk v s t) < 4608 := zsp_lt (b := 9) (by omega) hto hmk
      have ha := mAfterWord (A := A) (L := L) (d := d) (n := n) (m := m) ho hT hs ht8 (vMg_g hb)
      have h10 : ∀ y, zM_gameAt_10 (d + 2) (nI n) (nI s) (nI m) (nI (vMg v g n s)) (if own then 1 else 0) y (nI t) A L = zM_gameAt_6 (d + 2) (nI n) (nI s) (nI m) (nI (vMg v g n s)) (if own then 1 else 0) y 1 (nI (t + 1)) A L := by
        intro y
        rw [zM_gameAt_10_q, zM_gameAt_11_q, nI_1]
      rw [if_neg (by decide), zM_gameAt_7_q, ha, zbi_s, zck_n (by omega) (by decide), nI_clamp (by omega), he t ht8 hb]
      obtain ⟨w1, w2⟩ := w
      cases w1 with
      | false =>
        simp only [Bool.not_false, Bool.true_or, if_true] at hih
        rw [ite_ft, if_pos (by rfl), zM_gameAt_9_q, h10]
        exact hih
      | true =>
        simp only [Bool.not_true, Bool.false_or] at hih
        rw [ite_tt, if_neg (by decide)]
        cases own with
        | false =>
          simp only [Bool.false_eq_true, if_false, decide_eq_true_eq] at hih h10 ⊢
          rw [if_pos (by decide), zM_gameAt_8_q]
          by_cases hlt : e t < w2
          · rw [if_pos hlt] at hih
            rw [if_neg (Int32.not_le.mpr hlt), zM_gameAt_9_q, h10]
            exact hih
          · rw [if_neg hlt] at hih
            rw [if_pos (Int32.not_lt.mp hlt), h10]
            exact hih
        | true =>
          simp only [if_true, decide_eq_true_eq] at hih h10 ⊢
          rw [if_neg (by decide)]
          by_cases hlt : w2 < e t
          · rw [if_pos hlt] at hih
            rw [if_neg (Int32.not_le.mpr hlt), zM_gameAt_9_q, h10]
            exact hih
          · rw [if_neg hlt] at hih
            rw [if_pos (Int32.not_lt.mp hlt), h10]
            exact hih
theorem mGameAt {P : Nat → Nat → Nat → Prop} (ho : Ok v) (hw : zmw A v) (hT : zTab A v g) (hn : n ≤ 8) (hs : s < 8) (hm : m < 64) (hp : p < vP v) (hG : zGo A v g p x aim P) (hP : ∀ s m, P (n + 1) s m) :
    zM_gameAt (d + 3) (nI p) x aim (nI n) (nI s) (nI m) A L = some (some (.int (vGm v g (vCt v p x aim) p (9 - n) n s m)), A, L) := by
  have h5 := ho.P.2
  have hmay := vMg_lt v g n s
  have hea : (if vEn v s then m else 64 + m) < 128 := by split <;> omega
  have hea' : (if vEn v s = true then m else 64 + m) < 128 := hea
  rw [show 9 - n = (8 - n) + 1 by omega]
  show zM_gameAt (d + 3) (nI p) x aim (nI n) (nI s) (nI m) A L = some (some (.int (if vMg v g n s = 0 then vCt v p x aim (if vEn v s then m else 64 + m) n else (zfo (decide (vTr v n = p)) (vMg v g n s).testBit (fun t => vGm v g (vCt v p x aim) p (8 - n) (n + 1) (vTo v s t) (m ^^^ vMk v s t)) (vEn v s, if vEn v s then vCt v p x aim m n else 0) 8).2)), A, L)
  rw [zM_gameAt_q, mMayAt ho hw hT (by omega) hs, zbi_s, show (0 : Int32) = nI 0 from rfl, zifi (nI_eq (by omega) (by omega))]
  by_cases h0 : vMg v g n s = 0
  · rw [if_pos h0, if_pos h0, mEndAt ho hw hs, zbi_s, mCounts hw hT h5 hp hea, zbi_s]
  · rw [if_neg h0, if_neg h0]
    obtain ⟨hpp, hln⟩ := vMg_P h0
    have hl9 := ho.len.2
    have hn8 : n < 8 := by omega
    have htr := (ho.tr hpp n).2
    have h6 := fun st : Bool × Int32 => mGame6 (own := decide (vTr v n = p)) (A := A) (L := L) (d := d + 1) (st := st) (m := m) (m0 := nI m) rfl ho hT hn8 hs hm (e := fun t => vGm v g (vCt v p x aim) p (8 - n) (n + 1) (vTo v s t) (m ^^^ vMk v s t)) (fun t ht hb => by
      rw [hG _ _ _ (by omega) (ho.to hs ht).2 (Ok.xor hm (ho.mk hs ht)) (hP _ _), show 9 - (n + 1) = 8 - n by omega]) 8 0 (by omega)
    have h3 : ∀ o : Bool, o = decide (vTr v n = p) → zM_gameAt_3 (d + 3) (nI p) x aim (nI n) (nI s) (nI m) (nI (vMg v g n s)) (if o then 1 else 0) A L = some (some (.int (zfo (decide (vTr v n = p)) (vMg v g n s).testBit (fun t => vGm v g (vCt v p x aim) p (8 - n) (n + 1) (vTo v s t) (m ^^^ vMk v s t)) (vEn v s, if vEn v s then vCt v p x aim m n else 0) 8).2), A, L) := by
      intro o hoo
      subst hoo
      have h65 := fun b : Bool => h6 (b, if b then vCt v p x aim m n else 0)
      rw [zM_gameAt_3_q, mIsEnd ho hw hs, zbi_s]
      cases hen : vEn v s
      · have hq := h65 false
        rw [ite_ft] at hq ⊢
        rw [ite_ft, if_pos (by rfl), zM_gameAt_4_q, zM_gameAt_5_q, mIsEnd ho hw hs, zbi_s, hen, ite_ft]
        exact hq
      · have hq := h65 true
        rw [ite_tt] at hq ⊢
        rw [ite_tt, if_neg (by decide), mCounts hw hT h5 hp (by omega), zbi_s, zM_gameAt_5_q, mIsEnd ho hw hs, zbi_s, hen, ite_tt]
        exact hq
    rw [zM_gameAt_1_q, mTurnAt ho hw (by omega) hpp, zbi_s, zifi (nI_eq (by omega) (by omega))]
    by_cases htp : vTr v n = p
    · rw [if_pos htp]
      exact h3 true (by simp [htp])
    · rw [if_neg htp, zM_gameAt_2_q]
      exact h3 false (by simp [htp])
theorem mFillGame (ho : Ok v) {A0 : zA} (hw : zmw A0 v) (hg : A0 63 33 = nI g) (hg2 : g < 2 ^ 24) (hp : p < vP v) : ∃ A', zM_fillGame (d + 4) (nI p) x aim A0 L = some (none, A', L) ∧ (∀ c, (c < 82 ∨ 85 < c) → c ≠ 89 → A' c = A0 c) ∧ zTab A' v g ∧ zGo A' v g p x aim (fun _ _ _ => True) := by
  obtain ⟨B, b1, b2, b3⟩ := mTables (d := d + 1) (L := L) (g := g) ho hw hg hg2
  have hwB : zmw B v := zmw_of hw (fun c h1 h2 => b2 c (by omega))
  have key := zLoop3 (fun y A => zM_fillGame_1 (d + 4) (nI p) x aim y A L) (fun y z A => zM_fillGame_2 (d + 4) (nI p) x aim y z A L) (fun y z w A => zM_fillGame_3 (d + 4) (nI p) x aim y z w A L) (fun A => some (none, A, L))
    (fun P A => (∀ c, c ≠ 89 → A c = B c) ∧ zGo A v g p x aim P)
    (fun P Q A hPQ h => ⟨h.1, fun n s m hn hs hm hq => h.2 n s m hn hs hm (hPQ n s m hn hs hm hq)⟩)
    (fun n A hn => by
      show zM_fillGame_1 _ _ _ _ _ _ _ = zM_fillGame_2 _ _ _ _ _ _ _ _
      rw [zM_fillGame_1_q, if_neg (nI_pos (by omega))]; rfl)
    (fun A => by
      show zM_fillGame_1 _ _ _ _ _ _ _ = _
      rw [zM_fillGame_1_q, if_pos (by decide), zM_fillGame_6_q])
    (fun n s A hs => by
      show zM_fillGame_2 _ _ _ _ _ _ _ _ = zM_fillGame_3 _ _ _ _ _ _ _ _ _
      rw [zM_fillGame_2_q, if_neg (nI_g8 hs)]; rfl)
    (fun n A => by
      show zM_fillGame_2 _ _ _ _ _ _ _ _ = zM_fillGame_1 _ _ _ _ _ _ _
      rw [zM_fillGame_2_q, if_pos (by decide), zM_fillGame_5_q])
    (fun n s A => by
      show zM_fillGame_3 _ _ _ _ _ _ _ _ _ = zM_fillGame_2 _ _ _ _ _ _ _ _
      rw [zM_fillGame_3_q, if_pos (by decide), zM_fillGame_4_q, nI_1])
    (fun n s m A hn hs hm hI => by
      show ∃ y, zM_fillGame_3 _ _ _ _ _ _ _ _ _ = zM_fillGame_3 _ _ _ _ _ _ _ _ _ ∧ _
      obtain ⟨hF, hG⟩ := hI
      have hwA : zmw A v := zmw_of hwB (fun c h1 h2 => hF c (by omega))
      have hTA : zTab A v g := zTab_of b3 (fun c h1 h2 => hF c (by omega))
      have hsp : zsp n s m < 4608 := zsp_lt (b := 9) (by omega) hs hm
      refine ⟨zput A 89 (zsp n s m) (vGm v g (vCt v p x aim) p (9 - n) n s m), ?_, fun c hc => by rw [zput_o hc]; exact hF c hc, fun n' s' m' hn' hs' hm' hP => ?_⟩
      · rw [zM_fillGame_3_q, if_neg (nI_g64 hm), mPlaceAt, zbi_s, mGameAt ho hwA hTA hn hs hm hp hG (fun s m => Or.inl (Nat.lt_succ_self n)), zbi_s, zck_n (by omega) (by decide), nI_clamp (by omega), nI_1]
      · rw [zput_s]
        by_cases e : zsp n' s' m' = zsp n s m
        · obtain ⟨e1, e2, e3⟩ := zsp_inj hs' hm' hs hm e
          subst e1; subst e2; subst e3
          rw [upd_s]
        · rw [upd_o e]
          refine hG n' s' m' hn' hs' hm' ?_
          rcases hP with hP | ⟨e1, e2, e3⟩
          · exact hP
          · subst e1; subst e2; subst e3; exact absurd rfl e)
    B ⟨fun _ _ => rfl, fun _ _ _ _ _ _ h => h.elim⟩
  obtain ⟨A', e, h1, h2⟩ := key
  refine ⟨A', ?_, fun c hc hc' => by rw [h1 c hc', b2 c hc], zTab_of b3 (fun c h3 h4 => h1 c (by omega)), h2⟩
  rw [zM_fillGame_q, b1, zbv_s, show (8 : Int32) = nI 8 from rfl]
  exact e
end MGA
