/-! ===== the model's tables are found ===== -/
section MT
variable {v : zA} {L : zL} {d s g : Nat}
def vBg (v : zA) (g s t : Nat) : Bool := (vWf v s).testBit t && !(g.testBit (vRu v s t))
theorem mFT2 (ho : Ok v) (hg2 : g < 2 ^ 24) (hs : s < 8) : ∀ k t A, t + k = 8 → zmw A v → A 63 33 = nI g → ∃ A', zM_findTables_2 (d + 2) (nI s) (nI (zmsk (vBg v g s) t)) (nI t) A L = zM_findTables_10 (d + 2) (nI s) (nI (zmsk (vBg v g s) 8)) A' L ∧
    (∀ c, c ≠ 83 → c ≠ 84 → A' c = A c) ∧ (∀ t', t ≤ t' → t' < 8 → vBg v g s t' = true → A' 83 (8 * s + t') = nI (vTo v s t') ∧ A' 84 (8 * s + t') = nI (vMk v s t')) ∧ ∀ i, (i < 8 * s + t ∨ 8 * s + 8 ≤ i) → A' 83 i = A 83 i ∧ A' 84 i = A 84 i := by
  intro k
  induction k with
  | zero =>
    intro t A ht hw hg
    have e : t = 8 := by omega
    subst e
    refine ⟨A, ?_, fun _ _ _ => rfl, fun t' h1 h2 => by omega, fun _ _ => ⟨rfl, rfl⟩⟩
    rw [zM_findTables_2_q, if_pos (by decide)]
  | succ k ih =>
    intro t A ht hw hg
    have ht8 : t < 8 := by omega
    have hru := (ho.ru hs ht8).2
    have hix : (8 : Int32) * nI s + nI t = nI (8 * s + t) := by rw [show (8 : Int32) = nI 8 from rfl, pk_mul, nI_add]
    -- what one word writes
    have hstep : ∃ x y : Int32, zM_findTables_2 (d + 2) (nI s) (nI (zmsk (vBg v g s) t)) (nI t) A L = zM_findTables_2 (d + 2) (nI s) (nI (zmsk (vBg v g s) (t + 1))) (nI (t + 1)) (zput (zput A 83 (8 * s + t) x) 84 (8 * s + t) y) L ∧ (vBg v g s t = true → x = nI (vTo v s t) ∧ y = nI (vMk v s t)) := by
      have h24 : (vWg v g s).testBit t = vBg v g s t := vWg_bit v g s ht8
      rw [zM_findTables_2_q, if_neg (nI_g8 ht8), mRuleNow ho hw hg hg2 hs ht8, zbi_s, h24]
      have hm1 : zmsk (vBg v g s) (t + 1) = zmsk (vBg v g s) t ||| (if vBg v g s t then 2 ^ t else 0) := rfl
      rw [hm1]
      cases hb : vBg v g s t with
      | false =>
        refine ⟨0, 0, ?_, fun h => by cases h⟩
        simp only [Bool.false_eq_true, if_false]
        rw [if_pos (by decide), zM_findTables_3_q, zM_findTables_4_q, if_neg (by decide), zM_findTables_6_q, hix, zck_n (by omega) (by decide), if_pos (by decide), nI_clamp (by omega), zM_findTables_7_q, zM_findTables_9_q, zck_n (by omega) (by decide), nI_clamp (by omega), nI_1, show (0 : Int32) = nI 0 from rfl, nI_or]
      | true =>
        have hw' := hw
        obtain ⟨-, -, h67, h68, -⟩ := hw'
        have h68' : (zput A 83 (8 * s + t) (nI (vTo v s t))) 68 = v 6 := by rw [zput_o (by decide), h68]
        refine ⟨nI (vTo v s t), nI (vMk v s t), ?_, fun _ => ⟨rfl, rfl⟩⟩
        simp only [if_true]
        rw [if_neg (nI_pos (by omega)), zpow (by omega), zM_findTables_4_q, if_pos (nI_pos' (by omega)), zM_findTables_5_q, zck_n hru (by decide), nI_clamp (by omega), h67, (ho.to hs ht8).1, zM_findTables_6_q, hix, zck_n (by omega) (by decide), if_neg (nI_pos (by omega)), zck_n hru (by decide), nI_clamp (by omega), nI_clamp (by omega), h68', nI_or]
        have hfin : ∀ y, y = nI (vMk v s t) → zM_findTables_9 (d + 2) (nI s) (nI (zmsk (vBg v g s) t ||| 2 ^ t)) (nI t) (nI (8 * s + t)) y (zput A 83 (8 * s + t) (nI (vTo v s t))) L = zM_findTables_2 (d + 2) (nI s) (nI (zmsk (vBg v g s) t ||| 2 ^ t)) (nI (t + 1)) (zput (zput A 83 (8 * s + t) (nI (vTo v s t))) 84 (8 * s + t) (nI (vMk v s t))) L := by
          intro y hy
          rw [zM_findTables_9_q, zck_n (by omega) (by decide), nI_clamp (by omega), nI_1, hy]
        rcases (ho.rule hru).2.2.2 with h6 | ⟨q, hq, h6⟩
        · rw [h6, if_neg (by decide), zM_findTables_7_q]
          refine hfin 0 ?_
          unfold vMk; rw [h6]; decide
        · rw [h6, if_pos (nI_pos' (by omega)), zM_findTables_8_q, zck_n hru (by decide), nI_clamp (by omega), h68', h6, zpow (by omega)]
          refine hfin _ ?_
          unfold vMk vBit; rw [h6, if_neg (nI_pos (by omega)), nI_clamp (by omega)]
    obtain ⟨x, y, h1, h2⟩ := hstep
    obtain ⟨A', e1, e2, e3, e4⟩ := ih (t + 1) (zput (zput A 83 (8 * s + t) x) 84 (8 * s + t) y) (by omega) (zmw_of hw (fun c h1 h2 => by rw [zput_o (by omega), zput_o (by omega)])) (by rw [zput_o (by decide), zput_o (by decide)]; exact hg)
    refine ⟨A', h1.trans e1, fun c c1 c2 => ?_, fun t' a1 a2 a3 => ?_, fun i hi => ?_⟩
    · rw [e2 c c1 c2, zput_o c2, zput_o c1]
    · by_cases htt : t' = t
      · subst htt
        obtain ⟨b1, b2⟩ := e4 (8 * s + t') (Or.inl (by omega))
        obtain ⟨x1, x2⟩ := h2 a3
        rw [b1, b2, zput_s, zput_o (by decide), zput_s, upd_s, upd_s]
        exact ⟨x1, x2⟩
      · exact e3 t' (by omega) a2 a3
    · obtain ⟨b1, b2⟩ := e4 i (by omega)
      rw [b1, b2, zput_s, zput_o (by decide), zput_s, zput_o (by decide), upd_o (by omega), upd_o (by omega)]
      exact ⟨rfl, rfl⟩
theorem mFT11 (ho : Ok v) (hs : s < 8) {w : Nat} (hwl : w < 256) : ∀ k p A, p + k = vP v → zmw A v → ∃ A', zM_findTables_11 d (nI s) (nI w) (nI p) A L = zM_findTables_12 d (nI s) A' L ∧
    (∀ c, c ≠ 82 → A' c = A c) ∧ (∀ p', p ≤ p' → p' < vP v → A' 82 (8 * p' + s) = nI (vPw v p' &&& w)) ∧ ∀ i, (∀ p', p ≤ p' → p' < vP v → i ≠ 8 * p' + s) → A' 82 i = A 82 i := by
  have h5 := ho.P.2
  intro k
  induction k with
  | zero =>
    intro p A hp hw
    refine ⟨A, ?_, fun _ _ => rfl, fun p' h1 h2 => by omega, fun _ _ => rfl⟩
    obtain ⟨-, -, -, -, -, -, -, -, -, -, -, h12, -⟩ := hw
    rw [zM_findTables_11_q, h12, ho.P.1, if_pos (nI_le (by omega) (by omega))]
  | succ k ih =>
    intro p A hp hw
    have hw' := hw
    obtain ⟨-, -, -, -, -, h70, -, -, -, -, -, h12, -⟩ := hw'
    obtain ⟨A', e1, e2, e3, e4⟩ := ih (p + 1) (zput A 82 (8 * p + s) (nI (vPw v p &&& w))) (by omega) (zmw_of hw (fun c h1 h2 => by rw [zput_o (by omega)]))
    refine ⟨A', ?_, fun c c1 => ?_, fun p' a1 a2 => ?_, fun i hi => ?_⟩
    · rw [zM_findTables_11_q, h12, ho.P.1, if_neg (nI_ge (by omega) (by omega)), zck_n (by omega) (by decide), show (8 : Int32) * nI p + nI s = nI (8 * p + s) by rw [show (8 : Int32) = nI 8 from rfl, pk_mul, nI_add], zck_n (by omega) (by decide), nI_clamp (by omega), nI_clamp (by omega), h70, (ho.pw (by omega)).1, nI_and, nI_1, Nat.and_comm]
      exact e1
    · rw [e2 c c1, zput_o c1]
    · by_cases hpp : p' = p
      · subst hpp
        rw [e4 _ (fun q h1 h2 => by omega), zput_s, upd_s]
      · exact e3 p' (by omega) a2
    · rw [e4 i (fun q h1 h2 => hi q (by omega) h2), zput_s, upd_o (hi p (Nat.le_refl p) (by omega))]
theorem mFT1 (ho : Ok v) (hg2 : g < 2 ^ 24) : ∀ k s A, s + k = 8 → zmw A v → A 63 33 = nI g → (∀ s', s' < s → zTo A v g s' ∧ zTm A v g s') → ∃ A', zM_findTables_1 (d + 2) (nI s) A L = zM_findTables_14 (d + 2) 0 A' L ∧
    (∀ c, c ≠ 82 → c ≠ 83 → c ≠ 84 → A' c = A c) ∧ ∀ s', s' < 8 → zTo A' v g s' ∧ zTm A' v g s' := by
  have h5 := ho.P.2
  intro k
  induction k with
  | zero =>
    intro s A hs hw hg hT
    have e : s = 8 := by omega
    subst e
    refine ⟨A, ?_, fun _ _ _ _ => rfl, hT⟩
    rw [zM_findTables_1_q, if_pos (by decide), zM_findTables_13_q]
  | succ k ih =>
    intro s A hs hw hg hT
    have hs8 : s < 8 := by omega
    obtain ⟨B, b1, b2, b3, b4⟩ := mFT2 (d := d) (L := L) ho hg2 hs8 8 0 A (by omega) hw hg
    have hwB : zmw B v := zmw_of hw (fun c h1 h2 => b2 c (by omega) (by omega))
    obtain ⟨C, c1, c2, c3, c4⟩ := mFT11 (d := d + 2) (L := L) ho hs8 (vWg_lt v g s) (vP v) 0 B (by omega) hwB
    have hAC : ∀ c, c ≠ 82 → c ≠ 83 → c ≠ 84 → C c = A c := fun c h1 h2 h3 => by rw [c2 c h1, b2 c h2 h3]
    have hwC : zmw C v := zmw_of hw (fun c h1 h2 => hAC c (by omega) (by omega) (by omega))
    have hTC : ∀ s', s' < s + 1 → zTo C v g s' ∧ zTm C v g s' := by
      intro s' hs'
      by_cases e : s' = s
      · subst e
        refine ⟨fun t ht hb => ?_, fun p hp => c3 p (Nat.zero_le p) hp⟩
        rw [c2 83 (by decide), c2 84 (by decide)]
        exact b3 t (Nat.zero_le t) ht (by rw [← hb, vWg_bit v g s' ht]; rfl)
      · obtain ⟨t1, t2⟩ := hT s' (by omega)
        refine ⟨fun t ht hb => ?_, fun p hp => ?_⟩
        · rw [c2 83 (by decide), c2 84 (by decide)]
          obtain ⟨u1, u2⟩ := b4 (8 * s' + t) (Or.inl (by omega))
          rw [u1, u2]
          exact t1 t ht hb
        · rw [c4 (8 * p + s') (fun q _ _ => by omega), b2 82 (by decide) (by decide)]
          exact t2 p hp
    obtain ⟨A', e1, e2, e3⟩ := ih (s + 1) C (by omega) hwC (by rw [hAC 63 (by decide) (by decide) (by decide)]; exact hg) hTC
    refine ⟨A', ?_, fun c h1 h2 h3 => by rw [e2 c h1 h2 h3, hAC c h1 h2 h3], e3⟩
    rw [zM_findTables_1_q, if_neg (nI_g8 hs8)]
    have z0 : (0 : Int32) = nI (zmsk (vBg v g s) 0) := rfl
    have z00 : (0 : Int32) = nI 0 := rfl
    have hb1 := b1
    rw [← z0, ← z00] at hb1
    rw [hb1, zM_findTables_10_q]
    have hc1 := c1
    rw [← z00] at hc1
    rw [show zmsk (vBg v g s) 8 = vWg v g s from rfl, hc1, zM_findTables_12_q, nI_1]
    exact e1
theorem mFT16 (ho : Ok v) {p m : Nat} (hp : p < vP v) (hm : m < 64) : ∀ k j A, j + k = 6 → zmw A v → zM_findTables_16 d (nI p) (nI m) (vWs v p m j) (nI j) A L = zM_findTables_19 d (nI p) (nI m) (vWs v p m 6) A L := by
  have h5 := ho.P.2
  intro k
  induction k with
  | zero =>
    intro j A hj hw
    have e : j = 6 := by omega
    subst e
    rw [zM_findTables_16_q, if_pos (by decide)]
  | succ k ih =>
    intro j A hj hw
    have hw' := hw
    obtain ⟨-, -, -, -, -, -, h71, -⟩ := hw'
    rw [zM_findTables_16_q, if_neg (nI_g6 (by omega)), zifc (zbit1 (by omega) (by omega)), ← ih (j + 1) A (by omega) hw]
    have e : vWs v p m (j + 1) = vWs v p m j + (if m.testBit j then vWo v p j else 0) := rfl
    rw [e]
    cases m.testBit j
    · rw [if_neg (by decide), zM_findTables_17_q, zM_findTables_18_q, nI_1]; rfl
    · rw [if_pos rfl, show (6 : Int32) * nI p + nI j = nI (6 * p + j) by rw [show (6 : Int32) = nI 6 from rfl, pk_mul, nI_add], zck_n (by omega) (by decide), nI_clamp (by omega), h71, zM_findTables_18_q, nI_1]; rfl
theorem mFT15 (ho : Ok v) {p : Nat} (hp : p < vP v) : ∀ k m A, m + k = 64 → zmw A v → ∃ A', zM_findTables_15 d (nI p) (nI m) A L = zM_findTables_20 d (nI p) A' L ∧ (∀ c, c ≠ 85 → A' c = A c) ∧ (∀ m', m ≤ m' → m' < 64 → A' 85 (64 * p + m') = vWs v p m' 6) ∧ ∀ i, (i < 64 * p + m ∨ 64 * p + 64 ≤ i) → A' 85 i = A 85 i := by
  have h5 := ho.P.2
  intro k
  induction k with
  | zero =>
    intro m A hm hw
    have e : m = 64 := by omega
    subst e
    refine ⟨A, ?_, fun _ _ => rfl, fun _ _ _ => by omega, fun _ _ => rfl⟩
    rw [zM_findTables_15_q, if_pos (by decide)]
  | succ k ih =>
    intro m A hm hw
    obtain ⟨A', e1, e2, e3, e4⟩ := ih (m + 1) (zput A 85 (64 * p + m) (vWs v p m 6)) (by omega) (zmw_of hw (fun c h1 h2 => by rw [zput_o (by omega)]))
    refine ⟨A', ?_, fun c c1 => by rw [e2 c c1, zput_o c1], fun m' a1 a2 => ?_, fun i hi => ?_⟩
    · have h16 := mFT16 (d := d) (L := L) ho hp (m := m) (by omega) 6 0 A (by omega) hw
      have z0 : vWs v p m 0 = 0 := rfl
      rw [z0, show nI 0 = (0 : Int32) from rfl] at h16
      rw [zM_findTables_15_q, if_neg (nI_g64 (by omega)), h16, zM_findTables_19_q, show (64 : Int32) * nI p + nI m = nI (64 * p + m) by rw [show (64 : Int32) = nI 64 from rfl, pk_mul, nI_add], zck_n (by omega) (by decide), nI_clamp (by omega), nI_1]
      exact e1
    · by_cases hmm : m' = m
      · subst hmm
        rw [e4 _ (Or.inl (by omega)), zput_s, upd_s]
      · exact e3 m' (by omega) a2
    · rw [e4 i (by omega), zput_s, upd_o (by omega)]
theorem mFT14 (ho : Ok v) : ∀ k p A, p + k = vP v → zmw A v → (∀ p' m, p' < p → m < 64 → A 85 (64 * p' + m) = vWs v p' m 6) → ∃ A', zM_findTables_14 d (nI p) A L = some (none, A', L) ∧ (∀ c, c ≠ 85 → A' c = A c) ∧ ∀ p' m, p' < vP v → m < 64 → A' 85 (64 * p' + m) = vWs v p' m 6 := by
  have h5 := ho.P.2
  intro k
  induction k with
  | zero =>
    intro p A hp hw hT
    obtain ⟨-, -, -, -, -, -, -, -, -, -, -, h12, -⟩ := hw
    refine ⟨A, ?_, fun _ _ => rfl, fun p' m h1 h2 => hT p' m (by omega) h2⟩
    rw [zM_findTables_14_q, h12, ho.P.1, if_pos (nI_le (by omega) (by omega)), zM_findTables_21_q]
  | succ k ih =>
    intro p A hp hw hT
    obtain ⟨B, b1, b2, b3, b4⟩ := mFT15 (d := d) (L := L) ho (p := p) (by omega) 64 0 A (by omega) hw
    obtain ⟨A', e1, e2, e3⟩ := ih (p + 1) B (by omega) (zmw_of hw (fun c h1 h2 => b2 c (by omega))) (fun p' m h1 h2 => by
      by_cases e : p' = p
      · subst e; exact b3 m (Nat.zero_le m) h2
      · rw [b4 _ (Or.inl (by omega))]; exact hT p' m (by omega) h2)
    refine ⟨A', ?_, fun c c1 => by rw [e2 c c1, b2 c c1], e3⟩
    have hw' := hw
    obtain ⟨-, -, -, -, -, -, -, -, -, -, -, h12, -⟩ := hw'
    rw [zM_findTables_14_q, h12, ho.P.1, if_neg (nI_ge (by omega) (by omega)), show (0 : Int32) = nI 0 from rfl, b1, zM_findTables_20_q, nI_1]
    exact e1
/-- the tables, as rules without g say -/
theorem mTables (ho : Ok v) {A : zA} (hw : zmw A v) (hg : A 63 33 = nI g) (hg2 : g < 2 ^ 24) : ∃ A', zM_findTables (d + 2) A L = some (none, A', L) ∧ (∀ c, (c < 82 ∨ 85 < c) → A' c = A c) ∧ zTab A' v g := by
  obtain ⟨B, b1, b2, b3⟩ := mFT1 (d := d) (L := L) ho hg2 8 0 A (by omega) hw hg (fun _ h => absurd h (Nat.not_lt_zero _))
  obtain ⟨A', e1, e2, e3⟩ := mFT14 (d := d + 2) (L := L) ho (vP v) 0 B (by omega) (zmw_of hw (fun c h1 h2 => b2 c (by omega) (by omega) (by omega))) (fun _ _ h => absurd h (Nat.not_lt_zero _))
  refine ⟨A', ?_, fun c hc => by rw [e2 c (by omega), b2 c (by omega) (by omega) (by omega)], fun s hs => ?_, e3⟩
  · rw [zM_findTables_q, show (0 : Int32) = nI 0 from rfl, b1, show (0 : Int32) = nI 0 from rfl, e1]
  · have h := b3 s hs
    unfold zTo zTm at *
    rw [e2 82 (by decide), e2 83 (by decide), e2 84 (by decide)]
    exact h
end MT
