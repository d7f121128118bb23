/-! ===== letters read: the model reads people, worths, any statement ===== -/
section MQ
variable {d n a b k : Nat} {A A' A0 B : zA} {L : zL} {T : Nat → Int32} {x : Int32}
theorem mInz {l h : Nat} {lo hi : Int32} (hl : lo = nI l) (hh : hi = nI h) (l1 : l < 1000) : zM_isIn d (if b < n then T b else -1) lo hi A L = some (some (.int (if zin T n b l h then 1 else 0)), A, L) := by
  rw [mIsIn, hl, hh]
  cases hz : zin T n b l h
  · rw [ite_ft]
    by_cases h0 : b < n
    · rw [if_pos h0, if_pos (show T b < nI l ∨ nI h < T b from zin_no hz h0)]
    · rw [if_neg h0, if_pos (show (-1 : Int32) < nI l ∨ nI h < -1 from Or.inl (by
        rw [Int32.lt_iff_toInt_lt, nI_toInt (by omega), show (-1 : Int32).toInt = -1 by decide]; omega))]
  · rw [ite_tt, if_pos (zin_lt hz), if_neg (show ¬ (T b < nI l ∨ nI h < T b) from by
      rintro (h | h)
      · exact absurd (zin_l hz) (Int32.not_le.mpr h)
      · exact absurd (zin_h hz) (Int32.not_le.mpr h))]
theorem mPl (hk : k < 32) (hn : n ≤ 64) : ∀ q w b M A, w + q = 105 → 97 ≤ w → b ≤ 64 → zMs A T n b → A 78 k = nI M → M < 2 ^ (w - 97) → (zin T n b 97 104 = true → ztl T b < w → 2 ^ (ztl T b - 97) ≤ M) →
    ∃ A', zM_readsPerson_2 (d + 2) (nI k) A L = zM_readsPerson_3 (d + 2) A' L ∧ zMs A' T n (zwe T n q w b M).1 ∧ A' 78 k = nI (zwe T n q w b M).2 ∧ zFr k A A' ∧ ∀ c, 75 ≤ c → c ≤ 80 → c ≠ 78 → A' c = A c := by
  intro q
  induction q with
  | zero =>
    intro w b M A hw hw2 hb hs h78 hM hI
    have e : w = 105 := by omega
    subst e
    refine ⟨A, ?_, hs, h78, zFr.rf k A, fun _ _ _ _ => rfl⟩
    rw [zM_readsPerson_2_q, mNx hs hn hb, zbi_s, mInz (lo := 97) (hi := 104) (l := 97) (h := 104) rfl rfl (by decide), zbi_s]
    cases hz : zin T n b 97 104
    · rw [ite_ft, if_pos rfl]
    · obtain ⟨z1, z2, z3⟩ := zin_n (by decide) (by decide) hz
      have hle := hI hz (by omega)
      have hpl : 2 ^ (ztl T b - 97) ≤ 2 ^ 7 := Nat.pow_le_pow_right (by omega) (by omega)
      rw [ite_tt, if_neg (by decide), zck_n hk (by decide), mNx hs hn hb, zbi_s, if_pos (zin_lt hz), nI_clamp (by omega), h78, z1, show (97 : Int32) = nI 97 from rfl, pk_sub z2, zpow (by omega), if_pos (nI_le hle (by omega))]
  | succ q ih =>
    intro w b M A hw hw2 hb hs h78 hM hI
    have hM8 : 2 ^ (w - 97) ≤ 2 ^ 8 := Nat.pow_le_pow_right (by omega) (by omega)
    rw [zwe_s]
    cases hz : zin T n b w w
    · rw [ite_ft]
      refine ih (w + 1) b M A (by omega) (by omega) hb hs h78 (Nat.lt_trans hM (Nat.pow_lt_pow_right (by omega) (by omega))) (fun hz2 hlt => ?_)
      obtain ⟨z1, z2, z3⟩ := zin_n (by decide) (by decide) hz2
      refine hI hz2 ?_
      by_cases e : ztl T b = w
      · rw [zin_yes (zin_lt hz2) (by rw [z1, e]; exact Int32.le_refl _) (by rw [z1, e]; exact Int32.le_refl _)] at hz
        cases hz
      · omega
    · rw [ite_tt]
      obtain ⟨z1, z2, z3⟩ := zin_n (by omega) (by omega) hz
      have e : ztl T b = w := by omega
      have hlt := zin_lt hz
      have hz2 : zin T n b 97 104 = true := zin_yes hlt (by rw [z1]; exact nI_le (by omega) (by omega)) (by rw [z1]; exact nI_le (by omega) (by omega))
      obtain ⟨A1, hA1⟩ : ∃ A1, A1 = zput (zput A 63 27 (nI (b + 1))) 78 k (nI (M ||| 2 ^ (w - 97))) := ⟨_, rfl⟩
      have s1 : zMs A1 T n (b + 1) := by rw [hA1]; exact hs.pos.put (by decide) (by decide)
      have hM1 : M ||| 2 ^ (w - 97) < 2 ^ (w + 1 - 97) := by
        rw [show w + 1 - 97 = w - 97 + 1 by omega]
        exact Nat.or_lt_two_pow (Nat.lt_trans hM (Nat.pow_lt_pow_right (by omega) (by omega))) (Nat.pow_lt_pow_right (by omega) (by omega))
      obtain ⟨A', e1, e2, e3, e4, e5⟩ := ih (w + 1) (b + 1) (M ||| 2 ^ (w - 97)) A1 (by omega) (by omega) (by omega) s1 (by rw [hA1, zput_s, upd_s]) hM1 (fun hz3 h3 => by
        have h4 : 2 ^ (ztl T (b + 1) - 97) ≤ 2 ^ (w - 97) := Nat.pow_le_pow_right (by omega) (by omega)
        exact Nat.le_trans h4 Nat.right_le_or)
      refine ⟨A', ?_, e2, e3, zFr.tr (by rw [hA1]; exact (zFr.rf k A).pos.put (by decide) (by decide)) e4, fun c c1 c2 c3 => by rw [e5 c c1 c2 c3, hA1, zput_o c3, zput_o (by omega)]⟩
      rw [zM_readsPerson_2_q, mNx hs hn hb, zbi_s, mInz (lo := 97) (hi := 104) (l := 97) (h := 104) rfl rfl (by decide), zbi_s, hz2, ite_tt, if_neg (by decide), zck_n hk (by decide), mNx hs hn hb, zbi_s, if_pos hlt, nI_clamp (by omega), h78, z1, e, show (97 : Int32) = nI 97 from rfl, pk_sub hw2, zpow (by omega), if_neg (nI_ge hM (by omega)), zck_n hk (by decide), show nI 97 = (97 : Int32) from rfl, mTy (lo := 97) (hi := 104) (l := 97) (h := 104) rfl rfl (by decide) (by decide) hs hn hz2, zbi_s, zck_n hk (by decide), e, zpow (by omega), nI_or, ← hA1]
      exact e1
theorem mStP (hk : k < 32) (hn : n ≤ 64) (ha : a < n) (hs : zMs A T n (a + 1)) : ∃ A', zM_readsPerson (d + 3) (nI k) A L = some (some (.int (if (zsP T n a).1 then 1 else 0)), A', L) ∧ zFr k A A' ∧ A' 63 27 = nI (zsP T n a).2 ∧ A' 75 k = A 75 k ∧ A' 76 k = A 76 k ∧
    ((zsP T n a).1 = true → zin T n (a + 1) 48 57 = true ∧ zin T n (zwb T n a) 59 59 = true ∧ A' 77 k = nI (ztl T (a + 1) - 48) ∧ A' 78 k = nI (zwe T n 8 97 (a + 2) 0).2) := by
  rw [zM_readsPerson_q]
  unfold zsP
  cases z1 : zin T n (a + 1) 48 57
  · refine ⟨zput A 77 k (-1), ?_, (zFr.rf k A).put (by decide) (by decide), ?_, by rw [zput_o (by decide)], by rw [zput_o (by decide)], fun h => by cases h⟩
    · rw [mTn (lo := 48) (hi := 57) (l := 48) (h := 57) rfl rfl (by decide) hs hn (by omega) z1, zbi_s, zck_n hk (by decide), zck_n hk (by decide), nI_clamp (by omega), zput_s, upd_s, if_neg (by decide), zcb_0]; rfl
    · rw [zput_o (by decide)]; exact hs.2.1
  have a1 := zin_lt z1
  obtain ⟨A1, hA1⟩ : ∃ A1, A1 = zput (zput A 63 27 (nI (a + 2))) 77 k (nI (ztl T (a + 1) - 48)) := ⟨_, rfl⟩
  have s1 : zMs A1 T n (a + 2) := by rw [hA1]; exact hs.pos.put (by decide) (by decide)
  have f1 : zFr k A A1 := by rw [hA1]; exact (zFr.rf k A).pos.put (by decide) (by decide)
  have hb := (zwe_le (T := T) (n := n) (q := 8) (w := 97) (b := a + 2) (M := 0)).2 (by omega)
  obtain ⟨A2, hA2⟩ : ∃ A2, A2 = zput A1 78 k 0 := ⟨_, rfl⟩
  have s2 : zMs A2 T n (a + 2) := by rw [hA2]; exact s1.put (by decide) (by decide)
  have f2 : zFr k A A2 := by rw [hA2]; exact f1.put (by decide) (by decide)
  obtain ⟨A3, e1, e2, e3, e4, e5⟩ := mPl (d := d + 1) (L := L) (T := T) hk hn 8 97 (a + 2) 0 A2 (by omega) (by omega) (by omega) s2 (by rw [hA2, zput_s, upd_s]; rfl) (by decide) (fun hz hlt => by
    obtain ⟨y1, y2, y3⟩ := zin_n (by decide) (by decide) hz
    omega)
  rw [show (zwe T n 8 97 (a + 2) 0).1 = zwb T n a from rfl] at e2 hb
  have r77 : A3 77 k = nI (ztl T (a + 1) - 48) := by rw [e5 77 (by decide) (by decide) (by decide), hA2, zput_o (by decide), hA1, zput_s, upd_s]
  have r75 : A3 75 = A 75 := by rw [e5 75 (by decide) (by decide) (by decide), hA2, zput_o (by decide), hA1, zput_o (by decide), zput_o (by decide)]
  have r76 : A3 76 = A 76 := by rw [e5 76 (by decide) (by decide) (by decide), hA2, zput_o (by decide), hA1, zput_o (by decide), zput_o (by decide)]
  rw [mTy (lo := 48) (hi := 57) (l := 48) (h := 57) rfl rfl (by decide) (by decide) hs hn z1, zbi_s, zck_n hk (by decide), zck_n hk (by decide), nI_clamp (by omega), ← hA1, show A1 77 k = nI (ztl T (a + 1) - 48) by rw [hA1, zput_s, upd_s], if_pos (nI_pos' (by have := (zin_n (by decide) (by decide) z1).2.2; omega)), zM_readsPerson_1_q, zck_n hk (by decide), nI_clamp (by omega), ← hA2, e1, zM_readsPerson_3_q]
  cases z2 : zin T n (zwb T n a) 59 59
  · refine ⟨A3, ?_, f2.tr e4, e2.2.1, by rw [r75], by rw [r76], fun h => by cases h⟩
    rw [mTn (lo := 59) (hi := 59) (l := 59) (h := 59) rfl rfl (by decide) e2 hn (by omega) z2, zbi_s, if_neg (by decide), zM_readsPerson_4_q, zM_readsPerson_5_q, zcb_0]; rfl
  · obtain ⟨q1, q2, q3⟩ := zin_n (by decide) (by decide) z2
    refine ⟨zput A3 63 27 (nI (zwb T n a + 1)), ?_, (f2.tr e4).pos, by rw [zput_s, upd_s]; rfl, by rw [zput_o (by decide), r75], by rw [zput_o (by decide), r76], fun _ => ⟨rfl, rfl, by rw [zput_o (by decide), r77], by rw [zput_o (by decide), e3]⟩⟩
    rw [mTy (lo := 59) (hi := 59) (l := 59) (h := 59) rfl rfl (by decide) (by decide) e2 hn z2, zbi_s, show ztl T (zwb T n a) - 59 = 0 by omega, if_pos (by rfl), zM_readsPerson_5_q, zcb_1]; rfl
theorem zi_n1 (x : Int32) : (-1 : Int32) * x = -x := by rw [show (-1 : Int32) = -(1 : Int32) from rfl, Int32.neg_mul, Int32.one_mul]
theorem mStD {y : Int32} (hy : ¬ y = 0) (hk : k < 32) (hn : n ≤ 64) (ha : a + 3 < n) (hs : zMs A T n (a + 4)) : ∃ A', zM_readsWorth_5 (d + 3) (nI k) y A L = some (some (.int (if (zsD T n a).1 then 1 else 0)), A', L) ∧ zFr k A A' ∧ A' 63 27 = nI (zsD T n a).2 ∧ (∀ c, 75 ≤ c → c ≤ 80 → c ≠ 79 → A' c = A c) ∧
    ((zsD T n a).1 = true → zin T n (a + 4) 48 57 = true ∧ zin T n (a + 5) 59 59 = true ∧ A' 79 k = y * nI (ztl T (a + 4) - 48)) := by
  rw [zM_readsWorth_5_q, if_neg hy, zM_readsWorth_6_q]
  unfold zsD
  cases z1 : zin T n (a + 4) 48 57
  · refine ⟨zput A 79 k (y * -1), ?_, (zFr.rf k A).put (by decide) (by decide), ?_, fun c _ _ c3 => by rw [zput_o c3], fun h => by cases h⟩
    · rw [mTn (lo := 48) (hi := 57) (l := 48) (h := 57) rfl rfl (by decide) hs hn (by omega) z1, zbi_s, zck_n hk (by decide), if_pos (by decide), nI_clamp (by omega), zM_readsWorth_7_q, zM_readsWorth_8_q, zcb_0]; rfl
    · rw [zput_o (by decide)]; exact hs.2.1
  have a1 := zin_lt z1
  obtain ⟨y1, y2, y3⟩ := zin_n (by decide) (by decide) z1
  obtain ⟨A1, hA1⟩ : ∃ A1, A1 = zput (zput A 63 27 (nI (a + 5))) 79 k (y * nI (ztl T (a + 4) - 48)) := ⟨_, rfl⟩
  have s1 : zMs A1 T n (a + 5) := by rw [hA1]; exact hs.pos.put (by decide) (by decide)
  have f1 : zFr k A A1 := by rw [hA1]; exact (zFr.rf k A).pos.put (by decide) (by decide)
  rw [mTy (lo := 48) (hi := 57) (l := 48) (h := 57) rfl rfl (by decide) (by decide) hs hn z1, zbi_s, zck_n hk (by decide), if_neg (nI_pos (by omega)), nI_clamp (by omega), ← hA1]
  cases z2 : zin T n (a + 5) 59 59
  · refine ⟨A1, ?_, f1, s1.2.1, fun c _ _ c3 => by rw [hA1, zput_o c3, zput_o (by omega)], fun h => by cases h⟩
    rw [mTn (lo := 59) (hi := 59) (l := 59) (h := 59) rfl rfl (by decide) s1 hn (by omega) z2, zbi_s, if_neg (by decide), zM_readsWorth_7_q, zM_readsWorth_8_q, zcb_0]; rfl
  · obtain ⟨q1, q2, q3⟩ := zin_n (by decide) (by decide) z2
    refine ⟨zput A1 63 27 (nI (a + 6)), ?_, f1.pos, by rw [zput_s, upd_s]; rfl, fun c _ _ c3 => by rw [zput_o (by omega), hA1, zput_o c3, zput_o (by omega)], fun _ => ⟨rfl, rfl, by rw [zput_o (by decide), hA1, zput_s, upd_s]⟩⟩
    rw [mTy (lo := 59) (hi := 59) (l := 59) (h := 59) rfl rfl (by decide) (by decide) s1 hn z2, zbi_s, show ztl T (a + 5) - 59 = 0 by omega, if_pos (by rfl), zM_readsWorth_8_q, zcb_1]; rfl
theorem mStV (hk : k < 32) (hn : n ≤ 64) (ha : a < n) (hs : zMs A T n (a + 1)) : ∃ A', zM_readsWorth (d + 3) (nI k) A L = some (some (.int (if (zsV T n a).1 then 1 else 0)), A', L) ∧ zFr k A A' ∧ A' 63 27 = nI (zsV T n a).2 ∧ A' 75 k = A 75 k ∧ A' 76 k = A 76 k ∧
    ((zsV T n a).1 = true → zin T n (a + 1) 48 57 = true ∧ zin T n (a + 2) 65 70 = true ∧ zin T n (a + 4) 48 57 = true ∧ zin T n (a + 5) 59 59 = true ∧ A' 77 k = nI (ztl T (a + 1) - 48) ∧ A' 78 k = nI (ztl T (a + 2) - 65) ∧
    ((zin T n (a + 3) 43 43 = true ∧ A' 79 k = nI (ztl T (a + 4) - 48)) ∨ (zin T n (a + 3) 43 43 = false ∧ zin T n (a + 3) 45 45 = true ∧ A' 79 k = -(nI (ztl T (a + 4) - 48))))) := by
  rw [zM_readsWorth_q]
  unfold zsV
  cases z1 : zin T n (a + 1) 48 57
  · refine ⟨zput A 77 k (-1), ?_, (zFr.rf k A).put (by decide) (by decide), ?_, by rw [zput_o (by decide)], by rw [zput_o (by decide)], fun h => by cases h⟩
    · rw [mTn (lo := 48) (hi := 57) (l := 48) (h := 57) rfl rfl (by decide) hs hn (by omega) z1, zbi_s, zck_n hk (by decide), zck_n hk (by decide), nI_clamp (by omega), zput_s, upd_s, if_neg (by decide), zcb_0]; rfl
    · rw [zput_o (by decide)]; exact hs.2.1
  have a1 := zin_lt z1
  obtain ⟨y1, y2, y3⟩ := zin_n (by decide) (by decide) z1
  obtain ⟨A1, hA1⟩ : ∃ A1, A1 = zput (zput A 63 27 (nI (a + 2))) 77 k (nI (ztl T (a + 1) - 48)) := ⟨_, rfl⟩
  have s1 : zMs A1 T n (a + 2) := by rw [hA1]; exact hs.pos.put (by decide) (by decide)
  have f1 : zFr k A A1 := by rw [hA1]; exact (zFr.rf k A).pos.put (by decide) (by decide)
  rw [mTy (lo := 48) (hi := 57) (l := 48) (h := 57) rfl rfl (by decide) (by decide) hs hn z1, zbi_s, zck_n hk (by decide), zck_n hk (by decide), nI_clamp (by omega), ← hA1, show A1 77 k = nI (ztl T (a + 1) - 48) by rw [hA1, zput_s, upd_s], if_pos (nI_pos' (by omega)), zM_readsWorth_1_q]
  cases z2 : zin T n (a + 2) 65 70
  · refine ⟨zput A1 78 k (-1), ?_, f1.put (by decide) (by decide), ?_, ?_, ?_, fun h => by cases h⟩
    · rw [mTn (lo := 65) (hi := 70) (l := 65) (h := 70) rfl rfl (by decide) s1 hn (by omega) z2, zbi_s, zck_n hk (by decide), zck_n hk (by decide), nI_clamp (by omega), zput_s, upd_s, if_neg (by decide), zcb_0]; rfl
    · rw [zput_o (by decide)]; exact s1.2.1
    · rw [zput_o (by decide), hA1, zput_o (by decide), zput_o (by decide)]
    · rw [zput_o (by decide), hA1, zput_o (by decide), zput_o (by decide)]
  have a2 := zin_lt z2
  obtain ⟨w1, w2, w3⟩ := zin_n (by decide) (by decide) z2
  obtain ⟨A2, hA2⟩ : ∃ A2, A2 = zput (zput A1 63 27 (nI (a + 3))) 78 k (nI (ztl T (a + 2) - 65)) := ⟨_, rfl⟩
  have s2 : zMs A2 T n (a + 3) := by rw [hA2]; exact s1.pos.put (by decide) (by decide)
  have f2 : zFr k A A2 := by rw [hA2]; exact f1.pos.put (by decide) (by decide)
  have r77 : A2 77 k = nI (ztl T (a + 1) - 48) := by rw [hA2, zput_o (by decide), zput_o (by decide), hA1, zput_s, upd_s]
  have r78 : A2 78 k = nI (ztl T (a + 2) - 65) := by rw [hA2, zput_s, upd_s]
  have r75 : A2 75 = A 75 := by rw [hA2, zput_o (by decide), zput_o (by decide), hA1, zput_o (by decide), zput_o (by decide)]
  have r76 : A2 76 = A 76 := by rw [hA2, zput_o (by decide), zput_o (by decide), hA1, zput_o (by decide), zput_o (by decide)]
  have a3 : zin T n (a + 3) 43 43 = true ∨ zin T n (a + 3) 45 45 = true → a + 3 < n := fun h => h.elim zin_lt zin_lt
  rw [mTy (lo := 65) (hi := 70) (l := 65) (h := 70) rfl rfl (by decide) (by decide) s1 hn z2, zbi_s, zck_n hk (by decide), zck_n hk (by decide), nI_clamp (by omega), ← hA2, r78, if_pos (nI_pos' (by omega)), zM_readsWorth_2_q]
  cases z3 : zin T n (a + 3) 43 43
  · rw [mTn (lo := 43) (hi := 43) (l := 43) (h := 43) rfl rfl (by decide) s2 hn (by omega) z3, zbi_s, if_neg (by decide), zM_readsWorth_3_q]
    cases z4 : zin T n (a + 3) 45 45
    · refine ⟨A2, ?_, f2, s2.2.1, by rw [r75], by rw [r76], fun h => by cases h⟩
      rw [mTn (lo := 45) (hi := 45) (l := 45) (h := 45) rfl rfl (by decide) s2 hn (by omega) z4, zbi_s, if_neg (by decide), zM_readsWorth_4_q, zM_readsWorth_5_q, if_pos rfl, zcb_0]; rfl
    · obtain ⟨q1, q2, q3⟩ := zin_n (by decide) (by decide) z4
      obtain ⟨A', g1, g2, g3, g4, g5⟩ := mStD (d := d) (L := L) (T := T) (y := -1) (by decide) hk hn (zin_lt z4) s2.pos
      refine ⟨A', ?_, f2.pos.tr g2, g3, by rw [g4 75 (by decide) (by decide) (by decide), zput_o (by decide), r75], by rw [g4 76 (by decide) (by decide) (by decide), zput_o (by decide), r76], fun h => ?_⟩
      · rw [mTy (lo := 45) (hi := 45) (l := 45) (h := 45) rfl rfl (by decide) (by decide) s2 hn z4, zbi_s, show ztl T (a + 3) - 45 = 0 by omega, if_pos (by rfl)]
        exact g1
      · obtain ⟨p1, p2, p3⟩ := g5 h
        exact ⟨rfl, rfl, p1, p2, by rw [g4 77 (by decide) (by decide) (by decide), zput_o (by decide), r77], by rw [g4 78 (by decide) (by decide) (by decide), zput_o (by decide), r78], Or.inr ⟨rfl, rfl, by rw [p3, zi_n1]⟩⟩
  · obtain ⟨q1, q2, q3⟩ := zin_n (by decide) (by decide) z3
    obtain ⟨A', g1, g2, g3, g4, g5⟩ := mStD (d := d) (L := L) (T := T) (y := 1) (by decide) hk hn (zin_lt z3) s2.pos
    refine ⟨A', ?_, f2.pos.tr g2, g3, by rw [g4 75 (by decide) (by decide) (by decide), zput_o (by decide), r75], by rw [g4 76 (by decide) (by decide) (by decide), zput_o (by decide), r76], fun h => ?_⟩
    · rw [mTy (lo := 43) (hi := 43) (l := 43) (h := 43) rfl rfl (by decide) (by decide) s2 hn z3, zbi_s, show ztl T (a + 3) - 43 = 0 by omega, if_pos (by rfl)]
      exact g1
    · obtain ⟨p1, p2, p3⟩ := g5 h
      exact ⟨rfl, rfl, p1, p2, by rw [g4 77 (by decide) (by decide) (by decide), zput_o (by decide), r77], by rw [g4 78 (by decide) (by decide) (by decide), zput_o (by decide), r78], Or.inl ⟨rfl, by rw [p3, Int32.one_mul]⟩⟩
theorem zin_eq {l : Nat} (hl : l < 1000) : (zin T n a l l = true) ↔ (if a < n then T a else -1) = nI l := by
  constructor
  · intro hz
    obtain ⟨z1, z2, z3⟩ := zin_n hl hl hz
    rw [if_pos (zin_lt hz), z1]
    exact congrArg nI (by omega)
  · intro h
    by_cases h0 : a < n
    · rw [if_pos h0] at h
      exact zin_yes h0 (by rw [h]; exact Int32.le_refl _) (by rw [h]; exact Int32.le_refl _)
    · rw [if_neg h0] at h
      have h2 := congrArg Int32.toInt h
      rw [nI_toInt (by omega), show (-1 : Int32).toInt = -1 by decide] at h2
      omega
theorem mStat (hk : k < 32) (hn : n ≤ 64) (ha : a ≤ 64) (hs : zMs A T n a) (h28 : A 63 28 = nI k) : ∃ A', zM_statement (d + 5) A L = some (some (.int (if (zst T n a).1 then 1 else 0)), A', L) ∧ zFr k A A' ∧ A' 63 27 = nI (zst T n a).2 ∧ ((zst T n a).1 = true → zRec A' T n a k) := by
  obtain ⟨r, hr⟩ : ∃ r, (if a < n then T a else -1) = r := ⟨_, rfl⟩
  have hzr : ∀ l, l < 1000 → ((zin T n a l l = true) ↔ r = nI l) := fun l hl => by rw [← hr]; exact zin_eq hl
  obtain ⟨A1, hA1⟩ : ∃ A1, A1 = zput (zput (zput A 75 k r) 76 k (nI a)) 63 27 (nI (a + 1)) := ⟨_, rfl⟩
  have s1 : zMs A1 T n (a + 1) := by rw [hA1]; exact ((hs.put (by decide) (by decide)).put (by decide) (by decide)).pos
  have f1 : zFr k A A1 := by rw [hA1]; exact (((zFr.rf k A).put (by decide) (by decide)).put (by decide) (by decide)).pos
  have r75 : A1 75 k = r := by rw [hA1, zput_o (by decide), zput_o (by decide), zput_s, upd_s]
  have r76 : A1 76 k = nI a := by rw [hA1, zput_o (by decide), zput_s, upd_s]
  have h1 : zM_statement_1 (d + 5) (nI k) r A L = if r = 114 then zbi (zM_readsRule (d + 4) (nI k) A1 L) (fun r1 A1 L1 => zcb r1 (some (some (.int r1), A1, L1))) else zM_statement_2 (d + 5) (nI k) r A1 L := by
    have e : (zput (zput A 75 k r) 76 k ((zput A 75 k r) 63 27)) 63 27 + 1 = nI (a + 1) := by rw [zput_o (by decide), zput_o (by decide), hs.2.1, nI_1]
    rw [zM_statement_1_q, zck_n hk (by decide), zck_n hk (by decide), nI_clamp (by omega), e, show (zput A 75 k r) 63 27 = nI a by rw [zput_o (by decide), hs.2.1], ← hA1]
  have hfin : ∀ {o : Option zR} {ok : Bool × Nat} {A' : zA}, o = some (some (.int (if ok.1 then 1 else 0)), A', L) → zbi o (fun r1 A1 L1 => zcb r1 (some (some (.int r1), A1, L1))) = some (some (.int (if ok.1 then 1 else 0)), A', L) := by
    intro o ok A' ho
    rw [ho, zbi_s]
    cases ok.1
    · rw [ite_ft, zcb_0]
    · rw [ite_tt, zcb_1]
  rw [zM_statement_q, mNx hs hn ha, zbi_s, hr, h28]
  unfold zst
  by_cases z1 : zin T n a 114 114 = true
  · have e := (hzr 114 (by decide)).mp z1
    have hlt := zin_lt z1
    obtain ⟨A', g1, g2, g3, g4, g5, g6⟩ := mStR (d := d + 1) (L := L) hk hn hlt s1
    rw [z1, ite_tt, if_pos (show r = 114 from e), h1, if_pos (show r = 114 from e)]
    refine ⟨A', hfin g1, f1.tr g2, g3, fun h => ⟨by rw [g5, r76], Or.inl ?_⟩⟩
    obtain ⟨p1, p2, p3, p4, p5, p6, p7⟩ := g6 h
    exact ⟨z1, p1, p2, p3, by rw [g4, r75]; exact e, p4, p5, p6, p7⟩
  have n1 : ¬ r = 114 := fun e => z1 ((hzr 114 (by decide)).mpr e)
  have z1 : zin T n a 114 114 = false := by simpa using z1
  rw [z1, ite_ft, if_neg n1]
  by_cases z2 : zin T n a 101 101 = true
  · have e := (hzr 101 (by decide)).mp z2
    have hlt := zin_lt z2
    obtain ⟨A', g1, g2, g3, g4, g5, g6⟩ := mStE (d := d + 2) (L := L) hk hn hlt s1
    rw [z2, ite_tt, if_pos (show r = 101 from e), h1, if_neg n1, zM_statement_2_q, if_neg (show ¬ r = 112 by rw [e]; decide), zM_statement_3_q, if_neg (show ¬ r = 118 by rw [e]; decide)]
    refine ⟨A', g1, f1.tr g2, g3, fun h => ⟨by rw [g5, r76], Or.inr (Or.inl ?_)⟩⟩
    obtain ⟨p1, p2, p3⟩ := g6 h
    exact ⟨z2, p1, p2, by rw [g4, r75]; exact e, p3⟩
  have n2 : ¬ r = 101 := fun e => z2 ((hzr 101 (by decide)).mpr e)
  have z2 : zin T n a 101 101 = false := by simpa using z2
  rw [z2, ite_ft, if_neg n2]
  by_cases z3 : zin T n a 108 108 = true
  · have e := (hzr 108 (by decide)).mp z3
    have hlt := zin_lt z3
    obtain ⟨A', g1, g2, g3, g4, g5, g6⟩ := mStE (d := d + 2) (L := L) hk hn hlt s1
    rw [z3, ite_tt, if_neg (show ¬ r = 112 by rw [e]; decide), if_neg (show ¬ r = 118 by rw [e]; decide), if_pos (show r = 108 from e), h1, if_neg n1, zM_statement_2_q, if_neg (show ¬ r = 112 by rw [e]; decide), zM_statement_3_q, if_neg (show ¬ r = 118 by rw [e]; decide)]
    refine ⟨A', g1, f1.tr g2, g3, fun h => ⟨by rw [g5, r76], Or.inr (Or.inr (Or.inl ?_))⟩⟩
    obtain ⟨p1, p2, p3⟩ := g6 h
    exact ⟨z3, p1, p2, by rw [g4, r75]; exact e, p3⟩
  have n3 : ¬ r = 108 := fun e => z3 ((hzr 108 (by decide)).mpr e)
  have z3 : zin T n a 108 108 = false := by simpa using z3
  rw [z3, ite_ft]
  by_cases z4 : zin T n a 112 112 = true
  · have e := (hzr 112 (by decide)).mp z4
    have hlt := zin_lt z4
    obtain ⟨A', g1, g2, g3, g4, g5, g6⟩ := mStP (d := d + 1) (L := L) hk hn hlt s1
    rw [z4, ite_tt, if_pos (show r = 112 from e), h1, if_neg n1, zM_statement_2_q, if_pos (show r = 112 from e)]
    refine ⟨A', hfin g1, f1.tr g2, g3, fun h => ⟨by rw [g5, r76], Or.inr (Or.inr (Or.inr (Or.inl ?_)))⟩⟩
    obtain ⟨p1, p2, p3, p4⟩ := g6 h
    exact ⟨z4, p1, p2, by rw [g4, r75]; exact e, p3, p4⟩
  have n4 : ¬ r = 112 := fun e => z4 ((hzr 112 (by decide)).mpr e)
  have z4 : zin T n a 112 112 = false := by simpa using z4
  rw [z4, ite_ft, if_neg n4]
  by_cases z5 : zin T n a 118 118 = true
  · have e := (hzr 118 (by decide)).mp z5
    have hlt := zin_lt z5
    obtain ⟨A', g1, g2, g3, g4, g5, g6⟩ := mStV (d := d + 1) (L := L) hk hn hlt s1
    rw [z5, ite_tt, if_pos (show r = 118 from e), h1, if_neg n1, zM_statement_2_q, if_neg n4, zM_statement_3_q, if_pos (show r = 118 from e)]
    refine ⟨A', hfin g1, f1.tr g2, g3, fun h => ⟨by rw [g5, r76], Or.inr (Or.inr (Or.inr (Or.inr ?_)))⟩⟩
    obtain ⟨p1, p2, p3, p4, p5, p6, p7⟩ := g6 h
    exact ⟨z5, p1, p2, p3, p4, by rw [g4, r75]; exact e, p5, p6, p7⟩
  have n5 : ¬ r = 118 := fun e => z5 ((hzr 118 (by decide)).mpr e)
  have z5 : zin T n a 118 118 = false := by simpa using z5
  rw [z5, ite_ft, if_neg n5, if_neg n3, zcb_0]
  exact ⟨A, rfl, zFr.rf k A, hs.2.1, fun h => by cases h⟩
end MQ
