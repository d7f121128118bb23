/-! ===== letters read: the model reads statements so too ===== -/
/-- the model's reader at a place -/
def zMs (A : zA) (T : Nat → Int32) (n a : Nat) : Prop := A 63 26 = nI n ∧ A 63 27 = nI a ∧ A 74 = T
/-- what reading the statement k leaves -/
def zFr (k : Nat) (A A' : zA) : Prop := (∀ c, c ≠ 63 → (c < 75 ∨ 80 < c) → A' c = A c) ∧ (∀ i, i ≠ 27 → A' 63 i = A 63 i) ∧ ∀ c, 75 ≤ c → c ≤ 80 → ∀ j, j ≠ k → A' c j = A c j
/-- what the model noted of the statement k, that is at a -/
def zRec (A : zA) (T : Nat → Int32) (n a k : Nat) : Prop := A 76 k = nI a ∧ (
  (zin T n a 114 114 = true ∧ zin T n (a + 1) 48 57 = true ∧ zin T n (a + 2) 97 104 = true ∧ zin T n (a + 3) 48 57 = true ∧ A 75 k = 114 ∧ A 77 k = nI (ztl T (a + 1) - 48) ∧ A 78 k = nI (ztl T (a + 2) - 97) ∧ A 79 k = nI (ztl T (a + 3) - 48) ∧
    ((zin T n (a + 4) 65 70 = true ∧ zin T n (a + 5) 59 59 = true ∧ A 80 k = nI (ztl T (a + 4) - 65)) ∨ (zin T n (a + 4) 65 70 = false ∧ zin T n (a + 4) 59 59 = true ∧ A 80 k = -1))) ∨
  (zin T n a 101 101 = true ∧ zin T n (a + 1) 48 57 = true ∧ zin T n (a + 2) 59 59 = true ∧ A 75 k = 101 ∧ A 77 k = nI (ztl T (a + 1) - 48)) ∨
  (zin T n a 108 108 = true ∧ zin T n (a + 1) 48 57 = true ∧ zin T n (a + 2) 59 59 = true ∧ A 75 k = 108 ∧ A 77 k = nI (ztl T (a + 1) - 48)) ∨
  (zin T n a 112 112 = true ∧ zin T n (a + 1) 48 57 = true ∧ zin T n (zwb T n a) 59 59 = true ∧ A 75 k = 112 ∧ A 77 k = nI (ztl T (a + 1) - 48) ∧ A 78 k = nI (zwe T n 8 97 (a + 2) 0).2) ∨
  (zin T n a 118 118 = true ∧ zin T n (a + 1) 48 57 = true ∧ zin T n (a + 2) 65 70 = true ∧ zin T n (a + 4) 48 57 = true ∧ zin T n (a + 5) 59 59 = true ∧ A 75 k = 118 ∧ A 77 k = nI (ztl T (a + 1) - 48) ∧ A 78 k = nI (ztl T (a + 2) - 65) ∧
    ((zin T n (a + 3) 43 43 = true ∧ A 79 k = nI (ztl T (a + 4) - 48)) ∨ (zin T n (a + 3) 43 43 = false ∧ zin T n (a + 3) 45 45 = true ∧ A 79 k = -(nI (ztl T (a + 4) - 48))))))
section MR
variable {d n a b k : Nat} {A A' A0 B : zA} {L : zL} {T : Nat → Int32} {x : Int32}
theorem zMs.put (h : zMs A T n a) {c j : Nat} (h1 : c ≠ 63) (h2 : c ≠ 74) : zMs (zput A c j x) T n a := by
  obtain ⟨a1, a2, a3⟩ := h
  exact ⟨by rw [zput_o (Ne.symm h1)]; exact a1, by rw [zput_o (Ne.symm h1)]; exact a2, by rw [zput_o (Ne.symm h2)]; exact a3⟩
theorem zMs.pos (h : zMs A T n a) : zMs (zput A 63 27 (nI b)) T n b := by
  obtain ⟨a1, a2, a3⟩ := h
  exact ⟨by rw [zput_s, upd_o (by decide)]; exact a1, by rw [zput_s, upd_s], by rw [zput_o (by decide)]; exact a3⟩
theorem zFr.rf (k : Nat) (A : zA) : zFr k A A := ⟨fun _ _ _ => rfl, fun _ _ => rfl, fun _ _ _ _ _ => rfl⟩
theorem zFr.tr (h1 : zFr k A A') (h2 : zFr k A' B) : zFr k A B := by
  obtain ⟨a1, a2, a3⟩ := h1
  obtain ⟨b1, b2, b3⟩ := h2
  exact ⟨fun c e f => by rw [b1 c e f, a1 c e f], fun i e => by rw [b2 i e, a2 i e], fun c e f j g => by rw [b3 c e f j g, a3 c e f j g]⟩
theorem zFr.put (h : zFr k A A') {c : Nat} (h1 : 75 ≤ c) (h2 : c ≤ 80) : zFr k A (zput A' c k x) := by
  refine h.tr ⟨fun e f g => zput_o (by omega), fun i e => by rw [zput_o (by omega)], fun e f g j hj => ?_⟩
  by_cases hc : e = c
  · rw [hc, zput_s, upd_o hj]
  · rw [zput_o hc]
theorem zFr.pos (h : zFr k A A') : zFr k A (zput A' 63 27 x) := by
  refine h.tr ⟨fun e f g => zput_o f, fun i e => by rw [zput_s, upd_o e], fun e f g j hj => by rw [zput_o (by omega)]⟩
theorem mNx (hs : zMs A T n a) (hn : n ≤ 64) (ha : a ≤ 64) : zM_next d A L = some (some (.int (if a < n then T a else -1)), A, L) := by
  obtain ⟨a1, a2, a3⟩ := hs
  rw [zM_next_q, a1, a2, zifi (nI_leI (by omega) (by omega))]
  by_cases h : a < n
  · rw [if_neg (by omega), if_pos h, zck_n (by omega) (by decide), nI_clamp (by omega), a3, zM_next_2_q]
  · rw [if_pos (by omega), if_neg h, zM_next_1_q, zM_next_2_q]
theorem mTy {lo hi : Int32} {l h : Nat} (hl : lo = nI l) (hh : hi = nI h) (l1 : l < 1000) (h1 : h < 1000) (hs : zMs A T n a) (hn : n ≤ 64) (hz : zin T n a l h = true) : zM_takes (d + 1) lo hi A L = some (some (.int (nI (ztl T a - l))), zput A 63 27 (nI (a + 1)), L) := by
  have ha := zin_lt hz
  obtain ⟨z1, z2, z3⟩ := zin_n h1 l1 hz
  have hs' := hs
  obtain ⟨a1, a2, a3⟩ := hs'
  rw [zM_takes_q, mNx hs hn (by omega), zbi_s, if_pos ha, mIsIn, hl, hh, z1, zbi_s, if_neg (show ¬ (nI (ztl T a) < nI l ∨ nI h < nI (ztl T a)) from by
    rw [nI_ltI (by omega) (by omega), nI_ltI (by omega) (by omega)]; omega), if_neg (by decide), zM_takes_1_q, zput_s, upd_s, a2, nI_1, show (1 : Int32) = nI 1 from rfl, pk_sub (by omega), Nat.add_sub_cancel, zck_n (by omega) (by decide), nI_clamp (by omega), zput_o (show 74 ≠ 63 by decide), a3, z1, pk_sub z2]
theorem mTn {lo hi : Int32} {l h : Nat} (hl : lo = nI l) (hh : hi = nI h) (l1 : l < 1000) (hs : zMs A T n a) (hn : n ≤ 64) (ha : a ≤ 64) (hz : zin T n a l h = false) : zM_takes (d + 1) lo hi A L = some (some (.int (-1)), A, L) := by
  rw [zM_takes_q, mNx hs hn ha, zbi_s, mIsIn, zbi_s, hl, hh]
  by_cases h0 : a < n
  · rw [if_pos h0, if_pos (show T a < nI l ∨ nI h < T a from zin_no hz h0), if_pos rfl]
  · rw [if_neg h0, if_pos (show (-1 : Int32) < nI l ∨ nI h < -1 from Or.inl (by
      rw [Int32.lt_iff_toInt_lt, nI_toInt (by omega), show (-1 : Int32).toInt = -1 by decide]; omega)), if_pos rfl]
theorem mStR (hk : k < 32) (hn : n ≤ 64) (ha : a < n) (hs : zMs A T n (a + 1)) : ∃ A', zM_readsRule (d + 3) (nI k) A L = some (some (.int (if (zsR T n a).1 then 1 else 0)), A', L) ∧ zFr k A A' ∧ A' 63 27 = nI (zsR T n a).2 ∧ A' 75 k = A 75 k ∧ A' 76 k = A 76 k ∧
    ((zsR T n a).1 = true → zin T n (a + 1) 48 57 = true ∧ zin T n (a + 2) 97 104 = true ∧ zin T n (a + 3) 48 57 = true ∧ A' 77 k = nI (ztl T (a + 1) - 48) ∧ A' 78 k = nI (ztl T (a + 2) - 97) ∧ A' 79 k = nI (ztl T (a + 3) - 48) ∧
    ((zin T n (a + 4) 65 70 = true ∧ zin T n (a + 5) 59 59 = true ∧ A' 80 k = nI (ztl T (a + 4) - 65)) ∨ (zin T n (a + 4) 65 70 = false ∧ zin T n (a + 4) 59 59 = true ∧ A' 80 k = -1))) := by
  have hlt : ∀ x, x ≤ 57 → x < 1000 := fun x hx => by omega
  rw [zM_readsRule_q]
  unfold zsR
  cases z1 : zin T n (a + 1) 48 57
  · refine ⟨zput A 77 k (-1), ?_, (zFr.rf k A).put (by decide) (by decide), ?_, by rw [zput_o (by decide)], by rw [zput_o (by decide)], fun h => by cases h⟩
    · rw [mTn (lo := 48) (hi := 57) (l := 48) (h := 57) rfl rfl (by decide) hs hn (by omega) z1, zbi_s, zck_n hk (by decide), zck_n hk (by decide), nI_clamp (by omega), zput_s, upd_s, if_neg (by decide), zcb_0]; rfl
    · rw [zput_o (by decide)]; exact hs.2.1
  have a1 := zin_lt z1
  obtain ⟨y1, y2, y3⟩ := zin_n (by decide) (by decide) z1
  obtain ⟨A1, hA1⟩ : ∃ A1, A1 = zput (zput A 63 27 (nI (a + 2))) 77 k (nI (ztl T (a + 1) - 48)) := ⟨_, rfl⟩
  have s1 : zMs A1 T n (a + 2) := by rw [hA1]; exact hs.pos.put (by decide) (by decide)
  have f1 : zFr k A A1 := by rw [hA1]; exact (zFr.rf k A).pos.put (by decide) (by decide)
  rw [mTy (lo := 48) (hi := 57) (l := 48) (h := 57) rfl rfl (by decide) (by decide) hs hn z1, zbi_s, zck_n hk (by decide), zck_n hk (by decide), nI_clamp (by omega), ← hA1, show A1 77 k = nI (ztl T (a + 1) - 48) by rw [hA1, zput_s, upd_s], if_pos (nI_pos' (by omega)), zM_readsRule_1_q]
  cases z2 : zin T n (a + 2) 97 104
  · refine ⟨zput A1 78 k (-1), ?_, f1.put (by decide) (by decide), ?_, ?_, ?_, fun h => by cases h⟩
    · rw [mTn (lo := 97) (hi := 104) (l := 97) (h := 104) rfl rfl (by decide) s1 hn (by omega) z2, zbi_s, zck_n hk (by decide), zck_n hk (by decide), nI_clamp (by omega), zput_s, upd_s, if_neg (by decide), zcb_0]; rfl
    · rw [zput_o (by decide)]; exact s1.2.1
    · rw [zput_o (by decide), hA1, zput_o (by decide), zput_o (by decide)]
    · rw [zput_o (by decide), hA1, zput_o (by decide), zput_o (by decide)]
  have a2 := zin_lt z2
  obtain ⟨w1, w2, w3⟩ := zin_n (by decide) (by decide) z2
  obtain ⟨A2, hA2⟩ : ∃ A2, A2 = zput (zput A1 63 27 (nI (a + 3))) 78 k (nI (ztl T (a + 2) - 97)) := ⟨_, rfl⟩
  have s2 : zMs A2 T n (a + 3) := by rw [hA2]; exact s1.pos.put (by decide) (by decide)
  have f2 : zFr k A A2 := by rw [hA2]; exact f1.pos.put (by decide) (by decide)
  rw [mTy (lo := 97) (hi := 104) (l := 97) (h := 104) rfl rfl (by decide) (by decide) s1 hn z2, zbi_s, zck_n hk (by decide), zck_n hk (by decide), nI_clamp (by omega), ← hA2, show A2 78 k = nI (ztl T (a + 2) - 97) by rw [hA2, zput_s, upd_s], if_pos (nI_pos' (by omega)), zM_readsRule_2_q]
  cases z3 : zin T n (a + 3) 48 57
  · refine ⟨zput A2 79 k (-1), ?_, f2.put (by decide) (by decide), ?_, ?_, ?_, fun h => by cases h⟩
    · rw [mTn (lo := 48) (hi := 57) (l := 48) (h := 57) rfl rfl (by decide) s2 hn (by omega) z3, zbi_s, zck_n hk (by decide), zck_n hk (by decide), nI_clamp (by omega), zput_s, upd_s, if_neg (by decide), zcb_0]; rfl
    · rw [zput_o (by decide)]; exact s2.2.1
    · rw [zput_o (by decide), hA2, zput_o (by decide), zput_o (by decide), hA1, zput_o (by decide), zput_o (by decide)]
    · rw [zput_o (by decide), hA2, zput_o (by decide), zput_o (by decide), hA1, zput_o (by decide), zput_o (by decide)]
  have a3 := zin_lt z3
  obtain ⟨u1, u2, u3⟩ := zin_n (by decide) (by decide) z3
  obtain ⟨A3, hA3⟩ : ∃ A3, A3 = zput (zput A2 63 27 (nI (a + 4))) 79 k (nI (ztl T (a + 3) - 48)) := ⟨_, rfl⟩
  have s3 : zMs A3 T n (a + 4) := by rw [hA3]; exact s2.pos.put (by decide) (by decide)
  have f3 : zFr k A A3 := by rw [hA3]; exact f2.pos.put (by decide) (by decide)
  have r77 : A3 77 k = nI (ztl T (a + 1) - 48) := by rw [hA3, zput_o (by decide), zput_o (by decide), hA2, zput_o (by decide), zput_o (by decide), hA1, zput_s, upd_s]
  have r78 : A3 78 k = nI (ztl T (a + 2) - 97) := by rw [hA3, zput_o (by decide), zput_o (by decide), hA2, zput_s, upd_s]
  have r79 : A3 79 k = nI (ztl T (a + 3) - 48) := by rw [hA3, zput_s, upd_s]
  have r75 : A3 75 = A 75 := by rw [hA3, zput_o (by decide), zput_o (by decide), hA2, zput_o (by decide), zput_o (by decide), hA1, zput_o (by decide), zput_o (by decide)]
  have r76 : A3 76 = A 76 := by rw [hA3, zput_o (by decide), zput_o (by decide), hA2, zput_o (by decide), zput_o (by decide), hA1, zput_o (by decide), zput_o (by decide)]
  rw [mTy (lo := 48) (hi := 57) (l := 48) (h := 57) rfl rfl (by decide) (by decide) s2 hn z3, zbi_s, zck_n hk (by decide), zck_n hk (by decide), nI_clamp (by omega), ← hA3, r79, if_pos (nI_pos' (by omega)), zM_readsRule_3_q]
  cases z4 : zin T n (a + 4) 65 70
  · obtain ⟨A4, hA4⟩ : ∃ A4, A4 = zput A3 80 k (-1) := ⟨_, rfl⟩
    have s4 : zMs A4 T n (a + 4) := by rw [hA4]; exact s3.put (by decide) (by decide)
    have f4 : zFr k A A4 := by rw [hA4]; exact f3.put (by decide) (by decide)
    have o4 : ∀ c, c ≠ 80 → A4 c = A3 c := fun c hc => by rw [hA4, zput_o hc]
    rw [mTn (lo := 65) (hi := 70) (l := 65) (h := 70) rfl rfl (by decide) s3 hn (by omega) z4, zbi_s, zck_n hk (by decide), nI_clamp (by omega), ← hA4]
    cases z5 : zin T n (a + 4) 59 59
    · refine ⟨A4, ?_, f4, s4.2.1, by rw [o4 75 (by decide), r75], by rw [o4 76 (by decide), r76], fun h => by cases h⟩
      rw [mTn (lo := 59) (hi := 59) (l := 59) (h := 59) rfl rfl (by decide) s4 hn (by omega) z5, zbi_s, if_neg (by decide), zM_readsRule_4_q, zM_readsRule_5_q, zcb_0]; rfl
    · obtain ⟨q1, q2, q3⟩ := zin_n (by decide) (by decide) z5
      refine ⟨zput A4 63 27 (nI (a + 5)), ?_, f4.pos, by rw [zput_s, upd_s]; rfl, by rw [zput_o (by decide), o4 75 (by decide), r75], by rw [zput_o (by decide), o4 76 (by decide), r76], fun _ => ⟨rfl, rfl, rfl, by rw [zput_o (by decide), o4 77 (by decide), r77], by rw [zput_o (by decide), o4 78 (by decide), r78], by rw [zput_o (by decide), o4 79 (by decide), r79], Or.inr ⟨rfl, rfl, by rw [zput_o (by decide), hA4, zput_s, upd_s]⟩⟩⟩
      rw [mTy (lo := 59) (hi := 59) (l := 59) (h := 59) rfl rfl (by decide) (by decide) s4 hn z5, zbi_s, show ztl T (a + 4) - 59 = 0 by omega, if_pos (by rfl), zM_readsRule_5_q, zcb_1]; rfl
  · have a4 := zin_lt z4
    obtain ⟨p1, p2, p3⟩ := zin_n (by decide) (by decide) z4
    obtain ⟨A4, hA4⟩ : ∃ A4, A4 = zput (zput A3 63 27 (nI (a + 5))) 80 k (nI (ztl T (a + 4) - 65)) := ⟨_, rfl⟩
    have s4 : zMs A4 T n (a + 5) := by rw [hA4]; exact s3.pos.put (by decide) (by decide)
    have f4 : zFr k A A4 := by rw [hA4]; exact f3.pos.put (by decide) (by decide)
    have o4 : ∀ c, c ≠ 80 → c ≠ 63 → A4 c = A3 c := fun c hc hc2 => by rw [hA4, zput_o hc, zput_o hc2]
    rw [mTy (lo := 65) (hi := 70) (l := 65) (h := 70) rfl rfl (by decide) (by decide) s3 hn z4, zbi_s, zck_n hk (by decide), nI_clamp (by omega), ← hA4]
    cases z5 : zin T n (a + 5) 59 59
    · refine ⟨A4, ?_, f4, s4.2.1, by rw [o4 75 (by decide) (by decide), r75], by rw [o4 76 (by decide) (by decide), r76], fun h => by cases h⟩
      rw [mTn (lo := 59) (hi := 59) (l := 59) (h := 59) rfl rfl (by decide) s4 hn (by omega) z5, zbi_s, if_neg (by decide), zM_readsRule_4_q, zM_readsRule_5_q, zcb_0]; rfl
    · obtain ⟨q1, q2, q3⟩ := zin_n (by decide) (by decide) z5
      refine ⟨zput A4 63 27 (nI (a + 6)), ?_, f4.pos, by rw [zput_s, upd_s]; rfl, by rw [zput_o (by decide), o4 75 (by decide) (by decide), r75], by rw [zput_o (by decide), o4 76 (by decide) (by decide), r76], fun _ => ⟨rfl, rfl, rfl, by rw [zput_o (by decide), o4 77 (by decide) (by decide), r77], by rw [zput_o (by decide), o4 78 (by decide) (by decide), r78], by rw [zput_o (by decide), o4 79 (by decide) (by decide), r79], Or.inl ⟨rfl, rfl, by rw [zput_o (by decide), hA4, zput_s, upd_s]⟩⟩⟩
      rw [mTy (lo := 59) (hi := 59) (l := 59) (h := 59) rfl rfl (by decide) (by decide) s4 hn z5, zbi_s, show ztl T (a + 5) - 59 = 0 by omega, if_pos (by rfl), zM_readsRule_5_q, zcb_1]; rfl
theorem mStE (hk : k < 32) (hn : n ≤ 64) (ha : a < n) (hs : zMs A T n (a + 1)) : ∃ A', zM_statement_4 (d + 3) (nI k) A L = some (some (.int (if (zsE T n a).1 then 1 else 0)), A', L) ∧ zFr k A A' ∧ A' 63 27 = nI (zsE T n a).2 ∧ A' 75 k = A 75 k ∧ A' 76 k = A 76 k ∧
    ((zsE T n a).1 = true → zin T n (a + 1) 48 57 = true ∧ zin T n (a + 2) 59 59 = true ∧ A' 77 k = nI (ztl T (a + 1) - 48)) := by
  rw [zM_statement_4_q]
  unfold zsE
  cases z1 : zin T n (a + 1) 48 57
  · refine ⟨zput A 77 k (-1), ?_, (zFr.rf k A).put (by decide) (by decide), ?_, by rw [zput_o (by decide)], by rw [zput_o (by decide)], fun h => by cases h⟩
    · rw [mTn (lo := 48) (hi := 57) (l := 48) (h := 57) rfl rfl (by decide) hs hn (by omega) z1, zbi_s, zck_n hk (by decide), zck_n hk (by decide), nI_clamp (by omega), zput_s, upd_s, if_pos (by decide), zM_statement_5_q, zM_statement_6_q, zcb_0]; rfl
    · rw [zput_o (by decide)]; exact hs.2.1
  have a1 := zin_lt z1
  obtain ⟨y1, y2, y3⟩ := zin_n (by decide) (by decide) z1
  obtain ⟨A1, hA1⟩ : ∃ A1, A1 = zput (zput A 63 27 (nI (a + 2))) 77 k (nI (ztl T (a + 1) - 48)) := ⟨_, rfl⟩
  have s1 : zMs A1 T n (a + 2) := by rw [hA1]; exact hs.pos.put (by decide) (by decide)
  have f1 : zFr k A A1 := by rw [hA1]; exact (zFr.rf k A).pos.put (by decide) (by decide)
  rw [mTy (lo := 48) (hi := 57) (l := 48) (h := 57) rfl rfl (by decide) (by decide) hs hn z1, zbi_s, zck_n hk (by decide), zck_n hk (by decide), nI_clamp (by omega), ← hA1, show A1 77 k = nI (ztl T (a + 1) - 48) by rw [hA1, zput_s, upd_s], if_neg (nI_pos (by omega))]
  cases z2 : zin T n (a + 2) 59 59
  · refine ⟨A1, ?_, f1, s1.2.1, ?_, ?_, fun h => by cases h⟩
    · rw [mTn (lo := 59) (hi := 59) (l := 59) (h := 59) rfl rfl (by decide) s1 hn (by omega) z2, zbi_s, if_neg (by decide), zM_statement_5_q, zM_statement_6_q, zcb_0]; rfl
    · rw [hA1, zput_o (by decide), zput_o (by decide)]
    · rw [hA1, zput_o (by decide), zput_o (by decide)]
  · obtain ⟨q1, q2, q3⟩ := zin_n (by decide) (by decide) z2
    refine ⟨zput A1 63 27 (nI (a + 3)), ?_, f1.pos, by rw [zput_s, upd_s]; rfl, ?_, ?_, fun _ => ⟨rfl, rfl, ?_⟩⟩
    · rw [mTy (lo := 59) (hi := 59) (l := 59) (h := 59) rfl rfl (by decide) (by decide) s1 hn z2, zbi_s, show ztl T (a + 2) - 59 = 0 by omega, if_pos (by rfl), zM_statement_6_q, zcb_1]; rfl
    · rw [zput_o (by decide), hA1, zput_o (by decide), zput_o (by decide)]
    · rw [zput_o (by decide), hA1, zput_o (by decide), zput_o (by decide)]
    · rw [zput_o (by decide), hA1, zput_s, upd_s]
end MR
