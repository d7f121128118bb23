section P4
variable {a d : Nat} {A A' v w : zA} {L : zL} {x y : Int32}
theorem RR_one {i j : Nat} (h : RR a A) (hc : (i = 3 ∧ j = 13 ∧ zIs 9 x ∧ 0 < x.toNatClampNeg) ∨ (i = 4 ∧ j = 14 ∧ zIs 100 x)) : RR (a + 30) (zput (zput A 1 i x) 63 j x) := by
  obtain ⟨v, hv⟩ : ∃ v, zv A = v := ⟨_, rfl⟩
  have ho := h.ok
  have hw := h.mw
  rw [hv] at ho hw
  have hA : ∀ c, c ≠ 1 → c ≠ 63 → zput (zput A 1 i x) 63 j x c = A c := fun c h1 h2 => by rw [zput_o h2, zput_o h1]
  have h1 : zput (zput A 1 i x) 63 j x 1 = upd (A 1) i x := by rw [zput_o (by decide), zput_s]
  have h63 : zput (zput A 1 i x) 63 j x 63 = upd (A 63) j x := by rw [zput_s, zput_o (by decide)]
  have hvc : ∀ c, 2 ≤ c → c ≤ 16 → zv (zput (zput A 1 i x) 63 j x) c = v c := fun c a b => by rw [zv_at b, hA c (by omega) (by omega), zv_c hv c b]
  refine RR_w h (zPo_of (fun c hc' => hA c (by omega) (by omega)) (fun k hk => by rw [h63, upd_o (by omega)])) ?_ ?_ ?_
  · refine Ok_one (v := v) hvc ?_ ?_ ?_ ho
    · rw [zv_at (by decide), h1]
      rcases hc with ⟨rfl, rfl, hc, -⟩ | ⟨rfl, rfl, hc⟩
      · rw [upd_s]; exact hc
      · rw [upd_o (by decide), zv_c hv 1 (by decide)]; exact ho.l9
    · unfold vLen
      rw [zv_at (by decide), h1]
      rcases hc with ⟨rfl, rfl, -, hc⟩ | ⟨rfl, rfl, hc⟩
      · rw [upd_s]; exact hc
      · rw [upd_o (by decide), zv_c hv 1 (by decide)]; exact ho.len0
    · rw [zv_at (by decide), h1]
      rcases hc with ⟨rfl, rfl, hc, -⟩ | ⟨rfl, rfl, hc⟩
      · rw [upd_o (by decide), zv_c hv 1 (by decide)]; exact ho.loss
      · rw [upd_s]; exact hc
  · obtain ⟨w65, w66, w67, w68, w69, w70, w71, w72, w73, w10, w11, w12, w13, w14, w15, w18, w16, w17⟩ := hw
    obtain ⟨e1, e2⟩ := vSt_of (v := v) (w := zv (zput (zput A 1 i x) 63 j x)) (hvc 14 (by decide) (by decide)) (hvc 16 (by decide) (by decide))
    have h1v : zv (zput (zput A 1 i x) 63 j x) 1 = upd (v 1) i x := by rw [zv_at (by decide), h1, zv_c hv 1 (by decide)]
    refine ⟨by rw [hA 65 (by decide) (by decide), hvc 3 (by decide) (by decide), w65], by rw [hA 66 (by decide) (by decide), hvc 4 (by decide) (by decide), w66], by rw [hA 67 (by decide) (by decide), hvc 5 (by decide) (by decide), w67], by rw [hA 68 (by decide) (by decide), hvc 6 (by decide) (by decide), w68], by rw [hA 69 (by decide) (by decide), hvc 10 (by decide) (by decide), w69], by rw [hA 70 (by decide) (by decide), hvc 11 (by decide) (by decide), w70], by rw [hA 71 (by decide) (by decide), hvc 12 (by decide) (by decide), w71], by rw [hA 72 (by decide) (by decide), hvc 13 (by decide) (by decide), w72], by rw [hA 73 (by decide) (by decide), hvc 15 (by decide) (by decide), w73], by rw [h63, upd_o (by omega), hvc 2 (by decide) (by decide), w10], by rw [h63, upd_o (by omega), hvc 2 (by decide) (by decide), w11], by rw [h63, upd_o (by omega), hvc 9 (by decide) (by decide), w12], ?_, ?_, by rw [h63, upd_o (by omega), hvc 14 (by decide) (by decide), w15], by rw [h63, upd_o (by omega), hvc 14 (by decide) (by decide), w18], by rw [h63, upd_o (by omega), e1, w16], by rw [h63, upd_o (by omega), e2, w17]⟩
    · rw [h63, h1v]
      rcases hc with ⟨rfl, rfl, -, -⟩ | ⟨rfl, rfl, -⟩
      · rw [upd_s, upd_s]
      · rw [upd_o (by decide), upd_o (by decide), w13]
    · rw [h63, h1v]
      rcases hc with ⟨rfl, rfl, -, -⟩ | ⟨rfl, rfl, -⟩
      · rw [upd_o (by decide), upd_o (by decide), w14]
      · rw [upd_s, upd_s]
  · obtain ⟨b, b1, b2⟩ := h.old
    exact ⟨b, by omega, zOld_of b2 (by rw [hA 51 (by decide) (by decide)]) (hA 52 (by decide) (by decide)) (hA 53 (by decide) (by decide))⟩
theorem zP_set (x y : Int32) : zPr (zX_set (d + 70) x y) (zM_set (d + 70) x y) := by
  intro a A L h ha
  obtain ⟨v, hv⟩ : ∃ v, zv A = v := ⟨_, rfl⟩
  have ho := h.ok
  have hw := h.mw
  rw [hv] at ho hw
  rcases zIn 2 (by omega) x with hx | ⟨k, hk, rfl⟩
  · have hne : ∀ k, k < 2 → ¬ x = nI k := fun k hk e => by
      subst e
      rcases hx with hx | hx
      · exact nI_pos (by omega) hx
      · exact nI_ge hk (by omega) hx
    exact zPr_no (zNo2 h) (fun A1 n1 => by rw [zX_set_q, if_neg (show ¬ _ = (0 : Int32) from hne 0 (by omega)), if_neg (show ¬ _ = (1 : Int32) from hne 1 (by omega)), n1, zbi_s]) (fun A1 A2 n2 n4 => by rw [zM_set_q, mIn0 (c := 1) (b := 1) rfl (by omega) hx, zbi_s, if_pos rfl, n2, zbi_s])
  have hM : ∀ A1, zM_set (d + 70) (nI k) y A1 L = zM_set_1 (d + 70) (nI k) y A1 L := fun A1 => by rw [zM_set_q, mIn1 (c := 1) (b := 1) rfl (by omega) hk, zbi_s, if_neg (by decide)]
  have hk2 : k = 0 ∨ k = 1 := by omega
  rcases hk2 with rfl | rfl
  · have hX : zX_set (d + 70) (nI 0) y A L = if (1 : Int32) ≤ y then zX_set_4 (d + 70) (nI 0) y A L else zbi (zX_refused (d + 69) (-4) A L) (fun r1 A1 L1 => some (some (.int r1), A1, L1)) := by
      rw [zX_set_q, if_pos (by decide), zX_set_1_q, if_pos (by decide), zX_set_3_q]
    have hM1 : ∀ A1, zM_set (d + 70) (nI 0) y A1 L = zM_set_3 (d + 70) (nI 0) y (if y < 1 then -4 else if (8 : Int32) < y then -6 else 0) A1 L := fun A1 => by rw [hM, zM_set_1_q, if_pos (by decide), mBound, zbi_s]
    by_cases h1 : y < 1
    · exact zPr_no (zNo4 h) (fun A1 n1 => by rw [hX, if_neg (Int32.not_le.mpr h1), n1, zbi_s]) (fun A1 A2 n2 n4 => by rw [hM1, if_pos h1, zM_set_3_q, if_neg zi_nz4, n2, zbi_s])
    have hX4 : zX_set (d + 70) (nI 0) y A L = if y ≤ 8 then zX_set_7 (d + 70) (nI 0) y A L else zbi (zX_refused (d + 69) (-6) A L) (fun r1 A1 L1 => some (some (.int r1), A1, L1)) := by
      rw [hX, if_pos (Int32.not_lt.mp h1), zX_set_4_q, if_pos (by decide), zX_set_6_q]
    by_cases h2 : (8 : Int32) < y
    · exact zPr_no (zNo6 h) (fun A1 n1 => by rw [hX4, if_neg (Int32.not_le.mpr h2), n1, zbi_s]) (fun A1 A2 n2 n4 => by rw [hM1, if_neg h1, if_pos h2, zM_set_3_q, if_neg zi_nz6, n2, zbi_s])
    have hy : ∃ n, 0 < n ∧ n < 9 ∧ y = nI n := by
      rcases zIn 9 (by omega) y with hy | ⟨n, hn, rfl⟩
      · exfalso
        rcases hy with hy | hy
        · exact h1 (Int32.lt_trans hy (by decide))
        · exact h2 ((zlt_up (b := 8) (by omega) y).mpr hy)
      · refine ⟨n, ?_, hn, rfl⟩
        rcases Nat.eq_zero_or_pos n with e | e
        · rw [e] at h1; exact absurd (by decide) h1
        · exact e
    obtain ⟨n, n0, n9, rfl⟩ := hy
    refine ⟨v 1 3, zput A 1 3 (nI n), L, zput (zput A 1 3 (nI n)) 63 13 (nI n), L, ?_, ?_, RR_one h (Or.inl ⟨rfl, rfl, zIs_n n9, by rw [nI_clamp (by omega)]; exact n0⟩)⟩
    · rw [hX4, if_pos (Int32.not_lt.mp h2), zX_set_7_q, if_pos (by decide), zX_set_9_q, if_pos (by decide), zX_set_11_q, zv_c hv 1 (by decide)]
    · have w13 : A 63 13 = v 1 3 := hw.2.2.2.2.2.2.2.2.2.2.2.2.1
      rw [hM1, if_neg h1, if_neg h2, zM_set_3_q, if_pos rfl, zM_set_4_q, if_pos (by decide), zM_set_6_q, if_pos (by decide), zM_set_8_q, zput_o (show 63 ≠ 1 by decide), w13]
  · have hX : zX_set (d + 70) (nI 1) y A L = if (0 : Int32) ≤ y then zX_set_4 (d + 70) (nI 1) y A L else zbi (zX_refused (d + 69) (-4) A L) (fun r1 A1 L1 => some (some (.int r1), A1, L1)) := by
      rw [zX_set_q, if_neg (by decide), if_pos (by decide), zX_set_1_q, if_neg (by decide), zX_set_2_q, zX_set_3_q]
    have hM1 : ∀ A1, zM_set (d + 70) (nI 1) y A1 L = zM_set_3 (d + 70) (nI 1) y (if y < 0 then -4 else if (99 : Int32) < y then -6 else 0) A1 L := fun A1 => by rw [hM, zM_set_1_q, if_neg (by decide), zM_set_2_q, mBound, zbi_s]
    by_cases h1 : y < 0
    · exact zPr_no (zNo4 h) (fun A1 n1 => by rw [hX, if_neg (Int32.not_le.mpr h1), n1, zbi_s]) (fun A1 A2 n2 n4 => by rw [hM1, if_pos h1, zM_set_3_q, if_neg zi_nz4, n2, zbi_s])
    have hX4 : zX_set (d + 70) (nI 1) y A L = if y ≤ 99 then zX_set_7 (d + 70) (nI 1) y A L else zbi (zX_refused (d + 69) (-6) A L) (fun r1 A1 L1 => some (some (.int r1), A1, L1)) := by
      rw [hX, if_pos (Int32.not_lt.mp h1), zX_set_4_q, if_neg (by decide), zX_set_5_q, zX_set_6_q]
    by_cases h2 : (99 : Int32) < y
    · exact zPr_no (zNo6 h) (fun A1 n1 => by rw [hX4, if_neg (Int32.not_le.mpr h2), n1, zbi_s]) (fun A1 A2 n2 n4 => by rw [hM1, if_neg h1, if_pos h2, zM_set_3_q, if_neg zi_nz6, n2, zbi_s])
    have hy : zIs 100 y := by
      rcases zIn 100 (by omega) y with hy | ⟨n, hn, rfl⟩
      · exfalso
        rcases hy with hy | hy
        · exact h1 hy
        · exact h2 ((zlt_up (b := 99) (by omega) y).mpr hy)
      · exact zIs_n hn
    refine ⟨v 1 4, zput A 1 4 y, L, zput (zput A 1 4 y) 63 14 y, L, ?_, ?_, RR_one h (Or.inr ⟨rfl, rfl, hy⟩)⟩
    · rw [hX4, if_pos (Int32.not_lt.mp h2), zX_set_7_q, if_neg (by decide), zX_set_8_q, zX_set_9_q, if_neg (by decide), zX_set_10_q, zX_set_11_q, zv_c hv 1 (by decide)]
    · have w14 : A 63 14 = v 1 4 := hw.2.2.2.2.2.2.2.2.2.2.2.2.2.1
      rw [hM1, if_neg h1, if_neg h2, zM_set_3_q, if_pos rfl, zM_set_4_q, if_neg (by decide), zM_set_5_q, zM_set_6_q, if_neg (by decide), zM_set_7_q, zM_set_8_q, zput_o (show 63 ≠ 1 by decide), w14]
/-- a number and a row's place in the class, and in the model, beside the worlds -/
theorem RR_io {n : Nat} (h : RR a A) (hn : n < 64) (h1 : A 33 2 = nI n) : RR (a + 30) (zput (zput (zput (zput A 34 n x) 33 2 (nI (n + 1))) 74 n x) 63 26 (nI (n + 1))) := by
  have hA : ∀ c, c ≠ 33 → c ≠ 34 → c ≠ 63 → c ≠ 74 → zput (zput (zput (zput A 34 n x) 33 2 (nI (n + 1))) 74 n x) 63 26 (nI (n + 1)) c = A c := fun c a b e f => by rw [zput_o e, zput_o f, zput_o a, zput_o b]
  have e33 : zput (zput (zput (zput A 34 n x) 33 2 (nI (n + 1))) 74 n x) 63 26 (nI (n + 1)) 33 = upd (A 33) 2 (nI (n + 1)) := by rw [zput_o (by decide), zput_o (by decide), zput_s, zput_o (by decide)]
  have e34 : zput (zput (zput (zput A 34 n x) 33 2 (nI (n + 1))) 74 n x) 63 26 (nI (n + 1)) 34 = upd (A 34) n x := by rw [zput_o (by decide), zput_o (by decide), zput_o (by decide), zput_s]
  have e74 : zput (zput (zput (zput A 34 n x) 33 2 (nI (n + 1))) 74 n x) 63 26 (nI (n + 1)) 74 = upd (A 74) n x := by rw [zput_o (by decide), zput_s, zput_o (by decide), zput_o (by decide)]
  have e63 : zput (zput (zput (zput A 34 n x) 33 2 (nI (n + 1))) 74 n x) 63 26 (nI (n + 1)) 63 = upd (A 63) 26 (nI (n + 1)) := by rw [zput_s, zput_o (by decide), zput_o (by decide), zput_o (by decide)]
  have hv : zv (zput (zput (zput (zput A 34 n x) 33 2 (nI (n + 1))) 74 n x) 63 26 (nI (n + 1))) = zv A := zv_of (fun c hc => hA c (by omega) (by omega) (by omega) (by omega))
  refine ⟨by rw [hv]; exact h.ok, by rw [hv]; exact zmw_at h.mw (fun i a b => by rw [e63, upd_o (by omega)]) (fun c a b => hA c (by omega) (by omega) (by omega) (by omega)), by rw [e63, upd_o (by decide)]; exact h.gone, by rw [hA 62 (by decide) (by decide) (by decide) (by decide), hA 64 (by decide) (by decide) (by decide) (by decide)]; exact h.ref, ⟨n + 1, by omega, by rw [e33, upd_s], by rw [e63, upd_s]⟩, by rw [e34, e74, h.lett], by rw [hA 0 (by decide) (by decide) (by decide) (by decide), e63, upd_o (by decide), hA 61 (by decide) (by decide) (by decide) (by decide)]; exact h.rown, by rw [hA 61 (by decide) (by decide) (by decide) (by decide), hA 92 (by decide) (by decide) (by decide) (by decide)]; exact h.rows, ?_, ?_⟩
  · rw [hA 0 (by decide) (by decide) (by decide) (by decide), e63, upd_o (by decide), hA 81 (by decide) (by decide) (by decide) (by decide)]
    have hvi : ∀ B : zA, (∀ c, c ≤ 32 → B c = A c) → zvi B = zvi A := fun B hB => by
      funext i
      unfold zvi
      split
      · rw [hB _ (by omega)]
      · rfl
    rw [hvi _ (fun c hc => hA c (by omega) (by omega) (by omega) (by omega))]
    exact h.img
  · obtain ⟨b, b1, b2⟩ := h.old
    exact ⟨b, by omega, zOld_of b2 (by rw [hA 51 (by decide) (by decide) (by decide) (by decide)]) (hA 52 (by decide) (by decide) (by decide) (by decide)) (hA 53 (by decide) (by decide) (by decide) (by decide))⟩
theorem zP_feed (x : Int32) : zPr (zX_feed (d + 70) x) (zM_feed (d + 70) x) := by
  intro a A L h ha
  obtain ⟨n, n1, n2, n3⟩ := h.tape
  have hM : ∀ A1, (∀ c, c ≠ 62 → A1 c = A c) → zM_feed (d + 70) x A1 L = if (if x < 0 then -4 else if (255 : Int32) < x then -6 else (0 : Int32)) = 0 then if nI n = 64 then zM_feed_1 (d + 70) x (-6) A1 L else zM_feed_1 (d + 70) x (if x < 0 then -4 else if (255 : Int32) < x then -6 else 0) A1 L else zM_feed_1 (d + 70) x (if x < 0 then -4 else if (255 : Int32) < x then -6 else 0) A1 L := fun A1 n4 => by
    rw [zM_feed_q, mBound, zbi_s, n4 63 (by decide), n3]
  by_cases h1 : x < 0
  · exact zPr_no (zNo4 h) (fun A1 m1 => by rw [zX_feed_q, if_neg (Int32.not_le.mpr h1), m1, zbi_s]) (fun A1 A2 m2 m4 => by rw [hM A1 m4, if_pos h1, if_neg zi_nz4, zM_feed_1_q, if_neg zi_nz4, m2, zbi_s])
  by_cases h2 : (255 : Int32) < x
  · exact zPr_no (zNo6 h) (fun A1 m1 => by rw [zX_feed_q, if_pos (Int32.not_lt.mp h1), zX_feed_1_q, if_pos h2, zX_feed_2_q, m1, zbi_s]) (fun A1 A2 m2 m4 => by rw [hM A1 m4, if_neg h1, if_pos h2, if_neg zi_nz6, zM_feed_1_q, if_neg zi_nz6, m2, zbi_s])
  by_cases h3 : n = 64
  · subst h3
    have hfull : zR_isFull (d + 69) A L = some (some (.int 1), A, L) := by rw [zR_isFull_q, n2, if_neg (by decide), zR_isFull_2_q, zcb_1]
    exact zPr_no (zNo6 h) (fun A1 m1 => by rw [zX_feed_q, if_pos (Int32.not_lt.mp h1), zX_feed_1_q, if_neg h2, hfull, zbi_s, if_neg (by decide), zX_feed_2_q, m1, zbi_s]) (fun A1 A2 m2 m4 => by rw [hM A1 m4, if_neg h1, if_neg h2, if_pos rfl, if_pos (by decide), zM_feed_1_q, if_neg zi_nz6, m2, zbi_s])
  · have hn : n < 64 := by omega
    have hfull : zR_isFull (d + 69) A L = some (some (.int 0), A, L) := by rw [zR_isFull_q, n2, if_pos (nI_l64 hn), zR_isFull_1_q, zR_isFull_2_q, zcb_0]
    refine ⟨nI (n + 1), zput (zput A 34 n x) 33 2 (nI (n + 1)), L, zput (zput (zput (zput A 34 n x) 33 2 (nI (n + 1))) 74 n x) 63 26 (nI (n + 1)), L, ?_, ?_, RR_io h hn n2⟩
    · rw [zX_feed_q, if_pos (Int32.not_lt.mp h1), zX_feed_1_q, if_neg h2, hfull, zbi_s, if_pos rfl, zX_feed_3_q, zR_accept_q, n2, if_neg (nI_pos (by omega)), if_neg (nI_g64 hn), zck_n hn (by decide), nI_clamp (by omega), zput_o (show 33 ≠ 34 by decide), n2, nI_1, zR_accept_1_q, zput_s, upd_s, zbi_s]
    · have e63 : zput (zput A 34 n x) 33 2 (nI (n + 1)) 63 26 = nI n := by rw [zput_o (by decide), zput_o (by decide), n3]
      rw [zM_feed_q, mBound, zbi_s, if_neg h1, if_neg h2, if_pos rfl, e63, if_neg (show ¬ nI n = 64 from nI_ne h3 (by omega) (by decide)), zM_feed_1_q, if_pos rfl, zM_feed_2_q, e63, zck_n hn (by decide), nI_clamp (by omega), zput_o (show 63 ≠ 74 by decide), e63, nI_1, zput_s, upd_s]
theorem RR_row {n k : Nat} (h : RR a A) (hn : n < 8) (hk : k < 8) (h1 : A 0 9 = nI n) (h2 : ∀ i, i < n → zIs 8 (A 61 i)) : RR (a + 30) (zput (zput (zput (zput A 61 n (nI k)) 0 9 (nI (n + 1))) 92 n (nI k)) 63 45 (nI (n + 1))) := by
  have hA : ∀ c, c ≠ 0 → c ≠ 61 → c ≠ 63 → c ≠ 92 → zput (zput (zput (zput A 61 n (nI k)) 0 9 (nI (n + 1))) 92 n (nI k)) 63 45 (nI (n + 1)) c = A c := fun c a b e f => by rw [zput_o e, zput_o f, zput_o a, zput_o b]
  have e0 : zput (zput (zput (zput A 61 n (nI k)) 0 9 (nI (n + 1))) 92 n (nI k)) 63 45 (nI (n + 1)) 0 = upd (A 0) 9 (nI (n + 1)) := by rw [zput_o (by decide), zput_o (by decide), zput_s, zput_o (by decide)]
  have e61 : zput (zput (zput (zput A 61 n (nI k)) 0 9 (nI (n + 1))) 92 n (nI k)) 63 45 (nI (n + 1)) 61 = upd (A 61) n (nI k) := by rw [zput_o (by decide), zput_o (by decide), zput_o (by decide), zput_s]
  have e92 : zput (zput (zput (zput A 61 n (nI k)) 0 9 (nI (n + 1))) 92 n (nI k)) 63 45 (nI (n + 1)) 92 = upd (A 92) n (nI k) := by rw [zput_o (by decide), zput_s, zput_o (by decide), zput_o (by decide)]
  have e63 : zput (zput (zput (zput A 61 n (nI k)) 0 9 (nI (n + 1))) 92 n (nI k)) 63 45 (nI (n + 1)) 63 = upd (A 63) 45 (nI (n + 1)) := by rw [zput_s, zput_o (by decide), zput_o (by decide), zput_o (by decide)]
  have hv : zv (zput (zput (zput (zput A 61 n (nI k)) 0 9 (nI (n + 1))) 92 n (nI k)) 63 45 (nI (n + 1))) = fun i => if i = 0 then upd (A 0) 9 (nI (n + 1)) else zv A i := by
    funext i
    by_cases hi : i = 0
    · subst hi
      rw [if_pos rfl, zv_at (by decide), e0]
    · rw [if_neg hi]
      unfold zv
      split
      · rw [hA i hi (by omega) (by omega) (by omega)]
      · rfl
  have hvc : ∀ c, 1 ≤ c → zv (zput (zput (zput (zput A 61 n (nI k)) 0 9 (nI (n + 1))) 92 n (nI k)) 63 45 (nI (n + 1))) c = zv A c := fun c hc => by rw [hv]; exact if_neg (by omega)
  have hsm : zSm (zv A) (zv (zput (zput (zput (zput A 61 n (nI k)) 0 9 (nI (n + 1))) 92 n (nI k)) 63 45 (nI (n + 1)))) := by
    unfold zSm
    rw [hvc 1 (by decide), hvc 2 (by decide), hvc 3 (by decide), hvc 4 (by decide), hvc 5 (by decide), hvc 6 (by decide), hvc 7 (by decide), hvc 8 (by decide), hvc 9 (by decide), hvc 10 (by decide), hvc 11 (by decide), hvc 12 (by decide), hvc 13 (by decide), hvc 14 (by decide), hvc 15 (by decide), hvc 16 (by decide)]
    exact ⟨fun _ _ => ⟨rfl, rfl, rfl, rfl, rfl⟩, fun _ _ => rfl, fun _ _ => ⟨rfl, rfl⟩, fun _ _ => ⟨rfl, rfl, rfl⟩, fun _ _ => rfl, rfl, rfl, rfl, rfl, rfl, rfl, rfl⟩
  obtain ⟨t1, t2⟩ := vSt_sm hsm h.ok
  refine ⟨Ok_sm hsm h.ok, ?_, by rw [e63, upd_o (by decide)]; exact h.gone, by rw [hA 62 (by decide) (by decide) (by decide) (by decide), hA 64 (by decide) (by decide) (by decide) (by decide)]; exact h.ref, by rw [hA 33 (by decide) (by decide) (by decide) (by decide), e63, upd_o (by decide)]; exact h.tape, by rw [hA 34 (by decide) (by decide) (by decide) (by decide), hA 74 (by decide) (by decide) (by decide) (by decide)]; exact h.lett, ⟨n + 1, by omega, by rw [e0, upd_s], by rw [e63, upd_s], fun i hi => ?_⟩, by rw [e61, e92, h.rows], ?_, ?_⟩
  · have hw := zmw_at (B := zput (zput (zput (zput A 61 n (nI k)) 0 9 (nI (n + 1))) 92 n (nI k)) 63 45 (nI (n + 1))) h.mw (fun i a b => by rw [e63, upd_o (by omega)]) (fun c a b => hA c (by omega) (by omega) (by omega) (by omega))
    unfold zmw at *
    rw [hvc 1 (by decide), hvc 2 (by decide), hvc 3 (by decide), hvc 4 (by decide), hvc 5 (by decide), hvc 6 (by decide), hvc 9 (by decide), hvc 10 (by decide), hvc 11 (by decide), hvc 12 (by decide), hvc 13 (by decide), hvc 14 (by decide), hvc 15 (by decide), t1, t2]
    exact hw
  · rw [e61]
    by_cases e : i = n
    · rw [e, upd_s]; exact zIs_n hk
    · rw [upd_o e]; exact h2 i (by omega)
  · rw [e0, upd_o (by decide), e63, upd_o (by decide), hA 81 (by decide) (by decide) (by decide) (by decide)]
    have hvi : ∀ c, 1 ≤ c → c ≤ 16 → zvi (zput (zput (zput (zput A 61 n (nI k)) 0 9 (nI (n + 1))) 92 n (nI k)) 63 45 (nI (n + 1))) c = zvi A c := fun c a b => by
      unfold zvi
      rw [if_pos b, if_pos b, hA _ (by omega) (by omega) (by omega) (by omega)]
    rw [show zvi (zput (zput (zput (zput A 61 n (nI k)) 0 9 (nI (n + 1))) 92 n (nI k)) 63 45 (nI (n + 1))) = zvi A by
      funext c
      unfold zvi
      split
      · rw [hA _ (by omega) (by omega) (by omega) (by omega)]
      · rfl]
    exact h.img
  · obtain ⟨b, b1, b2⟩ := h.old
    exact ⟨b, by omega, zOld_of b2 (by rw [hA 51 (by decide) (by decide) (by decide) (by decide)]) (hA 52 (by decide) (by decide) (by decide) (by decide)) (hA 53 (by decide) (by decide) (by decide) (by decide))⟩
theorem zP_row (x : Int32) : zPr (zX_row (d + 70) x) (zM_row (d + 70) x) := by
  intro a A L h ha
  obtain ⟨n, n1, n2, n3, n4⟩ := h.rown
  rcases zIn 8 (by omega) x with hx | ⟨k, hk, rfl⟩
  · exact zPr_no (zNo1 h) (fun A1 m1 => by rw [zX_row_q, cNoWord1 hx, zbi_s, if_neg (by decide), m1, zbi_s]) (fun A1 A2 m2 m4 => by rw [zM_row_q, mIn0 (c := 7) (b := 7) rfl (by omega) hx, zbi_s, if_pos rfl, m2, zbi_s])
  have hX : zX_row (d + 70) (nI k) A L = if nI n < 8 then zX_row_3 (d + 70) (nI k) A L else zX_row_2 (d + 70) A L := by rw [zX_row_q, cNoWord0 hk, zbi_s, if_pos rfl, zX_row_1_q, n2, if_neg (nI_pos (by omega))]
  have hM : ∀ A1, A1 63 45 = nI n → zM_row (d + 70) (nI k) A1 L = if nI n = 8 then zbi (zM_no (d + 69) (-6) A1 L) (fun r1 A1 L1 => some (some (.int r1), A1, L1)) else zM_row_2 (d + 70) (nI k) A1 L := fun A1 e => by
    rw [zM_row_q, mIn1 (c := 7) (b := 7) rfl (by omega) hk, zbi_s, if_neg (by decide), zM_row_1_q, e]
  by_cases h8 : n = 8
  · subst h8
    exact zPr_no (zNo6 h) (fun A1 m1 => by rw [hX, if_neg (by decide), zX_row_2_q, m1, zbi_s]) (fun A1 A2 m2 m4 => by rw [hM A1 (by rw [m4 63 (by decide), n3]), if_pos (by decide), m2, zbi_s])
  · have hn : n < 8 := by omega
    refine ⟨nI (n + 1), zput (zput A 61 n (nI k)) 0 9 (nI (n + 1)), L, zput (zput (zput (zput A 61 n (nI k)) 0 9 (nI (n + 1))) 92 n (nI k)) 63 45 (nI (n + 1)), L, ?_, ?_, RR_row h hn hk n2 n4⟩
    · rw [hX, if_pos (nI_l8 hn), zX_row_3_q, n2, zck_n hn (by decide), nI_clamp (by omega), zput_o (show 0 ≠ 61 by decide), n2, nI_1, zput_s, upd_s]
    · have e63 : zput (zput A 61 n (nI k)) 0 9 (nI (n + 1)) 63 45 = nI n := by rw [zput_o (by decide), zput_o (by decide), n3]
      rw [hM _ e63, if_neg (show ¬ nI n = 8 from nI_ne h8 (by omega) (by decide)), zM_row_2_q, e63, zck_n hn (by decide), nI_clamp (by omega), zput_o (show 63 ≠ 92 by decide), e63, nI_1, zput_s, upd_s]
end P4
