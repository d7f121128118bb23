/-! ===== class and model answer alike: anew, back, stop, say ===== -/
section P6
variable {a d n s m t : Nat} {A A' B v w : zA} {L M : zL} {x y : Int32}
theorem zP_anew : zPr (zX_anew (d + 70)) (zM_anew (d + 70)) := by
  intro a A L h ha
  obtain ⟨v, hv⟩ : ∃ v, zv A = v := ⟨_, rfl⟩
  have ho := h.ok
  have hw := h.mw
  rw [hv] at ho hw
  have w73 := hw.2.2.2.2.2.2.2.2.1
  have w15 := hw.2.2.2.2.2.2.2.2.2.2.2.2.2.2.1
  have h9 := ho.sz
  obtain ⟨A1, hA1⟩ : ∃ A1, A1 = zput (zput A 14 2 0) 14 3 0 := ⟨_, rfl⟩
  obtain ⟨A2, hA2⟩ : ∃ A2, A2 = zput (zput (zput (zput A1 63 15 0) 63 16 0) 63 17 0) 63 18 0 := ⟨_, rfl⟩
  have e14 : A2 14 = upd (upd (A 14) 2 0) 3 0 := by rw [hA2, zput_o (by decide), zput_o (by decide), zput_o (by decide), zput_o (by decide), hA1, zput_s, zput_s]
  have e63 : A2 63 = upd (upd (upd (upd (A 63) 15 0) 16 0) 17 0) 18 0 := by rw [hA2, zput_s, zput_s, zput_s, zput_s, hA1, zput_o (by decide), zput_o (by decide)]
  have hc : ∀ c, c ≠ 14 → c ≠ 63 → A2 c = A c := fun c h1 h2 => by rw [hA2, zput_o h2, zput_o h2, zput_o h2, zput_o h2, hA1, zput_o h1, zput_o h1]
  have hvc : ∀ c, c ≤ 16 → c ≠ 14 → zv A2 c = v c := fun c h1 h2 => by rw [zv_at h1, hc c h2 (by omega), zv_c hv c h1]
  have hz : vSz (zv A2) = 0 := by unfold vSz; rw [zv_at (by decide), e14, upd_o (by decide), upd_s]; rfl
  obtain ⟨t1, t2⟩ := vSt_sp (w := zv A2) (n := 0) (s := 0) (m := 0) hz (by rw [hvc 16 (by decide) (by decide), ho.sp0]; rfl) (by omega) (by omega) (by omega)
  refine ⟨v 14 2, A1, L, A2, L, ?_, ?_, RR_talk h (fun c hc' => hc c (by omega) (by omega)) (fun i hi => by rw [e63, upd_o (by omega), upd_o (by omega), upd_o (by omega), upd_o (by omega)]) ?_ ?_ ?_ ?_ ?_ ?_ ?_⟩
  · rw [zX_anew_q, zT_beginAnew_q, zcb_0, zbv_s, zv_c hv 14 (by decide), hA1]
  · have w15' : A1 63 15 = v 14 2 := by rw [hA1, zput_o (by decide), zput_o (by decide), w15]
    rw [zM_anew_q, zM_replays_q, zM_replays_1_q, if_pos (by decide), zM_replays_7_q, zbv_s, w15', hA2]
  · refine Ok_talk (v := v) (fun c hc' => hvc c (by omega) (by omega)) ?_ ?_ ?_ ?_ ho
    · rw [zv_at (by decide), e14, upd_o (by decide), upd_s]; exact ⟨0, by decide, rfl⟩
    · rw [zv_at (by decide), e14, upd_s]; exact Or.inl rfl
    · rw [hvc 16 (by decide) (by decide)]; exact ho.sp0
    · intro i hi; rw [hz] at hi; omega
  · rw [hc 73 (by decide) (by decide), hc 15 (by decide) (by decide), w73, zv_c hv 15 (by decide)]
  · rw [e63, e14, upd_o (by decide), upd_o (by decide), upd_o (by decide), upd_s, upd_o (by decide), upd_s]
  · rw [e63, e14, upd_s, upd_s]
  · rw [e63, t1, upd_o (by decide), upd_o (by decide), upd_s]; rfl
  · rw [e63, t2, upd_o (by decide), upd_s]; rfl
  · obtain ⟨b, b1, b2⟩ := h.old
    exact ⟨b, by omega, zOld_of b2 (by rw [hc 51 (by decide) (by decide)]) (hc 52 (by decide) (by decide)) (hc 53 (by decide) (by decide))⟩
theorem zP_back : zPr (zX_back (d + 70)) (zM_back (d + 70)) := by
  intro a A L h ha
  obtain ⟨v, hv⟩ : ∃ v, zv A = v := ⟨_, rfl⟩
  have ho := h.ok
  have hw := h.mw
  rw [hv] at ho hw
  have hw0 := hw
  obtain ⟨w65, w66, w67, w68, w69, w70, w71, w72, w73, w10, w11, w12, w13, w14, w15, w18, w16, w17⟩ := hw0
  have h9 := ho.sz
  rcases ho.stop with hs | hs
  · by_cases hn : vSz v = 0
    · refine zPr_no (zNo3 h) (fun A1 n1 => by rw [zX_back_q, zT_takeBack_q, zv_c hv 14 (by decide), hs, if_pos rfl, zT_takeBack_1_q, zv_c hv 14 (by decide), h9.1, hn, if_pos (by decide), zcb_0, zbi_s, if_pos rfl, zX_back_1_q, n1, zbi_s, zX_back_2_q]) (fun A1 A2 n2 n4 => by rw [zM_back_q, n4 63 (by decide), w18, hs, if_neg (by decide), zM_back_1_q, n4 63 (by decide), w15, h9.1, hn, if_pos (by decide), n2, zbi_s])
    · obtain ⟨n, hnn⟩ : ∃ n, vSz v = n + 1 := ⟨vSz v - 1, by omega⟩
      have hsub : nI (n + 1) - 1 = nI n := by rw [← nI_1, Int32.add_sub_cancel]
      obtain ⟨A1, hA1⟩ : ∃ A1, A1 = zput A 14 2 (nI n) := ⟨_, rfl⟩
      have hv1 : zv A1 = vBk v n := by
        rw [hA1, zv_put14 hv]
        funext c
        unfold vBk
        rfl
      have hA1c : ∀ c, c ≠ 14 → A1 c = A c := fun c hc => by rw [hA1, zput_o hc]
      have hw1 : zmw A1 v := zmw_of hw (fun c a b => hA1c c (by omega))
      obtain ⟨B, hB⟩ : ∃ B, B = zput (zput (zput A1 63 15 0) 63 16 0) 63 17 0 := ⟨_, rfl⟩
      have hBc : ∀ c, c ≠ 63 → B c = A1 c := fun c hc => by rw [hB, zput_o hc, zput_o hc, zput_o hc]
      have hB63 : B 63 = upd (upd (upd (A1 63) 15 0) 16 0) 17 0 := by rw [hB, zput_s, zput_s, zput_s]
      obtain ⟨z1, z2⟩ := vSt_sp (w := vBk v 0) (n := 0) (s := 0) (m := 0) (vBk_sz (by omega)) (by rw [vBk_c 0 (by decide), ho.sp0]; rfl) (by omega) (by omega) (by omega)
      have hwB : zmw B (vBk v 0) := by
        refine zmw_talk hw1 (fun c hc => vBk_c 0 (by omega)) (fun c a b => hBc c (by omega)) ?_ (fun i a b => by rw [hB63, upd_o (by omega), upd_o (by omega), upd_o (by omega)]) ?_ ?_ ?_ ?_
        · rw [hBc 73 (by decide), hA1c 73 (by decide), w73, vBk_c 0 (by decide)]
        · rw [hB63, upd_o (by decide), upd_o (by decide), upd_s, vBk_14, upd_s]; rfl
        · rw [hB63, upd_o (by decide), upd_o (by decide), upd_o (by decide), hA1c 63 (by decide), w18, vBk_14, upd_o (by decide)]
        · rw [hB63, upd_o (by decide), upd_s, z1]; rfl
        · rw [hB63, upd_s, z2]; rfl
      obtain ⟨A2, r1, r2, r3, r4⟩ := mReplays (d := d + 68) (M := L) (k := n) ho (by omega) n 0 B (by omega) hwB
      have hc : ∀ c, c ≠ 14 → c ≠ 63 → A2 c = A c := fun c a b => by rw [r2 c b, hBc c b, hA1c c a]
      have e14 : A2 14 = A1 14 := by rw [r2 14 (by decide), hBc 14 (by decide)]
      have hv2 : zv A2 = vBk v n := (zv_of (fun c hc' => by rw [r2 c (by omega), hBc c (by omega)])).trans hv1
      obtain ⟨q65, q66, q67, q68, q69, q70, q71, q72, q73, q10, q11, q12, q13, q14, q15, q18, q16, q17⟩ := r4
      refine ⟨nI n, A1, L, A2, L, ?_, ?_, RR_talk h (fun c hc' => hc c (by omega) (by omega)) (fun i hi => by rw [r3 i (by omega), hB63, upd_o (by omega), upd_o (by omega), upd_o (by omega), hA1c 63 (by decide)]) (by rw [hv2]; exact Ok_bk ho (by omega)) ?_ ?_ ?_ (by rw [hv2]; exact q16) (by rw [hv2]; exact q17) ?_⟩
      · rw [zX_back_q, zT_takeBack_q, zv_c hv 14 (by decide), hs, if_pos rfl, zT_takeBack_1_q, zv_c hv 14 (by decide), h9.1, hnn, if_neg (nI_ne0 (by omega) (by omega)), zT_takeBack_2_q, zcb_1, zbi_s, if_neg (by decide), zX_back_2_q, zv_c hv 14 (by decide), h9.1, hnn, hsub, ← hA1, hA1, zput_s, upd_s]
      · have e18 : A1 63 18 = 0 := by rw [hA1c 63 (by decide), w18, hs]
        have e15 : A1 63 15 = nI (n + 1) := by rw [hA1c 63 (by decide), w15, h9.1, hnn]
        rw [zM_back_q, e18, if_neg (by decide), zM_back_1_q, e15, if_neg (nI_ne0 (by omega) (by omega)), zM_back_2_q, e15, hsub, zM_replays_q, ← hB, show (0 : Int32) = nI 0 from rfl, r1, zbv_s, q15, vBk_14, upd_s]
      · rw [hc 73 (by decide) (by decide), w73, hc 15 (by decide) (by decide), zv_c hv 15 (by decide)]
      · rw [q15, vBk_14, upd_s, e14, hA1, zput_s, upd_s]
      · rw [q18, vBk_14, upd_o (by decide), e14, hA1, zput_s, upd_o (by decide), zv_c hv 14 (by decide)]
      · obtain ⟨b, b1, b2⟩ := h.old
        exact ⟨b, by omega, zOld_of b2 (by rw [hc 51 (by decide) (by decide)]) (hc 52 (by decide) (by decide)) (hc 53 (by decide) (by decide))⟩
  · obtain ⟨A1, hA1⟩ : ∃ A1, A1 = zput A 14 3 0 := ⟨_, rfl⟩
    obtain ⟨A2, hA2⟩ : ∃ A2, A2 = zput A1 63 18 0 := ⟨_, rfl⟩
    have hc : ∀ c, c ≠ 14 → c ≠ 63 → A2 c = A c := fun c a b => by rw [hA2, zput_o b, hA1, zput_o a]
    have e14 : A2 14 = upd (A 14) 3 0 := by rw [hA2, zput_o (by decide), hA1, zput_s]
    have e63 : A2 63 = upd (A 63) 18 0 := by rw [hA2, zput_s, hA1, zput_o (by decide)]
    have hvc : ∀ c, c ≤ 16 → c ≠ 14 → zv A2 c = v c := fun c h1 h2 => by rw [zv_at h1, hc c h2 (by omega), zv_c hv c h1]
    have e142 : zv A2 14 2 = v 14 2 := by rw [zv_at (by decide), e14, upd_o (by decide), zv_c hv 14 (by decide)]
    have hz : vSz (zv A2) = vSz v := by unfold vSz; rw [e142]
    obtain ⟨p1, p2, p3⟩ := vSp_eq ho
    obtain ⟨t1, t2⟩ := vSt_sp (w := zv A2) hz (by rw [hvc 16 (by decide) (by decide)]; exact p1) (by omega) p2 p3
    refine ⟨v 14 2, A1, L, A2, L, ?_, ?_, RR_talk h (fun c hc' => hc c (by omega) (by omega)) (fun i hi => by rw [e63, upd_o (by omega)]) ?_ ?_ ?_ ?_ ?_ ?_ ?_⟩
    · rw [zX_back_q, zT_takeBack_q, zv_c hv 14 (by decide), hs, if_neg (by decide), zcb_0, zcb_1, zbi_s, if_neg (by decide), zX_back_2_q, ← hA1, hA1, zput_s, upd_o (by decide), zv_c hv 14 (by decide)]
    · have e18 : A1 63 18 = 1 := by rw [hA1, zput_o (by decide), w18, hs]
      rw [zM_back_q, e18, if_pos rfl, ← hA2, e63, upd_o (by decide), w15]
    · refine Ok_talk (v := v) (fun c hc' => hvc c (by omega) (by omega)) ?_ ?_ ?_ ?_ ho
      · rw [e142]; exact ho.s9
      · rw [zv_at (by decide), e14, upd_s]; exact Or.inl rfl
      · rw [hvc 16 (by decide) (by decide)]; exact ho.sp0
      · rw [hz, hvc 15 (by decide) (by decide), hvc 16 (by decide) (by decide)]; exact ho.sd
    · rw [hc 73 (by decide) (by decide), w73, hc 15 (by decide) (by decide), zv_c hv 15 (by decide)]
    · rw [e63, upd_o (by decide), w15, e14, upd_o (by decide), zv_c hv 14 (by decide)]
    · rw [e63, upd_s, e14, upd_s]
    · rw [e63, upd_o (by decide), w16, t1]
    · rw [e63, upd_o (by decide), w17, t2]
    · obtain ⟨b, b1, b2⟩ := h.old
      exact ⟨b, by omega, zOld_of b2 (by rw [hc 51 (by decide) (by decide)]) (hc 52 (by decide) (by decide)) (hc 53 (by decide) (by decide))⟩
theorem vOn_bit (ho : Ok v) (ht : t < 8) : (vOn v).testBit t = true ↔ v 14 3 = 0 ∧ (vMay v (vSz v) (vSt v)).testBit t = true := by
  obtain ⟨-, e2, -⟩ := vSp_eq ho
  unfold vOn
  by_cases h : v 14 3 = 0
  · rw [if_pos h, vOpt_bit ho e2 ht]; exact ⟨fun h1 => ⟨h, h1⟩, fun h1 => h1.2⟩
  · rw [if_neg h, Nat.zero_testBit]; exact ⟨fun h1 => (by cases h1), fun h1 => absurd h1.1 h⟩
theorem vOn_8 (ho : Ok v) : (vOn v).testBit 8 = true ↔ v 14 3 = 0 ∧ vMay v (vSz v) (vSt v) ≠ 0 ∧ vEn v (vSt v) = true := by
  obtain ⟨-, e2, -⟩ := vSp_eq ho
  unfold vOn
  by_cases h : v 14 3 = 0
  · rw [if_pos h, vOpt_8 ho e2, Bool.and_eq_true, Bool.not_eq_true', decide_eq_false_iff_not]; exact ⟨fun h1 => ⟨h, h1⟩, fun h1 => h1.2⟩
  · rw [if_neg h, Nat.zero_testBit]; exact ⟨fun h1 => (by cases h1), fun h1 => absurd h1.1 h⟩
theorem vOn_lt (ho : Ok v) : vOn v < 512 := by
  obtain ⟨-, e2, -⟩ := vSp_eq ho
  unfold vOn
  split
  · exact ho.opt e2
  · omega
theorem mMayStop (ho : Ok v) (hw : zmw B v) (hT : zTab B v 0) : zM_mayStop (d + 3) B M = some (some (.int (if (vOn v).testBit 8 then 1 else 0)), B, M) := by
  obtain ⟨-, e2, -⟩ := vSp_eq ho
  have h9 := ho.sz
  have hw0 := hw
  obtain ⟨-, -, -, -, -, -, -, -, -, -, -, -, -, -, w15, w18, w16, w17⟩ := hw0
  have h8 := vOn_8 ho
  have hmay := ho.may (n := vSz v) e2
  have hno : (vOn v).testBit 8 = false → (if (vOn v).testBit 8 then (1 : Int32) else 0) = 0 := fun h => by rw [h, ite_ft]
  rw [zM_mayStop_q, w18]
  rcases ho.stop with h | h
  · rw [h, if_pos rfl, w16, mIsEnd ho hw e2, zbi_s]
    cases he : vEn v (vSt v) with
    | false =>
      have hf : (vOn v).testBit 8 = false := by
        cases hb : (vOn v).testBit 8 with
        | false => rfl
        | true => have := (h8.mp hb).2.2; rw [he] at this; cases this
      rw [ite_ft, if_pos rfl, zM_mayStop_1_q, zM_mayStop_2_q, zcb_0, hf, ite_ft]
    | true =>
      rw [ite_tt, if_neg (by decide), w15, w16, h9.1, mMayAt ho hw hT (by omega) e2, zbi_s, vMg_0 ho e2, show (0 : Int32) = nI 0 from rfl, zifi (nI_eq (by omega) (by omega))]
      by_cases h0 : vMay v (vSz v) (vSt v) = 0
      · have hf : (vOn v).testBit 8 = false := by
          cases hb : (vOn v).testBit 8 with
          | false => rfl
          | true => exact absurd h0 (h8.mp hb).2.1
        rw [if_pos h0, zM_mayStop_1_q, zM_mayStop_2_q, zcb_0, hf, ite_ft]; rfl
      · have hf : (vOn v).testBit 8 = true := h8.mpr ⟨h, h0, he⟩
        rw [if_neg h0, zM_mayStop_2_q, zcb_1, hf, ite_tt]
  · have hf : (vOn v).testBit 8 = false := by
      cases hb : (vOn v).testBit 8 with
      | false => rfl
      | true => have := (h8.mp hb).1; rw [h] at this; exact absurd this (by decide)
    rw [h, if_neg (by decide), zM_mayStop_1_q, zM_mayStop_2_q, zcb_0, hf, ite_ft]
/-- the talk is stopped, in both -/
theorem RR_stop {a' : Nat} (h : RR a A) (hv : zv A = v) (hc : ∀ c, c ≠ 14 → c ≠ 63 → (c < 51 ∨ (54 < c ∧ c < 82) ∨ 91 < c) → A' c = A c) (e14 : A' 14 = upd (A 14) 3 1) (e63 : A' 63 = upd (A 63) 18 1) (hO : ∃ b, b ≤ a' ∧ zOld A' b) : RR a' A' := by
  have ho := h.ok
  have hw := h.mw
  rw [hv] at ho hw
  obtain ⟨w65, w66, w67, w68, w69, w70, w71, w72, w73, w10, w11, w12, w13, w14, w15, w18, w16, w17⟩ := hw
  have h9 := ho.sz
  have hvc : ∀ c, c ≤ 16 → c ≠ 14 → zv A' c = v c := fun c h1 h2 => by rw [zv_at h1, hc c h2 (by omega) (by omega), zv_c hv c h1]
  have e142 : zv A' 14 2 = v 14 2 := by rw [zv_at (by decide), e14, upd_o (by decide), zv_c hv 14 (by decide)]
  have hz : vSz (zv A') = vSz v := by unfold vSz; rw [e142]
  obtain ⟨p1, p2, p3⟩ := vSp_eq ho
  obtain ⟨t1, t2⟩ := vSt_sp (w := zv A') hz (by rw [hvc 16 (by decide) (by decide)]; exact p1) (by omega) p2 p3
  refine RR_talk h (fun c hc' => hc c (by omega) (by omega) (by omega)) (fun i hi => by rw [e63, upd_o (by omega)]) ?_ ?_ ?_ ?_ ?_ ?_ hO
  · refine Ok_talk (v := v) (fun c hc' => hvc c (by omega) (by omega)) ?_ ?_ ?_ ?_ ho
    · rw [e142]; exact ho.s9
    · rw [zv_at (by decide), e14, upd_s]; exact Or.inr rfl
    · rw [hvc 16 (by decide) (by decide)]; exact ho.sp0
    · rw [hz, hvc 15 (by decide) (by decide), hvc 16 (by decide) (by decide)]; exact ho.sd
  · rw [hc 73 (by decide) (by decide) (by omega), w73, hc 15 (by decide) (by decide) (by omega), zv_c hv 15 (by decide)]
  · rw [e63, upd_o (by decide), w15, e14, upd_o (by decide), zv_c hv 14 (by decide)]
  · rw [e63, upd_s, e14, upd_s]
  · rw [e63, upd_o (by decide), w16, t1]
  · rw [e63, upd_o (by decide), w17, t2]
theorem zP_stop : zPr (zX_stop (d + 70)) (zM_stop (d + 70)) := by
  intro a A L h ha
  obtain ⟨v, hv⟩ : ∃ v, zv A = v := ⟨_, rfl⟩
  have ho := h.ok
  have hw := h.mw
  have hg := h.gone
  rw [hv] at ho hw
  have hlt := vOn_lt ho
  have h9 := ho.sz.2
  obtain ⟨p1, p2, p3⟩ := vSp_eq ho
  have hX : zX_stop (d + 70) A L = if (vOn v).testBit 8 = false then zbi (zX_refused (d + 69) (-3) A L) (fun r2 A2 L2 => some (some (.int r2), A2, L2)) else zX_stop_1 (d + 70) A L := by
    rw [zX_stop_q, cOptionsNow ho hv, zbi_s, show (8 : Int32) = nI 8 from rfl, zifc (zbit0 (by omega) (by omega))]
  cases hb : (vOn v).testBit 8 with
  | false =>
    obtain ⟨A1, n1, n2, n3⟩ := zNoT3 h
    have hw1 := zmw62 hw n2
    obtain ⟨B, b1, b2, b3⟩ := mTables (d := d + 67) (L := L) (g := 0) ho hw1 (by rw [n2 63 (by decide)]; exact hg) (by decide)
    obtain ⟨A2, m1, m2⟩ := n3 B (fun c hc => b2 c (by omega))
    have hwB : zmw B v := zmw_of hw1 (fun c h1 h2 => b2 c (by omega))
    refine ⟨-3, A1, L, A2, L, by rw [hX, hb, if_pos rfl, n1, zbi_s], ?_, m2.up (by omega)⟩
    rw [zM_stop_q, b1, zbv_s, mMayStop ho hwB b3, hb, ite_ft, zbi_s, if_pos rfl, m1, zbi_s]
  | true =>
    obtain ⟨A1, hA1⟩ : ∃ A1, A1 = zput A 14 3 1 := ⟨_, rfl⟩
    have hA1c : ∀ c, c ≠ 14 → A1 c = A c := fun c hc => by rw [hA1, zput_o hc]
    have hw1 : zmw A1 v := zmw_of hw (fun c a b => hA1c c (by omega))
    obtain ⟨B, b1, b2, b3⟩ := mTables (d := d + 67) (L := L) (g := 0) ho hw1 (by rw [hA1c 63 (by decide)]; exact hg) (by decide)
    have hwB : zmw B v := zmw_of hw1 (fun c h1 h2 => b2 c (by omega))
    have w17 := hwB.2.2.2.2.2.2.2.2.2.2.2.2.2.2.2.2.2
    refine ⟨nI (vMe v), A1, L, zput B 63 18 1, L, ?_, ?_, ?_⟩
    · have e142 : A1 14 2 = nI (vSz v) := by rw [hA1, zput_s, upd_o (by decide), zv_c hv 14 (by decide), ho.sz.1]
      rw [hX, hb, if_neg (by decide), zX_stop_1_q, zcb_1, ← hA1, zT_spot_q, e142, zT_spotBefore_q, if_neg (nI_pos (by omega)), if_neg (nI_n8 (by omega)), zck_n (by omega) (by decide), zT_spotBefore_2_q, zbi_s, nI_clamp (by omega), hA1c 16 (by decide), zv_c hv 16 (by decide), p1, zbi_s, cMean p3, zbi_s]
    · rw [zM_stop_q, b1, zbv_s, mMayStop ho hwB b3, hb, ite_tt, zbi_s, if_neg (by decide), zM_stop_1_q, zput_s, upd_o (by decide), w17]
    · have hc : ∀ c, c ≠ 14 → c ≠ 63 → (c < 82 ∨ 91 < c) → zput B 63 18 1 c = A c := fun c a b e => by rw [zput_o b, b2 c (by omega), hA1c c a]
      refine RR_stop h hv (fun c h1 h2 h3 => hc c h1 h2 (by omega)) ?_ ?_ ?_
      · rw [zput_o (by decide), b2 14 (by omega), hA1, zput_s]
      · rw [zput_s, b2 63 (by omega), hA1c 63 (by decide)]
      · obtain ⟨b, x1, x2⟩ := h.old
        exact ⟨b, by omega, zOld_of x2 (by rw [hc 51 (by decide) (by decide) (by omega)]) (hc 52 (by decide) (by decide) (by omega)) (hc 53 (by decide) (by decide) (by omega))⟩
end P6
