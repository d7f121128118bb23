/-! ===== class and model put alike: worths, kinds, words, length, loss, letters, the row ===== -/
section P3
variable {a d : Nat} {A A' v w : zA} {L : zL} {x y : Int32}
theorem zPo_of (hc : ∀ c, (c = 0 ∨ (17 ≤ c ∧ c ≤ 34) ∨ c = 61 ∨ c = 62 ∨ c = 64 ∨ c = 74 ∨ c = 81 ∨ c = 92) → A' c = A c) (h63 : ∀ i, (i = 26 ∨ i = 30 ∨ i = 33 ∨ i = 45) → A' 63 i = A 63 i) : zPo A A' :=
  ⟨hc 0 (by omega), fun c a b => hc c (by omega), hc 61 (by omega), hc 62 (by omega), hc 64 (by omega), hc 74 (by omega), h63, fun j _ => by rw [hc 81 (by omega)], hc 92 (by omega)⟩
theorem vSt_of (h14 : w 14 = v 14) (h16 : w 16 = v 16) : vSt w = vSt v ∧ vMe w = vMe v := by
  unfold vSt vMe vSp vSz
  rw [h14, h16]
  exact ⟨rfl, rfl⟩
theorem zmw_people (hw : zmw A v) (h63 : ∀ i, 10 ≤ i → i ≤ 18 → A' 63 i = A 63 i) (hc : ∀ c, (65 ≤ c ∧ c ≤ 68) ∨ c = 73 → A' c = A c) (h : ∀ c, c ≤ 9 ∨ c = 14 ∨ c = 15 ∨ c = 16 → w c = v c) (h69 : A' 69 = w 10) (h70 : A' 70 = w 11) (h71 : A' 71 = w 12) (h72 : A' 72 = w 13) : zmw A' w := by
  obtain ⟨e1, e2⟩ := vSt_of (v := v) (w := w) (h 14 (by omega)) (h 16 (by omega))
  obtain ⟨w65, w66, w67, w68, -, -, -, -, w73, w10, w11, w12, w13, w14, w15, w18, w16, w17⟩ := hw
  refine ⟨by rw [hc 65 (by omega), h 3 (by omega), w65], by rw [hc 66 (by omega), h 4 (by omega), w66], by rw [hc 67 (by omega), h 5 (by omega), w67], by rw [hc 68 (by omega), h 6 (by omega), w68], h69, h70, h71, h72, by rw [hc 73 (by omega), h 15 (by omega), w73], by rw [h63 10 (by omega) (by omega), h 2 (by omega), w10], by rw [h63 11 (by omega) (by omega), h 2 (by omega), w11], by rw [h63 12 (by omega) (by omega), h 9 (by omega), w12], by rw [h63 13 (by omega) (by omega), h 1 (by omega), w13], by rw [h63 14 (by omega) (by omega), h 1 (by omega), w14], by rw [h63 15 (by omega) (by omega), h 14 (by omega), w15], by rw [h63 18 (by omega) (by omega), h 14 (by omega), w18], by rw [h63 16 (by omega) (by omega), e1, w16], by rw [h63 17 (by omega) (by omega), e2, w17]⟩
theorem mBound (x lo hi : Int32) : zM_bound d x lo hi A L = some (some (.int (if x < lo then -4 else if hi < x then -6 else 0)), A, L) := by
  rw [zM_bound_q]
  by_cases h1 : x < lo
  · rw [if_pos h1, if_neg (Int32.not_le.mpr h1), zM_bound_3_q]
  · rw [if_neg h1, if_pos (Int32.not_lt.mp h1), zM_bound_1_q]
    by_cases h2 : hi < x
    · rw [if_pos h2, if_neg (Int32.not_le.mpr h2), zM_bound_3_q]
    · rw [if_neg h2, if_pos (Int32.not_lt.mp h2), zM_bound_2_q, zM_bound_3_q]
theorem zi_nz6 : ¬ (-6 : Int32) = 0 := by decide
theorem zi_nz4 : ¬ (-4 : Int32) = 0 := by decide
theorem zP_values (x y z : Int32) : zPr (zX_values (d + 70) x y z) (zM_values (d + 70) x y z) := by
  intro a A L h ha
  obtain ⟨v, hv⟩ : ∃ v, zv A = v := ⟨_, rfl⟩
  have ho := h.ok
  have hw := h.mw
  rw [hv] at ho hw
  have h5 := ho.P.2
  rcases zOne ho x with hx | ⟨p, hp, rfl⟩
  · exact zPr_low (zNo1 h) (fun A1 n1 => by rw [zX_values_q, cNobody1 hv hx, zbi_s, if_neg (by decide), zX_values_1_q, cWorthRef n1, zbi_s]) (fun A1 A2 n3 n4 => by rw [zM_values_q, mOne0 (zmw62 hw n4) hx, zbi_s, if_pos rfl, zM_values_1_q, n3, zbi_s])
  rcases zIn 6 (by omega) y with hy | ⟨k, hk, rfl⟩
  · exact zPr_low (zNo1 h) (fun A1 n1 => by rw [zX_values_q, cNobody0 ho hv hp, zbi_s, if_pos rfl, cNoMark1 hy, zbi_s, if_neg (by decide), zX_values_1_q, cWorthRef n1, zbi_s]) (fun A1 A2 n3 n4 => by rw [zM_values_q, mOne1 ho (zmw62 hw n4) hp, zbi_s, if_neg (by decide), mIn0 (c := 5) (b := 5) rfl (by omega) hy, zbi_s, if_pos rfl, zM_values_1_q, n3, zbi_s])
  have hX : zX_values (d + 70) (nI p) (nI k) z A L = zX_values_2 (d + 70) (nI p) (nI k) z A L := by rw [zX_values_q, cNobody0 ho hv hp, zbi_s, if_pos rfl, cNoMark0 hk, zbi_s, if_pos rfl]
  have hM : ∀ A1, (∀ c, c ≠ 62 → A1 c = A c) → zM_values (d + 70) (nI p) (nI k) z A1 L = zM_values_2 (d + 70) (nI p) (nI k) z A1 L := fun A1 n4 => by rw [zM_values_q, mOne1 ho (zmw62 hw n4) hp, zbi_s, if_neg (by decide), mIn1 (c := 5) (b := 5) rfl (by omega) hk, zbi_s, if_neg (by decide)]
  by_cases h1 : z < -9
  · exact zPr_low (zNo4 h) (fun A1 n1 => by rw [hX, zX_values_2_q, if_neg (Int32.not_le.mpr h1), cWorthRef n1, zbi_s]) (fun A1 A2 n3 n4 => by rw [hM A1 n4, zM_values_2_q, mBound, if_pos h1, zbi_s, if_neg zi_nz4, n3, zbi_s])
  by_cases h2 : (9 : Int32) < z
  · exact zPr_low (zNo6 h) (fun A1 n1 => by rw [hX, zX_values_2_q, if_pos (Int32.not_lt.mp h1), zX_values_3_q, if_neg (Int32.not_le.mpr h2), cWorthRef n1, zbi_s]) (fun A1 A2 n3 n4 => by rw [hM A1 n4, zM_values_2_q, mBound, if_neg h1, if_pos h2, zbi_s, if_neg zi_nz6, n3, zbi_s])
  have hi : 6 * p + k < 24 := by omega
  have hz : -9 ≤ z.toInt ∧ z.toInt ≤ 9 := by
    rw [Int32.lt_iff_toInt_lt] at h1 h2
    rw [show (-9 : Int32).toInt = -9 by decide] at h1
    rw [show (9 : Int32).toInt = 9 by decide] at h2
    omega
  have hA : ∀ c, c ≠ 12 → c ≠ 71 → zput (zput A 12 (6 * p + k) z) 71 (6 * p + k) z c = A c := fun c c1 c2 => by rw [zput_o c2, zput_o c1]
  have hw71 : A 71 = v 12 := hw.2.2.2.2.2.2.1
  refine ⟨v 12 (6 * p + k), zput A 12 (6 * p + k) z, L, zput (zput A 12 (6 * p + k) z) 71 (6 * p + k) z, L, ?_, ?_, ?_⟩
  · rw [hX, zX_values_2_q, if_pos (Int32.not_lt.mp h1), zX_values_3_q, if_pos (Int32.not_lt.mp h2), zX_values_4_q, cWoAt ho hv hp hk, zbi_s, zP_putWorth_q, cHas ho hv hp, zbi_s, if_neg (by decide), if_neg (nI_pos (by omega)), if_pos (by rw [show (6 : Int32) = nI 6 from rfl]; exact nI_lt hk (by omega)), zP_putWorth_2_q, zI6, zck_n hi (by decide), zcb_1, zbi_s, nI_clamp (by omega)]
  · have hw1 : zmw (zput A 12 (6 * p + k) z) v := zmw_of hw (fun c a b => zput_o (by omega))
    rw [zM_values_q, mOne1 ho hw1 hp, zbi_s, if_neg (by decide), mIn1 (c := 5) (b := 5) rfl (by omega) hk, zbi_s, if_neg (by decide), zM_values_2_q, mBound, if_neg h1, if_neg h2, zbi_s, if_pos rfl, zM_values_3_q, zI6', zck_n hi (by decide), zck_n hi (by decide), nI_clamp (by omega), zput_o (show 71 ≠ 12 by decide), hw71]
  · refine RR_w h (zPo_of (fun c hc => hA c (by omega) (by omega)) (fun i _ => by rw [hA 63 (by decide) (by decide)])) ?_ ?_ ?_
    · refine Ok_people (v := v) (fun c hc => by rw [zv_at (by omega), hA c (by omega) (by omega), zv_c hv c (by omega)]) ?_ ?_ ?_ ?_ ?_ ho
      · rw [zv_at (by decide), zv_at (by decide), hA 10 (by decide) (by decide), hA 11 (by decide) (by decide), zv_c hv 10 (by decide), zv_c hv 11 (by decide)]; exact ho.pp
      · intro i hi24
        rw [zv_at (by decide), zput_o (by decide), zput_s]
        by_cases e : i = 6 * p + k
        · rw [e, upd_s]; exact hz
        · rw [upd_o e, zv_c hv 12 (by decide)]; exact ho.ww i hi24
      · rw [zv_at (by decide), hA 13 (by decide) (by decide), zv_c hv 13 (by decide)]; exact ho.t4
      · rw [zv_at (by decide), hA 13 (by decide) (by decide), zv_c hv 13 (by decide)]; exact ho.tP
      · rw [zv_at (by decide), hA 13 (by decide) (by decide), zv_c hv 13 (by decide)]; exact ho.tI
    · have hw' := hw
      obtain ⟨-, -, -, -, w69, w70, -, w72, -⟩ := hw'
      refine zmw_people hw (fun i _ _ => by rw [hA 63 (by decide) (by decide)]) (fun c hc => hA c (by omega) (by omega)) (fun c hc => by rw [zv_at (by omega), hA c (by omega) (by omega), zv_c hv c (by omega)]) ?_ ?_ ?_ ?_
      · rw [hA 69 (by decide) (by decide), w69, zv_at (by decide), hA 10 (by decide) (by decide), zv_c hv 10 (by decide)]
      · rw [hA 70 (by decide) (by decide), w70, zv_at (by decide), hA 11 (by decide) (by decide), zv_c hv 11 (by decide)]
      · rw [zput_s, zv_at (by decide), zput_o (show 12 ≠ 71 by decide), zput_s, zput_o (show 71 ≠ 12 by decide), hw71, zv_c hv 12 (by decide)]
      · rw [hA 72 (by decide) (by decide), w72, zv_at (by decide), hA 13 (by decide) (by decide), zv_c hv 13 (by decide)]
    · obtain ⟨b, b1, b2⟩ := h.old
      exact ⟨b, by omega, zOld_of b2 (by rw [hA 51 (by decide) (by decide)]) (hA 52 (by decide) (by decide)) (hA 53 (by decide) (by decide))⟩
/-- one of the people's rows and the model's row alike are put at a place -/
theorem RR_pp {c1 c2 i : Nat} (h : RR a A) (hc : (c1 = 10 ∧ c2 = 69) ∨ (c1 = 11 ∧ c2 = 70)) (hi : i < 4) (hx : (c1 = 10 → zIs 7 x) ∧ (c1 = 11 → zIs 256 x)) : RR (a + 30) (zput (zput A c1 i x) c2 i x) := by
  obtain ⟨v, hv⟩ : ∃ v, zv A = v := ⟨_, rfl⟩
  have ho := h.ok
  have hw := h.mw
  rw [hv] at ho hw
  have hA : ∀ c, c ≠ c1 → c ≠ c2 → zput (zput A c1 i x) c2 i x c = A c := fun c h1 h2 => by rw [zput_o h2, zput_o h1]
  refine RR_w h (zPo_of (fun c hc' => hA c (by omega) (by omega)) (fun j _ => by rw [hA 63 (by omega) (by omega)])) ?_ ?_ ?_
  · refine Ok_people (v := v) (fun c hc' => by rw [zv_at (by omega), hA c (by omega) (by omega), zv_c hv c (by omega)]) ?_ ?_ ?_ ?_ ?_ ho
    · intro p hp
      have hpp := ho.pp p hp
      rw [zv_at (by decide), zv_at (by decide)]
      rcases hc with ⟨rfl, rfl⟩ | ⟨rfl, rfl⟩
      · rw [hA 11 (by decide) (by decide), zput_o (show 10 ≠ 69 by decide), zput_s, zv_c hv 11 (by decide)]
        refine ⟨?_, hpp.2⟩
        by_cases e : p = i
        · rw [e, upd_s]; exact hx.1 rfl
        · rw [upd_o e, zv_c hv 10 (by decide)]; exact hpp.1
      · rw [hA 10 (by decide) (by decide), zput_o (show 11 ≠ 70 by decide), zput_s, zv_c hv 10 (by decide)]
        refine ⟨hpp.1, ?_⟩
        by_cases e : p = i
        · rw [e, upd_s]; exact hx.2 rfl
        · rw [upd_o e, zv_c hv 11 (by decide)]; exact hpp.2
    · rw [zv_at (by decide), hA 12 (by omega) (by omega), zv_c hv 12 (by decide)]; exact ho.ww
    · rw [zv_at (by decide), hA 13 (by omega) (by omega), zv_c hv 13 (by decide)]; exact ho.t4
    · rw [zv_at (by decide), hA 13 (by omega) (by omega), zv_c hv 13 (by decide)]; exact ho.tP
    · rw [zv_at (by decide), hA 13 (by omega) (by omega), zv_c hv 13 (by decide)]; exact ho.tI
  · have hw' := hw
    obtain ⟨-, -, -, -, w69, w70, w71, w72, -⟩ := hw'
    refine zmw_people hw (fun j _ _ => by rw [hA 63 (by omega) (by omega)]) (fun c hc' => hA c (by omega) (by omega)) (fun c hc' => by rw [zv_at (by omega), hA c (by omega) (by omega), zv_c hv c (by omega)]) ?_ ?_ ?_ ?_
    · rw [zv_at (by decide)]
      rcases hc with ⟨rfl, rfl⟩ | ⟨rfl, rfl⟩
      · rw [zput_s, zput_o (show 10 ≠ 69 by decide), zput_s, zput_o (show 69 ≠ 10 by decide), w69, zv_c hv 10 (by decide)]
      · rw [hA 69 (by decide) (by decide), w69, hA 10 (by decide) (by decide), zv_c hv 10 (by decide)]
    · rw [zv_at (by decide)]
      rcases hc with ⟨rfl, rfl⟩ | ⟨rfl, rfl⟩
      · rw [hA 70 (by decide) (by decide), w70, hA 11 (by decide) (by decide), zv_c hv 11 (by decide)]
      · rw [zput_s, zput_o (show 11 ≠ 70 by decide), zput_s, zput_o (show 70 ≠ 11 by decide), w70, zv_c hv 11 (by decide)]
    · rw [hA 71 (by omega) (by omega), w71, zv_at (by decide), hA 12 (by omega) (by omega), zv_c hv 12 (by decide)]
    · rw [hA 72 (by omega) (by omega), w72, zv_at (by decide), hA 13 (by omega) (by omega), zv_c hv 13 (by decide)]
  · obtain ⟨b, b1, b2⟩ := h.old
    exact ⟨b, by omega, zOld_of b2 (by rw [hA 51 (by omega) (by omega)]) (hA 52 (by omega) (by omega)) (hA 53 (by omega) (by omega))⟩
theorem cPutKind {p : Nat} (ho : Ok v) (hv : zv A = v) (hp : p < vP v) : zP_putKind (d + 1) (nI p) x A L = some (none, zput A 10 p x, L) := by
  have h5 := ho.P.2
  rw [zP_putKind_q, cHas ho hv hp, zbi_s, if_neg (by decide), zck_n (by omega) (by decide), nI_clamp (by omega), zP_putKind_1_q]
theorem zP_kind (x y : Int32) : zPr (zX_kind (d + 70) x y) (zM_kind (d + 70) x y) := by
  intro a A L h ha
  obtain ⟨v, hv⟩ : ∃ v, zv A = v := ⟨_, rfl⟩
  have ho := h.ok
  have hw := h.mw
  rw [hv] at ho hw
  have h5 := ho.P.2
  rcases zOne ho x with hx | ⟨p, hp, rfl⟩
  · exact zPr_no (zNo1 h) (fun A1 n1 => by rw [zX_kind_q, cNobody1 hv hx, zbi_s, if_neg (by decide), zX_kind_1_q, n1, zbi_s]) (fun A1 A2 n2 n4 => by rw [zM_kind_q, mOne0 (zmw62 hw n4) hx, zbi_s, if_pos rfl, zM_kind_1_q, n2, zbi_s])
  have hX : zX_kind (d + 70) (nI p) y A L = if y < 0 then zX_kind_1 (d + 70) A L else if y < 7 then zX_kind_2 (d + 70) (nI p) y A L else zX_kind_1 (d + 70) A L := by rw [zX_kind_q, cNobody0 ho hv hp, zbi_s, if_pos rfl]
  rcases zIn 7 (by omega) y with hy | ⟨k, hk, rfl⟩
  · refine zPr_no (zNo1 h) (fun A1 n1 => ?_) (fun A1 A2 n2 n4 => by rw [zM_kind_q, mOne1 ho (zmw62 hw n4) hp, zbi_s, if_neg (by decide), mIn0 (c := 6) (b := 6) rfl (by omega) hy, zbi_s, if_pos rfl, zM_kind_1_q, n2, zbi_s])
    rw [hX]
    by_cases h0 : y < 0
    · rw [if_pos h0, zX_kind_1_q, n1, zbi_s]
    · rw [if_neg h0, show (7 : Int32) = nI 7 from rfl, if_neg (Int32.not_lt.mpr (hy.resolve_left h0)), zX_kind_1_q, n1, zbi_s]
  · refine ⟨nI (vKd v p), zput A 10 p (nI k), L, zput (zput A 10 p (nI k)) 69 p (nI k), L, ?_, ?_, RR_pp h (Or.inl ⟨rfl, rfl⟩) (by omega) ⟨fun _ => zIs_n hk, fun h => by omega⟩⟩
    · rw [hX, if_neg (nI_pos (by omega)), show (7 : Int32) = nI 7 from rfl, if_pos (nI_lt hk (by omega)), zX_kind_2_q, cKindOf ho hv hp, zbi_s, cPutKind ho hv hp, zbv_s]
    · have hw1 : zmw (zput A 10 p (nI k)) v := zmw_of hw (fun c a b => zput_o (by omega))
      have w69 : A 69 = v 10 := hw.2.2.2.2.1
      rw [zM_kind_q, mOne1 ho hw1 hp, zbi_s, if_neg (by decide), mIn1 (c := 6) (b := 6) rfl (by omega) hk, zbi_s, if_neg (by decide), zM_kind_2_q, zck_n (by omega) (by decide), zck_n (by omega) (by decide), nI_clamp (by omega), zput_o (show 69 ≠ 10 by decide), w69, (ho.kd (by omega)).1]
theorem zifb {b c : Bool} : ((if b then (1 : Int32) else 0) = if c then 1 else 0) ↔ b = c := by
  cases b <;> cases c <;> decide
theorem cPutWord {p t : Nat} {b : Bool} (ho : Ok v) (hv : zv A = v) (hp : p < vP v) (ht : t < 8) : zP_putWord (d + 1) (nI p) (nI t) (if b then 1 else 0) A L = if (vPw v p).testBit t = b then some (some (.int 0), A, L) else some (some (.int 1), zput A 11 p (nI (vPw v p ^^^ 2 ^ t)), L) := by
  have h5 := ho.P.2
  have hpw := (ho.pw (p := p) (by omega))
  have h2 : ∀ c : Bool, zP_putWord_2 (d + 1) (nI p) (nI t) (if b then 1 else 0) (if c then 1 else 0) A L = if c = b then some (some (.int 0), A, L) else some (some (.int 1), zput A 11 p (nI (vPw v p ^^^ 2 ^ t)), L) := fun c => by
    rw [zP_putWord_2_q, zifi (zifb (b := c) (c := b))]
    by_cases e : c = b
    · rw [if_pos e, if_pos e, zP_putWord_3_q, zcb_0]
    · rw [if_neg e, if_neg e, zP_putWord_4_q, zck_n (by omega) (by decide), zck_n (by omega) (by decide), zcb_1, nI_clamp (by omega), zv_c hv 11 (by decide), hpw.1, zpow (by omega), nI_xor]
  rw [zP_putWord_q, cHas ho hv hp, zbi_s, if_neg (by decide), zck_n (by omega) (by decide), nI_clamp (by omega), zv_c hv 11 (by decide), hpw.1, zifc (zbit0 (by omega) (by omega))]
  cases hb : (vPw v p).testBit t with
  | false =>
    have := h2 false
    rw [ite_ft] at this
    rw [if_pos rfl, zP_putWord_1_q, this]
  | true =>
    have := h2 true
    rw [ite_tt] at this
    rw [if_neg (by decide), this]
theorem zP_word (x y : Int32) (b : Bool) : zPr (zX_word (d + 70) x y (if b then 1 else 0)) (zM_word (d + 70) x y (if b then 1 else 0)) := by
  intro a A L h ha
  obtain ⟨v, hv⟩ : ∃ v, zv A = v := ⟨_, rfl⟩
  have ho := h.ok
  have hw := h.mw
  rw [hv] at ho hw
  have h5 := ho.P.2
  rcases zOne ho x with hx | ⟨p, hp, rfl⟩
  · exact zPr_no (zNo1 h) (fun A1 n1 => by rw [zX_word_q, cNobody1 hv hx, zbi_s, if_neg (by decide), zX_word_1_q, n1, zbi_s]) (fun A1 A2 n2 n4 => by rw [zM_word_q, mOne0 (zmw62 hw n4) hx, zbi_s, if_pos rfl, zM_word_1_q, n2, zbi_s])
  rcases zIn 8 (by omega) y with hy | ⟨t, ht, rfl⟩
  · exact zPr_no (zNo1 h) (fun A1 n1 => by rw [zX_word_q, cNobody0 ho hv hp, zbi_s, if_pos rfl, cNoWord1 hy, zbi_s, if_neg (by decide), zX_word_1_q, n1, zbi_s]) (fun A1 A2 n2 n4 => by rw [zM_word_q, mOne1 ho (zmw62 hw n4) hp, zbi_s, if_neg (by decide), mIn0 (c := 7) (b := 7) rfl (by omega) hy, zbi_s, if_pos rfl, zM_word_1_q, n2, zbi_s])
  have hpw := (ho.pw (p := p) (by omega))
  have hX : zX_word (d + 70) (nI p) (nI t) (if b then 1 else 0) A L = zX_word_2 (d + 70) (nI p) (nI t) (if b then 1 else 0) A L := by rw [zX_word_q, cNobody0 ho hv hp, zbi_s, if_pos rfl, cNoWord0 ht, zbi_s, if_pos rfl]
  have hM : ∀ A1, zmw A1 v → zM_word (d + 70) (nI p) (nI t) (if b then 1 else 0) A1 L = zM_word_4 (d + 70) (nI p) (nI t) (if b then 1 else 0) (if (vPw v p).testBit t then 1 else 0) A1 L := fun A1 hw1 => by
    have w70 : A1 70 = v 11 := hw1.2.2.2.2.2.1
    rw [zM_word_q, mOne1 ho hw1 hp, zbi_s, if_neg (by decide), mIn1 (c := 7) (b := 7) rfl (by omega) ht, zbi_s, if_neg (by decide), zM_word_2_q, zck_n (by omega) (by decide), nI_clamp (by omega), w70, hpw.1, zifc (zbit1 (by omega) (by omega))]
    cases (vPw v p).testBit t
    · rw [if_neg (by decide), zM_word_3_q, ite_ft]
    · rw [if_pos rfl, ite_tt]
  by_cases e : (vPw v p).testBit t = b
  · refine zPr_same (w := 0) h ?_ ?_
    · rw [hX, zX_word_2_q, cPutWord ho hv hp ht, if_pos e, zbi_s, if_pos rfl, zX_word_3_q, zX_word_4_q]
    · rw [hM A hw, zM_word_4_q, zifi zifb, if_pos e]
  · have hw1 : zmw (zput A 11 p (nI (vPw v p ^^^ 2 ^ t))) v := zmw_of hw (fun c a b => zput_o (by omega))
    have w70 : A 70 = v 11 := hw.2.2.2.2.2.1
    refine ⟨1, zput A 11 p (nI (vPw v p ^^^ 2 ^ t)), L, zput (zput A 11 p (nI (vPw v p ^^^ 2 ^ t))) 70 p (nI (vPw v p ^^^ 2 ^ t)), L, ?_, ?_, RR_pp h (Or.inr ⟨rfl, rfl⟩) (by omega) ⟨fun h => by omega, fun _ => zIs_n (Nat.xor_lt_two_pow (n := 8) hpw.2 (Nat.pow_lt_pow_right (by omega) ht))⟩⟩
    · rw [hX, zX_word_2_q, cPutWord ho hv hp ht, if_neg e, zbi_s, if_neg (by decide), zX_word_4_q]
    · rw [hM _ hw1, zM_word_4_q, zifi zifb, if_neg e, zM_word_5_q, zck_n (by omega) (by decide), zck_n (by omega) (by decide), nI_clamp (by omega), zput_o (show 70 ≠ 11 by decide), w70, hpw.1, zpow (by omega), nI_xor]
end P3
