/-! ===== class and model answer alike: does, goes, ends, value ===== -/
section P8
variable {a d D n s m t : Nat} {A A' B v w : zA} {L M : zL} {x y : Int32}
/-- what is done now; how the talk ends now -/
def vDn (v : zA) : Int32 := if v 14 3 = 0 then (if vMay v (vSz v) (vSt v) = 0 then -9 else nI (vDeed v (vSz v) (vSt v) (vMe v))) else -9
def vEnn (v : zA) : Nat := if v 14 3 = 0 then vE v (vSz v) (vSt v) (vMe v) else 128 * vSz v + vMe v
theorem vEnn_lt (ho : Ok v) : vEnn v < 1152 := by
  have h9 := ho.sz.2
  obtain ⟨-, p2, p3⟩ := vSp_eq ho
  unfold vEnn
  split
  · exact vE_lt ho (by omega) p2 p3
  · omega
theorem cDeedNow {b : Nat} (ho : Ok v) (hv : zv A = v) (hM : zMi A v b) (hD : 55 ≤ D) : ∃ A', zD_deedNow D A L = some (some (.int (vDn v)), A', L) ∧ zFm A A' ∧ zMi A' v b := by
  have h9 := ho.sz.2
  obtain ⟨p1, p2, p3⟩ := vSp_eq ho
  obtain ⟨D, rfl⟩ : ∃ D', D = D' + 2 := ⟨D - 2, by omega⟩
  unfold vDn
  rw [zD_deedNow_q, zv_c hv 14 (by decide)]
  rcases ho.stop with h | h
  · obtain ⟨A', e1, e2, e3⟩ := cDeed (L := L) (D := D + 1) ho hv hM (n := vSz v) (s := vSt v) (m := vMe v) (by omega) p2 p3 (by omega)
    refine ⟨A', ?_, e2, e3⟩
    rw [h, if_pos rfl, if_pos rfl, zD_deedNow_1_q, cSpot ho hv, zbi_s, p1, e1, zbi_s, zD_deedNow_2_q]
  · refine ⟨A, ?_, zFm.rf A, hM⟩
    rw [h, if_neg (by decide), if_neg (by decide), zD_deedNow_2_q]
theorem cEndNow {b : Nat} (ho : Ok v) (hv : zv A = v) (hM : zMi A v b) (hD : 55 ≤ D) : ∃ A', zD_endNow D A L = some (some (.int (nI (vEnn v))), A', L) ∧ zFm A A' ∧ zMi A' v b := by
  have h9 := ho.sz.2
  obtain ⟨p1, p2, p3⟩ := vSp_eq ho
  obtain ⟨D, rfl⟩ : ∃ D', D = D' + 3 := ⟨D - 3, by omega⟩
  unfold vEnn
  rw [zD_endNow_q, cSpot ho hv, zbi_s, zv_c hv 14 (by decide), p1]
  rcases ho.stop with h | h
  · obtain ⟨A', e1, e2, e3⟩ := cEndFrom (L := L) (D := D + 2) ho hv hM (n := vSz v) (s := vSt v) (m := vMe v) (by omega) p2 p3 (by omega)
    refine ⟨A', ?_, e2, e3⟩
    rw [h, if_pos rfl, if_pos rfl, zD_endNow_1_q, e1, zbi_s, zD_endNow_2_q]
  · refine ⟨A, ?_, zFm.rf A, hM⟩
    rw [h, if_neg (by decide), if_neg (by decide), cEndByStop (by omega) p2 p3, zbi_s, zD_endNow_2_q]
/-- renewed, the class's persisting cells are as before -/
theorem cRenew' {b : Nat} (ho : Ok v) (hv : zv A = v) (hO : zOld A b) (hb : b + 1 < 1048576) : ∃ A', zD_renew (d + 4) A L = some (none, A', L) ∧ (∀ c, (c < 51 ∨ 54 < c) → A' c = A c) ∧ zMi A' v (b + 1) ∧ zv A' = v := by
  obtain ⟨A', e1, e2, e3, e4⟩ := cRenew (d := d) (L := L) ho hv hO hb
  exact ⟨A', e1, fun c hc => e2 c (by omega) (by omega), e4, (zv_of (fun c hc => e2 c (by omega) (by omega))).trans hv⟩
theorem mDeedNow (ho : Ok v) (hw : zmw A v) (hg : A 63 33 = 0) : ∃ B, zM_fillAll (d + 8) A L = some (none, B, L) ∧ (∀ c, (c < 82 ∨ 88 < c) → B c = A c) ∧ zmw B v ∧ zTab B v 0 ∧ zEo B v (fun _ _ _ => True) ∧ (B 63 18 = 0 → zM_choiceAt (d + 8) (B 63 15) (B 63 16) (B 63 17) B L = some (some (.int (vDn v)), B, L)) := by
  have h9 := ho.sz
  obtain ⟨p1, p2, p3⟩ := vSp_eq ho
  obtain ⟨B, b1, b2, b3, b4, b5⟩ := mFillAll (d := d + 1) (L := L) ho hw hg
  have hwB : zmw B v := zmw_of hw (fun c h1 h2 => b2 c (by omega))
  refine ⟨B, b1, b2, hwB, b3, b4, fun h => ?_⟩
  have hch := mChoice (d := d + 2) (L := L) (n := vSz v) (s := vSt v) (m := vMe v) ho hwB b3 (by omega) p2 p3 b4 (fun _ _ => trivial) b5
  obtain ⟨-, -, -, -, -, -, -, -, -, -, -, -, -, -, w15, w18, w16, w17⟩ := hwB
  rw [w18] at h
  unfold vDn
  rw [w15, w16, w17, h9.1, if_pos h]
  exact hch
theorem zP_does : zPr (zX_does (d + 70)) (zM_does (d + 70)) := by
  intro a A L h ha
  obtain ⟨v, hv⟩ : ∃ v, zv A = v := ⟨_, rfl⟩
  have ho := h.ok
  have hw := h.mw
  have hg := h.gone
  rw [hv] at ho hw
  obtain ⟨b, x1, x2⟩ := h.old
  obtain ⟨A0, r1, r2, r3, r4⟩ := cRenew' (d := d + 65) (L := L) ho hv x2 (by omega)
  obtain ⟨A1, c1, c2, c3⟩ := cDeedNow (L := L) (D := d + 69) ho r4 r3 (by omega)
  have hc : ∀ c, (c < 51 ∨ 60 < c) → A1 c = A c := fun c hc => by rw [c2 c (by omega) (by omega), r2 c (by omega)]
  have hw1 := zcm hv hc hw
  obtain ⟨B, b1, b2, b3, b4, b5, b6⟩ := mDeedNow (d := d + 61) (L := L) ho hw1 (by rw [hc 63 (by omega)]; exact hg)
  refine ⟨vDn v, A1, L, B, L, by rw [zX_does_q, r1, zbv_s, c1, zbi_s], ?_, RR_q h hc (fun c hc' => b2 c (by omega)) ⟨b + 1, by omega, c3.old⟩⟩
  have w18 := b3.2.2.2.2.2.2.2.2.2.2.2.2.2.2.2.1
  rw [zM_does_q, b1, zbv_s]
  rcases ho.stop with hs | hs
  · rw [w18, hs, if_neg (by decide), zM_does_1_q, b6 (by rw [w18, hs]), zbi_s, zM_does_2_q]
  · rw [w18, hs, if_pos (by rfl), zM_does_2_q]
    unfold vDn
    rw [hs, if_neg (by decide)]
theorem vDn_cases (ho : Ok v) : vDn v = -9 ∨ (v 14 3 = 0 ∧ ∃ t, t < 9 ∧ vDn v = nI t ∧ vOk v (vSz v) (vSt v) t = true) := by
  obtain ⟨-, p2, p3⟩ := vSp_eq ho
  unfold vDn
  by_cases hs : v 14 3 = 0
  · rw [if_pos hs]
    by_cases h0 : vMay v (vSz v) (vSt v) = 0
    · rw [if_pos h0]; exact Or.inl rfl
    · obtain ⟨h1, h2⟩ := vDe_ok (m := vMe v) ho p2 h0 (vGo v (vSz v) (vSt v) (vMe v)) (vGd4 v (vTr v (vSz v)) (vSz v) (vSt v) (vMe v))
      rw [if_neg h0]
      exact Or.inr ⟨hs, _, h1, rfl, h2⟩
  · rw [if_neg hs]; exact Or.inl rfl
theorem zP_goes : zPr (zX_goes (d + 70)) (zM_goes (d + 70)) := by
  intro a A L h ha
  obtain ⟨v, hv⟩ : ∃ v, zv A = v := ⟨_, rfl⟩
  have ho := h.ok
  have hw := h.mw
  have hg := h.gone
  rw [hv] at ho hw
  have h9 := ho.sz
  obtain ⟨p1, p2, p3⟩ := vSp_eq ho
  obtain ⟨b, x1, x2⟩ := h.old
  obtain ⟨A0, r1, r2, r3, r4⟩ := cRenew' (d := d + 65) (L := L) ho hv x2 (by omega)
  obtain ⟨A1, c1, c2, c3⟩ := cDeedNow (L := L) (D := d + 69) ho r4 r3 (by omega)
  have hc : ∀ c, (c < 51 ∨ 54 < c) → A1 c = A c := fun c hc => by rw [c2 c (by omega) (by omega), r2 c (by omega)]
  have hc6 : ∀ c, (c < 51 ∨ 60 < c) → A1 c = A c := fun c h6 => hc c (by omega)
  have hv1 : zv A1 = v := (zv_of (fun c hc' => hc c (by omega))).trans hv
  have h1 : RR (a + 1) A1 := RR_q h hc6 (fun _ _ => rfl) ⟨b + 1, by omega, c3.old⟩
  have hX : zX_goes (d + 70) A L = if vDn v = -9 then zbi (zX_refused (d + 69) (-3) A1 L) (fun r3 A3 L3 => some (some (.int r3), A3, L3)) else zX_goes_1 (d + 70) (vDn v) A1 L := by
    rw [zX_goes_q, r1, zbv_s, c1, zbi_s]
  have hM : ∀ A2, zmw A2 v → A2 63 33 = 0 → ∃ B, (∀ c, (c < 82 ∨ 88 < c) → B c = A2 c) ∧ zmw B v ∧ zTab B v 0 ∧ zM_goes (d + 70) A2 L = if (0 : Int32) ≤ vDn v then zM_goes_3 (d + 70) (vDn v) B L else zbi (zM_no (d + 69) (-3) B L) (fun r1 A1 L1 => some (some (.int r1), A1, L1)) := by
    intro A2 hw2 hg2
    obtain ⟨B, b1, b2, b3, b4, b5, b6⟩ := mDeedNow (d := d + 61) (L := L) ho hw2 hg2
    refine ⟨B, b2, b3, b4, ?_⟩
    have w18 := b3.2.2.2.2.2.2.2.2.2.2.2.2.2.2.2.1
    rw [zM_goes_q, b1, zbv_s]
    rcases ho.stop with hs | hs
    · rw [w18, hs, if_neg (by decide), zM_goes_1_q, b6 (by rw [w18, hs]), zbi_s, zM_goes_2_q]
    · have e : vDn v = -9 := by unfold vDn; rw [hs, if_neg (by decide)]
      rw [w18, hs, if_pos (by rfl), zM_goes_2_q, e]
  rcases vDn_cases ho with e9 | ⟨hs, t, ht9, et, hok⟩
  · obtain ⟨A2, n1, n2, n3⟩ := zNoT3 h1
    have hw2 : zmw A2 v := zmw62 (zcm hv hc6 hw) n2
    obtain ⟨B, b1, b2, b3, b4⟩ := hM A2 hw2 (by rw [n2 63 (by decide), hc 63 (by omega)]; exact hg)
    obtain ⟨A3, m1, m2⟩ := n3 B (fun c hc => b1 c (by omega))
    exact ⟨-3, A2, L, A3, L, by rw [hX, e9, if_pos rfl, n1, zbi_s], by rw [b4, e9, if_neg (by decide), m1, zbi_s], m2.up (by omega)⟩
  · have hne : ¬ nI t = -9 := nI_ne9 (by omega)
    by_cases h8 : t = 8
    · subst h8
      obtain ⟨A2, hA2⟩ : ∃ A2, A2 = zput A1 14 3 1 := ⟨_, rfl⟩
      have hA2c : ∀ c, c ≠ 14 → A2 c = A1 c := fun c hc => by rw [hA2, zput_o hc]
      have hw2 : zmw A2 v := zmw_of (zcm hv hc6 hw) (fun c a b => hA2c c (by omega))
      obtain ⟨B, b1, b2, b3, b4⟩ := hM A2 hw2 (by rw [hA2c 63 (by decide), hc 63 (by omega)]; exact hg)
      have hcc : ∀ c, c ≠ 14 → c ≠ 63 → (c < 82 ∨ 88 < c) → zput B 63 18 1 c = A1 c := fun c a1 a2 a3 => by rw [zput_o a2, b1 c a3, hA2c c a1]
      refine ⟨nI 8, A2, L, zput B 63 18 1, L, ?_, ?_, RR_stop h hv (fun c a1 a2 a3 => by rw [hcc c a1 a2 (by omega), hc c (by omega)]) ?_ ?_ ⟨b + 1, by omega, ?_⟩⟩
      · rw [hX, et, if_neg hne, zX_goes_1_q, if_pos (by rfl), zcb_1, ← hA2, zX_goes_3_q]
      · rw [b4, et, if_pos (nI_pos' (by omega)), zM_goes_3_q, if_pos (by rfl), zM_goes_5_q]
      · rw [zput_o (by decide), b1 14 (by omega), hA2, zput_s, hc 14 (by omega)]
      · rw [zput_s, b1 63 (by omega), hA2c 63 (by decide), hc 63 (by omega)]
      · exact zOld_of c3.old (by rw [hcc 51 (by decide) (by decide) (by omega)]) (hcc 52 (by decide) (by decide) (by omega)) (hcc 53 (by decide) (by decide) (by omega))
    · have ht : t < 8 := by omega
      rw [vOk_t ht] at hok
      obtain ⟨hn8, hwf, hwg⟩ := vMay_sz ho p2 hok
      obtain ⟨A2, s1, s2, s14, s15, s16⟩ := cSayNow (d := d + 63) (L := L) ho hv1 hn8 ht
      have hw2 : zmw A2 v := zmw_of (zcm hv hc6 hw) (fun c a b => s2 c (by omega) (by omega) (by omega))
      obtain ⟨B, b1, b2, b3, b4⟩ := hM A2 hw2 (by rw [s2 63 (by decide) (by decide) (by decide), hc 63 (by omega)]; exact hg)
      obtain ⟨-, -, -, -, -, -, -, -, w73, -, -, -, -, -, w15, w18, w16, w17⟩ := b2
      obtain ⟨A3, m1, m2, m73, m63⟩ := mSays (d := d + 69) (M := L) (m := vMe v) ho p2 ht hn8 (by rw [w15, h9.1]) w16 w17 b3 hwg
      have hcc : ∀ c, c ≠ 14 → c ≠ 15 → c ≠ 16 → c ≠ 63 → c ≠ 73 → (c < 82 ∨ 88 < c) → A3 c = A1 c := fun c a1 a2 a3 a4 a5 a6 => by rw [m2 c a4 a5, b1 c a6, s2 c a1 a2 a3]
      refine ⟨nI t, A2, L, A3, L, ?_, ?_, RR_say h hv hn8 ht hwf (fun c a1 a2 a3 a4 a5 a6 => by rw [hcc c a1 a2 a3 a4 a5 (by omega), hc c (by omega)]) (by rw [m2 14 (by decide) (by decide), b1 14 (by omega), s14, hc 14 (by omega)]) (by rw [m2 15 (by decide) (by decide), b1 15 (by omega), s15, hc 15 (by omega)]) (by rw [m2 16 (by decide) (by decide), b1 16 (by omega), s16, hc 16 (by omega)]) (by rw [m73, b1 73 (by omega), s2 73 (by decide) (by decide) (by decide), hc 73 (by omega)]) (by rw [m63, b1 63 (by omega), s2 63 (by decide) (by decide) (by decide), hc 63 (by omega)]) ⟨b + 1, by omega, ?_⟩⟩
      · rw [hX, et, if_neg hne, zX_goes_1_q, if_neg (show ¬ nI t = 8 from nI_ne h8 (by omega) (by decide)), zX_goes_2_q, s1, zbi_s, zX_goes_3_q]
      · rw [b4, et, if_pos (nI_pos' (by omega)), zM_goes_3_q, if_neg (show ¬ nI t = 8 from nI_ne h8 (by omega) (by decide)), zM_goes_4_q, m1, zbv_s, zM_goes_5_q]
      · exact zOld_of c3.old (by rw [hcc 51 (by decide) (by decide) (by decide) (by decide) (by decide) (by omega)]) (hcc 52 (by decide) (by decide) (by decide) (by decide) (by decide) (by omega)) (hcc 53 (by decide) (by decide) (by decide) (by decide) (by decide) (by omega))
/-- the model's end now -/
theorem mEndNow (ho : Ok v) (hw : zmw B v) (hE : zEo B v (fun _ _ _ => True)) : zM_endNow (d + 1) B M = some (some (.int (nI (vEnn v % 128))), B, M) := by
  have h9 := ho.sz
  obtain ⟨p1, p2, p3⟩ := vSp_eq ho
  obtain ⟨-, -, -, -, -, -, -, -, -, -, -, -, -, -, w15, w18, w16, w17⟩ := hw
  have hsp : zsp (vSz v) (vSt v) (vMe v) < 4608 := zsp_lt (b := 9) (by omega) p2 p3
  unfold vEnn
  rw [zM_endNow_q, w18]
  rcases ho.stop with hs | hs
  · rw [hs, if_neg (by decide), if_pos rfl, zM_endNow_1_q, w15, w16, w17, h9.1, mPlaceAt, zbi_s, zck_n (by omega) (by decide), nI_clamp (by omega), (hE _ _ _ (by omega) p2 p3 trivial).1, zM_endNow_2_q]
  · rw [hs, if_pos (by rfl), if_neg (by decide), w17, zM_endNow_2_q, show (128 * vSz v + vMe v) % 128 = vMe v by omega]
theorem zP_value (x : Int32) : zPr (zX_value (d + 70) x) (zM_value (d + 70) x) := by
  intro a A L h ha
  obtain ⟨v, hv⟩ : ∃ v, zv A = v := ⟨_, rfl⟩
  have ho := h.ok
  have hw := h.mw
  have hg := h.gone
  rw [hv] at ho hw
  have h5 := ho.P.2
  have hlt := vEnn_lt ho
  rcases zOne ho x with hx | ⟨p, hp, rfl⟩
  · exact zPr_low (zNo1 h) (fun A1 n1 => by rw [zX_value_q, cNobody1 hv hx, zbi_s, if_neg (by decide), cWorthRef n1, zbi_s]) (fun A1 A2 n3 n4 => by rw [zM_value_q, mOne0 (zmw62 hw n4) hx, zbi_s, if_pos rfl, n3, zbi_s])
  obtain ⟨b, x1, x2⟩ := h.old
  obtain ⟨A0, r1, r2, r3, r4⟩ := cRenew' (d := d + 65) (L := L) ho hv x2 (by omega)
  obtain ⟨A1, c1, c2, c3⟩ := cEndNow (L := L) (D := d + 69) ho r4 r3 (by omega)
  have hc : ∀ c, (c < 51 ∨ 60 < c) → A1 c = A c := fun c hc => by rw [c2 c (by omega) (by omega), r2 c (by omega)]
  have hw1 := zcm hv hc hw
  obtain ⟨B, b1, b2, b3, b4, b5, b6⟩ := mDeedNow (d := d + 61) (L := L) ho hw1 (by rw [hc 63 (by omega)]; exact hg)
  refine ⟨vEw v p (vEnn v % 128), A1, L, B, L, ?_, ?_, RR_q h hc (fun c hc' => b2 c (by omega)) ⟨b + 1, by omega, c3.old⟩⟩
  · rw [zX_value_q, cNobody0 ho hv hp, zbi_s, if_pos rfl, zX_value_1_q, r1, zbv_s, c1, zbi_s, cWorthOfEnd ho c3.2.2.2.2 hp (by omega), zbi_s]
  · rw [zM_value_q, mOne1 ho hw1 hp, zbi_s, if_neg (by decide), zM_value_1_q, b1, zbv_s, mEndNow ho b3 b5, zbi_s, mEndWorth b3 b4 h5 hp (by omega), zbi_s]
theorem zP_ends (x : Int32) : zPr (zX_ends (d + 70) x) (zM_ends (d + 70) x) := by
  intro a A L h ha
  obtain ⟨v, hv⟩ : ∃ v, zv A = v := ⟨_, rfl⟩
  have ho := h.ok
  have hw := h.mw
  have hg := h.gone
  rw [hv] at ho hw
  have h5 := ho.P
  have h9 := ho.sz
  have hlt := vEnn_lt ho
  obtain ⟨p1, p2, p3⟩ := vSp_eq ho
  have w12 : A 63 12 = v 9 4 := hw.2.2.2.2.2.2.2.2.2.2.2.1
  rcases zIn 3 (by omega) x with hx | ⟨k, hk, rfl⟩
  · refine zPr_no (zNo2 h) (fun A1 n1 => ?_) (fun A1 A2 n2 n4 => by rw [zM_ends_q, mIn0 (c := 2) (b := 2) rfl (by omega) hx, zbi_s, if_pos rfl, n2, zbi_s])
    rw [zX_ends_q]
    by_cases h0 : x < 0
    · rw [if_pos h0, zX_ends_1_q, n1, zbi_s]
    · rw [if_neg h0, if_neg (by rw [show (2 : Int32) = nI 2 from rfl]; exact Int32.not_le.mpr ((zlt_up (b := 2) (by omega) x).mpr (hx.resolve_left h0))), zX_ends_1_q, n1, zbi_s]
  have hX : zX_ends (d + 70) (nI k) A L = zX_ends_2 (d + 70) (nI k) A L := by
    rw [zX_ends_q, if_neg (nI_pos (by omega)), if_pos (by rw [show (2 : Int32) = nI 2 from rfl]; exact nI_le (by omega) (by omega))]
  have hM : ∀ A1, zM_ends (d + 70) (nI k) A1 L = zM_ends_1 (d + 70) (nI k) A1 L := fun A1 => by rw [zM_ends_q, mIn1 (c := 2) (b := 2) rfl (by omega) hk, zbi_s, if_neg (by decide)]
  by_cases hp0 : vP v = 0
  · exact zPr_no (zNo3 h) (fun A1 n1 => by rw [hX, zX_ends_2_q, zv_c hv 9 (by decide), h5.1, hp0, if_pos (by decide), n1, zbi_s]) (fun A1 A2 n2 n4 => by rw [hM, zM_ends_1_q, n4 63 (by decide), w12, h5.1, hp0, if_pos (by decide), n2, zbi_s])
  have hp9 : ¬ v 9 4 = 0 := by rw [h5.1]; exact nI_ne0 (by omega) (by omega)
  obtain ⟨b, x1, x2⟩ := h.old
  obtain ⟨A0, r1, r2, r3, r4⟩ := cRenew' (d := d + 65) (L := L) ho hv x2 (by omega)
  obtain ⟨A1, c1, c2, c3⟩ := cEndNow (L := L) (D := d + 69) ho r4 r3 (by omega)
  have hc : ∀ c, (c < 51 ∨ 60 < c) → A1 c = A c := fun c hc => by rw [c2 c (by omega) (by omega), r2 c (by omega)]
  have hw1 := zcm hv hc hw
  obtain ⟨B, b1, b2, b3, b4, b5, b6⟩ := mDeedNow (d := d + 61) (L := L) ho hw1 (by rw [hc 63 (by omega)]; exact hg)
  have hRR : RR (a + 30) B := RR_q h hc (fun c hc' => b2 c (by omega)) ⟨b + 1, by omega, c3.old⟩
  have hX3 : zX_ends (d + 70) (nI k) A L = if nI k = 0 then zbi (zX_endMeaning (d + 69) (nI (vEnn v)) A1 L) (fun r3 A3 L3 => some (some (.int r3), A3, L3)) else zX_ends_4 (d + 70) (nI k) (nI (vEnn v)) A1 L := by
    rw [hX, zX_ends_2_q, zv_c hv 9 (by decide), if_neg hp9, zX_ends_3_q, r1, zbv_s, c1, zbi_s]
  have hM3 : zM_ends (d + 70) (nI k) A1 L = if nI k = 2 then (if B 63 18 = 1 then zM_ends_4 (d + 70) (B 63 15) B L else zM_ends_3 (d + 70) B L) else zM_ends_5 (d + 70) (nI k) B L := by
    rw [hM, zM_ends_1_q, hc 63 (by omega), w12, if_neg hp9, zM_ends_2_q, b1, zbv_s]
  have hk3 : k = 0 ∨ k = 1 ∨ k = 2 := by omega
  have hz64 : ∀ n, n < 2 ^ 31 → zrem (nI n) 64 = nI (n % 64) := fun n hn => by rw [show (64 : Int32) = nI 64 from rfl, zrem_n hn (by omega) (by omega)]
  have hd64 : ∀ n, n < 2 ^ 31 → nI n / 64 = nI (n / 64) := fun n hn => by rw [show (64 : Int32) = nI 64 from rfl, pk_div hn (by omega) (by omega)]
  have hcd : ∀ k : Option zR, zcd 64 k = k := fun k => zcd_n (n := 64) (by omega) (by omega)
  rcases hk3 with rfl | rfl | rfl
  · refine ⟨nI (vEnn v % 64), A1, L, B, L, ?_, ?_, hRR⟩
    · rw [hX3, if_pos (by decide), zX_endMeaning_q, zbi_s, nI_and63]
    · rw [hM3, if_neg (by decide), zM_ends_5_q, if_pos (by decide), mEndNow ho b3 b5, zbi_s, hcd, hz64 _ (by omega), zM_ends_7_q, show vEnn v % 128 % 64 = vEnn v % 64 by omega]
  · refine ⟨nI (vEnn v / 64 % 2), A1, L, B, L, ?_, ?_, hRR⟩
    · rw [hX3, if_neg (by decide), zX_ends_4_q, if_pos (by decide), zX_endStuck_q, zbi_s, zX_ends_6_q, show (6 : Int32) = nI 6 from rfl, zshr_n (by omega) (by omega), nI_and1]
    · rw [hM3, if_neg (by decide), zM_ends_5_q, if_neg (by decide), zM_ends_6_q, mEndNow ho b3 b5, zbi_s, hcd, hd64 _ (by omega), zM_ends_7_q, show vEnn v % 128 / 64 = vEnn v / 64 % 2 by omega]
  · refine ⟨nI (vEnn v / 128), A1, L, B, L, ?_, ?_, hRR⟩
    · rw [hX3, if_neg (by decide), zX_ends_4_q, if_neg (by decide), zX_ends_5_q, zX_endCount_q, zbi_s, zX_ends_6_q, show (7 : Int32) = nI 7 from rfl, zshr_n (by omega) (by omega)]
    · obtain ⟨-, -, -, -, -, -, -, -, -, -, -, -, -, -, w15, w18, w16, w17⟩ := b3
      have hsp : zsp (vSz v) (vSt v) (vMe v) < 4608 := zsp_lt (b := 9) (by omega) p2 p3
      rw [hM3, if_pos (by rfl), w18]
      unfold vEnn
      rcases ho.stop with hs | hs
      · rw [hs, if_neg (by decide), if_pos rfl, zM_ends_3_q, w15, w16, w17, h9.1, mPlaceAt, zbi_s, zck_n (by omega) (by decide), nI_clamp (by omega), (b5 _ _ _ (by omega) p2 p3 trivial).2, zM_ends_4_q]
      · rw [hs, if_pos (by rfl), if_neg (by decide), w15, h9.1, zM_ends_4_q, show (128 * vSz v + vMe v) / 128 = vSz v by omega]
end P8
