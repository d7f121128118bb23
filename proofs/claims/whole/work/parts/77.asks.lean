/-! ===== class and model answer alike: what is asked of rules, people, counts, power, reach ===== -/
section P1
variable {a d : Nat} {A v : zA} {L : zL} {x y : Int32}
/-- both refuse -/
theorem zPr_no {f g : zA → zL → Option zR} (hn : ∃ A1 A2, (∀ d L, zX_refused d x A L = some (some (.int x), A1, L)) ∧ (∀ d L, zM_no d x A1 L = some (some (.int x), A2, L)) ∧ (∀ d L, zM_lower d x A1 L = some (some (.int (1000000000 - x)), A2, L)) ∧ (∀ c, c ≠ 62 → A1 c = A c) ∧ RR (a + 30) A2)
    (hc : ∀ A1, (∀ d L, zX_refused d x A L = some (some (.int x), A1, L)) → f A L = some (some (.int x), A1, L)) (hm : ∀ A1 A2, (∀ d L, zM_no d x A1 L = some (some (.int x), A2, L)) → (∀ c, c ≠ 62 → A1 c = A c) → g A1 L = some (some (.int x), A2, L)) :
    ∃ w A1 L1 A2 L2, f A L = some (some (.int w), A1, L1) ∧ g A1 L1 = some (some (.int w), A2, L2) ∧ RR (a + 30) A2 := by
  obtain ⟨A1, A2, n1, n2, n3, n4, n5⟩ := hn
  exact ⟨x, A1, L, A2, L, hc A1 n1, hm A1 A2 n2 n4, n5⟩
theorem zPr_low {f g : zA → zL → Option zR} (hn : ∃ A1 A2, (∀ d L, zX_refused d x A L = some (some (.int x), A1, L)) ∧ (∀ d L, zM_no d x A1 L = some (some (.int x), A2, L)) ∧ (∀ d L, zM_lower d x A1 L = some (some (.int (1000000000 - x)), A2, L)) ∧ (∀ c, c ≠ 62 → A1 c = A c) ∧ RR (a + 30) A2)
    (hc : ∀ A1, (∀ d L, zX_refused d x A L = some (some (.int x), A1, L)) → f A L = some (some (.int (1000000000 - x)), A1, L)) (hm : ∀ A1 A2, (∀ d L, zM_lower d x A1 L = some (some (.int (1000000000 - x)), A2, L)) → (∀ c, c ≠ 62 → A1 c = A c) → g A1 L = some (some (.int (1000000000 - x)), A2, L)) :
    ∃ w A1 L1 A2 L2, f A L = some (some (.int w), A1, L1) ∧ g A1 L1 = some (some (.int w), A2, L2) ∧ RR (a + 30) A2 := by
  obtain ⟨A1, A2, n1, n2, n3, n4, n5⟩ := hn
  exact ⟨_, A1, L, A2, L, hc A1 n1, hm A1 A2 n3 n4, n5⟩
theorem zmw62 {A1 : zA} (hw : zmw A v) (n4 : ∀ c, c ≠ 62 → A1 c = A c) : zmw A1 v := zmw_of hw (fun c h1 h2 => n4 c (by omega))
theorem zPr_same {f g : zA → zL → Option zR} {w : Int32} (h : RR a A) (h1 : f A L = some (some (.int w), A, L)) (h2 : g A L = some (some (.int w), A, L)) : ∃ w A1 L1 A2 L2, f A L = some (some (.int w), A1, L1) ∧ g A1 L1 = some (some (.int w), A2, L2) ∧ RR (a + 30) A2 :=
  ⟨w, A, L, A, L, h1, h2, h.up (by omega)⟩
theorem zR1 (hR : v 2 6 = nI (vR v)) (hv : zv A = v) (h : x < 0 ∨ nI (vR v) ≤ x) (hl : vR v < 25) : zX_rule d x y A L = zX_rule_1 d A L := by
  rw [zX_rule_q, zv_c hv 2 (by decide), hR]
  by_cases h0 : x < 0
  · rw [if_pos h0]
  · rw [if_neg h0, if_neg (Int32.not_lt.mpr (h.resolve_left h0))]
theorem zsubR {n : Nat} (hn : n < 2 ^ 30) (x : Int32) : nI n - 1 < x ↔ nI n ≤ x := by
  cases n with
  | zero =>
    rw [show nI 0 - 1 = (-1 : Int32) by decide, Int32.lt_iff_toInt_lt, Int32.le_iff_toInt_le, show (-1 : Int32).toInt = -1 by decide, show (nI 0).toInt = 0 by decide]
    omega
  | succ n =>
    rw [← nI_1, Int32.add_sub_cancel, nI_1]
    exact zlt_up (by omega) x
theorem mRuleIn0 (hw : zmw A v) (hR : v 2 6 = nI (vR v)) (hl : vR v < 25) (h : x < 0 ∨ nI (vR v) ≤ x) : zM_isIn d x 0 (A 63 10 - 1) A L = some (some (.int 0), A, L) := by
  obtain ⟨-, -, -, -, -, -, -, -, -, w10, -⟩ := hw
  rw [mIsIn, w10, hR, if_pos]
  rw [zsubR (by omega)]; exact h
theorem mRuleIn1 {r : Nat} (hw : zmw A v) (hR : v 2 6 = nI (vR v)) (hl : vR v < 25) (h : r < vR v) : zM_isIn d (nI r) 0 (A 63 10 - 1) A L = some (some (.int 1), A, L) := by
  obtain ⟨-, -, -, -, -, -, -, -, -, w10, -⟩ := hw
  rw [mIsIn, w10, hR, if_neg]
  rw [zsubR (by omega)]
  rintro (h1 | h1)
  · exact nI_pos (by omega) h1
  · exact nI_ge h (by omega) h1
theorem zP_rule (x y : Int32) : zPr (zX_rule (d + 70) x y) (zM_rule (d + 70) x y) := by
  intro a A L h ha
  obtain ⟨v, hv⟩ : ∃ v, zv A = v := ⟨_, rfl⟩
  have ho := h.ok
  have hw := h.mw
  rw [hv] at ho hw
  have hR := ho.R
  rcases zIn (vR v) (by omega) x with hx | ⟨r, hr, rfl⟩
  · exact zPr_no (zNo1 h) (fun A1 n1 => by rw [zR1 hR.1 hv hx hR.2, zX_rule_1_q, n1, zbi_s]) (fun A1 A2 n2 n4 => by rw [zM_rule_q, mRuleIn0 (zmw62 hw n4) hR.1 hR.2 hx, zbi_s, if_pos rfl, n2, zbi_s])
  · have hr24 : r < 24 := by omega
    have hX : zX_rule (d + 70) (nI r) y A L = zX_rule_2 (d + 70) (nI r) y A L := by
      rw [zX_rule_q, if_neg (nI_pos (by omega)), zv_c hv 2 (by decide), hR.1, if_pos (nI_lt hr (by omega))]
    have hM : ∀ A1, (∀ c, c ≠ 62 → A1 c = A c) → zM_rule (d + 70) (nI r) y A1 L = zM_rule_1 (d + 70) (nI r) y A1 L := fun A1 n4 => by
      rw [zM_rule_q, mRuleIn1 (zmw62 hw n4) hR.1 hR.2 hr, zbi_s, if_neg (by decide)]
    rcases zIn 4 (by omega) y with hy | ⟨k, hk, rfl⟩
    · refine zPr_no (zNo2 h) (fun A1 n1 => ?_) (fun A1 A2 n2 n4 => by rw [hM A1 n4, zM_rule_1_q, mIn0 (c := 3) (b := 3) rfl (by omega) hy, zbi_s, if_pos rfl, n2, zbi_s])
      rw [hX, zX_rule_2_q]
      by_cases h0 : y < 0
      · rw [if_pos h0, zX_rule_3_q, n1, zbi_s]
      · rw [if_neg h0, if_neg (by rw [show (3 : Int32) = nI 3 from rfl]; exact Int32.not_le.mpr ((zlt_up (b := 3) (by omega) y).mpr (hy.resolve_left h0))), zX_rule_3_q, n1, zbi_s]
    · have hX2 : zX_rule (d + 70) (nI r) (nI k) A L = zbi (zG_tells (d + 69) (nI r) (nI k) A L) (fun r1 A1 L1 => some (some (.int r1), A1, L1)) := by
        rw [hX, zX_rule_2_q, if_neg (nI_pos (by omega)), if_pos (by rw [show (3 : Int32) = nI 3 from rfl]; exact nI_le (by omega) (by omega)), zX_rule_4_q]
      have hT : zG_tells (d + 69) (nI r) (nI k) A L = zG_tells_2 (d + 69) (nI r) (nI k) A L := by
        rw [zG_tells_q, if_neg (nI_pos (by omega)), if_pos (nI_l24 hr24)]
      have hM2 : zM_rule (d + 70) (nI r) (nI k) A L = zM_rule_2 (d + 70) (nI r) (nI k) A L := by
        rw [hM A (fun _ _ => rfl), zM_rule_1_q, mIn1 (c := 3) (b := 3) rfl (by omega) hk, zbi_s, if_neg (by decide)]
      obtain ⟨w65, w66, w67, w68, -⟩ := hw
      have hk4 : k = 0 ∨ k = 1 ∨ k = 2 ∨ k = 3 := by omega
      rcases hk4 with rfl | rfl | rfl | rfl
      · exact zPr_same (w := v 3 r) h (by rw [hX2, hT, zG_tells_2_q, if_pos (by decide), zG_tells_3_q, zck_n hr24 (by decide), zbi_s, nI_clamp (by omega), zv_c hv 3 (by decide)]) (by rw [hM2, zM_rule_2_q, if_pos (by decide), zck_n hr24 (by decide), zM_rule_6_q, nI_clamp (by omega), w65])
      · exact zPr_same (w := v 4 r) h (by rw [hX2, hT, zG_tells_2_q, if_neg (by decide), if_pos (by decide), zG_tells_4_q, zck_n hr24 (by decide), zbi_s, nI_clamp (by omega), zv_c hv 4 (by decide)]) (by rw [hM2, zM_rule_2_q, if_neg (by decide), zM_rule_3_q, if_pos (by decide), zck_n hr24 (by decide), zM_rule_6_q, nI_clamp (by omega), w66])
      · exact zPr_same (w := v 5 r) h (by rw [hX2, hT, zG_tells_2_q, if_neg (by decide), if_neg (by decide), if_pos (by decide), zG_tells_5_q, zck_n hr24 (by decide), zbi_s, nI_clamp (by omega), zv_c hv 5 (by decide)]) (by rw [hM2, zM_rule_2_q, if_neg (by decide), zM_rule_3_q, if_neg (by decide), zM_rule_4_q, if_pos (by decide), zck_n hr24 (by decide), zM_rule_6_q, nI_clamp (by omega), w67])
      · exact zPr_same (w := v 6 r) h (by rw [hX2, hT, zG_tells_2_q, if_neg (by decide), if_neg (by decide), if_neg (by decide), zG_tells_6_q, zck_n hr24 (by decide), zbi_s, nI_clamp (by omega), zv_c hv 6 (by decide)]) (by rw [hM2, zM_rule_2_q, if_neg (by decide), zM_rule_3_q, if_neg (by decide), zM_rule_4_q, if_neg (by decide), zM_rule_5_q, zck_n hr24 (by decide), zM_rule_6_q, nI_clamp (by omega), w68])
theorem zP_end (x : Int32) : zPr (zX_end (d + 70) x) (zM_end (d + 70) x) := by
  intro a A L h ha
  obtain ⟨v, hv⟩ : ∃ v, zv A = v := ⟨_, rfl⟩
  have ho := h.ok
  have hw := h.mw
  rw [hv] at ho hw
  rcases zIn 8 (by omega) x with hx | ⟨s, hs, rfl⟩
  · refine zPr_no (zNo1 h) (fun A1 n1 => ?_) (fun A1 A2 n2 n4 => by rw [zM_end_q, mIn0 (c := 7) (b := 7) rfl (by omega) hx, zbi_s, if_pos rfl, n2, zbi_s, zM_end_3_q])
    rw [zX_end_q]
    by_cases h0 : x < 0
    · rw [if_pos h0, zX_end_1_q, n1, zbi_s]
    · rw [if_neg h0, show (8 : Int32) = nI 8 from rfl, if_neg (Int32.not_lt.mpr (hx.resolve_left h0)), zX_end_1_q, n1, zbi_s]
  · refine zPr_same (w := if vEn v s then 1 else 0) h ?_ ?_
    · rw [zX_end_q, if_neg (nI_pos (by omega)), if_pos (nI_l8 hs), zX_end_2_q, cIsEnd ho hv hs, zbi_s]
      cases vEn v s
      · rw [ite_ft, if_pos rfl, zX_end_3_q, zX_end_4_q]
      · rw [ite_tt, if_neg (by decide), zX_end_4_q]
    · rw [zM_end_q, mIn1 (c := 7) (b := 7) rfl (by omega) hs, zbi_s, if_neg (by decide), zM_end_1_q, mIsEnd ho hw hs, zbi_s]
      cases vEn v s
      · rw [ite_ft, if_pos rfl, zM_end_2_q, zM_end_3_q]
      · rw [ite_tt, if_neg (by decide), zM_end_3_q]
/-- every one has a turn -/
theorem Ok.has_turn (ho : Ok v) {p : Nat} (hp : p < vP v) : ∃ i, i < vP v ∧ v 13 i = nI p ∧ ∀ j, j < i → v 13 j ≠ nI p := by
  have h5 := ho.P.2
  have hT : ∀ i, i < vP v → ∃ q, q < vP v ∧ v 13 i = nI q := fun i hi => ho.tu hi
  have hI : ∀ i j, i < vP v → j < vP v → v 13 i = v 13 j → i = j := fun i j hi hj => ho.tuinj hi hj
  have hx : ∃ i, i < vP v ∧ v 13 i = nI p := by
    by_cases hne : ∃ i, i < vP v ∧ v 13 i = nI p
    · exact hne
    · have hno : ∀ i q, i < vP v → v 13 i = nI q → q ≠ p := fun i q hi e hq => hne ⟨i, hi, by rw [e, hq]⟩
      have hd : ∀ i j q r, i < vP v → j < vP v → v 13 i = nI q → v 13 j = nI r → i ≠ j → q ≠ r := fun i j q r hi hj e1 e2 hij hqr => hij (hI i j hi hj (by rw [e1, e2, hqr]))
      have hc : vP v = 1 ∨ vP v = 2 ∨ vP v = 3 ∨ vP v = 4 := by omega
      rcases hc with hc | hc | hc | hc
      · obtain ⟨q0, a0, b0⟩ := hT 0 (by omega)
        have n0 := hno 0 q0 (by omega) b0
        omega
      · obtain ⟨q0, a0, b0⟩ := hT 0 (by omega)
        obtain ⟨q1, a1, b1⟩ := hT 1 (by omega)
        have n0 := hno 0 q0 (by omega) b0
        have n1 := hno 1 q1 (by omega) b1
        have d01 := hd 0 1 q0 q1 (by omega) (by omega) b0 b1 (by omega)
        omega
      · obtain ⟨q0, a0, b0⟩ := hT 0 (by omega)
        obtain ⟨q1, a1, b1⟩ := hT 1 (by omega)
        obtain ⟨q2, a2, b2⟩ := hT 2 (by omega)
        have n0 := hno 0 q0 (by omega) b0
        have n1 := hno 1 q1 (by omega) b1
        have n2 := hno 2 q2 (by omega) b2
        have d01 := hd 0 1 q0 q1 (by omega) (by omega) b0 b1 (by omega)
        have d02 := hd 0 2 q0 q2 (by omega) (by omega) b0 b2 (by omega)
        have d12 := hd 1 2 q1 q2 (by omega) (by omega) b1 b2 (by omega)
        omega
      · obtain ⟨q0, a0, b0⟩ := hT 0 (by omega)
        obtain ⟨q1, a1, b1⟩ := hT 1 (by omega)
        obtain ⟨q2, a2, b2⟩ := hT 2 (by omega)
        obtain ⟨q3, a3, b3⟩ := hT 3 (by omega)
        have n0 := hno 0 q0 (by omega) b0
        have n1 := hno 1 q1 (by omega) b1
        have n2 := hno 2 q2 (by omega) b2
        have n3 := hno 3 q3 (by omega) b3
        have d01 := hd 0 1 q0 q1 (by omega) (by omega) b0 b1 (by omega)
        have d02 := hd 0 2 q0 q2 (by omega) (by omega) b0 b2 (by omega)
        have d03 := hd 0 3 q0 q3 (by omega) (by omega) b0 b3 (by omega)
        have d12 := hd 1 2 q1 q2 (by omega) (by omega) b1 b2 (by omega)
        have d13 := hd 1 3 q1 q3 (by omega) (by omega) b1 b3 (by omega)
        have d23 := hd 2 3 q2 q3 (by omega) (by omega) b2 b3 (by omega)
        omega
  obtain ⟨i, hi, e⟩ := hx
  exact ⟨i, hi, e, fun j hj e2 => by have := hI j i (by omega) hi (by rw [e, e2]); omega⟩
theorem cPlaceOf {p i : Nat} (ho : Ok v) (hv : zv A = v) (hi : i < vP v) (he : v 13 i = nI p) (hb : ∀ j, j < i → v 13 j ≠ nI p) : ∀ q j, j + q = i → zP_placeOf_1 d (nI p) (nI j) A L = some (some (.int (nI i)), A, L) := by
  have h5 := ho.P
  intro q
  induction q with
  | zero =>
    intro j hj
    have e : j = i := by omega
    subst e
    rw [zP_placeOf_1_q, zv_c hv 9 (by decide), h5.1, if_neg (nI_ge hi (by omega)), if_neg (nI_g4 (by omega)), zck_n (by omega) (by decide), nI_clamp (by omega), zv_c hv 13 (by decide), if_pos he]
  | succ q ih =>
    intro j hj
    rw [zP_placeOf_1_q, zv_c hv 9 (by decide), h5.1, if_neg (nI_ge (by omega) (by omega)), if_neg (nI_g4 (by omega)), zck_n (by omega) (by decide), nI_clamp (by omega), zv_c hv 13 (by decide), if_neg (hb j (by omega)), zP_placeOf_2_q, nI_1]
    exact ih (j + 1) (by omega)
theorem mPlaceOf {p i : Nat} (hw : zmw A v) (hi : i < 4) (he : v 13 i = nI p) (hb : ∀ j, j < i → v 13 j ≠ nI p) : ∀ q j, j + q = i → zM_placeOf_1 d (nI p) (nI j) A L = some (some (.int (nI i)), A, L) := by
  obtain ⟨-, -, -, -, -, -, -, w72, -⟩ := hw
  intro q
  induction q with
  | zero =>
    intro j hj
    have e : j = i := by omega
    subst e
    rw [zM_placeOf_1_q, zck_n hi (by decide), nI_clamp (by omega), w72, if_pos he, zM_placeOf_2_q]
  | succ q ih =>
    intro j hj
    rw [zM_placeOf_1_q, zck_n (by omega) (by decide), nI_clamp (by omega), w72, if_neg (hb j (by omega)), nI_1]
    exact ih (j + 1) (by omega)
theorem zP_person (x y : Int32) : zPr (zX_person (d + 70) x y) (zM_person (d + 70) x y) := by
  intro a A L h ha
  obtain ⟨v, hv⟩ : ∃ v, zv A = v := ⟨_, rfl⟩
  have ho := h.ok
  have hw := h.mw
  rw [hv] at ho hw
  have h5 := ho.P.2
  rcases zOne ho x with hx | ⟨p, hp, rfl⟩
  · exact zPr_no (zNo1 h) (fun A1 n1 => by rw [zX_person_q, cNobody1 hv hx, zbi_s, if_neg (by decide), n1, zbi_s]) (fun A1 A2 n2 n4 => by rw [zM_person_q, mOne0 (zmw62 hw n4) hx, zbi_s, if_pos rfl, n2, zbi_s])
  · have hX : zX_person (d + 70) (nI p) y A L = zX_person_1 (d + 70) (nI p) y A L := by rw [zX_person_q, cNobody0 ho hv hp, zbi_s, if_pos rfl]
    have hM : ∀ A1, (∀ c, c ≠ 62 → A1 c = A c) → zM_person (d + 70) (nI p) y A1 L = zM_person_1 (d + 70) (nI p) y A1 L := fun A1 n4 => by rw [zM_person_q, mOne1 ho (zmw62 hw n4) hp, zbi_s, if_neg (by decide)]
    rcases zIn 3 (by omega) y with hy | ⟨k, hk, rfl⟩
    · have hne : ∀ k, k < 3 → ¬ y = nI k := fun k hk e => by
        subst e
        rcases hy with hy | hy
        · exact nI_pos (by omega) hy
        · exact nI_ge hk (by omega) hy
      exact zPr_no (zNo2 h) (fun A1 n1 => by rw [hX, zX_person_1_q, if_neg (show ¬ _ = (0 : Int32) from hne 0 (by omega)), if_neg (show ¬ _ = (1 : Int32) from hne 1 (by omega)), if_neg (show ¬ _ = (2 : Int32) from hne 2 (by omega)), zX_person_5_q, n1, zbi_s]) (fun A1 A2 n2 n4 => by rw [hM A1 n4, zM_person_1_q, mIn0 (c := 2) (b := 2) rfl (by omega) hy, zbi_s, if_pos rfl, n2, zbi_s])
    · have hM2 : zM_person (d + 70) (nI p) (nI k) A L = zM_person_2 (d + 70) (nI p) (nI k) A L := by
        rw [hM A (fun _ _ => rfl), zM_person_1_q, mIn1 (c := 2) (b := 2) rfl (by omega) hk, zbi_s, if_neg (by decide)]
      have hw' := hw
      obtain ⟨-, -, -, -, w69, w70, -⟩ := hw'
      have hk4 : k = 0 ∨ k = 1 ∨ k = 2 := by omega
      rcases hk4 with rfl | rfl | rfl
      · exact zPr_same (w := nI (vKd v p)) h (by rw [hX, zX_person_1_q, if_pos (by decide), zX_person_2_q, cKindOf ho hv hp, zbi_s]) (by rw [hM2, zM_person_2_q, if_pos (by decide), zck_n (by omega) (by decide), zM_person_5_q, nI_clamp (by omega), w69, (ho.kd (by omega)).1])
      · exact zPr_same (w := nI (vPw v p)) h (by rw [hX, zX_person_1_q, if_neg (by decide), if_pos (by decide), zX_person_3_q, cWordsOf ho hv (by omega), zbi_s]) (by rw [hM2, zM_person_2_q, if_neg (by decide), zM_person_3_q, if_pos (by decide), zck_n (by omega) (by decide), zM_person_5_q, nI_clamp (by omega), w70, (ho.pw (by omega)).1])
      · obtain ⟨i, hi, he, hb⟩ := ho.has_turn hp
        exact zPr_same (w := nI i) h (by
          rw [hX, zX_person_1_q, if_neg (by decide), if_neg (by decide), if_pos (by decide), zX_person_4_q, zP_placeOf_q, show (0 : Int32) = nI 0 from rfl, cPlaceOf ho hv hi he hb i 0 (by omega), zbi_s]) (by
          rw [hM2, zM_person_2_q, if_neg (by decide), zM_person_3_q, if_neg (by decide), zM_person_4_q, zM_placeOf_q, show (0 : Int32) = nI 0 from rfl, mPlaceOf hw (by omega) he hb i 0 (by omega), zbi_s, zM_person_5_q])
theorem zI6 (p k : Nat) : nI p * 6 + nI k = nI (6 * p + k) := by rw [show (6 : Int32) = nI 6 from rfl, pk_mul, nI_add, Nat.mul_comm]
theorem zI6' (p k : Nat) : 6 * nI p + nI k = nI (6 * p + k) := by rw [show (6 : Int32) = nI 6 from rfl, pk_mul, nI_add]
theorem cWoAt {p k : Nat} (ho : Ok v) (hv : zv A = v) (hp : p < vP v) (hk : k < 6) : zP_worthOf (d + 1) (nI p) (nI k) A L = some (some (.int (v 12 (6 * p + k))), A, L) := by
  have h5 := ho.P.2
  rw [zP_worthOf_q, cHas ho hv hp, zbi_s, if_neg (by decide), if_neg (nI_pos (by omega)), if_neg (nI_g6 hk), zI6, zck_n (by omega) (by decide), nI_clamp (by omega), zP_worthOf_2_q, zv_c hv 12 (by decide)]
theorem zP_worth (x y : Int32) : zPr (zX_worth (d + 70) x y) (zM_worth (d + 70) x y) := by
  intro a A L h ha
  obtain ⟨v, hv⟩ : ∃ v, zv A = v := ⟨_, rfl⟩
  have ho := h.ok
  have hw := h.mw
  rw [hv] at ho hw
  have h5 := ho.P.2
  rcases zOne ho x with hx | ⟨p, hp, rfl⟩
  · exact zPr_low (zNo1 h) (fun A1 n1 => by rw [zX_worth_q, cNobody1 hv hx, zbi_s, if_neg (by decide), zX_worth_1_q, cWorthRef n1, zbi_s, zX_worth_3_q]) (fun A1 A2 n3 n4 => by rw [zM_worth_q, mOne0 (zmw62 hw n4) hx, zbi_s, if_pos rfl, zM_worth_1_q, n3, zbi_s, zM_worth_2_q])
  · rcases zIn 6 (by omega) y with hy | ⟨k, hk, rfl⟩
    · exact zPr_low (zNo1 h) (fun A1 n1 => by rw [zX_worth_q, cNobody0 ho hv hp, zbi_s, if_pos rfl, cNoMark1 hy, zbi_s, if_neg (by decide), zX_worth_1_q, cWorthRef n1, zbi_s, zX_worth_3_q]) (fun A1 A2 n3 n4 => by rw [zM_worth_q, mOne1 ho (zmw62 hw n4) hp, zbi_s, if_neg (by decide), mIn0 (c := 5) (b := 5) rfl (by omega) hy, zbi_s, if_pos rfl, zM_worth_1_q, n3, zbi_s, zM_worth_2_q])
    · have hw' := hw
      obtain ⟨-, -, -, -, -, -, w71, -⟩ := hw'
      exact zPr_same (w := v 12 (6 * p + k)) h (by rw [zX_worth_q, cNobody0 ho hv hp, zbi_s, if_pos rfl, cNoMark0 hk, zbi_s, if_pos rfl, zX_worth_2_q, cWoAt ho hv hp hk, zbi_s, zX_worth_3_q]) (by rw [zM_worth_q, mOne1 ho hw hp, zbi_s, if_neg (by decide), mIn1 (c := 5) (b := 5) rfl (by omega) hk, zbi_s, if_neg (by decide), zI6', zck_n (by omega) (by decide), nI_clamp (by omega), zM_worth_2_q, w71])
end P1
