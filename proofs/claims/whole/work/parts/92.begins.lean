/-! ===== class and model answer alike: begins ===== -/
section BG
variable {a b d n p k : Nat} {A A' A0 B B0 v w : zA} {L M : zL} {x : Int32}
/-- the world with its turns so many places on -/
def vRo (v : zA) (k : Nat) : zA := fun c => if c = 13 then (fun i => if i < vP v then v 13 ((i + k) % vP v) else v 13 i) else v c
theorem vRo_o {c : Nat} (h : c ≠ 13) : vRo v k c = v c := if_neg h
theorem vRo_r (i : Nat) : vRo v k 13 i = if i < vP v then v 13 ((i + k) % vP v) else v 13 i := rfl
theorem vP_ro : vP (vRo v k) = vP v := by unfold vP; rw [vRo_o (by decide)]
theorem Ok_ro (ho : Ok v) (hp : 0 < vP v) : Ok (vRo v k) := by
  have h5 := ho.P.2
  have hm : ∀ i, (i + k) % vP v < vP v := fun i => Nat.mod_lt _ hp
  refine Ok_people (v := v) (fun c hc => vRo_o (by omega)) (by rw [vRo_o (by decide), vRo_o (by decide)]; exact ho.pp) (by rw [vRo_o (by decide)]; exact ho.ww) (fun i hi => ?_) (fun i hi => ?_) (fun i j hi hj e => ?_) ho
  · rw [vRo_r]
    split
    · exact ho.t4 _ (by have := hm i; omega)
    · exact ho.t4 i hi
  · rw [vRo_r, if_pos hi]
    exact ho.tP _ (hm i)
  · rw [vRo_r, vRo_r, if_pos hi, if_pos hj] at e
    have e2 := ho.tI _ _ (hm i) (hm j) e
    have hc : vP v = 1 ∨ vP v = 2 ∨ vP v = 3 ∨ vP v = 4 := by omega
    rcases hc with hc | hc | hc | hc <;> rw [hc] at e2 hi hj <;> omega
theorem vRo_P (hp : 0 < vP v) : vRo v (vP v) = v := by
  funext c
  unfold vRo
  split
  · rename_i e
    subst e
    funext i
    split
    · rename_i hi
      rw [Nat.add_mod_right, Nat.mod_eq_of_lt hi]
    · rfl
  · rfl
theorem vRo_0 (hp : 0 < vP v) : vRo v 0 = v := by
  funext c
  unfold vRo
  split
  · rename_i e
    subst e
    funext i
    split
    · rename_i hi
      rw [Nat.add_zero, Nat.mod_eq_of_lt hi]
    · rfl
  · rfl
/-- a row one place on -/
def zro (P : Nat) (f : Nat → Int32) : Nat → Int32 := fun i => if i + 1 < P then f (i + 1) else if i + 1 = P then f 0 else f i
theorem vRo_s (hp : 0 < vP v) (h5 : vP v < 5) : zro (vP v) (vRo v k 13) = vRo v (k + 1) 13 := by
  funext i
  unfold zro
  rw [vRo_r, vRo_r, vRo_r, vRo_r]
  by_cases h1 : i + 1 < vP v
  · rw [if_pos h1, if_pos h1, if_pos (by omega), show i + 1 + k = i + (k + 1) by omega]
  · rw [if_neg h1]
    by_cases h2 : i + 1 = vP v
    · rw [if_pos h2, if_pos hp, if_pos (by omega), Nat.zero_add]
      rw [show i + (k + 1) = k + vP v by omega, Nat.add_mod_right]
    · rw [if_neg h2, if_neg (by omega), if_neg (by omega)]
theorem cTurn1 {first : Int32} {P : Nat} (h5 : P < 5) : ∀ q j A, j + q = P → 0 < j → A 9 4 = nI P → (∀ c, c ≠ 13 → A c = A0 c) → (∀ i, A 13 i = if i + 1 < j then A0 13 (i + 1) else A0 13 i) →
    ∃ A', zP_turnByOne_1 d first (nI j) A L = zP_turnByOne_2 d first A' L ∧ (∀ c, c ≠ 13 → A' c = A0 c) ∧ ∀ i, A' 13 i = if i + 1 < P then A0 13 (i + 1) else A0 13 i := by
  intro q
  induction q with
  | zero =>
    intro j A hj h0 h9 hc h13
    have e : j = P := by omega
    subst e
    refine ⟨A, ?_, hc, h13⟩
    rw [zP_turnByOne_1_q, h9, if_pos (nI_le (by omega) (by omega))]
  | succ q ih =>
    intro j A hj h0 h9 hc h13
    obtain ⟨m, rfl⟩ : ∃ m, j = m + 1 := ⟨j - 1, by omega⟩
    have hs : nI (m + 1) - 1 = nI m := by rw [← nI_1, Int32.add_sub_cancel]
    obtain ⟨A', e1, e2, e3⟩ := ih (m + 1 + 1) (zput A 13 m (A 13 (m + 1))) (by omega) (by omega) (by rw [zput_o (by decide)]; exact h9) (fun c hc' => by rw [zput_o hc', hc c hc']) (fun i => by
      rw [zput_s]
      by_cases e : i = m
      · rw [e, upd_s, if_pos (by omega), h13 (m + 1), if_neg (by omega)]
      · rw [upd_o e, h13 i]
        by_cases hi : i + 1 < m + 1
        · rw [if_pos hi, if_pos (by omega)]
        · rw [if_neg hi, if_neg (by omega)])
    refine ⟨A', ?_, e2, e3⟩
    rw [zP_turnByOne_1_q, h9, if_neg (nI_ge (by omega) (by omega)), if_neg (nI_g4 (by omega)), zck_n (by omega) (by decide), hs, zck_n (by omega) (by decide), nI_clamp (by omega), nI_clamp (by omega), nI_1]
    exact e1
theorem cTurnByOne {P : Nat} (h0 : 0 < P) (h5 : P < 5) (h9 : A 9 4 = nI P) : ∃ A', zP_turnByOne d A L = some (none, A', L) ∧ (∀ c, c ≠ 13 → A' c = A c) ∧ A' 13 = zro P (A 13) := by
  obtain ⟨A1, e1, e2, e3⟩ := cTurn1 (d := d) (L := L) (A0 := A) (first := A 13 0) h5 (P - 1) 1 A (by omega) (by omega) h9 (fun _ _ => rfl) (fun i => by rw [if_neg (by omega)])
  obtain ⟨m, rfl⟩ : ∃ m, P = m + 1 := ⟨P - 1, by omega⟩
  have hs : nI (m + 1) - 1 = nI m := by rw [← nI_1, Int32.add_sub_cancel]
  have h9' : A1 9 4 = nI (m + 1) := by rw [e2 9 (by decide), h9]
  refine ⟨zput A1 13 m (A 13 0), ?_, fun c hc => by rw [zput_o hc, e2 c hc], ?_⟩
  · rw [zP_turnByOne_q, show (0 : Int32) = nI 0 from rfl, zck_n (by omega) (by decide), nI_clamp (by omega), show (1 : Int32) = nI 1 from rfl, e1, zP_turnByOne_2_q, h9', if_neg (by rw [show (0 : Int32) = nI 0 from rfl]; exact nI_nle (by omega) (by omega)), if_neg (by rw [show (4 : Int32) = nI 4 from rfl]; exact nI_nlt (by omega) (by omega)), show nI (m + 1) - 1 = nI m from hs, zck_n (by omega) (by decide), nI_clamp (by omega), zP_turnByOne_3_q]
  · rw [zput_s]
    funext i
    unfold zro
    by_cases e : i = m
    · rw [e, upd_s, if_neg (by omega), if_pos rfl]
    · rw [upd_o e, e3 i]
      by_cases hi : i + 1 < m + 1
      · rw [if_pos hi, if_pos hi]
      · rw [if_neg hi, if_neg hi, if_neg (by omega)]
theorem zv_13 (hv : zv A0 = v) (hc : ∀ c, c ≤ 16 → c ≠ 13 → A c = A0 c) (h13 : A 13 = vRo v k 13) : zv A = vRo v k := by
  funext c
  by_cases e : c = 13
  · subst e; rw [zv_at (by decide)]; exact h13
  · rw [vRo_o e, ← hv]
    unfold zv
    split
    · rw [hc c (by assumption) e]
    · rfl
def vBg2 (v : zA) (p : Nat) : Int32 := (zbf (fun _ => true) (fun k => vF (vRo v k) p) (vP v - 1) 1 (nI 0, vF v p)).1
theorem cBegins1 (ho : Ok v) (hv : zv A0 = v) (hp : p < vP v) : ∀ q k A st b, k + 1 + q = vP v → (∀ c, (c < 51 ∨ 54 < c) → c ≠ 13 → A c = A0 c) → A 13 = vRo v k 13 → zOld A b → b + q < 1048576 →
    ∃ A', zB_bestTurning_1 (d + 62) (nI p) st.1 st.2 (nI (k + 1)) A L = some (some (.int (zbf (fun _ => true) (fun k => vF (vRo v k) p) q (k + 1) st).1), A', L) ∧ (∀ c, (c < 51 ∨ 54 < c) → A' c = A0 c) ∧ zOld A' (b + q) := by
  have h5 := ho.P
  have h0 : 0 < vP v := by omega
  intro q
  induction q with
  | zero =>
    intro k A st b hk hc h13 hO hb
    have h9 : A 9 4 = nI (vP v) := by rw [hc 9 (by omega) (by decide), zv_c hv 9 (by decide), h5.1]
    obtain ⟨A', e1, e2, e3⟩ := cTurnByOne (d := d + 61) (A := A) (L := L) h0 h5.2 h9
    refine ⟨A', ?_, fun c hc' => ?_, zOld_of hO (by rw [e2 51 (by decide)]) (e2 52 (by decide)) (e2 53 (by decide))⟩
    · rw [zB_bestTurning_1_q, h9, if_pos (nI_le (by omega) (by omega)), zB_bestTurning_3_q, e1, zbv_s]; rfl
    · by_cases e : c = 13
      · rw [e, e3, h13, vRo_s h0 h5.2, show k + 1 = vP v by omega, vRo_P h0, zv_c hv 13 (by decide)]
      · rw [e2 c e, hc c hc' e]
  | succ q ih =>
    intro k A st b hk hc h13 hO hb
    have h9 : A 9 4 = nI (vP v) := by rw [hc 9 (by omega) (by decide), zv_c hv 9 (by decide), h5.1]
    obtain ⟨A1, e1, e2, e3⟩ := cTurnByOne (d := d + 61) (A := A) (L := L) h0 h5.2 h9
    have h13' : A1 13 = vRo v (k + 1) 13 := by rw [e3, h13, vRo_s h0 h5.2]
    have hv1 : zv A1 = vRo v (k + 1) := zv_13 hv (fun c h1 h2 => by rw [e2 c h2, hc c (by omega) h2]) h13'
    obtain ⟨A2, f1, f2, -, f4⟩ := cWorthFromBeginning (d := d + 1) (L := L) (p := p) (Ok_ro ho h0) hv1 (zOld_of hO (by rw [e2 51 (by decide)]) (e2 52 (by decide)) (e2 53 (by decide))) (by omega) (by rw [vP_ro]; exact hp)
    have f1' : zD_worthFromBeginning (d + 61) (nI p) A1 L = some (some (.int (vF (vRo v (k + 1)) p)), A2, L) := f1
    have hc2 : ∀ c, (c < 51 ∨ 54 < c) → c ≠ 13 → A2 c = A0 c := fun c h1 h2 => by rw [f2 c h1, e2 c h2, hc c h1 h2]
    rw [zB_bestTurning_1_q, h9, if_neg (nI_ge (by omega) (by omega)), e1, zbv_s, f1', zbi_s, zbf_s, ite_tt]
    by_cases hlt : st.2 < vF (vRo v (k + 1)) p
    · obtain ⟨A3, g1, g2, g3⟩ := ih (k + 1) A2 (nI (k + 1), vF (vRo v (k + 1)) p) (b + 1) (by omega) hc2 (by rw [f2 13 (by omega), h13']) f4.old (by omega)
      refine ⟨A3, ?_, g2, by rw [show b + (q + 1) = b + 1 + q by omega]; exact g3⟩
      rw [if_neg (Int32.not_le.mpr hlt), zB_bestTurning_2_q, nI_1, if_pos hlt]
      exact g1
    · obtain ⟨A3, g1, g2, g3⟩ := ih (k + 1) A2 st (b + 1) (by omega) hc2 (by rw [f2 13 (by omega), h13']) f4.old (by omega)
      refine ⟨A3, ?_, g2, by rw [show b + (q + 1) = b + 1 + q by omega]; exact g3⟩
      rw [if_pos (Int32.not_lt.mp hlt), zB_bestTurning_2_q, nI_1, if_neg hlt]
      exact g1
theorem mShift {P : Nat} {first s1 s2 s3 s4 : Int32} (h5 : P < 5) (h0 : 0 < P) : ∀ q j B, j + 1 + q = P → B 63 12 = nI P → (∀ c, c ≠ 72 → B c = B0 c) → (∀ i, B 72 i = if i < j then B0 72 (i + 1) else B0 72 i) →
    ∃ B', zM_begins_3 d s1 s2 s3 s4 first (nI j) B M = zM_begins_4 d s1 s2 s3 s4 first B' M ∧ (∀ c, c ≠ 72 → B' c = B0 c) ∧ ∀ i, B' 72 i = if i + 1 < P then B0 72 (i + 1) else B0 72 i := by
  intro q
  induction q with
  | zero =>
    intro j B hj h12 hc h72
    refine ⟨B, ?_, hc, fun i => ?_⟩
    · rw [zM_begins_3_q, h12, nI_1, if_pos (nI_le (by omega) (by omega))]
    · rw [h72 i]
      by_cases hi : i < j
      · rw [if_pos hi, if_pos (by omega)]
      · rw [if_neg hi, if_neg (by omega)]
  | succ q ih =>
    intro j B hj h12 hc h72
    obtain ⟨B', e1, e2, e3⟩ := ih (j + 1) (zput B 72 j (B 72 (j + 1))) (by omega) (by rw [zput_o (by decide)]; exact h12) (fun c hc' => by rw [zput_o hc', hc c hc']) (fun i => by
      rw [zput_s]
      by_cases e : i = j
      · rw [e, upd_s, if_pos (by omega), h72 (j + 1), if_neg (by omega)]
      · rw [upd_o e, h72 i]
        by_cases hi : i < j
        · rw [if_pos hi, if_pos (by omega)]
        · rw [if_neg hi, if_neg (by omega)])
    refine ⟨B', ?_, e2, e3⟩
    rw [zM_begins_3_q, h12, nI_1, if_neg (nI_ge (by omega) (by omega)), zck_n (by omega) (by decide), zck_n (by omega) (by decide), nI_clamp (by omega), nI_clamp (by omega)]
    exact e1
theorem zmw_13 (hw : zmw B0 v) (hc : ∀ c, (63 ≤ c ∧ c ≤ 73) → c ≠ 72 → B c = B0 c) (h72 : B 72 = vRo v k 13) : zmw B (vRo v k) := by
  have hw' := hw
  obtain ⟨-, -, -, -, w69, w70, w71, w72, -⟩ := hw'
  exact zmw_people hw (fun i _ _ => by rw [hc 63 (by omega) (by decide)]) (fun c h1 => hc c (by omega) (by omega)) (fun c h1 => vRo_o (by omega)) (by rw [hc 69 (by omega) (by decide), vRo_o (by decide), w69]) (by rw [hc 70 (by omega) (by decide), vRo_o (by decide), w70]) (by rw [hc 71 (by omega) (by decide), vRo_o (by decide), w71]) h72
theorem mBegins2 (ho : Ok v) (hp : p < vP v) (hw0 : zmw B0 v) (hg0 : B0 63 33 = 0) : ∀ q k B st, k + 1 + q = vP v → (∀ c, (c < 82 ∨ 88 < c) → c ≠ 72 → B c = B0 c) → B 72 = vRo v k 13 →
    ∃ B', zM_begins_2 (d + 10) (nI p) st.1 st.2 (nI (k + 1)) B M = zM_begins_7 (d + 10) (zbf (fun _ => true) (fun k => vF (vRo v k) p) q (k + 1) st).1 B' M ∧ (∀ c, (c < 82 ∨ 88 < c) → c ≠ 72 → B' c = B0 c) ∧ ∀ i, 4 ≤ i → B' 72 i = v 13 i := by
  have h5 := ho.P
  have h0 : 0 < vP v := by omega
  have w12 : B0 63 12 = nI (vP v) := by rw [hw0.2.2.2.2.2.2.2.2.2.2.2.1, h5.1]
  intro q
  induction q with
  | zero =>
    intro k B st hk hc h72
    refine ⟨B, ?_, hc, fun i hi => by rw [h72, vRo_r, if_neg (by omega)]⟩
    rw [zM_begins_2_q, hc 63 (by omega) (by decide), w12, if_pos (nI_le (by omega) (by omega))]; rfl
  | succ q ih =>
    intro k B st hk hc h72
    have h12 : B 63 12 = nI (vP v) := by rw [hc 63 (by omega) (by decide), w12]
    obtain ⟨B1, e1, e2, e3⟩ := mShift (d := d + 10) (M := M) (B0 := B) (first := B 72 0) (s1 := nI p) (s2 := st.1) (s3 := st.2) (s4 := nI (k + 1)) h5.2 h0 (vP v - 1) 0 B (by omega) h12 (fun _ _ => rfl) (fun i => by rw [if_neg (by omega)])
    obtain ⟨m, hm⟩ : ∃ m, vP v = m + 1 := ⟨vP v - 1, by omega⟩
    have hs : nI (vP v) - 1 = nI m := by rw [hm, ← nI_1, Int32.add_sub_cancel]
    obtain ⟨B2, hB2⟩ : ∃ B2, B2 = zput B1 72 m (B 72 0) := ⟨_, rfl⟩
    have h72' : B2 72 = vRo v (k + 1) 13 := by
      rw [← vRo_s h0 h5.2, ← h72, hB2, zput_s]
      funext i
      unfold zro
      by_cases e : i = m
      · rw [e, upd_s, if_neg (by omega), if_pos (by omega)]
      · rw [upd_o e, e3 i]
        by_cases hi : i + 1 < vP v
        · rw [if_pos hi, if_pos hi]
        · rw [if_neg hi, if_neg hi, if_neg (by omega)]
    have hc2 : ∀ c, (c < 82 ∨ 88 < c) → c ≠ 72 → B2 c = B0 c := fun c h1 h2 => by rw [hB2, zput_o h2, e2 c h2, hc c h1 h2]
    obtain ⟨B3, f1, f2⟩ := mFromStart (d := d) (M := M) (B := B2) (p := p) (Ok_ro (k := k + 1) ho h0) (zmw_13 hw0 (fun c h1 h2 => hc2 c (by omega) h2) h72') (by rw [hc2 63 (by omega) (by decide)]; exact hg0) (by rw [vP_ro]; exact hp)
    have hc3 : ∀ c, (c < 82 ∨ 88 < c) → c ≠ 72 → B3 c = B0 c := fun c h1 h2 => by rw [f2 c h1, hc2 c h1 h2]
    have h12' : B1 63 12 = nI (vP v) := by rw [e2 63 (by decide), h12]
    rw [zM_begins_2_q, h12, if_neg (nI_ge (by omega) (by omega)), show (0 : Int32) = nI 0 from rfl, zck_n (by omega) (by decide), nI_clamp (by omega), e1, zM_begins_4_q, h12', hs, zck_n (by omega) (by decide), nI_clamp (by omega), ← hB2, f1, zbi_s, zbf_s, ite_tt]
    by_cases hlt : st.2 < vF (vRo v (k + 1)) p
    · obtain ⟨B4, g1, g2, g3⟩ := ih (k + 1) B3 (nI (k + 1), vF (vRo v (k + 1)) p) (by omega) hc3 (by rw [f2 72 (by omega), h72'])
      refine ⟨B4, ?_, g2, g3⟩
      rw [if_pos hlt, zM_begins_5_q, zM_begins_6_q, nI_1, if_pos hlt]
      exact g1
    · obtain ⟨B4, g1, g2, g3⟩ := ih (k + 1) B3 st (by omega) hc3 (by rw [f2 72 (by omega), h72'])
      refine ⟨B4, ?_, g2, g3⟩
      rw [if_neg hlt, zM_begins_6_q, nI_1, if_neg hlt]
      exact g1
theorem zP_begins (x : Int32) : zPr (zX_begins (d + 70) x) (zM_begins (d + 70) x) := by
  intro a A L h ha
  obtain ⟨v, hv⟩ : ∃ v, zv A = v := ⟨_, rfl⟩
  have ho := h.ok
  have hw := h.mw
  have hg := h.gone
  rw [hv] at ho hw
  have h5 := ho.P
  rcases zOne ho x with hx | ⟨p, hp, rfl⟩
  · exact zPr_no (zNo1 h) (fun A1 n1 => by rw [zX_begins_q, cNobody1 hv hx, zbi_s, if_neg (by decide), n1, zbi_s, zX_begins_2_q]) (fun A1 A2 n2 n4 => by rw [zM_begins_q, mOne0 (zmw62 hw n4) hx, zbi_s, if_pos rfl, n2, zbi_s])
  have h0 : 0 < vP v := by omega
  obtain ⟨b, x1, x2⟩ := h.old
  obtain ⟨A0, e1, e2, -, e4⟩ := cWorthFromBeginning (d := d + 8) (L := L) (p := p) ho hv x2 (by omega) hp
  have hv0 : zv A0 = v := (zv_of (fun c hc => e2 c (by omega))).trans hv
  obtain ⟨A1, c1, c2, c3⟩ := cBegins1 (d := d + 7) (L := L) (A0 := A0) (p := p) ho hv0 hp (vP v - 1) 0 A0 (nI 0, vF v p) (b + 1) (by omega) (fun _ _ _ => rfl) (by rw [vRo_0 h0, zv_c hv0 13 (by decide)]) e4.old (by omega)
  have hcA : ∀ c, (c < 51 ∨ 54 < c) → A1 c = A c := fun c hc => by rw [c2 c hc, e2 c hc]
  have hw1 : zmw A1 v := zmw_of hw (fun c h1 h2 => hcA c (by omega))
  have hg1 : A1 63 33 = 0 := by rw [hcA 63 (by omega)]; exact hg
  obtain ⟨B2, k1, k2, k3, k4, k5, k6⟩ := mKeepTry (d := d + 68) (A0 := A1) (L := L) hw1
  obtain ⟨B3, m1, m2⟩ := mFromStart (d := d + 60) (M := L) (B := B2) ho k6 (by rw [k4 33 (by decide) (by decide)]; exact hg1) hp
  have hw3 : zmw B3 v := zmw_of k6 (fun c h1 h2 => m2 c (by omega))
  have w72 : B3 72 = v 13 := hw3.2.2.2.2.2.2.2.1
  obtain ⟨B4, n1, n2, n3⟩ := mBegins2 (d := d + 60) (M := L) (B0 := B3) (p := p) ho hp hw3 (by rw [m2 63 (by omega), k4 33 (by decide) (by decide)]; exact hg1) (vP v - 1) 0 B3 (nI 0, vF v p) (by omega) (fun _ _ _ => rfl) (by rw [vRo_0 h0, w72])
  have hw72 : B2 72 = v 13 := k6.2.2.2.2.2.2.2.1
  obtain ⟨B5, q1, q2, q3, q4⟩ := mPutTry (d := d + 68) (L := L) (A := B2) (B := B4) k6 k2 (fun i => by rw [n2 81 (by omega) (by decide), m2 81 (by omega)]) (fun c a1 a2 a3 a4 => by rw [n2 c (by omega) a4, m2 c (by omega)]) (fun i hi => by rw [n2 69 (by omega) (by decide), m2 69 (by omega)]) (fun i hi => by rw [n3 i hi, hw72])
  have hcc : ∀ c, (c < 63 ∨ c = 64 ∨ (73 < c ∧ c < 81) ∨ 88 < c) → B5 c = A1 c := fun c hc => by rw [q2 c (by omega), n2 c (by omega) (by omega), m2 c (by omega), k3 c (by omega) (by omega)]
  refine ⟨vBg2 v p, A1, L, B5, L, ?_, ?_, RR_mw h hv (fun c hc => by rw [hcc c (by omega), hcA c (by omega)]) q4 (fun i hi => by rw [q3 i (by omega) (by omega) (by omega), n2 63 (by omega) (by decide), m2 63 (by omega), k4 i (by omega) (by omega), hcA 63 (by omega)]) (fun j hj => by rw [q2 81 (by omega), n2 81 (by omega) (by decide), m2 81 (by omega), k5 j hj, hcA 81 (by omega)]) ⟨b + 1 + (vP v - 1), by omega, zOld_of c3 (by rw [hcc 51 (by omega)]) (hcc 52 (by omega)) (hcc 53 (by omega))⟩⟩
  · have e1' : zD_worthFromBeginning (d + 68) (nI p) A L = some (some (.int (vF v p)), A0, L) := e1
    rw [zX_begins_q, cNobody0 ho hv hp, zbi_s, if_pos rfl, zX_begins_1_q, zB_bestTurning_q, e1', zbi_s]
    rw [show zB_bestTurning_1 (d + 68 + 1) (nI p) 0 (vF v p) 1 A0 L = _ from c1, zbi_s, zX_begins_2_q]; rfl
  · rw [zM_begins_q, mOne1 ho hw1 hp, zbi_s, if_neg (by decide), zM_begins_1_q, k1, zbv_s, m1, zbi_s]
    rw [show zM_begins_2 (d + 69 + 1) (nI p) 0 (vF v p) 1 B3 L = _ from n1, zM_begins_7_q, q1, zbv_s]; rfl
end BG
