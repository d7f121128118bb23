/-! ===== class and model answer alike: knows, begins ===== -/
section KN
variable {a b d n p : Nat} {A A' A0 B B0 v w : zA} {L M : zL} {x : Int32}
/-- the model's world is as it was, its other lasting cells are -/
theorem RR_mw {a' : Nat} (h : RR a A) (hv : zv A = v) (hc : ∀ c, (c < 51 ∨ (54 < c ∧ c < 63) ∨ c = 64 ∨ c = 74 ∨ c = 92) → A' c = A c) (hw : zmw A' v) (h63 : ∀ i, (i = 26 ∨ i = 30 ∨ i = 33 ∨ i = 45) → A' 63 i = A 63 i) (h81 : ∀ j, j < 200 → A' 81 j = A 81 j) (hO : ∃ b, b ≤ a' ∧ zOld A' b) : RR a' A' := by
  have hv' : zv A' = v := (zv_of (fun c hc' => hc c (by omega))).trans hv
  have ho := h.ok
  rw [hv] at ho
  exact RR_w h ⟨hc 0 (by omega), fun c a b => hc c (by omega), hc 61 (by omega), hc 62 (by omega), hc 64 (by omega), hc 74 (by omega), h63, h81, hc 92 (by omega)⟩ (by rw [hv']; exact ho) (by rw [hv']; exact hw) hO
/-- both keep the model's world in a try -/
theorem mKeepTry (hw : zmw A0 v) : ∃ A', zM_passesAll (d + 1) 1 1 A0 L = some (none, A', L) ∧ zKp (A' 81) 200 v ∧ (∀ c, c ≠ 63 → c ≠ 81 → A' c = A0 c) ∧ (∀ i, i ≠ 31 → i ≠ 32 → A' 63 i = A0 63 i) ∧ (∀ j, j < 200 → A' 81 j = A0 81 j) ∧ zmw A' v := by
  obtain ⟨A', e1, e2⟩ := mKeepAll (d := d) (A0 := A0) (L := L) (k := 1) (by omega)
  have hk := zKp_ke e2 hw
  obtain ⟨k1, k2, -, -, k5, -⟩ := e2
  exact ⟨A', e1, hk, k1, k2, fun j hj => k5 j (Or.inl hj), zmw_at hw (fun i a b => k2 i (by omega) (by omega)) (fun c a b => k1 c (by omega) (by omega))⟩
theorem mPutTry {K : Nat → Int32} (hw : zmw A v) (hK : zKp K 200 v) (hB81 : ∀ i, B 81 i = K i) (hrow : ∀ c, 65 ≤ c → c ≤ 73 → c ≠ 69 → c ≠ 72 → B c = A c) (h69 : ∀ i, 4 ≤ i → B 69 i = A 69 i) (h72 : ∀ i, 4 ≤ i → B 72 i = A 72 i) : ∃ B', zM_passesAll (d + 1) 1 0 B L = some (none, B', L) ∧ (∀ x, (x < 63 ∨ x = 64 ∨ 73 < x) → B' x = B x) ∧ (∀ i, (i < 10 ∨ 18 < i) → i ≠ 31 → i ≠ 32 → B' 63 i = B 63 i) ∧ zmw B' v := by
  obtain ⟨B', m1, m2, r65, r66, r67, r68, r69, r70, r71, r72, r73, f10, f11, f12, f13, f14, f15, f16, f17, f18, m3⟩ := mPutAll (d := d) (A0 := B) (L := L) (k := 1) (by omega)
  obtain ⟨w65, w66, w67, w68, w69, w70, w71, w72, w73, -⟩ := hw
  exact ⟨B', m1, m2, m3, zmw_put (k := 1) (K := K) (B := B) hK (fun i => (hB81 i).symm) (fun i _ => by rw [hrow 65 (by decide) (by decide) (by decide) (by decide), w65]) (fun i _ => by rw [hrow 66 (by decide) (by decide) (by decide) (by decide), w66]) (fun i _ => by rw [hrow 67 (by decide) (by decide) (by decide) (by decide), w67]) (fun i _ => by rw [hrow 68 (by decide) (by decide) (by decide) (by decide), w68]) (fun i hi => by rw [h69 i hi, w69]) (fun i _ => by rw [hrow 70 (by decide) (by decide) (by decide) (by decide), w70]) (fun i _ => by rw [hrow 71 (by decide) (by decide) (by decide) (by decide), w71]) (fun i hi => by rw [h72 i hi, w72]) (fun i _ => by rw [hrow 73 (by decide) (by decide) (by decide) (by decide), w73]) r65 r66 r67 r68 r69 r70 r71 r72 r73 f10 f11 f12 f13 f14 f15 f16 f17 f18⟩
/-- the world of the seeing -/
def vKn (v : zA) : zA := fun c => if c = 10 then (fun j => if j < vP v ∧ v 10 j = nI 4 then nI 0 else v 10 j) else v c
theorem Ok_kn (ho : Ok v) : Ok (vKn v) := by
  have e : ∀ c, c ≠ 10 → vKn v c = v c := fun c h => if_neg h
  refine Ok_people (v := v) (fun c hc => e c (by omega)) (fun p hp => ?_) (by rw [e 12 (by decide)]; exact ho.ww) (by rw [e 13 (by decide)]; exact ho.t4) (by rw [e 13 (by decide)]; exact ho.tP) (by rw [e 13 (by decide)]; exact ho.tI) ho
  rw [e 11 (by decide)]
  refine ⟨?_, (ho.pp p hp).2⟩
  show zIs 7 (if p < vP v ∧ v 10 p = nI 4 then nI 0 else v 10 p)
  split
  · exact zIs_n (by omega)
  · exact (ho.pp p hp).1
theorem vP_kn : vP (vKn v) = vP v := by
  unfold vP vKn
  rw [if_neg (by decide)]
theorem cKindAt (h9 : A 9 4 = nI (vP v)) (h5 : vP v < 5) (hn : n < vP v) : zP_kindOf (d + 1) (nI n) A L = some (some (.int (A 10 n)), A, L) := by
  rw [zP_kindOf_q, zP_has_q, if_neg (nI_pos (by omega)), h9, if_neg (nI_ge hn (by omega)), if_neg (nI_g4 (by omega)), zP_has_2_q, zcb_1, zbi_s, if_neg (by decide), zck_n (by omega) (by decide), zP_kindOf_2_q, nI_clamp (by omega)]
theorem cPutKindAt (h9 : A 9 4 = nI (vP v)) (h5 : vP v < 5) (hn : n < vP v) : zP_putKind (d + 1) (nI n) x A L = some (none, zput A 10 n x, L) := by
  rw [zP_putKind_q, zP_has_q, if_neg (nI_pos (by omega)), h9, if_neg (nI_ge hn (by omega)), if_neg (nI_g4 (by omega)), zP_has_2_q, zcb_1, zbi_s, if_neg (by decide), zck_n (by omega) (by decide), nI_clamp (by omega), zP_putKind_1_q]
def vBl (v : zA) (j : Nat) : Bool := decide (v 10 j = nI 4)
theorem cSight1 {now : Int32} (ho : Ok v) : ∀ q i A, i + q = vP v → (∀ c, c ≠ 10 → A c = A0 c) → A0 9 4 = nI (vP v) → (∀ j, A 10 j = if j < i ∧ v 10 j = nI 4 then nI 0 else v 10 j) →
    ∃ A', zB_gainOfSight_1 (d + 2) (nI p) now (nI (zmsk (vBl v) i)) (nI i) A L = zB_gainOfSight_3 (d + 2) (nI p) now (nI (zmsk (vBl v) (vP v))) A' L ∧ (∀ c, c ≠ 10 → A' c = A0 c) ∧ ∀ j, A' 10 j = if j < vP v ∧ v 10 j = nI 4 then nI 0 else v 10 j := by
  have h5 := ho.P.2
  intro q
  induction q with
  | zero =>
    intro i A hi hc h9 h10
    have e : i = vP v := by omega
    subst e
    refine ⟨A, ?_, hc, h10⟩
    rw [zB_gainOfSight_1_q, hc 9 (by decide), h9, if_pos (nI_le (by omega) (by omega))]
  | succ q ih =>
    intro i A hi hc h9 h10
    have hm : zmsk (vBl v) (i + 1) = zmsk (vBl v) i ||| (if vBl v i then 2 ^ i else 0) := rfl
    have hk := cKindAt (A := A) (L := L) (d := d) (v := v) (n := i) (by rw [hc 9 (by decide)]; exact h9) h5 (by omega)
    have hAi : A 10 i = v 10 i := by rw [h10 i, if_neg (by omega)]
    rw [zB_gainOfSight_1_q, hc 9 (by decide), h9, if_neg (nI_ge (by omega) (by omega)), hk, zbi_s, hAi]
    by_cases h4 : v 10 i = nI 4
    · obtain ⟨A', e1, e2, e3⟩ := ih (i + 1) (zput A 10 i (nI 0)) (by omega) (fun c hc' => by rw [zput_o hc', hc c hc']) h9 (fun j => by
        rw [zput_s]
        by_cases e : j = i
        · rw [e, upd_s, if_pos ⟨by omega, h4⟩]
        · rw [upd_o e, h10 j]
          by_cases hj : j < i ∧ v 10 j = nI 4
          · rw [if_pos hj, if_pos ⟨by omega, hj.2⟩]
          · rw [if_neg hj, if_neg (fun hh => hj ⟨by omega, hh.2⟩)])
      refine ⟨A', ?_, e2, e3⟩
      rw [hm, show vBl v i = true from decide_eq_true h4, ite_tt] at e1
      rw [if_pos (show v 10 i = 4 from h4), show (0 : Int32) = nI 0 from rfl, cPutKindAt (v := v) (by rw [hc 9 (by decide)]; exact h9) h5 (by omega), zbv_s, zB_gainOfSight_2_q, zpow (by omega), nI_or, nI_1]
      exact e1
    · obtain ⟨A', e1, e2, e3⟩ := ih (i + 1) A (by omega) hc h9 (fun j => by
        rw [h10 j]
        by_cases e : j = i
        · rw [e, if_neg (by omega), if_neg (fun hh => h4 hh.2)]
        · by_cases hj : j < i ∧ v 10 j = nI 4
          · rw [if_pos hj, if_pos ⟨by omega, hj.2⟩]
          · rw [if_neg hj, if_neg (fun hh => hj ⟨by omega, hh.2⟩)])
      refine ⟨A', ?_, e2, e3⟩
      rw [hm, show vBl v i = false from decide_eq_false h4, ite_ft, Nat.or_zero] at e1
      rw [if_neg (show ¬ v 10 i = 4 from h4), zB_gainOfSight_2_q, nI_1]
      exact e1
theorem cSight4 {now then_ : Int32} (ho : Ok v) : ∀ q i A, i + q = vP v → (∀ c, c ≠ 10 → A c = A0 c) → A0 9 4 = nI (vP v) → (∀ j, A 10 j = if i ≤ j ∧ j < vP v ∧ v 10 j = nI 4 then nI 0 else v 10 j) →
    ∃ A', zB_gainOfSight_4 (d + 2) now (nI (zmsk (vBl v) (vP v))) then_ (nI i) A L = some (some (.int (then_ - now)), A', L) ∧ (∀ c, c ≠ 10 → A' c = A0 c) ∧ A' 10 = v 10 := by
  have h5 := ho.P.2
  have hml := zmsk_lt (vBl v) (vP v)
  have hml' : zmsk (vBl v) (vP v) < 2 ^ 31 := Nat.lt_trans hml (Nat.pow_lt_pow_right (by omega) (by omega))
  intro q
  induction q with
  | zero =>
    intro i A hi hc h9 h10
    have e : i = vP v := by omega
    subst e
    refine ⟨A, ?_, hc, by funext j; rw [h10 j, if_neg (by omega)]⟩
    rw [zB_gainOfSight_4_q, hc 9 (by decide), h9, if_pos (nI_le (by omega) (by omega)), zB_gainOfSight_6_q]
  | succ q ih =>
    intro i A hi hc h9 h10
    have hb : (zmsk (vBl v) (vP v)).testBit i = vBl v i := by rw [zmsk_bit, decide_eq_true (by omega), Bool.true_and]
    rw [zB_gainOfSight_4_q, hc 9 (by decide), h9, if_neg (nI_ge (by omega) (by omega)), zifc (zbit0 hml' (by omega)), hb]
    by_cases h4 : v 10 i = nI 4
    · obtain ⟨A', e1, e2, e3⟩ := ih (i + 1) (zput A 10 i (nI 4)) (by omega) (fun c hc' => by rw [zput_o hc', hc c hc']) h9 (fun j => by
        rw [zput_s]
        by_cases e : j = i
        · rw [e, upd_s, if_neg (by omega), h4]
        · rw [upd_o e, h10 j]
          by_cases hj : i ≤ j ∧ j < vP v ∧ v 10 j = nI 4
          · rw [if_pos hj, if_pos ⟨by omega, hj.2⟩]
          · rw [if_neg hj, if_neg (fun hh => hj ⟨by omega, hh.2⟩)])
      refine ⟨A', ?_, e2, e3⟩
      rw [show vBl v i = true from decide_eq_true h4, if_neg (by decide), show (4 : Int32) = nI 4 from rfl, cPutKindAt (v := v) (by rw [hc 9 (by decide)]; exact h9) h5 (by omega), zbv_s, zB_gainOfSight_5_q, nI_1]
      exact e1
    · obtain ⟨A', e1, e2, e3⟩ := ih (i + 1) A (by omega) hc h9 (fun j => by
        rw [h10 j]
        by_cases e : j = i
        · rw [e, if_neg (fun hh => h4 hh.2.2), if_neg (by omega)]
        · by_cases hj : i ≤ j ∧ j < vP v ∧ v 10 j = nI 4
          · rw [if_pos hj, if_pos ⟨by omega, hj.2⟩]
          · rw [if_neg hj, if_neg (fun hh => hj ⟨by omega, hh.2⟩)])
      refine ⟨A', ?_, e2, e3⟩
      rw [show vBl v i = false from decide_eq_false h4, if_pos rfl, zB_gainOfSight_5_q, nI_1]
      exact e1
theorem cGainOfSight (ho : Ok v) (hv : zv A = v) (hp : p < vP v) (hO : zOld A b) (hb : b + 2 < 1048576) : ∃ A', zB_gainOfSight (d + 62) (nI p) A L = some (some (.int (vF (vKn v) p - vF v p)), A', L) ∧ (∀ c, (c < 51 ∨ 54 < c) → A' c = A c) ∧ zOld A' (b + 2) := by
  have h5 := ho.P
  obtain ⟨A1, e1, e2, -, e4⟩ := cWorthFromBeginning (d := d + 1) (L := L) (p := p) ho hv hO (by omega) hp
  have h9 : A1 9 4 = nI (vP v) := by rw [e2 9 (by omega), zv_c hv 9 (by decide), h5.1]
  obtain ⟨A2, f1, f2, f3⟩ := cSight1 (d := d + 60) (L := L) (A0 := A1) (p := p) (now := vF v p) ho (vP v) 0 A1 (by omega) (fun _ _ => rfl) h9 (fun j => by rw [if_neg (by omega), e2 10 (by omega), zv_c hv 10 (by decide)])
  have hv2 : zv A2 = vKn v := by
    funext c
    unfold vKn
    by_cases e : c = 10
    · subst e; rw [if_pos rfl, zv_at (by decide)]; funext j; exact f3 j
    · rw [if_neg e, ← hv]
      unfold zv
      split
      · rw [f2 c e, e2 c (by omega)]
      · rfl
  have hO2 : zOld A2 (b + 1) := zOld_of e4.old (by rw [f2 51 (by decide)]) (f2 52 (by decide)) (f2 53 (by decide))
  obtain ⟨A3, g1, g2, -, g4⟩ := cWorthFromBeginning (d := d + 1) (L := L) (p := p) (Ok_kn ho) hv2 hO2 (by omega) (by rw [vP_kn]; exact hp)
  have h9' : A3 9 4 = nI (vP v) := by rw [g2 9 (by omega), f2 9 (by decide), h9]
  obtain ⟨A4, k1, k2, k3⟩ := cSight4 (d := d + 60) (L := L) (A0 := A3) (now := vF v p) (then_ := vF (vKn v) p) ho (vP v) 0 A3 (by omega) (fun _ _ => rfl) h9' (fun j => by
    rw [g2 10 (by omega), f3 j]
    by_cases hj : j < vP v ∧ v 10 j = nI 4
    · rw [if_pos hj, if_pos ⟨by omega, hj⟩]
    · rw [if_neg hj, if_neg (fun hh => hj hh.2)])
  refine ⟨A4, ?_, fun c hc => ?_, zOld_of g4.old (by rw [k2 51 (by decide)]) (k2 52 (by decide)) (k2 53 (by decide))⟩
  · have e1' : zD_worthFromBeginning (d + 61) (nI p) A L = some (some (.int (vF v p)), A1, L) := e1
    have g1' : zD_worthFromBeginning (d + 61) (nI p) A2 L = some (some (.int (vF (vKn v) p)), A3, L) := g1
    have f1' : zB_gainOfSight_1 (d + 62) (nI p) (vF v p) 0 0 A1 L = zB_gainOfSight_3 (d + 62) (nI p) (vF v p) (nI (zmsk (vBl v) (vP v))) A2 L := f1
    rw [zB_gainOfSight_q, e1', zbi_s, f1', zB_gainOfSight_3_q, g1', zbi_s]
    exact k1
  · by_cases e : c = 10
    · rw [e, k3, zv_c hv 10 (by decide)]
    · rw [k2 c e, g2 c hc, f2 c e, e2 c hc]
theorem mKnows2 {now : Int32} (ho : Ok v) : ∀ q i B, i + q = vP v → (∀ c, c ≠ 69 → B c = B0 c) → B0 63 12 = nI (vP v) → (∀ j, B 69 j = if j < i ∧ v 10 j = nI 4 then nI 0 else v 10 j) →
    ∃ B', zM_knows_2 d (nI p) now (nI i) B M = zM_knows_5 d (nI p) now B' M ∧ (∀ c, c ≠ 69 → B' c = B0 c) ∧ ∀ j, B' 69 j = if j < vP v ∧ v 10 j = nI 4 then nI 0 else v 10 j := by
  have h5 := ho.P.2
  intro q
  induction q with
  | zero =>
    intro i B hi hc h12 h69
    have e : i = vP v := by omega
    subst e
    refine ⟨B, ?_, hc, h69⟩
    rw [zM_knows_2_q, hc 63 (by decide), h12, if_pos (nI_le (by omega) (by omega))]
  | succ q ih =>
    intro i B hi hc h12 h69
    have hBi : B 69 i = v 10 i := by rw [h69 i, if_neg (by omega)]
    have h4 : ∀ x, x = (if v 10 i = nI 4 then nI 0 else v 10 i) → ∃ B', zM_knows_4 d (nI p) now (nI i) (nI i) x B M = zM_knows_5 d (nI p) now B' M ∧ (∀ c, c ≠ 69 → B' c = B0 c) ∧ ∀ j, B' 69 j = if j < vP v ∧ v 10 j = nI 4 then nI 0 else v 10 j := by
      intro x hx
      obtain ⟨B', e1, e2, e3⟩ := ih (i + 1) (zput B 69 i x) (by omega) (fun c hc' => by rw [zput_o hc', hc c hc']) h12 (fun j => by
        rw [zput_s]
        by_cases e : j = i
        · rw [e, upd_s, hx]
          by_cases h : v 10 i = nI 4
          · rw [if_pos h, if_pos ⟨by omega, h⟩]
          · rw [if_neg h, if_neg (fun hh => h hh.2)]
        · rw [upd_o e, h69 j]
          by_cases hj : j < i ∧ v 10 j = nI 4
          · rw [if_pos hj, if_pos ⟨by omega, hj.2⟩]
          · rw [if_neg hj, if_neg (fun hh => hj ⟨by omega, hh.2⟩)])
      refine ⟨B', ?_, e2, e3⟩
      rw [zM_knows_4_q, zck_n (by omega) (by decide), nI_clamp (by omega), nI_1]
      exact e1
    rw [zM_knows_2_q, hc 63 (by decide), h12, if_neg (nI_ge (by omega) (by omega)), zck_n (by omega) (by decide), nI_clamp (by omega), hBi]
    by_cases h : v 10 i = nI 4
    · rw [if_pos (show v 10 i = 4 from h)]
      exact h4 0 (by rw [if_pos h]; rfl)
    · rw [if_neg (show ¬ v 10 i = 4 from h), zM_knows_3_q, zck_n (by omega) (by decide), nI_clamp (by omega), hBi]
      exact h4 _ (by rw [if_neg h])
theorem zP_knows (x : Int32) : zPr (zX_knows (d + 70) x) (zM_knows (d + 70) x) := by
  intro a A L h ha
  obtain ⟨v, hv⟩ : ∃ v, zv A = v := ⟨_, rfl⟩
  have ho := h.ok
  have hw := h.mw
  have hg := h.gone
  rw [hv] at ho hw
  have h5 := ho.P
  rcases zOne ho x with hx | ⟨p, hp, rfl⟩
  · exact zPr_low (zNo1 h) (fun A1 n1 => by rw [zX_knows_q, cNobody1 hv hx, zbi_s, if_neg (by decide), cWorthRef n1, zbi_s, zX_knows_2_q]) (fun A1 A2 n3 n4 => by rw [zM_knows_q, mOne0 (zmw62 hw n4) hx, zbi_s, if_pos rfl, n3, zbi_s])
  obtain ⟨b, x1, x2⟩ := h.old
  obtain ⟨A1, c1, c2, c3⟩ := cGainOfSight (d := d + 7) (L := L) ho hv hp x2 (by omega)
  have hw1 : zmw A1 v := zmw_of hw (fun c h1 h2 => c2 c (by omega))
  have hg1 : A1 63 33 = 0 := by rw [c2 63 (by omega)]; exact hg
  obtain ⟨B1, m1, m2⟩ := mFromStart (d := d + 60) (M := L) (B := A1) ho hw1 hg1 hp
  have hwB1 : zmw B1 v := zmw_of hw1 (fun c h1 h2 => m2 c (by omega))
  obtain ⟨B2, k1, k2, k3, k4, k5, k6⟩ := mKeepTry (d := d + 68) (A0 := B1) (L := L) hwB1
  have w69 : B2 69 = v 10 := k6.2.2.2.2.1
  have w12 : B2 63 12 = nI (vP v) := by rw [k6.2.2.2.2.2.2.2.2.2.2.2.1, h5.1]
  obtain ⟨B3, l1, l2, l3⟩ := mKnows2 (d := d + 70) (M := L) (B0 := B2) (p := p) (now := vF v p) ho (vP v) 0 B2 (by omega) (fun _ _ => rfl) w12 (fun j => by rw [w69, if_neg (by omega)])
  have hkc : ∀ c, c ≠ 10 → vKn v c = v c := fun c hc => if_neg hc
  have hw3 : zmw B3 (vKn v) := by
    have hk6 := k6
    obtain ⟨-, -, -, -, -, w70, w71, w72, -⟩ := hk6
    refine zmw_people k6 (fun i _ _ => by rw [l2 63 (by decide)]) (fun c hc => l2 c (by omega)) (fun c hc => hkc c (by omega)) ?_ ?_ ?_ ?_
    · funext j; exact l3 j
    · rw [l2 70 (by decide), hkc 11 (by decide), w70]
    · rw [l2 71 (by decide), hkc 12 (by decide), w71]
    · rw [l2 72 (by decide), hkc 13 (by decide), w72]
  have hg3 : B3 63 33 = 0 := by rw [l2 63 (by decide), k4 33 (by decide) (by decide), m2 63 (by omega)]; exact hg1
  obtain ⟨B4, n1, n2⟩ := mFromStart (d := d + 60) (M := L) (B := B3) (Ok_kn ho) hw3 hg3 (by rw [vP_kn]; exact hp)
  obtain ⟨B5, q1, q2, q3, q4⟩ := mPutTry (d := d + 68) (L := L) (A := B2) (B := B4) k6 k2 (fun i => by rw [n2 81 (by omega), l2 81 (by decide)]) (fun c a1 a2 a3 a4 => by rw [n2 c (by omega), l2 c a3]) (fun i hi => by rw [n2 69 (by omega), l3 i, w69, if_neg (by omega)]) (fun i hi => by rw [n2 72 (by omega), l2 72 (by decide)])
  have hcc : ∀ c, (c < 63 ∨ c = 64 ∨ (73 < c ∧ c < 81) ∨ 88 < c) → B5 c = A1 c := fun c hc => by rw [q2 c (by omega), n2 c (by omega), l2 c (by omega), k3 c (by omega) (by omega), m2 c (by omega)]
  refine ⟨vF (vKn v) p - vF v p, A1, L, B5, L, ?_, ?_, RR_mw h hv (fun c hc => by rw [hcc c (by omega), c2 c (by omega)]) q4 (fun i hi => by rw [q3 i (by omega) (by omega) (by omega), n2 63 (by omega), l2 63 (by decide), k4 i (by omega) (by omega), m2 63 (by omega), c2 63 (by omega)]) (fun j hj => by rw [q2 81 (by omega), n2 81 (by omega), l2 81 (by decide), k5 j hj, m2 81 (by omega), c2 81 (by omega)]) ⟨b + 2, by omega, zOld_of c3 (by rw [hcc 51 (by omega)]) (hcc 52 (by omega)) (hcc 53 (by omega))⟩⟩
  · rw [zX_knows_q, cNobody0 ho hv hp, zbi_s, if_pos rfl, zX_knows_1_q, c1, zbi_s, zX_knows_2_q]
  · rw [zM_knows_q, mOne1 ho hw1 hp, zbi_s, if_neg (by decide), zM_knows_1_q, m1, zbi_s, k1, zbv_s]
    rw [show zM_knows_2 (d + 69 + 1) (nI p) (vF v p) 0 B2 L = _ from l1, zM_knows_5_q, n1, zbi_s, q1, zbv_s]
end KN
