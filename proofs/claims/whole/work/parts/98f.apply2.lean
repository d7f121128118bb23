/-! ===== statements applied: an end, a person, a worth, the length ===== -/
/-- the places that a world has -/
def zPl (c j : Nat) : Prop := ((c = 3 ∨ c = 4 ∨ c = 5 ∨ c = 6 ∨ c = 12) ∧ j < 24) ∨ (c = 7 ∧ j < 64) ∨ ((c = 8 ∨ c = 15) ∧ j < 8) ∨ ((c = 10 ∨ c = 11 ∨ c = 13) ∧ j < 4) ∨ (c = 16 ∧ j < 9) ∨ (c = 2 ∧ (j = 6 ∨ j = 7)) ∨ (c = 9 ∧ j = 4) ∨ (c = 1 ∧ (j = 3 ∨ j = 4)) ∨ (c = 14 ∧ (j = 2 ∨ j = 3))
theorem zSm_pl {v w : zA} : zSm v w ↔ ∀ c j, zPl c j → w c j = v c j := by
  unfold zSm zPl
  constructor
  · rintro ⟨h3, h7, h8, h10, h16, e26, e27, e94, e13, e14, e142, e143⟩ c j h
    rcases h with ⟨h, hj⟩ | ⟨h, hj⟩ | ⟨h, hj⟩ | ⟨h, hj⟩ | ⟨h, hj⟩ | ⟨h, hj⟩ | ⟨h, hj⟩ | ⟨h, hj⟩ | ⟨h, hj⟩
    · rcases h with rfl | rfl | rfl | rfl | rfl
      · exact (h3 j hj).1
      · exact (h3 j hj).2.1
      · exact (h3 j hj).2.2.1
      · exact (h3 j hj).2.2.2.1
      · exact (h3 j hj).2.2.2.2
    · subst h; exact h7 j hj
    · rcases h with rfl | rfl
      · exact (h8 j hj).1
      · exact (h8 j hj).2
    · rcases h with rfl | rfl | rfl
      · exact (h10 j hj).1
      · exact (h10 j hj).2.1
      · exact (h10 j hj).2.2
    · subst h; exact h16 j hj
    · subst h
      rcases hj with rfl | rfl
      · exact e26
      · exact e27
    · subst h; subst hj; exact e94
    · subst h
      rcases hj with rfl | rfl
      · exact e13
      · exact e14
    · subst h
      rcases hj with rfl | rfl
      · exact e142
      · exact e143
  · intro h
    exact ⟨fun j hj => ⟨h 3 j (by omega), h 4 j (by omega), h 5 j (by omega), h 6 j (by omega), h 12 j (by omega)⟩, fun j hj => h 7 j (by omega), fun j hj => ⟨h 8 j (by omega), h 15 j (by omega)⟩, fun j hj => ⟨h 10 j (by omega), h 11 j (by omega), h 13 j (by omega)⟩, fun j hj => h 16 j (by omega), h 2 6 (by omega), h 2 7 (by omega), h 9 4 (by omega), h 1 3 (by omega), h 1 4 (by omega), h 14 2 (by omega), h 14 3 (by omega)⟩
theorem zPl_le {c j : Nat} (h : zPl c j) : 1 ≤ c ∧ c ≤ 16 := by unfold zPl at h; omega
/-- the trial world is the same, but for what is told -/
theorem zSm_ch {w w' A A' : zA} (hC : zSm w (zvt A)) (h : ∀ c j, zPl c j → A' (c + 34) j = w' c j ∨ (A' (c + 34) j = A (c + 34) j ∧ w' c j = w c j)) : zSm w' (zvt A') := by
  rw [zSm_pl] at *
  intro c j hp
  have hl := (zPl_le hp).2
  rw [zvt_c hl]
  rcases h c j hp with h | ⟨h1, h2⟩
  · exact h
  · have := hC c j hp
    rw [zvt_c hl] at this
    rw [h1, h2, this]
section AQ
variable {d n a b k s t u p : Nat} {A A' A0 B v w : zA} {L M : zL} {T : Nat → Int32} {x m : Int32}
/-- a world with an end more -/
def vAe (w : zA) (s : Nat) : zA := fun c => if c = 2 then upd (w 2) 7 (nI ((w 2 7).toNatClampNeg ||| 2 ^ s)) else w c
theorem vAe_o {c : Nat} (h : c ≠ 2) : vAe w s c = w c := if_neg h
theorem vAe_2 : vAe w s 2 = upd (w 2) 7 (nI ((w 2 7).toNatClampNeg ||| 2 ^ s)) := rfl
theorem Ok_ae (ho : Ok w) (h0 : vSz w = 0) (hs : s < 8) : Ok (vAe w s) := by
  have ho' := ho
  obtain ⟨o1, o2, o3, o4, o5, o6, o7, o8, o9, o10, o11, o12, o13, o14, o15, o16, o17, o18, o19, o20, o21⟩ := ho'
  have e := fun c (h : c ≠ 2) => vAe_o (w := w) (s := s) h
  have hR : vR (vAe w s) = vR w := by unfold vR; rw [vAe_2, upd_o (by decide)]
  have hP : vP (vAe w s) = vP w := by unfold vP; rw [e 9 (by decide)]
  have hW : ∀ s', vWf (vAe w s) s' = vWf w s' := fun s' => by unfold vWf; rw [e 8 (by decide)]
  have hU : ∀ s' t', vRu (vAe w s) s' t' = vRu w s' t' := fun s' t' => by unfold vRu; rw [e 7 (by decide)]
  refine ⟨by rw [vAe_2, upd_o (by decide)]; exact o1, by rw [vAe_2, upd_s]; exact zIs_n (Nat.or_lt_two_pow (n := 8) ho.ends.2 (Nat.pow_lt_pow_right (by omega) hs)), by rw [e 3 (by decide), e 4 (by decide), e 5 (by decide), e 6 (by decide)]; exact o3, by rw [hR, e 3 (by decide), e 4 (by decide)]; exact o4, by rw [e 7 (by decide)]; exact o5, by rw [e 8 (by decide)]; exact o6, fun s' t' hs' ht' => by rw [hW, hU, hR, e 3 (by decide), e 4 (by decide)]; exact o7 s' t' hs' ht', by rw [hR, e 3 (by decide), e 4 (by decide), e 7 (by decide)]; exact o8, by rw [e 9 (by decide)]; exact o9, by rw [e 10 (by decide), e 11 (by decide)]; exact o10, by rw [e 12 (by decide)]; exact o11, by rw [e 13 (by decide)]; exact o12, by rw [hP, e 13 (by decide)]; exact o13, by rw [hP, e 13 (by decide)]; exact o14, by rw [e 1 (by decide)]; exact o15, by unfold vLen; rw [e 1 (by decide)]; exact o16, by rw [e 1 (by decide)]; exact o17, by rw [e 14 (by decide)]; exact o18, by rw [e 14 (by decide)]; exact o19, by rw [e 16 (by decide)]; exact o20, fun i hi => ?_⟩
  have e2 : vSz (vAe w s) = vSz w := by unfold vSz; rw [e 14 (by decide)]
  omega
theorem zIsSt (hs : s < 10) : zG_isState d (nI s) A L = some (some (.int (if s < 8 then 1 else 0)), A, L) := by
  by_cases h : s < 8
  · rw [cIsState h, if_pos h]
  · rw [zG_isState_q, if_neg (nI_pos (by omega)), if_pos (show (8 : Int32) ≤ nI s from by rw [show (8 : Int32) = nI 8 from rfl]; exact nI_le (by omega) (by omega)), zG_isState_1_q, zG_isState_2_q, zcb_0, if_neg h]
theorem cAddEnd (ho : Ok w) (hC : zSm w (zvt A)) (hs : s < 10) : (s < 8 ∧ vEn w s = false → ∃ A', zGt_addEnd (d + 2) (nI s) A L = some (some (.int 1), A', L) ∧ zSm (vAe w s) (zvt A') ∧ (∀ c, (c < 35 ∨ 50 < c) → A' c = A c)) ∧ (¬ (s < 8 ∧ vEn w s = false) → zGt_addEnd (d + 2) (nI s) A L = some (some (.int 0), A, L)) := by
  have hE := ho.ends
  have r36 : A 36 7 = nI (w 2 7).toNatClampNeg := by
    have := (zSm_pl.mp hC) 2 7 (by unfold zPl; omega)
    rw [zvt_c (by decide)] at this
    exact this.trans hE.1
  have hen : s < 8 → zGt_isEnd (d + 1) (nI s) A L = some (some (.int (if vEn w s then 1 else 0)), A, L) := fun c1 => by
    rw [zGt_isEnd_q, zIsSt hs, if_pos c1, zbi_s, if_neg (by decide), r36, zifc (zbit0 (by omega) (by omega))]
    unfold vEn
    cases (w 2 7).toNatClampNeg.testBit s
    · rw [if_pos rfl, zGt_isEnd_1_q, zGt_isEnd_2_q, zcb_0, ite_ft]
    · rw [if_neg (by decide), zGt_isEnd_2_q, zcb_1, ite_tt]
  refine ⟨fun ⟨c1, c2⟩ => ?_, fun h => ?_⟩
  · refine ⟨zput A 36 7 (nI ((w 2 7).toNatClampNeg ||| 2 ^ s)), ?_, zSm_ch hC (fun c j hp => ?_), fun c hc => zput_o (by omega)⟩
    · rw [zGt_addEnd_q, zIsSt hs, if_pos c1, zbi_s, if_neg (by decide), hen c1, c2, ite_ft, zbi_s, if_pos rfl, zGt_addEnd_2_q, r36, zpow (by omega), nI_or, zcb_1]
    · by_cases e : c = 2
      · subst e
        by_cases ej : j = 7
        · subst ej; left; rw [zput_s, upd_s, vAe_2, upd_s]
        · right; exact ⟨by rw [zput_s, upd_o ej], by rw [vAe_2, upd_o ej]⟩
      · right; exact ⟨by rw [zput_o (by omega)], by rw [vAe_o e]⟩
  · by_cases c1 : s < 8
    · have c2 : vEn w s = true := by
        cases hb : vEn w s
        · exact absurd ⟨c1, hb⟩ h
        · rfl
      rw [zGt_addEnd_q, zIsSt hs, if_pos c1, zbi_s, if_neg (by decide), hen c1, c2, ite_tt, zbi_s, if_neg (by decide), zGt_addEnd_1_q, zcb_0]
    · rw [zGt_addEnd_q, zIsSt hs, if_neg c1, zbi_s, if_pos rfl, zGt_addEnd_1_q, zcb_0]
theorem mAddEnd (ho : Ok w) (hw : zmw B w) (hs : s < 10) : (s < 8 ∧ vEn w s = false → ∃ B', zM_comes_6 (d + 1) (nI s) B M = some (some (.int 1), B', M) ∧ zmw B' (vAe w s) ∧ (∀ c, c ≠ 63 → B' c = B c) ∧ (∀ i, i ≠ 11 → B' 63 i = B 63 i)) ∧ (¬ (s < 8 ∧ vEn w s = false) → zM_comes_6 (d + 1) (nI s) B M = some (some (.int 0), B, M)) := by
  have hE := ho.ends
  have hw' := hw
  obtain ⟨w65, w66, w67, w68, w69, w70, w71, w72, w73, w10, w11, w12, w13, w14, w15, w18, w16, w17⟩ := hw'
  have hgo : zM_comes_6 (d + 1) (nI s) B M = if 7 < s then some (some (.int 0), B, M) else zbi (zM_isEnd d (nI s) B M) (fun r1 A1 L1 => if r1 = 0 then zM_comes_8 (d + 1) (nI s) A1 L1 else zM_comes_7 (d + 1) A1 L1) := by
    rw [zM_comes_6_q, show (7 : Int32) = nI 7 from rfl, zifi (nI_ltI (by omega) (by omega)), zM_comes_7_q, zcb_0]
  refine ⟨fun ⟨c1, c2⟩ => ?_, fun h => ?_⟩
  · have hvS : vSt (vAe w s) = vSt w ∧ vMe (vAe w s) = vMe w := vSt_of (vAe_o (by decide)) (vAe_o (by decide))
    have e := fun c (h : c ≠ 2) => vAe_o (w := w) (s := s) h
    obtain ⟨X, hX⟩ : ∃ X, X = zput B 63 11 (nI ((w 2 7).toNatClampNeg ||| 2 ^ s)) := ⟨_, rfl⟩
    have xo : ∀ c, c ≠ 63 → X c = B c := fun c h1 => by rw [hX, zput_o h1]
    have x63 : X 63 = upd (B 63) 11 (nI ((w 2 7).toNatClampNeg ||| 2 ^ s)) := by rw [hX, zput_s]
    refine ⟨X, ?_, ⟨by rw [xo 65 (by decide), e 3 (by decide), w65], by rw [xo 66 (by decide), e 4 (by decide), w66], by rw [xo 67 (by decide), e 5 (by decide), w67], by rw [xo 68 (by decide), e 6 (by decide), w68], by rw [xo 69 (by decide), e 10 (by decide), w69], by rw [xo 70 (by decide), e 11 (by decide), w70], by rw [xo 71 (by decide), e 12 (by decide), w71], by rw [xo 72 (by decide), e 13 (by decide), w72], by rw [xo 73 (by decide), e 15 (by decide), w73], by rw [x63, upd_o (by decide), vAe_2, upd_o (by decide), w10], by rw [x63, upd_s, vAe_2, upd_s], by rw [x63, upd_o (by decide), e 9 (by decide), w12], by rw [x63, upd_o (by decide), e 1 (by decide), w13], by rw [x63, upd_o (by decide), e 1 (by decide), w14], by rw [x63, upd_o (by decide), e 14 (by decide), w15], by rw [x63, upd_o (by decide), e 14 (by decide), w18], by rw [x63, upd_o (by decide), hvS.1, w16], by rw [x63, upd_o (by decide), hvS.2, w17]⟩, xo, fun i hi => by rw [x63, upd_o hi]⟩
    rw [hgo, if_neg (by omega), mIsEnd ho hw c1, c2, ite_ft, zbi_s, if_pos rfl, zM_comes_8_q, w11, hE.1, zpow (by omega), nI_or, ← hX, zcb_1]
  · rw [hgo]
    by_cases c1 : 7 < s
    · rw [if_pos c1]
    · have c2 : vEn w s = true := by
        cases hb : vEn w s
        · exact absurd ⟨by omega, hb⟩ h
        · rfl
      rw [if_neg c1, mIsEnd ho hw (by omega), c2, ite_tt, zbi_s, if_neg (by decide), zM_comes_7_q, zcb_0]
/-- a world with one more in it -/
def vAp (w : zA) (s u : Nat) : zA := fun c => if c = 9 then upd (w 9) 4 (nI (vP w + 1)) else if c = 10 then upd (w 10) (vP w) (nI s) else if c = 11 then upd (w 11) (vP w) (nI u) else if c = 13 then upd (w 13) (vP w) (nI (vP w)) else if c = 12 then (fun j => if 6 * vP w ≤ j ∧ j < 6 * vP w + 6 then 0 else w 12 j) else w c
theorem vAp_9 : vAp w s u 9 = upd (w 9) 4 (nI (vP w + 1)) := rfl
theorem vAp_10 : vAp w s u 10 = upd (w 10) (vP w) (nI s) := rfl
theorem vAp_11 : vAp w s u 11 = upd (w 11) (vP w) (nI u) := rfl
theorem vAp_13 : vAp w s u 13 = upd (w 13) (vP w) (nI (vP w)) := rfl
theorem vAp_12 {j : Nat} : vAp w s u 12 j = if 6 * vP w ≤ j ∧ j < 6 * vP w + 6 then 0 else w 12 j := rfl
theorem vAp_o {c : Nat} (h : c < 9 ∨ 13 < c) : vAp w s u c = w c := by
  unfold vAp
  rw [if_neg (by omega), if_neg (by omega), if_neg (by omega), if_neg (by omega), if_neg (by omega)]
theorem Ok_ap (ho : Ok w) (h0 : vSz w = 0) (hs : s < 7) (hu : u < 256) (hP : vP w < 4) : Ok (vAp w s u) := by
  have ho' := ho
  obtain ⟨o1, o2, o3, o4, o5, o6, o7, o8, o9, o10, o11, o12, o13, o14, o15, o16, o17, o18, o19, o20, o21⟩ := ho'
  have e := fun c (h : c < 9 ∨ 13 < c) => vAp_o (w := w) (s := s) (u := u) h
  have hR : vR (vAp w s u) = vR w := by unfold vR; rw [e 2 (by decide)]
  have hPn : vP (vAp w s u) = vP w + 1 := by
    have h9 : vAp w s u 9 4 = nI (vP w + 1) := by rw [vAp_9, upd_s]
    unfold vP at h9 ⊢
    rw [h9, nI_clamp (by unfold vP at hP; omega)]
  have hW : ∀ s', vWf (vAp w s u) s' = vWf w s' := fun s' => by unfold vWf; rw [e 8 (by decide)]
  have hU : ∀ s' t', vRu (vAp w s u) s' t' = vRu w s' t' := fun s' t' => by unfold vRu; rw [e 7 (by decide)]
  refine ⟨by rw [e 2 (by decide)]; exact o1, by rw [e 2 (by decide)]; exact o2, by rw [e 3 (by decide), e 4 (by decide), e 5 (by decide), e 6 (by decide)]; exact o3, by rw [hR, e 3 (by decide), e 4 (by decide)]; exact o4, by rw [e 7 (by decide)]; exact o5, by rw [e 8 (by decide)]; exact o6, fun s' t' hs' ht' => by rw [hW, hU, hR, e 3 (by decide), e 4 (by decide)]; exact o7 s' t' hs' ht', by rw [hR, e 3 (by decide), e 4 (by decide), e 7 (by decide)]; exact o8, by rw [vAp_9, upd_s]; exact zIs_n (by omega), fun p hp => ⟨?_, ?_⟩, fun i hi => ?_, fun i hi => ?_, fun i hi => ?_, fun i j hi hj hij => ?_, by rw [e 1 (by decide)]; exact o15, by unfold vLen; rw [e 1 (by decide)]; exact o16, by rw [e 1 (by decide)]; exact o17, by rw [e 14 (by decide)]; exact o18, by rw [e 14 (by decide)]; exact o19, by rw [e 16 (by decide)]; exact o20, fun i hi => ?_⟩
  · rw [vAp_10]
    by_cases ep : p = vP w
    · rw [ep, upd_s]; exact zIs_n hs
    · rw [upd_o ep]; exact (o10 p hp).1
  · rw [vAp_11]
    by_cases ep : p = vP w
    · rw [ep, upd_s]; exact zIs_n hu
    · rw [upd_o ep]; exact (o10 p hp).2
  · rw [vAp_12]
    split
    · decide
    · exact o11 i hi
  · rw [vAp_13]
    by_cases ep : i = vP w
    · rw [ep, upd_s]; exact zIs_n hP
    · rw [upd_o ep]; exact o12 i hi
  · rw [hPn] at hi ⊢
    rw [vAp_13]
    by_cases ep : i = vP w
    · rw [ep, upd_s]; exact zIs_n (by omega)
    · rw [upd_o ep]; exact (o13 i (by omega)).mono (by omega)
  · rw [hPn] at hi hj
    rw [vAp_13] at hij
    by_cases ei : i = vP w
    · by_cases ej : j = vP w
      · rw [ei, ej]
      · exfalso
        rw [ei, upd_s, upd_o ej] at hij
        obtain ⟨q, q1, q2⟩ := o13 j (by omega)
        rw [q2] at hij
        have := (nI_eq (by omega) (by omega)).mp hij
        omega
    · by_cases ej : j = vP w
      · exfalso
        rw [ej, upd_s, upd_o ei] at hij
        obtain ⟨q, q1, q2⟩ := o13 i (by omega)
        rw [q2] at hij
        have := (nI_eq (by omega) (by omega)).mp hij
        omega
      · rw [upd_o ei, upd_o ej] at hij
        exact o14 i j (by omega) (by omega) hij
  · have e2 : vSz (vAp w s u) = vSz w := by unfold vSz; rw [e 14 (by decide)]
    omega
theorem cAdd3 (hp : p < 4) : ∀ q j A, j + q = 6 → A 43 4 = nI p → ∃ A', zPt_add_3 d (nI j) A L = some (some (.int 1), A', L) ∧ (∀ c, c ≠ 43 → c ≠ 46 → A' c = A c) ∧ A' 43 = upd (A 43) 4 (nI (p + 1)) ∧ ∀ i, A' 46 i = if 6 * p + j ≤ i ∧ i < 6 * p + 6 then 0 else A 46 i := by
  intro q
  induction q with
  | zero =>
    intro j A hj h43
    have e : j = 6 := by omega
    subst e
    refine ⟨zput A 43 4 (nI (p + 1)), ?_, fun c c1 c2 => zput_o c1, zput_s _ _ _ _, fun i => by rw [zput_o (by decide), if_neg (by omega)]⟩
    rw [zPt_add_3_q, if_pos (by decide), zPt_add_4_q, h43, nI_1, zcb_1]
  | succ q ih =>
    intro j A hj h43
    obtain ⟨A', e1, e2, e3, e4⟩ := ih (j + 1) (zput A 46 (6 * p + j) 0) (by omega) (by rw [zput_o (by decide)]; exact h43)
    refine ⟨A', ?_, fun c c1 c2 => by rw [e2 c c1 c2, zput_o c2], by rw [e3, zput_o (by decide)], fun i => ?_⟩
    · rw [zPt_add_3_q, if_neg (nI_g6 (by omega)), h43, show nI p * 6 + nI j = nI (6 * p + j) by rw [show (6 : Int32) = nI 6 from rfl, pk_mul, nI_add, Nat.mul_comm], zck_n (by omega) (by decide), nI_clamp (by omega), nI_1]
      exact e1
    · rw [e4 i, zput_s]
      by_cases e : i = 6 * p + j
      · rw [e, if_neg (by omega), upd_s, if_pos (by omega)]
      · rw [upd_o e]
        by_cases h : 6 * p + (j + 1) ≤ i ∧ i < 6 * p + 6
        · rw [if_pos h, if_pos (by omega)]
        · rw [if_neg h, if_neg (by omega)]
theorem mAdd12 (hp : p < 4) : ∀ q j B, j + q = 6 → B 63 12 = nI p → ∃ B', zM_comes_12 d (nI j) B M = some (some (.int 1), B', M) ∧ (∀ c, c ≠ 63 → c ≠ 71 → B' c = B c) ∧ B' 63 = upd (B 63) 12 (nI (p + 1)) ∧ ∀ i, B' 71 i = if 6 * p + j ≤ i ∧ i < 6 * p + 6 then 0 else B 71 i := by
  intro q
  induction q with
  | zero =>
    intro j A hj h43
    have e : j = 6 := by omega
    subst e
    refine ⟨zput A 63 12 (nI (p + 1)), ?_, fun c c1 c2 => zput_o c1, zput_s _ _ _ _, fun i => by rw [zput_o (by decide), if_neg (by omega)]⟩
    rw [zM_comes_12_q, if_pos (by decide), zM_comes_13_q, h43, nI_1, zcb_1]
  | succ q ih =>
    intro j A hj h43
    obtain ⟨A', e1, e2, e3, e4⟩ := ih (j + 1) (zput A 71 (6 * p + j) 0) (by omega) (by rw [zput_o (by decide)]; exact h43)
    refine ⟨A', ?_, fun c c1 c2 => by rw [e2 c c1 c2, zput_o c2], by rw [e3, zput_o (by decide)], fun i => ?_⟩
    · rw [zM_comes_12_q, if_neg (nI_g6 (by omega)), h43, show (6 : Int32) * nI p + nI j = nI (6 * p + j) by rw [show (6 : Int32) = nI 6 from rfl, pk_mul, nI_add], zck_n (by omega) (by decide), nI_clamp (by omega), nI_1]
      exact e1
    · rw [e4 i, zput_s]
      by_cases e : i = 6 * p + j
      · rw [e, if_neg (by omega), upd_s, if_pos (by omega)]
      · rw [upd_o e]
        by_cases h : 6 * p + (j + 1) ≤ i ∧ i < 6 * p + 6
        · rw [if_pos h, if_pos (by omega)]
        · rw [if_neg h, if_neg (by omega)]
theorem cAddP (ho : Ok w) (hC : zSm w (zvt A)) (hs : s < 10) : (s < 7 ∧ vP w < 4 → ∃ A', zPt_add d (nI s) (nI u) A L = some (some (.int 1), A', L) ∧ zSm (vAp w s u) (zvt A') ∧ (∀ c, (c < 35 ∨ 50 < c) → A' c = A c)) ∧ (¬ (s < 7 ∧ vP w < 4) → zPt_add d (nI s) (nI u) A L = some (some (.int 0), A, L)) := by
  have hP := ho.P
  have r43 : A 43 4 = nI (vP w) := by
    have := (zSm_pl.mp hC) 9 4 (by unfold zPl; omega)
    rw [zvt_c (by decide)] at this
    exact this.trans hP.1
  have hgo : zPt_add d (nI s) (nI u) A L = if 7 ≤ s then some (some (.int 0), A, L) else if vP w < 4 then zPt_add_2 d (nI s) (nI u) A L else some (some (.int 0), A, L) := by
    rw [zPt_add_q, if_neg (nI_pos (by omega)), show (7 : Int32) = nI 7 from rfl, zifi (nI_leI (by omega) (by omega)), r43, if_neg (nI_pos (by omega)), show (4 : Int32) = nI 4 from rfl, zifi (nI_ltI (by omega) (by omega)), zPt_add_1_q, zcb_0]
  refine ⟨fun ⟨c1, c2⟩ => ?_, fun h => ?_⟩
  · have hcl : (nI (vP w)).toNatClampNeg = vP w := nI_clamp (by omega)
    obtain ⟨X, hX⟩ : ∃ X, X = zput (zput (zput A 44 (vP w) (nI s)) 45 (vP w) (nI u)) 47 (vP w) (nI (vP w)) := ⟨_, rfl⟩
    have xo : ∀ c, c ≠ 44 → c ≠ 45 → c ≠ 47 → X c = A c := fun c a b e => by rw [hX, zput_o e, zput_o b, zput_o a]
    obtain ⟨A', e1, e2, e3, e4⟩ := cAdd3 (d := d) (L := L) c2 6 0 X (by omega) (by rw [xo 43 (by decide) (by decide) (by decide), r43])
    refine ⟨A', ?_, zSm_ch hC (fun c j hp => ?_), fun c hc => by rw [e2 c (by omega) (by omega), xo c (by omega) (by omega) (by omega)]⟩
    · rw [hgo, if_neg (by omega), if_pos c2, zPt_add_2_q]
      simp only [zput_o (show (43 : Nat) ≠ 44 by decide), zput_o (show (43 : Nat) ≠ 45 by decide), r43, hcl, zck_n c2 (show 4 ≤ 65536 by decide), ← hX]
      exact e1
    · by_cases h9 : c = 9
      · subst h9
        have hj : j = 4 := by unfold zPl at hp; omega
        subst hj
        left; show A' 43 4 = _
        rw [e3, upd_s, vAp_9, upd_s]
      · by_cases h10 : c = 10
        · subst h10
          show A' 44 j = _ ∨ (A' 44 j = A 44 j ∧ _)
          rw [e2 44 (by decide) (by decide), hX, zput_o (by decide), zput_o (by decide), zput_s, vAp_10]
          by_cases ej : j = vP w
          · left; rw [ej, upd_s, upd_s]
          · right; exact ⟨upd_o ej, upd_o ej⟩
        · by_cases h11 : c = 11
          · subst h11
            show A' 45 j = _ ∨ (A' 45 j = A 45 j ∧ _)
            rw [e2 45 (by decide) (by decide), hX, zput_o (by decide), zput_s, zput_o (by decide), vAp_11]
            by_cases ej : j = vP w
            · left; rw [ej, upd_s, upd_s]
            · right; exact ⟨upd_o ej, upd_o ej⟩
          · by_cases h13 : c = 13
            · subst h13
              show A' 47 j = _ ∨ (A' 47 j = A 47 j ∧ _)
              rw [e2 47 (by decide) (by decide), hX, zput_s, zput_o (by decide), zput_o (by decide), vAp_13]
              by_cases ej : j = vP w
              · left; rw [ej, upd_s, upd_s]
              · right; exact ⟨upd_o ej, upd_o ej⟩
            · by_cases h12 : c = 12
              · subst h12
                show A' 46 j = _ ∨ (A' 46 j = A 46 j ∧ _)
                rw [e4 j, xo 46 (by decide) (by decide) (by decide), vAp_12, Nat.add_zero]
                by_cases hj : 6 * vP w ≤ j ∧ j < 6 * vP w + 6
                · left; rw [if_pos hj, if_pos hj]
                · right; rw [if_neg hj, if_neg hj]; exact ⟨rfl, rfl⟩
              · right
                exact ⟨by rw [e2 _ (by omega) (by omega), xo _ (by omega) (by omega) (by omega)], by rw [vAp_o (by omega)]⟩
  · rw [hgo]
    by_cases c1 : 7 ≤ s
    · rw [if_pos c1]
    · rw [if_neg c1, if_neg (fun c2 => h ⟨by omega, c2⟩)]
theorem mAddP (ho : Ok w) (hw : zmw B w) (hk : k < 32) (hs : s < 10) (b78 : B 78 k = nI u) : (s < 7 ∧ vP w < 4 → ∃ B', zM_comes_9 d (nI k) (nI s) B M = some (some (.int 1), B', M) ∧ zmw B' (vAp w s u) ∧ (∀ c, c ≠ 63 → (c < 65 ∨ 72 < c) → B' c = B c) ∧ (∀ i, i ≠ 12 → B' 63 i = B 63 i)) ∧ (¬ (s < 7 ∧ vP w < 4) → zM_comes_9 d (nI k) (nI s) B M = some (some (.int 0), B, M)) := by
  have hP := ho.P
  have hw' := hw
  obtain ⟨w65, w66, w67, w68, w69, w70, w71, w72, w73, w10, w11, w12, w13, w14, w15, w18, w16, w17⟩ := hw'
  have r12 : B 63 12 = nI (vP w) := w12.trans hP.1
  have hgo : zM_comes_9 d (nI k) (nI s) B M = if 6 < s then some (some (.int 0), B, M) else if vP w = 4 then some (some (.int 0), B, M) else zM_comes_11 d (nI k) (nI s) B M := by
    rw [zM_comes_9_q, show (6 : Int32) = nI 6 from rfl, zifi (nI_ltI (by omega) (by omega)), r12, show (4 : Int32) = nI 4 from rfl, zifi (nI_eq (by omega) (by omega)), zM_comes_10_q, zcb_0]
  refine ⟨fun ⟨c1, c2⟩ => ?_, fun h => ?_⟩
  · have hcl : (nI (vP w)).toNatClampNeg = vP w := nI_clamp (by omega)
    have hck : (nI k).toNatClampNeg = k := nI_clamp (by omega)
    have hvS : vSt (vAp w s u) = vSt w ∧ vMe (vAp w s u) = vMe w := vSt_of (vAp_o (by decide)) (vAp_o (by decide))
    have e := fun c (h : c < 9 ∨ 13 < c) => vAp_o (w := w) (s := s) (u := u) h
    obtain ⟨X, hX⟩ : ∃ X, X = zput (zput (zput B 69 (vP w) (nI s)) 70 (vP w) (nI u)) 72 (vP w) (nI (vP w)) := ⟨_, rfl⟩
    have xo : ∀ c, c ≠ 69 → c ≠ 70 → c ≠ 72 → X c = B c := fun c a b e => by rw [hX, zput_o e, zput_o b, zput_o a]
    obtain ⟨B', e1, e2, e3, e4⟩ := mAdd12 (d := d) (M := M) c2 6 0 X (by omega) (by rw [xo 63 (by decide) (by decide) (by decide), r12])
    have bo : ∀ c, c ≠ 63 → c ≠ 69 → c ≠ 70 → c ≠ 71 → c ≠ 72 → B' c = B c := fun c a1 a2 a3 a4 a5 => by rw [e2 c a1 a4, xo c a2 a3 a5]
    have x63 : B' 63 = upd (B 63) 12 (nI (vP w + 1)) := by rw [e3, xo 63 (by decide) (by decide) (by decide)]
    refine ⟨B', ?_, ⟨by rw [bo 65 (by decide) (by decide) (by decide) (by decide) (by decide), e 3 (by decide), w65], by rw [bo 66 (by decide) (by decide) (by decide) (by decide) (by decide), e 4 (by decide), w66], by rw [bo 67 (by decide) (by decide) (by decide) (by decide) (by decide), e 5 (by decide), w67], by rw [bo 68 (by decide) (by decide) (by decide) (by decide) (by decide), e 6 (by decide), w68], ?_, ?_, ?_, ?_, by rw [bo 73 (by decide) (by decide) (by decide) (by decide) (by decide), e 15 (by decide), w73], by rw [x63, upd_o (by decide), e 2 (by decide), w10], by rw [x63, upd_o (by decide), e 2 (by decide), w11], by rw [x63, upd_s, vAp_9, upd_s], by rw [x63, upd_o (by decide), e 1 (by decide), w13], by rw [x63, upd_o (by decide), e 1 (by decide), w14], by rw [x63, upd_o (by decide), e 14 (by decide), w15], by rw [x63, upd_o (by decide), e 14 (by decide), w18], by rw [x63, upd_o (by decide), hvS.1, w16], by rw [x63, upd_o (by decide), hvS.2, w17]⟩, fun c a1 a2 => bo c a1 (by omega) (by omega) (by omega) (by omega), fun i hi => by rw [x63, upd_o hi]⟩
    · rw [hgo, if_neg (by omega), if_neg (by omega), zM_comes_11_q]
      simp only [zput_o (show (63 : Nat) ≠ 69 by decide), zput_o (show (63 : Nat) ≠ 70 by decide), zput_o (show (78 : Nat) ≠ 69 by decide), r12, hcl, hck, b78, zck_n c2 (show 4 ≤ 65536 by decide), zck_n hk (show 32 ≤ 65536 by decide), ← hX]
      exact e1
    · rw [e2 69 (by decide) (by decide), hX, zput_o (by decide), zput_o (by decide), zput_s, vAp_10, w69]
    · rw [e2 70 (by decide) (by decide), hX, zput_o (by decide), zput_s, zput_o (by decide), vAp_11, w70]
    · funext j
      rw [e4 j, xo 71 (by decide) (by decide) (by decide), vAp_12, Nat.add_zero, w71]
    · rw [e2 72 (by decide) (by decide), hX, zput_s, zput_o (by decide), zput_o (by decide), vAp_13, w72]
  · rw [hgo]
    by_cases c1 : 6 < s
    · rw [if_pos c1]
    · rw [if_neg c1, if_pos (by omega)]
end AQ
