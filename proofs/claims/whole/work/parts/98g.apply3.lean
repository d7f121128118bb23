/-! ===== statements applied: worth, length; any statement ===== -/
section AS
variable {d n a b k s t u p : Nat} {A A' A0 B v w : zA} {L M : zL} {T : Nat → Int32} {x m : Int32}
/-- a world with one worth another -/
def vAw (w : zA) (i : Nat) (x : Int32) : zA := fun c => if c = 12 then upd (w 12) i x else w c
theorem vAw_o {i c : Nat} (h : c ≠ 12) : vAw w i x c = w c := if_neg h
theorem vAw_12 {i : Nat} : vAw w i x 12 = upd (w 12) i x := rfl
theorem Ok_aw {i : Nat} (ho : Ok w) (hx : -9 ≤ x.toInt ∧ x.toInt ≤ 9) : Ok (vAw w i x) := by
  refine Ok_people (v := w) (fun c hc => vAw_o (by omega)) (by rw [vAw_o (by decide), vAw_o (by decide)]; exact ho.pp) (fun j hj => ?_) (by rw [vAw_o (by decide)]; exact ho.t4) (by rw [vAw_o (by decide)]; exact ho.tP) (by rw [vAw_o (by decide)]; exact ho.tI) ho
  rw [vAw_12]
  by_cases e : j = i
  · rw [e, upd_s]; exact hx
  · rw [upd_o e]; exact ho.ww j hj
theorem cPutW (ho : Ok w) (hC : zSm w (zvt A)) (hs : s < 10) (ht : t < 6) : (s < vP w → ∃ A', zPt_putWorth (d + 1) (nI s) (nI t) x A L = some (some (.int 1), A', L) ∧ zSm (vAw w (6 * s + t) x) (zvt A') ∧ (∀ c, (c < 35 ∨ 50 < c) → A' c = A c)) ∧ (¬ s < vP w → zPt_putWorth (d + 1) (nI s) (nI t) x A L = some (some (.int 0), A, L)) := by
  have hP := ho.P
  have r43 : A 43 4 = nI (vP w) := by
    have := (zSm_pl.mp hC) 9 4 (by unfold zPl; omega)
    rw [zvt_c (by decide)] at this
    exact this.trans hP.1
  refine ⟨fun c1 => ?_, fun c1 => ?_⟩
  · refine ⟨zput A 46 (6 * s + t) x, ?_, zSm_ch hC (fun c j hp => ?_), fun c hc => zput_o (by omega)⟩
    · rw [zPt_putWorth_q, zPt_has_q, if_neg (nI_pos (by omega)), r43, if_neg (nI_ge c1 (by omega)), if_neg (nI_g4 (by omega)), zPt_has_2_q, zcb_1, zbi_s, if_neg (by decide), if_neg (nI_pos (by omega)), if_pos (show nI t < (6 : Int32) from nI_lt ht (by decide)), zPt_putWorth_2_q, show nI s * 6 + nI t = nI (6 * s + t) by rw [show (6 : Int32) = nI 6 from rfl, pk_mul, nI_add, Nat.mul_comm], zck_n (by omega) (by decide), nI_clamp (by omega), zcb_1]
    · by_cases e : c = 12
      · subst e
        show zput A 46 (6 * s + t) x 46 j = _ ∨ (zput A 46 (6 * s + t) x 46 j = A 46 j ∧ _)
        rw [zput_s, vAw_12]
        by_cases ej : j = 6 * s + t
        · left; rw [ej, upd_s, upd_s]
        · right; exact ⟨upd_o ej, upd_o ej⟩
      · right
        exact ⟨by rw [zput_o (by omega)], by rw [vAw_o e]⟩
  · rw [zPt_putWorth_q, zPt_has_q, if_neg (nI_pos (by omega)), r43, if_pos (nI_le (by omega) (by omega)), zPt_has_1_q, zPt_has_2_q, zcb_0, zbi_s, if_pos rfl, zPt_putWorth_1_q, zcb_0]
theorem mPutW (ho : Ok w) (hw : zmw B w) (hk : k < 32) (hs : s < 10) (ht : t < 6) (b78 : B 78 k = nI t) (b79 : B 79 k = x) : (s < vP w → ∃ B', zM_comes_14 (d + 1) (nI k) (nI s) B M = some (some (.int 1), B', M) ∧ zmw B' (vAw w (6 * s + t) x) ∧ (∀ c, c ≠ 71 → B' c = B c)) ∧ (¬ s < vP w → zM_comes_14 (d + 1) (nI k) (nI s) B M = some (some (.int 0), B, M)) := by
  have hP := ho.P
  have hw' := hw
  obtain ⟨w65, w66, w67, w68, w69, w70, w71, w72, w73, w10, w11, w12, w13, w14, w15, w18, w16, w17⟩ := hw'
  refine ⟨fun c1 => ?_, fun c1 => ?_⟩
  · have hvS : vSt (vAw w (6 * s + t) x) = vSt w ∧ vMe (vAw w (6 * s + t) x) = vMe w := vSt_of (vAw_o (by decide)) (vAw_o (by decide))
    have e := fun c (h : c ≠ 12) => vAw_o (w := w) (i := 6 * s + t) (x := x) h
    obtain ⟨X, hX⟩ : ∃ X, X = zput B 71 (6 * s + t) x := ⟨_, rfl⟩
    have xo : ∀ c, c ≠ 71 → X c = B c := fun c h => by rw [hX, zput_o h]
    refine ⟨X, ?_, ⟨by rw [xo 65 (by decide), e 3 (by decide), w65], by rw [xo 66 (by decide), e 4 (by decide), w66], by rw [xo 67 (by decide), e 5 (by decide), w67], by rw [xo 68 (by decide), e 6 (by decide), w68], by rw [xo 69 (by decide), e 10 (by decide), w69], by rw [xo 70 (by decide), e 11 (by decide), w70], by rw [hX, zput_s, vAw_12, w71], by rw [xo 72 (by decide), e 13 (by decide), w72], by rw [xo 73 (by decide), e 15 (by decide), w73], by rw [xo 63 (by decide), e 2 (by decide), w10], by rw [xo 63 (by decide), e 2 (by decide), w11], by rw [xo 63 (by decide), e 9 (by decide), w12], by rw [xo 63 (by decide), e 1 (by decide), w13], by rw [xo 63 (by decide), e 1 (by decide), w14], by rw [xo 63 (by decide), e 14 (by decide), w15], by rw [xo 63 (by decide), e 14 (by decide), w18], by rw [xo 63 (by decide), hvS.1, w16], by rw [xo 63 (by decide), hvS.2, w17]⟩, xo⟩
    rw [zM_comes_14_q, mOne1 ho hw c1, zbi_s, if_neg (by decide), zM_comes_15_q, zck_n hk (by decide), zck_n hk (by decide), nI_clamp (by omega), b78, b79, show (6 : Int32) * nI s + nI t = nI (6 * s + t) by rw [show (6 : Int32) = nI 6 from rfl, pk_mul, nI_add], zck_n (by omega) (by decide), nI_clamp (by omega), ← hX, zcb_1]
  · rw [zM_comes_14_q, mOne0 hw (Or.inr (by rw [hP.1]; exact nI_le (by omega) (by omega))), zbi_s, if_pos rfl, zcb_0]
/-- a world with another length -/
def vAl (w : zA) (s : Nat) : zA := fun c => if c = 1 then upd (w 1) 3 (nI s) else w c
theorem vAl_o {c : Nat} (h : c ≠ 1) : vAl w s c = w c := if_neg h
theorem vAl_1 : vAl w s 1 = upd (w 1) 3 (nI s) := rfl
theorem Ok_al (ho : Ok w) (h1 : 0 < s) (h9 : s < 9) : Ok (vAl w s) := by
  have e3 : vAl w s 1 3 = nI s := by rw [vAl_1, upd_s]
  refine Ok_one (v := w) (fun c a b => vAl_o (by omega)) (by rw [e3]; exact zIs_n h9) (by unfold vLen; rw [e3, nI_clamp (by omega)]; exact h1) (by rw [vAl_1, upd_o (by decide)]; exact ho.loss) ho
theorem cPutL (hC : zSm w (zvt A)) (hs : s < 10) : (0 < s ∧ s < 9 → ∃ A', zWt_putLength d (nI s) A L = some (some (.int 1), A', L) ∧ zSm (vAl w s) (zvt A') ∧ (∀ c, (c < 35 ∨ 50 < c) → A' c = A c)) ∧ (¬ (0 < s ∧ s < 9) → zWt_putLength d (nI s) A L = some (some (.int 0), A, L)) := by
  refine ⟨fun ⟨c1, c2⟩ => ?_, fun h => ?_⟩
  · refine ⟨zput A 35 3 (nI s), ?_, zSm_ch hC (fun c j hp => ?_), fun c hc => zput_o (by omega)⟩
    · rw [zWt_putLength_q, show (1 : Int32) = nI 1 from rfl, if_neg (nI_nlt (by omega) (by omega)), show (8 : Int32) = nI 8 from rfl, if_pos (nI_le (by omega) (by omega)), zWt_putLength_2_q, show nI 1 = (1 : Int32) from rfl, zcb_1]
    · by_cases e : c = 1
      · subst e
        show zput A 35 3 (nI s) 35 j = _ ∨ (zput A 35 3 (nI s) 35 j = A 35 j ∧ _)
        rw [zput_s, vAl_1]
        by_cases ej : j = 3
        · left; rw [ej, upd_s, upd_s]
        · right; exact ⟨upd_o ej, upd_o ej⟩
      · right
        exact ⟨by rw [zput_o (by omega)], by rw [vAl_o e]⟩
  · rw [zWt_putLength_q, show (1 : Int32) = nI 1 from rfl, show (8 : Int32) = nI 8 from rfl]
    by_cases c1 : s < 1
    · rw [if_pos (nI_lt c1 (by omega)), zWt_putLength_1_q, zcb_0]
    · rw [if_neg (nI_nlt (by omega) (by omega)), if_neg (nI_ge (by omega) (by omega)), zWt_putLength_1_q, zcb_0]
theorem mPutL (hw : zmw B w) (hs : s < 10) : (0 < s ∧ s < 9 → ∃ B', zM_comes_16 (d + 1) (nI s) B M = some (some (.int 1), B', M) ∧ zmw B' (vAl w s) ∧ (∀ c, c ≠ 63 → B' c = B c) ∧ (∀ i, i ≠ 13 → B' 63 i = B 63 i)) ∧ (¬ (0 < s ∧ s < 9) → zM_comes_16 (d + 1) (nI s) B M = some (some (.int 0), B, M)) := by
  have hw' := hw
  obtain ⟨w65, w66, w67, w68, w69, w70, w71, w72, w73, w10, w11, w12, w13, w14, w15, w18, w16, w17⟩ := hw'
  have hgo : zM_comes_16 (d + 1) (nI s) B M = if s < 1 ∨ 8 < s then some (some (.int 0), B, M) else zM_comes_17 (d + 1) (nI s) B M := by
    have hi : (nI s < (1 : Int32) ∨ (8 : Int32) < nI s) ↔ (s < 1 ∨ 8 < s) := by
      rw [show (1 : Int32) = nI 1 from rfl, show (8 : Int32) = nI 8 from rfl, nI_ltI (by omega) (by omega), nI_ltI (by omega) (by omega)]
    rw [zM_comes_16_q, mIsIn, zifi hi, zbi_s]
    by_cases h : s < 1 ∨ 8 < s
    · rw [if_pos h, if_pos h, if_pos rfl, zcb_0]
    · rw [if_neg h, if_neg h, if_neg (by decide)]
  refine ⟨fun ⟨c1, c2⟩ => ?_, fun h => by rw [hgo, if_pos (by omega)]⟩
  have hvS : vSt (vAl w s) = vSt w ∧ vMe (vAl w s) = vMe w := vSt_of (vAl_o (by decide)) (vAl_o (by decide))
  have e := fun c (h : c ≠ 1) => vAl_o (w := w) (s := s) h
  obtain ⟨X, hX⟩ : ∃ X, X = zput B 63 13 (nI s) := ⟨_, rfl⟩
  have xo : ∀ c, c ≠ 63 → X c = B c := fun c h1 => by rw [hX, zput_o h1]
  have x63 : X 63 = upd (B 63) 13 (nI s) := by rw [hX, zput_s]
  refine ⟨X, ?_, ⟨by rw [xo 65 (by decide), e 3 (by decide), w65], by rw [xo 66 (by decide), e 4 (by decide), w66], by rw [xo 67 (by decide), e 5 (by decide), w67], by rw [xo 68 (by decide), e 6 (by decide), w68], by rw [xo 69 (by decide), e 10 (by decide), w69], by rw [xo 70 (by decide), e 11 (by decide), w70], by rw [xo 71 (by decide), e 12 (by decide), w71], by rw [xo 72 (by decide), e 13 (by decide), w72], by rw [xo 73 (by decide), e 15 (by decide), w73], by rw [x63, upd_o (by decide), e 2 (by decide), w10], by rw [x63, upd_o (by decide), e 2 (by decide), w11], by rw [x63, upd_o (by decide), e 9 (by decide), w12], by rw [x63, upd_s, vAl_1, upd_s], by rw [x63, upd_o (by decide), vAl_1, upd_o (by decide), w14], by rw [x63, upd_o (by decide), e 14 (by decide), w15], by rw [x63, upd_o (by decide), e 14 (by decide), w18], by rw [x63, upd_o (by decide), hvS.1, w16], by rw [x63, upd_o (by decide), hvS.2, w17]⟩, xo, fun i hi => by rw [x63, upd_o hi]⟩
  rw [hgo, if_neg (by omega), zM_comes_17_q, ← hX, zcb_1]
/-- what a statement comes to: both put it, or neither -/
def zBoth (o1 o2 : Option zR) (A B w : zA) (L M : zL) : Prop := (o1 = some (some (.int 0), A, L) ∧ o2 = some (some (.int 0), B, M)) ∨ ∃ A' B' w', o1 = some (some (.int 1), A', L) ∧ o2 = some (some (.int 1), B', M) ∧ Ok w' ∧ vSz w' = 0 ∧ zSm w' (zvt A') ∧ zmw B' w' ∧ zTl w w' ∧ (∀ c, (c < 35 ∨ 50 < c) → A' c = A c) ∧ (∀ c, c ≠ 63 → (c < 65 ∨ 72 < c) → B' c = B c) ∧ ∀ i, (i < 10 ∨ 13 < i) → B' 63 i = B 63 i
theorem cWordsL (h2 : A 33 2 = nI n) (hn : n ≤ 64) (hT : A 34 = T) : ∀ q w b M, w + q = 105 → 97 ≤ w → zR_wordsFrom_1 (d + 1) (nI M) (nI b) A L = zR_wordsFrom_1 (d + 1) (nI (zwe T n q w b M).2) (nI (zwe T n q w b M).1) A L := by
  intro q
  induction q with
  | zero => intro w b M _ _; rfl
  | succ q ih =>
    intro w b M hw hw2
    rw [zwe_s]
    cases hz : zin T n b w w
    · rw [ite_ft]
      exact ih (w + 1) b M (by omega) (by omega)
    · rw [ite_tt, ← ih (w + 1) (b + 1) (M ||| 2 ^ (w - 97)) (by omega) (by omega)]
      have hlt := zin_lt hz
      obtain ⟨z1, z2, z3⟩ := zin_n (by omega) (by omega) hz
      have e : ztl T b = w := by omega
      rw [zR_wordsFrom_1_q, h2, if_neg (nI_ge hlt (by omega)), cLetter (by omega), zbi_s, hT, z1, if_neg (show ¬ nI (ztl T b) = 59 from nI_ne (show ztl T b ≠ 59 by omega) (by omega) (by decide)), cLetter (by omega), zbi_s, hT, z1, e, show (97 : Int32) = nI 97 from rfl, pk_sub hw2, zpow (by omega), nI_or, nI_1]
theorem zwe_lt {T : Nat → Int32} {n : Nat} : ∀ {q w b M : Nat}, w + q = 105 → 97 ≤ w → M < 256 → (zwe T n q w b M).2 < 256
  | 0, w, b, M, _, _, h => h
  | q + 1, w, b, M, h1, h2, h => by
    rw [zwe_s]
    split
    · exact zwe_lt (w := w + 1) (by omega) (by omega) (Nat.or_lt_two_pow (n := 8) h (Nat.pow_lt_pow_right (by omega) (by omega)))
    · exact zwe_lt (w := w + 1) (by omega) (by omega) h
theorem zStep {dm : Nat} (ho : Ok w) (h0 : vSz w = 0) (hC : zSm w (zvt A)) (hB : zmw B w) (h2 : A 33 2 = nI n) (hn : n ≤ 64) (hT : A 34 = T) (hk : k < 32) (hr : zRec B T n a k) : zBoth (zR_applies (d + 4) (nI a) A L) (zM_comes (dm + 2) (nI k) B M) A B w L M := by
  have hck : (nI k).toNatClampNeg = k := nI_clamp (by omega)
  have hlet : ∀ j, j < n → zR_letter (d + 3) (nI j) A L = some (some (.int (T j)), A, L) := fun j hj => by rw [cLetter (by omega), hT]
  have hadd : ∀ c : Nat, nI a + nI c = nI (a + c) := fun c => nI_add a c
  have hl1 : a + 1 < n → ∀ z, zin T n (a + 1) 48 57 = true → T a = z → zR_applies (d + 4) (nI a) A L = if z = 101 then zR_applies_2 (d + 4) (nI (ztl T (a + 1) - 48)) A L else if z = 112 then zR_applies_3 (d + 4) (nI a) (nI (ztl T (a + 1) - 48)) A L else if z = 114 then zR_applies_1 (d + 4) (nI a) (nI (ztl T (a + 1) - 48)) A L else if z = 118 then zR_applies_4 (d + 4) (nI a) (nI (ztl T (a + 1) - 48)) A L else zR_applies_5 (d + 4) (nI (ztl T (a + 1) - 48)) A L := fun hlt z hz hza => by
    obtain ⟨z1, z2, z3⟩ := zin_n (by decide) (by decide) hz
    rw [zR_applies_q, nI_1, hlet (a + 1) hlt, zbi_s, hlet a (by omega), zbi_s, hza, z1, show (48 : Int32) = nI 48 from rfl, pk_sub z2]
  have hm1 : ∀ z s, B 75 k = z → B 77 k = nI s → zM_comes (dm + 2) (nI k) B M = if z = 101 then zM_comes_6 (dm + 2) (nI s) B M else if z = 112 then zM_comes_9 (dm + 2) (nI k) (nI s) B M else if z = 114 then zM_comes_1 (dm + 2) (nI k) (nI s) B M else if z = 118 then zM_comes_14 (dm + 2) (nI k) (nI s) B M else zM_comes_16 (dm + 2) (nI s) B M := fun z s h75 h77 => by
    rw [zM_comes_q, zck_n hk (by decide), zck_n hk (by decide), hck, h75, h77]
  have hta : ∀ l, l < 1000 → zin T n a l l = true → T a = nI l := fun l hl hz => by
    obtain ⟨z1, z2, z3⟩ := zin_n hl hl hz
    rw [z1]; exact congrArg nI (by omega)
  obtain ⟨h76, hr⟩ := hr
  rcases hr with ⟨z0, z1, z2, z3, r75, r77, r78, r79, r80⟩ | ⟨z0, z1, z2, r75, r77⟩ | ⟨z0, z1, z2, r75, r77⟩ | ⟨z0, z1, z2, r75, r77, r78⟩ | ⟨z0, z1, z2, z4, z5, r75, r77, r78, r79⟩
  · -- a rule
    obtain ⟨y1, y2, y3⟩ := zin_n (by decide) (by decide) z1
    obtain ⟨x1, x2, x3⟩ := zin_n (by decide) (by decide) z2
    obtain ⟨u1, u2, u3⟩ := zin_n (by decide) (by decide) z3
    obtain ⟨mk, hmk, hmm, b80⟩ : ∃ mk, zR_markAt (d + 3) (nI (a + 4)) A L = some (some (.int mk), A, L) ∧ (mk = -9 ∨ zIs 6 mk) ∧ ((B 80 k = -1 ∧ mk = -9) ∨ ∃ q, q < 6 ∧ B 80 k = nI q ∧ mk = nI q) := by
      have hl4 : ∀ j, j < n → zR_letter (d + 2) (nI j) A L = some (some (.int (T j)), A, L) := fun j hj => by rw [cLetter (by omega), hT]
      rcases r80 with ⟨v1, v2, v3⟩ | ⟨v1, v2, v3⟩
      · obtain ⟨p1, p2, p3⟩ := zin_n (by decide) (by decide) v1
        refine ⟨nI (ztl T (a + 4) - 65), ?_, Or.inr (zIs_n (by omega)), Or.inr ⟨_, by omega, v3, rfl⟩⟩
        rw [zR_markAt_q, hl4 _ (zin_lt v1), zbi_s, p1, if_neg (show ¬ nI (ztl T (a + 4)) = 59 from nI_ne (show ztl T (a + 4) ≠ 59 by omega) (by omega) (by decide)), zR_markAt_1_q, hl4 _ (zin_lt v1), zbi_s, p1, show (65 : Int32) = nI 65 from rfl, pk_sub p2, zR_markAt_2_q]
      · obtain ⟨p1, p2, p3⟩ := zin_n (by decide) (by decide) v2
        refine ⟨-9, ?_, Or.inl rfl, Or.inl ⟨v3, rfl⟩⟩
        rw [zR_markAt_q, hl4 _ (zin_lt v2), zbi_s, p1, if_pos (show nI (ztl T (a + 4)) = 59 from by rw [show ztl T (a + 4) = 59 by omega]; rfl), zR_markAt_2_q]
    obtain ⟨k1, k2⟩ := cAddRule (d := d + 2) (L := L) (m := mk) (s := ztl T (a + 1) - 48) (t := ztl T (a + 2) - 97) (u := ztl T (a + 3) - 48) ho hC (by omega) (by omega) (by omega)
    obtain ⟨m1, m2⟩ := mAddRule (d := dm + 1) (M := M) (m := mk) (s := ztl T (a + 1) - 48) (t := ztl T (a + 2) - 97) (u := ztl T (a + 3) - 48) ho h0 hB hk (by omega) (by omega) (by omega) r78 r79 b80
    have hXX : zR_applies (d + 4) (nI a) A L = zbi (zGt_addRule (d + 3) (nI (ztl T (a + 1) - 48)) (nI (ztl T (a + 2) - 97)) (nI (ztl T (a + 3) - 48)) mk A L) (fun r4 A4 L4 => zcb r4 (some (some (.int r4), A4, L4))) := by
      rw [hl1 (zin_lt z1) 114 z1 (hta 114 (by decide) z0), if_neg (by decide), if_neg (by decide), if_pos rfl, zR_applies_1_q, show (2 : Int32) = nI 2 from rfl, hadd, hlet _ (zin_lt z2), zbi_s, show (3 : Int32) = nI 3 from rfl, hadd, hlet _ (zin_lt z3), zbi_s, show (4 : Int32) = nI 4 from rfl, hadd, hmk, zbi_s, x1, u1, show (97 : Int32) = nI 97 from rfl, pk_sub x2, show (48 : Int32) = nI 48 from rfl, pk_sub u2]
    have hMM := hm1 114 _ r75 r77
    rw [if_neg (by decide), if_neg (by decide), if_pos rfl] at hMM
    by_cases hc : ztl T (a + 1) - 48 < 8 ∧ ztl T (a + 3) - 48 < 8 ∧ vR w < 24 ∧ (vWf w (ztl T (a + 1) - 48)).testBit (ztl T (a + 2) - 97) = false
    · obtain ⟨A', e1, e2, e3⟩ := k1 hc
      obtain ⟨B', f1, f2, f3, f4⟩ := m1 hc
      have e : vSz (vAr w (ztl T (a + 1) - 48) (ztl T (a + 2) - 97) (ztl T (a + 3) - 48) mk) = vSz w := by unfold vSz; rw [vAr_o (by omega)]
      refine Or.inr ⟨A', B', _, by rw [hXX, e1, zbi_s, zcb_1], by rw [hMM]; exact f1, Ok_ar ho h0 hc.1 (by omega) hc.2.1 hmm hc.2.2.1 hc.2.2.2, by rw [e, h0], e2, f2, ⟨fun c i hc' hi => ?_, fun c i hc' hi => by rw [vAr_o (by omega)], fun c c1 c2 => vAr_o (by omega)⟩, e3, f3, f4⟩
      rcases hc' with rfl | rfl | rfl | rfl | rfl
      · rw [vAr_3, upd_o (by omega)]
      · rw [vAr_4, upd_o (by omega)]
      · rw [vAr_5, upd_o (by omega)]
      · rw [vAr_6, upd_o (by omega)]
      · rw [vAr_o (by omega)]
    · exact Or.inl ⟨by rw [hXX, k2 hc, zbi_s, zcb_0], by rw [hMM]; exact m2 hc⟩
  · -- an end
    obtain ⟨y1, y2, y3⟩ := zin_n (by decide) (by decide) z1
    obtain ⟨k1, k2⟩ := cAddEnd (d := d + 1) (L := L) (s := ztl T (a + 1) - 48) ho hC (by omega)
    obtain ⟨m1, m2⟩ := mAddEnd (d := dm + 1) (M := M) (s := ztl T (a + 1) - 48) ho hB (by omega)
    have hXX : zR_applies (d + 4) (nI a) A L = zbi (zGt_addEnd (d + 3) (nI (ztl T (a + 1) - 48)) A L) (fun r1 A1 L1 => zcb r1 (some (some (.int r1), A1, L1))) := by
      rw [hl1 (zin_lt z1) 101 z1 (hta 101 (by decide) z0), if_pos rfl, zR_applies_2_q]
    have hMM := hm1 101 _ r75 r77
    rw [if_pos rfl] at hMM
    by_cases hc : ztl T (a + 1) - 48 < 8 ∧ vEn w (ztl T (a + 1) - 48) = false
    · obtain ⟨A', e1, e2, e3⟩ := k1 hc
      obtain ⟨B', f1, f2, f3, f4⟩ := m1 hc
      have e : vSz (vAe w (ztl T (a + 1) - 48)) = vSz w := by unfold vSz; rw [vAe_o (by omega)]
      exact Or.inr ⟨A', B', _, by rw [hXX, e1, zbi_s, zcb_1], by rw [hMM]; exact f1, Ok_ae ho h0 hc.1, by rw [e, h0], e2, f2, ⟨fun c i hc' hi => by rw [vAe_o (by omega)], fun c i hc' hi => by rw [vAe_o (by omega)], fun c c1 c2 => vAe_o (by omega)⟩, e3, fun c c1 c2 => f3 c c1, fun i hi => f4 i (by omega)⟩
    · exact Or.inl ⟨by rw [hXX, k2 hc, zbi_s, zcb_0], by rw [hMM]; exact m2 hc⟩
  · -- the length
    obtain ⟨y1, y2, y3⟩ := zin_n (by decide) (by decide) z1
    obtain ⟨k1, k2⟩ := cPutL (d := d + 3) (L := L) (s := ztl T (a + 1) - 48) hC (by omega)
    obtain ⟨m1, m2⟩ := mPutL (d := dm + 1) (M := M) (s := ztl T (a + 1) - 48) hB (by omega)
    have hXX : zR_applies (d + 4) (nI a) A L = zbi (zWt_putLength (d + 3) (nI (ztl T (a + 1) - 48)) A L) (fun r1 A1 L1 => zcb r1 (some (some (.int r1), A1, L1))) := by
      rw [hl1 (zin_lt z1) 108 z1 (hta 108 (by decide) z0), if_neg (by decide), if_neg (by decide), if_neg (by decide), if_neg (by decide), zR_applies_5_q]
    have hMM := hm1 108 _ r75 r77
    rw [if_neg (by decide), if_neg (by decide), if_neg (by decide), if_neg (by decide)] at hMM
    by_cases hc : 0 < ztl T (a + 1) - 48 ∧ ztl T (a + 1) - 48 < 9
    · obtain ⟨A', e1, e2, e3⟩ := k1 hc
      obtain ⟨B', f1, f2, f3, f4⟩ := m1 hc
      have e : vSz (vAl w (ztl T (a + 1) - 48)) = vSz w := by unfold vSz; rw [vAl_o (by omega)]
      exact Or.inr ⟨A', B', _, by rw [hXX, e1, zbi_s, zcb_1], by rw [hMM]; exact f1, Ok_al ho hc.1 hc.2, by rw [e, h0], e2, f2, ⟨fun c i hc' hi => by rw [vAl_o (by omega)], fun c i hc' hi => by rw [vAl_o (by omega)], fun c c1 c2 => vAl_o (by omega)⟩, e3, fun c c1 c2 => f3 c c1, fun i hi => f4 i (by omega)⟩
    · exact Or.inl ⟨by rw [hXX, k2 hc, zbi_s, zcb_0], by rw [hMM]; exact m2 hc⟩
  · -- a person
    obtain ⟨y1, y2, y3⟩ := zin_n (by decide) (by decide) z1
    obtain ⟨x1, x2, x3⟩ := zin_n (by decide) (by decide) z2
    have hu := zwe_lt (T := T) (n := n) (q := 8) (w := 97) (b := a + 2) (M := 0) (by decide) (by decide) (by decide)
    obtain ⟨k1, k2⟩ := cAddP (d := d + 3) (L := L) (s := ztl T (a + 1) - 48) (u := (zwe T n 8 97 (a + 2) 0).2) ho hC (by omega)
    obtain ⟨m1, m2⟩ := mAddP (d := dm + 2) (M := M) (s := ztl T (a + 1) - 48) (u := (zwe T n 8 97 (a + 2) 0).2) ho hB hk (by omega) r78
    have hwf : zR_wordsFrom (d + 3) (nI (a + 2)) A L = some (some (.int (nI (zwe T n 8 97 (a + 2) 0).2)), A, L) := by
      have h := cWordsL (d := d + 2) (L := L) h2 hn hT 8 97 (a + 2) 0 (by decide) (by decide)
      rw [zR_wordsFrom_q, show (0 : Int32) = nI 0 from rfl, h, show (zwe T n 8 97 (a + 2) 0).1 = zwb T n a from rfl, zR_wordsFrom_1_q, h2, if_neg (nI_ge (zin_lt z2) (by omega)), cLetter (by have := zin_lt z2; omega), zbi_s, hT, x1, if_pos (show nI (ztl T (zwb T n a)) = 59 from by rw [show ztl T (zwb T n a) = 59 by omega]; rfl), zR_wordsFrom_2_q]
    have hXX : zR_applies (d + 4) (nI a) A L = zbi (zPt_add (d + 3) (nI (ztl T (a + 1) - 48)) (nI (zwe T n 8 97 (a + 2) 0).2) A L) (fun r1 A1 L1 => zcb r1 (some (some (.int r1), A1, L1))) := by
      rw [hl1 (zin_lt z1) 112 z1 (hta 112 (by decide) z0), if_neg (by decide), if_pos rfl, zR_applies_3_q, show (2 : Int32) = nI 2 from rfl, hadd, hwf, zbi_s]
    have hMM := hm1 112 _ r75 r77
    rw [if_neg (by decide), if_pos rfl] at hMM
    by_cases hc : ztl T (a + 1) - 48 < 7 ∧ vP w < 4
    · obtain ⟨A', e1, e2, e3⟩ := k1 hc
      obtain ⟨B', f1, f2, f3, f4⟩ := m1 hc
      have e : vSz (vAp w (ztl T (a + 1) - 48) (zwe T n 8 97 (a + 2) 0).2) = vSz w := by unfold vSz; rw [vAp_o (by omega)]
      refine Or.inr ⟨A', B', _, by rw [hXX, e1, zbi_s, zcb_1], by rw [hMM]; exact f1, Ok_ap ho h0 hc.1 hu hc.2, by rw [e, h0], e2, f2, ⟨fun c i hc' hi => ?_, fun c i hc' hi => ?_, fun c c1 c2 => vAp_o (by omega)⟩, e3, f3, fun i hi => f4 i (by omega)⟩
      · by_cases h12 : c = 12
        · rw [h12, vAp_12, if_neg (by omega)]
        · rw [vAp_o (by omega)]
      · rcases hc' with rfl | rfl | rfl
        · rw [vAp_10, upd_o (by omega)]
        · rw [vAp_11, upd_o (by omega)]
        · rw [vAp_13, upd_o (by omega)]
    · exact Or.inl ⟨by rw [hXX, k2 hc, zbi_s, zcb_0], by rw [hMM]; exact m2 hc⟩
  · -- a worth
    obtain ⟨y1, y2, y3⟩ := zin_n (by decide) (by decide) z1
    obtain ⟨x1, x2, x3⟩ := zin_n (by decide) (by decide) z2
    obtain ⟨u1, u2, u3⟩ := zin_n (by decide) (by decide) z4
    have hl4 : ∀ j, j < n → zR_letter (d + 2) (nI j) A L = some (some (.int (T j)), A, L) := fun j hj => by rw [cLetter (by omega), hT]
    obtain ⟨y, hy, hyy, b79⟩ : ∃ y, zR_signedDigitAt (d + 3) (nI (a + 3)) A L = some (some (.int y), A, L) ∧ (-9 ≤ y.toInt ∧ y.toInt ≤ 9) ∧ B 79 k = y := by
      have hd : ∀ q, q ≤ 9 → -9 ≤ (nI q).toInt ∧ (nI q).toInt ≤ 9 ∧ -9 ≤ (-(nI q)).toInt ∧ (-(nI q)).toInt ≤ 9 := by decide
      have hdd := hd (ztl T (a + 4) - 48) (by omega)
      rcases r79 with ⟨v1, v2⟩ | ⟨v1, v3, v2⟩
      · obtain ⟨p1, p2, p3⟩ := zin_n (by decide) (by decide) v1
        refine ⟨nI (ztl T (a + 4) - 48), ?_, ⟨hdd.1, hdd.2.1⟩, v2⟩
        rw [zR_signedDigitAt_q, nI_1, hl4 _ (zin_lt z4), zbi_s, hl4 _ (zin_lt v1), zbi_s, p1, if_neg (show ¬ nI (ztl T (a + 3)) = 45 from nI_ne (show ztl T (a + 3) ≠ 45 by omega) (by omega) (by decide)), u1, show (48 : Int32) = nI 48 from rfl, pk_sub u2, zR_signedDigitAt_1_q, zR_signedDigitAt_2_q]
      · obtain ⟨p1, p2, p3⟩ := zin_n (by decide) (by decide) v3
        refine ⟨-(nI (ztl T (a + 4) - 48)), ?_, hdd.2.2, v2⟩
        rw [zR_signedDigitAt_q, nI_1, hl4 _ (zin_lt z4), zbi_s, hl4 _ (zin_lt v3), zbi_s, p1, if_pos (show nI (ztl T (a + 3)) = 45 from by rw [show ztl T (a + 3) = 45 by omega]; rfl), u1, show (48 : Int32) = nI 48 from rfl, pk_sub u2, zR_signedDigitAt_2_q]
    obtain ⟨k1, k2⟩ := cPutW (d := d + 2) (L := L) (x := y) (s := ztl T (a + 1) - 48) (t := ztl T (a + 2) - 65) ho hC (by omega) (by omega)
    obtain ⟨m1, m2⟩ := mPutW (d := dm + 1) (M := M) (x := y) (s := ztl T (a + 1) - 48) (t := ztl T (a + 2) - 65) ho hB hk (by omega) (by omega) r78 b79
    have hXX : zR_applies (d + 4) (nI a) A L = zbi (zPt_putWorth (d + 3) (nI (ztl T (a + 1) - 48)) (nI (ztl T (a + 2) - 65)) y A L) (fun r1 A1 L1 => zcb r1 (some (some (.int r1), A1, L1))) := by
      rw [hl1 (zin_lt z1) 118 z1 (hta 118 (by decide) z0), if_neg (by decide), if_neg (by decide), if_neg (by decide), if_pos rfl, zR_applies_4_q, show (2 : Int32) = nI 2 from rfl, hadd, hlet _ (zin_lt z2), zbi_s, show (3 : Int32) = nI 3 from rfl, hadd, hy, zbi_s, x1, show (65 : Int32) = nI 65 from rfl, pk_sub x2]
    have hMM := hm1 118 _ r75 r77
    rw [if_neg (by decide), if_neg (by decide), if_neg (by decide), if_pos rfl] at hMM
    by_cases hc : ztl T (a + 1) - 48 < vP w
    · obtain ⟨A', e1, e2, e3⟩ := k1 hc
      obtain ⟨B', f1, f2, f3⟩ := m1 hc
      have h5 := ho.P.2
      have e : vSz (vAw w (6 * (ztl T (a + 1) - 48) + (ztl T (a + 2) - 65)) y) = vSz w := by unfold vSz; rw [vAw_o (by omega)]
      refine Or.inr ⟨A', B', _, by rw [hXX, e1, zbi_s, zcb_1], by rw [hMM]; exact f1, Ok_aw ho hyy, by rw [e, h0], e2, f2, ⟨fun c i hc' hi => ?_, fun c i hc' hi => by rw [vAw_o (by omega)], fun c c1 c2 => vAw_o (by omega)⟩, e3, fun c c1 c2 => f3 c (by omega), fun i hi => by rw [f3 63 (by decide)]⟩
      by_cases h12 : c = 12
      · rw [h12, vAw_12, upd_o (by omega)]
      · rw [vAw_o h12]
    · exact Or.inl ⟨by rw [hXX, k2 hc, zbi_s, zcb_0], by rw [hMM]; exact m2 hc⟩
end AS
