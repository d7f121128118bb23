/-! ===== the relation of class and model ===== -/
/-- the image's world as a world -/
def zvi (A : zA) : zA := fun i => if i ≤ 16 then A (i + 16) else fun _ => 0
/-- a world that the model kept -/
def zKp (K : Nat → Int32) (b : Nat) (w : zA) : Prop :=
  (∀ j, j < 24 → K (b + j) = w 3 j ∧ K (b + 24 + j) = w 4 j ∧ K (b + 48 + j) = w 5 j ∧ K (b + 72 + j) = w 6 j ∧ K (b + 104 + j) = w 12 j) ∧
  (∀ j, j < 4 → K (b + 96 + j) = w 10 j ∧ K (b + 100 + j) = w 11 j ∧ K (b + 128 + j) = w 13 j) ∧ (∀ j, j < 8 → K (b + 132 + j) = w 15 j) ∧
  K (b + 140) = w 2 6 ∧ K (b + 141) = w 2 7 ∧ K (b + 142) = w 9 4 ∧ K (b + 143) = w 1 3 ∧ K (b + 144) = w 1 4 ∧ K (b + 145) = w 14 2 ∧ K (b + 146) = nI (vSt w) ∧ K (b + 147) = nI (vMe w) ∧ K (b + 148) = w 14 3
def RR (a : Nat) (A : zA) : Prop := Ok (zv A) ∧ zmw A (zv A) ∧ A 63 33 = 0 ∧ A 62 = A 64 ∧
  (∃ n, n ≤ 64 ∧ A 33 2 = nI n ∧ A 63 26 = nI n) ∧ A 34 = A 74 ∧
  (∃ n, n ≤ 8 ∧ A 0 9 = nI n ∧ A 63 45 = nI n ∧ ∀ i, i < n → zIs 8 (A 61 i)) ∧ A 61 = A 92 ∧
  ((A 0 10 = 0 ∧ A 63 30 = 0) ∨ (A 0 10 = 1 ∧ A 63 30 = 1 ∧ Ok (zvi A) ∧ zKp (A 81) 0 (zvi A))) ∧
  ∃ b, b ≤ a ∧ zOld A b
theorem RR.ok {a : Nat} {A : zA} (h : RR a A) : Ok (zv A) := h.1
theorem RR.mw {a : Nat} {A : zA} (h : RR a A) : zmw A (zv A) := h.2.1
theorem RR.gone {a : Nat} {A : zA} (h : RR a A) : A 63 33 = 0 := h.2.2.1
theorem RR.ref {a : Nat} {A : zA} (h : RR a A) : A 62 = A 64 := h.2.2.2.1
theorem RR.tape {a : Nat} {A : zA} (h : RR a A) : ∃ n, n ≤ 64 ∧ A 33 2 = nI n ∧ A 63 26 = nI n := h.2.2.2.2.1
theorem RR.lett {a : Nat} {A : zA} (h : RR a A) : A 34 = A 74 := h.2.2.2.2.2.1
theorem RR.rown {a : Nat} {A : zA} (h : RR a A) : ∃ n, n ≤ 8 ∧ A 0 9 = nI n ∧ A 63 45 = nI n ∧ ∀ i, i < n → zIs 8 (A 61 i) := h.2.2.2.2.2.2.1
theorem RR.rows {a : Nat} {A : zA} (h : RR a A) : A 61 = A 92 := h.2.2.2.2.2.2.2.1
theorem RR.img {a : Nat} {A : zA} (h : RR a A) : (A 0 10 = 0 ∧ A 63 30 = 0) ∨ (A 0 10 = 1 ∧ A 63 30 = 1 ∧ Ok (zvi A) ∧ zKp (A 81) 0 (zvi A)) := h.2.2.2.2.2.2.2.2.1
theorem RR.old {a : Nat} {A : zA} (h : RR a A) : ∃ b, b ≤ a ∧ zOld A b := h.2.2.2.2.2.2.2.2.2
theorem zKp_of {K K' : Nat → Int32} {w : zA} (h : zKp K 0 w) (hk : ∀ j, j < 200 → K' j = K j) : zKp K' 0 w := by
  obtain ⟨h1, h2, h3, h4⟩ := h
  refine ⟨fun j hj => ?_, fun j hj => ?_, fun j hj => ?_, ?_⟩
  · rw [hk _ (by omega), hk _ (by omega), hk _ (by omega), hk _ (by omega), hk _ (by omega)]; exact h1 j hj
  · rw [hk _ (by omega), hk _ (by omega), hk _ (by omega)]; exact h2 j hj
  · rw [hk _ (by omega)]; exact h3 j hj
  · rw [hk _ (by omega), hk _ (by omega), hk _ (by omega), hk _ (by omega), hk _ (by omega), hk _ (by omega), hk _ (by omega), hk _ (by omega), hk _ (by omega)]; exact h4
theorem zOld_of {A A' : zA} {b : Nat} (h : zOld A b) (h1 : A' 51 4 = A 51 4) (h2 : A' 52 = A 52) (h3 : A' 53 = A 53) : zOld A' b := by
  unfold zOld at *
  rw [h1, h2, h3]; exact h
/-- what lasts is the same -/
def zPs (A A' : zA) : Prop := (∀ c, c ≤ 34 → A' c = A c) ∧ (∀ c, 61 ≤ c → c ≤ 74 → c ≠ 63 → A' c = A c) ∧ (∀ i, ((10 ≤ i ∧ i ≤ 18) ∨ i = 26 ∨ i = 30 ∨ i = 33 ∨ i = 45) → A' 63 i = A 63 i) ∧ (∀ j, j < 200 → A' 81 j = A 81 j) ∧ A' 92 = A 92
theorem zmw_at {A B v : zA} (h : zmw A v) (h63 : ∀ i, 10 ≤ i → i ≤ 18 → B 63 i = A 63 i) (hc : ∀ c, 65 ≤ c → c ≤ 73 → B c = A c) : zmw B v := by
  unfold zmw at *
  rw [h63 10 (by decide) (by decide), h63 11 (by decide) (by decide), h63 12 (by decide) (by decide), h63 13 (by decide) (by decide), h63 14 (by decide) (by decide), h63 15 (by decide) (by decide), h63 16 (by decide) (by decide), h63 17 (by decide) (by decide), h63 18 (by decide) (by decide), hc 65 (by decide) (by decide), hc 66 (by decide) (by decide), hc 67 (by decide) (by decide), hc 68 (by decide) (by decide), hc 69 (by decide) (by decide), hc 70 (by decide) (by decide), hc 71 (by decide) (by decide), hc 72 (by decide) (by decide), hc 73 (by decide) (by decide)]
  exact h
theorem zvi_of {A A' : zA} (h : ∀ c, c ≤ 34 → A' c = A c) : zvi A' = zvi A := by
  funext i
  unfold zvi
  split
  · rw [h _ (by omega)]
  · rfl
theorem RR_ps {a a' : Nat} {A A' : zA} (h : RR a A) (hs : zPs A A') (ho : ∃ b, b ≤ a' ∧ zOld A' b) : RR a' A' := by
  obtain ⟨s1, s2, s3, s4, s5⟩ := hs
  have hv : zv A' = zv A := zv_of (fun c hc => s1 c (by omega))
  refine ⟨by rw [hv]; exact h.ok, ?_, by rw [s3 33 (by omega)]; exact h.gone, by rw [s2 62 (by decide) (by decide) (by decide), s2 64 (by decide) (by decide) (by decide)]; exact h.ref, ?_, by rw [s1 34 (by decide), s2 74 (by decide) (by decide) (by decide)]; exact h.lett, ?_, by rw [s2 61 (by decide) (by decide) (by decide), s5]; exact h.rows, ?_, ho⟩
  · rw [hv]
    exact zmw_at h.mw (fun i h1 h2 => s3 i (by omega)) (fun c h1 h2 => s2 c (by omega) (by omega) (by omega))
  · rw [s1 33 (by decide), s3 26 (by omega)]; exact h.tape
  · rw [s1 0 (by decide), s3 45 (by omega), s2 61 (by decide) (by decide) (by decide)]; exact h.rown
  · rw [s1 0 (by decide), s3 30 (by omega), zvi_of s1]
    rcases h.img with hi | ⟨i1, i2, i3, i4⟩
    · exact Or.inl hi
    · exact Or.inr ⟨i1, i2, i3, zKp_of i4 s4⟩
/-- a question: the class writes 51 .. 60 at most, the model 82 .. 91 -/
theorem RR_q {a a' : Nat} {A A1 A2 : zA} (h : RR a A) (h1 : ∀ c, (c < 51 ∨ 60 < c) → A1 c = A c) (h2 : ∀ c, (c < 82 ∨ 91 < c) → A2 c = A1 c) (ho : ∃ b, b ≤ a' ∧ zOld A1 b) : RR a' A2 := by
  obtain ⟨b, hb, hob⟩ := ho
  refine RR_ps h ⟨fun c hc => by rw [h2 c (by omega), h1 c (by omega)], fun c c1 c2 _ => by rw [h2 c (by omega), h1 c (by omega)], fun i _ => by rw [h2 63 (by decide), h1 63 (by decide)], fun j _ => by rw [h2 81 (by decide), h1 81 (by decide)], by rw [h2 92 (by decide), h1 92 (by decide)]⟩ ⟨b, hb, zOld_of hob (by rw [h2 51 (by decide)]) (h2 52 (by decide)) (h2 53 (by decide))⟩
theorem RR.up {a a' : Nat} {A : zA} (h : RR a A) (ha : a ≤ a') : RR a' A :=
  RR_ps h ⟨fun _ _ => rfl, fun _ _ _ _ => rfl, fun _ _ => rfl, fun _ _ => rfl, rfl⟩ (by obtain ⟨b, h1, h2⟩ := h.old; exact ⟨b, by omega, h2⟩)
/-- class and model answer alike and keep the relation -/
def zPr (f g : zA → zL → Option zR) : Prop := ∀ a A L, RR a A → a + 30 < 1048576 → ∃ w A1 L1 A2 L2, f A L = some (some (.int w), A1, L1) ∧ g A1 L1 = some (some (.int w), A2, L2) ∧ RR (a + 30) A2
theorem zcm {A A1 v : zA} (hv : zv A = v) (h1 : ∀ c, (c < 51 ∨ 60 < c) → A1 c = A c) (hw : zmw A v) : zmw A1 v := zmw_of hw (fun c a b => h1 c (by omega))
section RN
variable {a d : Nat} {A v : zA} {L : zL} {x : Int32}
theorem nI_up (n : Nat) : (nI n + 1 : Int32) = nI (n + 1) := nI_1 n
theorem zNo {k : Nat} (h : RR a A) (hx0 : ¬ (0 : Int32) ≤ x) (hx7 : ¬ x ≤ -(nI 7)) (hk : k < 7) (hx : -x = nI k) : ∃ A1 A2, (∀ d L, zX_refused d x A L = some (some (.int x), A1, L)) ∧ (∀ d L, zM_no d x A1 L = some (some (.int x), A2, L)) ∧ (∀ d L, zM_lower d x A1 L = some (some (.int (1000000000 - x)), A2, L)) ∧ (∀ c, c ≠ 62 → A1 c = A c) ∧ RR (a + 30) A2 := by
  refine ⟨zput A 62 k (A 62 k + 1), zput (zput A 62 k (A 62 k + 1)) 64 k (A 64 k + 1), fun d L => ?_, fun d L => ?_, fun d L => ?_, fun c hc => zput_o hc, ?_⟩
  · rw [zX_refused_q, if_neg hx0, if_neg hx7, hx, zck_n hk (by decide), zck_n hk (by decide), nI_clamp (by omega), zX_refused_1_q]
  · rw [zM_no_q, hx, zck_n hk (by decide), zck_n hk (by decide), nI_clamp (by omega), zput_o (show 64 ≠ 62 by decide)]
  · rw [zM_lower_q, hx, zck_n hk (by decide), zck_n hk (by decide), nI_clamp (by omega), zput_o (show 64 ≠ 62 by decide)]
  · have hc : ∀ c, c ≠ 62 → c ≠ 64 → zput (zput A 62 k (A 62 k + 1)) 64 k (A 64 k + 1) c = A c := fun c h1 h2 => by rw [zput_o h2, zput_o h1]
    have hv : zv (zput (zput A 62 k (A 62 k + 1)) 64 k (A 64 k + 1)) = zv A := zv_of (fun c hc' => hc c (by omega) (by omega))
    have e62 : zput (zput A 62 k (A 62 k + 1)) 64 k (A 64 k + 1) 62 = upd (A 62) k (A 62 k + 1) := by rw [zput_o (by decide), zput_s]
    have e64 : zput (zput A 62 k (A 62 k + 1)) 64 k (A 64 k + 1) 64 = upd (A 64) k (A 64 k + 1) := by rw [zput_s, zput_o (by decide)]
    refine ⟨by rw [hv]; exact h.ok, by rw [hv]; exact zmw_at h.mw (fun i _ _ => by rw [hc 63 (by decide) (by decide)]) (fun c h1 h2 => hc c (by omega) (by omega)), by rw [hc 63 (by decide) (by decide)]; exact h.gone, by rw [e62, e64, h.ref], by rw [hc 33 (by decide) (by decide), hc 63 (by decide) (by decide)]; exact h.tape, by rw [hc 34 (by decide) (by decide), hc 74 (by decide) (by decide)]; exact h.lett, by rw [hc 0 (by decide) (by decide), hc 63 (by decide) (by decide), hc 61 (by decide) (by decide)]; exact h.rown, by rw [hc 61 (by decide) (by decide), hc 92 (by decide) (by decide)]; exact h.rows, ?_, ?_⟩
    · rw [hc 0 (by decide) (by decide), hc 63 (by decide) (by decide), hc 81 (by decide) (by decide), zvi_of (fun c hc' => hc c (by omega) (by omega))]; exact h.img
    · obtain ⟨b, h1, h2⟩ := h.old
      exact ⟨b, by omega, zOld_of h2 (by rw [hc 51 (by decide) (by decide)]) (hc 52 (by decide) (by decide)) (hc 53 (by decide) (by decide))⟩
theorem zNo1 (h : RR a A) : ∃ A1 A2, (∀ d L, zX_refused d (-1) A L = some (some (.int (-1)), A1, L)) ∧ (∀ d L, zM_no d (-1) A1 L = some (some (.int (-1)), A2, L)) ∧ (∀ d L, zM_lower d (-1) A1 L = some (some (.int (1000000000 - -1)), A2, L)) ∧ (∀ c, c ≠ 62 → A1 c = A c) ∧ RR (a + 30) A2 := zNo (k := 1) h (by decide) (by decide) (by decide) (by decide)
theorem zNo2 (h : RR a A) : ∃ A1 A2, (∀ d L, zX_refused d (-2) A L = some (some (.int (-2)), A1, L)) ∧ (∀ d L, zM_no d (-2) A1 L = some (some (.int (-2)), A2, L)) ∧ (∀ d L, zM_lower d (-2) A1 L = some (some (.int (1000000000 - -2)), A2, L)) ∧ (∀ c, c ≠ 62 → A1 c = A c) ∧ RR (a + 30) A2 := zNo (k := 2) h (by decide) (by decide) (by decide) (by decide)
theorem zNo3 (h : RR a A) : ∃ A1 A2, (∀ d L, zX_refused d (-3) A L = some (some (.int (-3)), A1, L)) ∧ (∀ d L, zM_no d (-3) A1 L = some (some (.int (-3)), A2, L)) ∧ (∀ d L, zM_lower d (-3) A1 L = some (some (.int (1000000000 - -3)), A2, L)) ∧ (∀ c, c ≠ 62 → A1 c = A c) ∧ RR (a + 30) A2 := zNo (k := 3) h (by decide) (by decide) (by decide) (by decide)
theorem zNo4 (h : RR a A) : ∃ A1 A2, (∀ d L, zX_refused d (-4) A L = some (some (.int (-4)), A1, L)) ∧ (∀ d L, zM_no d (-4) A1 L = some (some (.int (-4)), A2, L)) ∧ (∀ d L, zM_lower d (-4) A1 L = some (some (.int (1000000000 - -4)), A2, L)) ∧ (∀ c, c ≠ 62 → A1 c = A c) ∧ RR (a + 30) A2 := zNo (k := 4) h (by decide) (by decide) (by decide) (by decide)
theorem zNo6 (h : RR a A) : ∃ A1 A2, (∀ d L, zX_refused d (-6) A L = some (some (.int (-6)), A1, L)) ∧ (∀ d L, zM_no d (-6) A1 L = some (some (.int (-6)), A2, L)) ∧ (∀ d L, zM_lower d (-6) A1 L = some (some (.int (1000000000 - -6)), A2, L)) ∧ (∀ c, c ≠ 62 → A1 c = A c) ∧ RR (a + 30) A2 := zNo (k := 6) h (by decide) (by decide) (by decide) (by decide)
theorem zOne (ho : Ok v) (x : Int32) : (x < 0 ∨ v 9 4 ≤ x) ∨ ∃ p, p < vP v ∧ x = nI p := by
  have h5 := ho.P
  rcases zIs_or x (b := vP v) (by omega) with h | h | ⟨p, h1, h2⟩
  · exact Or.inl (Or.inl h)
  · rw [h5.1]; exact Or.inl (Or.inr h)
  · exact Or.inr ⟨p, h1, h2⟩
theorem zIn (b : Nat) (hb : b < 2 ^ 31) (x : Int32) : (x < 0 ∨ nI b ≤ x) ∨ ∃ k, k < b ∧ x = nI k := by
  rcases zIs_or x hb with h | h | ⟨p, h1, h2⟩
  · exact Or.inl (Or.inl h)
  · exact Or.inl (Or.inr h)
  · exact Or.inr ⟨p, h1, h2⟩
theorem cNobody1 (hv : zv A = v) (h : x < 0 ∨ v 9 4 ≤ x) : zX_isNobody d x A L = some (some (.int 1), A, L) := by
  rw [zX_isNobody_q]
  by_cases h0 : x < 0
  · rw [if_pos h0, zX_isNobody_1_q, zX_isNobody_3_q, zcb_1]
  · rw [if_neg h0, zv_c hv 9 (by decide), if_neg (Int32.not_lt.mpr (h.resolve_left h0)), zX_isNobody_1_q, zX_isNobody_3_q, zcb_1]
theorem cNobody0 {p : Nat} (ho : Ok v) (hv : zv A = v) (hp : p < vP v) : zX_isNobody d (nI p) A L = some (some (.int 0), A, L) := by
  have h5 := ho.P
  rw [zX_isNobody_q, if_neg (nI_pos (by omega)), zv_c hv 9 (by decide), h5.1, if_pos (nI_lt hp (by omega)), zX_isNobody_2_q, zX_isNobody_3_q, zcb_0]
theorem mOne0 (hw : zmw A v) (h : x < 0 ∨ v 9 4 ≤ x) : zM_isOne d x A L = some (some (.int 0), A, L) := by
  rw [mIsOne hw, if_pos h]
theorem mOne1 {p : Nat} (ho : Ok v) (hw : zmw A v) (hp : p < vP v) : zM_isOne d (nI p) A L = some (some (.int 1), A, L) := by
  have h5 := ho.P
  rw [mIsOne hw, if_neg]
  rintro (h | h)
  · exact nI_pos (by omega) h
  · rw [h5.1] at h
    exact nI_ge hp (by omega) h
theorem zlt_up {b : Nat} (hb : b + 1 < 2 ^ 31) (x : Int32) : nI b < x ↔ nI (b + 1) ≤ x := by
  rw [Int32.lt_iff_toInt_lt, Int32.le_iff_toInt_le, nI_toInt (by omega), nI_toInt hb]
  omega
theorem mIn0 {b : Nat} {c : Int32} (hc : c = nI b) (hb : b + 1 < 2 ^ 31) (h : x < 0 ∨ nI (b + 1) ≤ x) : zM_isIn d x 0 c A L = some (some (.int 0), A, L) := by
  rw [mIsIn, if_pos]
  rw [hc, zlt_up hb]; exact h
theorem mIn1 {b k : Nat} {c : Int32} (hc : c = nI b) (hb : b + 1 < 2 ^ 31) (h : k < b + 1) : zM_isIn d (nI k) 0 c A L = some (some (.int 1), A, L) := by
  rw [mIsIn, if_neg]
  rw [hc, zlt_up hb]
  rintro (h1 | h1)
  · exact nI_pos (by omega) h1
  · exact nI_ge h (by omega) h1
theorem cNoMark1 (h : x < 0 ∨ nI 6 ≤ x) : zX_isNoMark d x A L = some (some (.int 1), A, L) := by
  rw [zX_isNoMark_q]
  by_cases h0 : x < 0
  · rw [if_pos h0, zX_isNoMark_1_q, zX_isNoMark_3_q, zcb_1]
  · rw [if_neg h0, show (6 : Int32) = nI 6 from rfl, if_neg (Int32.not_lt.mpr (h.resolve_left h0)), zX_isNoMark_1_q, zX_isNoMark_3_q, zcb_1]
theorem cNoMark0 {k : Nat} (h : k < 6) : zX_isNoMark d (nI k) A L = some (some (.int 0), A, L) := by
  rw [zX_isNoMark_q, if_neg (nI_pos (by omega)), show (6 : Int32) = nI 6 from rfl, if_pos (nI_lt h (by omega)), zX_isNoMark_2_q, zX_isNoMark_3_q, zcb_0]
theorem cNoWord1 (h : x < 0 ∨ nI 8 ≤ x) : zX_isNoWord d x A L = some (some (.int 1), A, L) := by
  rw [zX_isNoWord_q]
  by_cases h0 : x < 0
  · rw [if_pos h0, zX_isNoWord_1_q, zX_isNoWord_3_q, zcb_1]
  · rw [if_neg h0, show (8 : Int32) = nI 8 from rfl, if_neg (Int32.not_lt.mpr (h.resolve_left h0)), zX_isNoWord_1_q, zX_isNoWord_3_q, zcb_1]
theorem cNoWord0 {k : Nat} (h : k < 8) : zX_isNoWord d (nI k) A L = some (some (.int 0), A, L) := by
  rw [zX_isNoWord_q, if_neg (nI_pos (by omega)), show (8 : Int32) = nI 8 from rfl, if_pos (nI_lt h (by omega)), zX_isNoWord_2_q, zX_isNoWord_3_q, zcb_0]
theorem cWorthRef {A1 : zA} (h : ∀ d L, zX_refused d x A L = some (some (.int x), A1, L)) : zX_worthRefused (d + 1) x A L = some (some (.int (1000000000 - x)), A1, L) := by
  rw [zX_worthRefused_q, h, zbi_s]
end RN
