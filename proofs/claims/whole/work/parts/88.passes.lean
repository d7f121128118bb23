/-! ===== the model keeps its world, and puts it back ===== -/
def zvl (A : zA) (j : Nat) : Int32 := if j < 24 then A 65 j else if j < 48 then A 66 (j - 24) else if j < 72 then A 67 (j - 48) else if j < 96 then A 68 (j - 72) else if j < 100 then A 69 (j - 96) else if j < 104 then A 70 (j - 100) else if j < 128 then A 71 (j - 104) else if j < 132 then A 72 (j - 128) else if j < 140 then A 73 (j - 132) else A 63 (j - 130)
/-- so many places are kept -/
def zKe (b : Nat) (A0 : zA) (c : Nat) (A : zA) : Prop := (∀ x, x ≠ 63 → x ≠ 81 → A x = A0 x) ∧ (∀ i, i ≠ 31 → i ≠ 32 → A 63 i = A0 63 i) ∧ A 63 31 = 1 ∧ A 63 32 = nI (b + c) ∧ (∀ i, (i < b ∨ b + 149 ≤ i) → A 81 i = A0 81 i) ∧ ∀ j, j < c → A 81 (b + j) = zvl A0 j
section PA
variable {d b c : Nat} {A A0 v w : zA} {L : zL} {x : Int32}
theorem zKe.step (h : zKe b A0 c A) (hc : c < 149) (hx : x = zvl A0 c) : zKe b A0 (c + 1) (zput (zput A 81 (b + c) x) 63 32 (nI (b + c + 1))) := by
  obtain ⟨h1, h2, h3, h4, h5, h6⟩ := h
  have e81 : zput (zput A 81 (b + c) x) 63 32 (nI (b + c + 1)) 81 = upd (A 81) (b + c) x := by rw [zput_o (by decide), zput_s]
  have e63 : zput (zput A 81 (b + c) x) 63 32 (nI (b + c + 1)) 63 = upd (A 63) 32 (nI (b + c + 1)) := by rw [zput_s, zput_o (by decide)]
  refine ⟨fun y a e => by rw [zput_o a, zput_o e]; exact h1 y a e, fun i a e => by rw [e63, upd_o e]; exact h2 i a e, by rw [e63, upd_o (by decide)]; exact h3, by rw [e63, upd_s]; rfl, fun i hi => by rw [e81, upd_o (by omega)]; exact h5 i hi, fun j hj => ?_⟩
  rw [e81]
  by_cases e : j = c
  · rw [e, upd_s, hx]
  · rw [upd_o (by omega)]; exact h6 j (by omega)
theorem zKe.same (h : zKe b A0 c A) {i : Nat} (h1 : i ≠ 31) (h2 : i ≠ 32) : zput A 63 i (A0 63 i) = A := by
  funext y
  by_cases e : y = 63
  · subst e; rw [zput_s, upd_id (h.2.1 i h1 h2)]
  · rw [zput_o e]
theorem mKeepOne (h : zKe b A0 c A) (hb : b + 149 ≤ 400) (hc : c < 149) (hx : x = zvl A0 c) : ∃ A', zM_passOne d x A L = some (some (.int x), A', L) ∧ zKe b A0 (c + 1) A' := by
  have h3 := h.2.2.1
  have h4 := h.2.2.2.1
  refine ⟨_, ?_, h.step hc hx⟩
  have h4' : zput A 81 (b + c) x 63 32 = nI (b + c) := by rw [zput_o (by decide), h4]
  rw [zM_passOne_q, h3, if_neg (by decide), zM_passOne_2_q, h3, if_neg (by decide), h4, zck_n (by omega) (by decide), nI_clamp (by omega), zM_passOne_3_q, h4', nI_1]
theorem mPutOne (h3 : A 63 31 = 0) (h4 : A 63 32 = nI c) (hc : c < 400) : zM_passOne d x A L = some (some (.int (A 81 c)), zput A 63 32 (nI (c + 1)), L) := by
  rw [zM_passOne_q, h3, if_pos rfl, zM_passOne_1_q, h4, zck_n hc (by decide), nI_clamp (by omega), zM_passOne_2_q, h3, if_pos rfl, zM_passOne_3_q, h4, nI_1]
theorem mKeep_65 (hb : b + 149 ≤ 400) : ∀ q j A, j + q = 24 → zKe b A0 (0 + j) A → ∃ A', zM_passes_65_1 d (nI j) A L = some (none, A', L) ∧ zKe b A0 24 A' := by
  intro q
  induction q with
  | zero =>
    intro j A hj h
    have e : j = 24 := by omega
    subst e
    exact ⟨A, by rw [zM_passes_65_1_q, if_pos (by decide), zM_passes_65_4_q], h⟩
  | succ q ih =>
    intro j A hj h
    have h3 := h.2.2.1
    have h4 := h.2.2.2.1
    have hx : A 65 j = zvl A0 (0 + j) := by
      rw [h.1 65 (by decide) (by decide)]
      unfold zvl
      rw [if_pos (by omega), Nat.zero_add]
    obtain ⟨A', e1, e2⟩ := ih (j + 1) _ (by omega) (h.step (by omega) hx)
    refine ⟨A', ?_, e2⟩
    have h4' : zput A 81 (b + (0 + j)) (A 65 j) 63 32 = nI (b + (0 + j)) := by rw [zput_o (by decide), h4]
    rw [zM_passes_65_1_q, if_neg (nI_ge (by omega) (by omega)), h3, if_neg (by decide), zck_n (by omega) (by decide), h4, zck_n (by omega) (by decide), nI_clamp (by omega), nI_clamp (by omega), zM_passes_65_3_q, h4', nI_1, nI_1]
    exact e1
theorem mPut_65 (hc : c + 24 ≤ 400) : ∀ q j A, j + q = 24 → A 63 31 = 0 → A 63 32 = nI (c + j) → ∃ A', zM_passes_65_1 d (nI j) A L = some (none, A', L) ∧ (∀ x, x ≠ 63 → x ≠ 65 → A' x = A x) ∧ (∀ i, i ≠ 32 → A' 63 i = A 63 i) ∧ A' 63 32 = nI (c + 24) ∧ ∀ i, A' 65 i = if j ≤ i ∧ i < 24 then A 81 (c + i) else A 65 i := by
  intro q
  induction q with
  | zero =>
    intro j A hj h3 h4
    have e : j = 24 := by omega
    subst e
    exact ⟨A, by rw [zM_passes_65_1_q, if_pos (by decide), zM_passes_65_4_q], fun _ _ _ => rfl, fun _ _ => rfl, h4, fun i => by rw [if_neg (by omega)]⟩
  | succ q ih =>
    intro j A hj h3 h4
    have h4' : zput A 65 j (A 81 (c + j)) 63 32 = nI (c + j) := by rw [zput_o (by decide), h4]
    obtain ⟨A', e1, e2, e3, e4, e5⟩ := ih (j + 1) (zput (zput A 65 j (A 81 (c + j))) 63 32 (nI (c + (j + 1)))) (by omega) (by rw [zput_s, upd_o (by decide), zput_o (by decide), h3]) (by rw [zput_s, upd_s])
    refine ⟨A', ?_, fun x a b => by rw [e2 x a b, zput_o a, zput_o b], fun i hi => by rw [e3 i hi, zput_s, upd_o hi, zput_o (by decide)], e4, fun i => ?_⟩
    · rw [zM_passes_65_1_q, if_neg (nI_ge (by omega) (by omega)), h3, if_pos rfl, zM_passes_65_2_q, h4, zck_n (by omega) (by decide), zck_n (by omega) (by decide), nI_clamp (by omega), nI_clamp (by omega), zM_passes_65_3_q, h4', nI_1, nI_1]
      exact e1
    · rw [e5 i, zput_o (show 81 ≠ 63 by decide), zput_o (show 81 ≠ 65 by decide), zput_o (show 65 ≠ 63 by decide), zput_s]
      by_cases e : i = j
      · rw [e, if_neg (by omega), if_pos (by omega), upd_s]
      · rw [upd_o e]
        by_cases h : j + 1 ≤ i ∧ i < 24
        · rw [if_pos h, if_pos (by omega)]
        · rw [if_neg h, if_neg (by omega)]
theorem mKeep_66 (hb : b + 149 ≤ 400) : ∀ q j A, j + q = 24 → zKe b A0 (24 + j) A → ∃ A', zM_passes_66_1 d (nI j) A L = some (none, A', L) ∧ zKe b A0 48 A' := by
  intro q
  induction q with
  | zero =>
    intro j A hj h
    have e : j = 24 := by omega
    subst e
    exact ⟨A, by rw [zM_passes_66_1_q, if_pos (by decide), zM_passes_66_4_q], h⟩
  | succ q ih =>
    intro j A hj h
    have h3 := h.2.2.1
    have h4 := h.2.2.2.1
    have hx : A 66 j = zvl A0 (24 + j) := by
      rw [h.1 66 (by decide) (by decide)]
      unfold zvl
      rw [if_neg (by omega), if_pos (by omega), show 24 + j - 24 = j by omega]
    obtain ⟨A', e1, e2⟩ := ih (j + 1) _ (by omega) (h.step (by omega) hx)
    refine ⟨A', ?_, e2⟩
    have h4' : zput A 81 (b + (24 + j)) (A 66 j) 63 32 = nI (b + (24 + j)) := by rw [zput_o (by decide), h4]
    rw [zM_passes_66_1_q, if_neg (nI_ge (by omega) (by omega)), h3, if_neg (by decide), zck_n (by omega) (by decide), h4, zck_n (by omega) (by decide), nI_clamp (by omega), nI_clamp (by omega), zM_passes_66_3_q, h4', nI_1, nI_1]
    exact e1
theorem mPut_66 (hc : c + 24 ≤ 400) : ∀ q j A, j + q = 24 → A 63 31 = 0 → A 63 32 = nI (c + j) → ∃ A', zM_passes_66_1 d (nI j) A L = some (none, A', L) ∧ (∀ x, x ≠ 63 → x ≠ 66 → A' x = A x) ∧ (∀ i, i ≠ 32 → A' 63 i = A 63 i) ∧ A' 63 32 = nI (c + 24) ∧ ∀ i, A' 66 i = if j ≤ i ∧ i < 24 then A 81 (c + i) else A 66 i := by
  intro q
  induction q with
  | zero =>
    intro j A hj h3 h4
    have e : j = 24 := by omega
    subst e
    exact ⟨A, by rw [zM_passes_66_1_q, if_pos (by decide), zM_passes_66_4_q], fun _ _ _ => rfl, fun _ _ => rfl, h4, fun i => by rw [if_neg (by omega)]⟩
  | succ q ih =>
    intro j A hj h3 h4
    have h4' : zput A 66 j (A 81 (c + j)) 63 32 = nI (c + j) := by rw [zput_o (by decide), h4]
    obtain ⟨A', e1, e2, e3, e4, e5⟩ := ih (j + 1) (zput (zput A 66 j (A 81 (c + j))) 63 32 (nI (c + (j + 1)))) (by omega) (by rw [zput_s, upd_o (by decide), zput_o (by decide), h3]) (by rw [zput_s, upd_s])
    refine ⟨A', ?_, fun x a b => by rw [e2 x a b, zput_o a, zput_o b], fun i hi => by rw [e3 i hi, zput_s, upd_o hi, zput_o (by decide)], e4, fun i => ?_⟩
    · rw [zM_passes_66_1_q, if_neg (nI_ge (by omega) (by omega)), h3, if_pos rfl, zM_passes_66_2_q, h4, zck_n (by omega) (by decide), zck_n (by omega) (by decide), nI_clamp (by omega), nI_clamp (by omega), zM_passes_66_3_q, h4', nI_1, nI_1]
      exact e1
    · rw [e5 i, zput_o (show 81 ≠ 63 by decide), zput_o (show 81 ≠ 66 by decide), zput_o (show 66 ≠ 63 by decide), zput_s]
      by_cases e : i = j
      · rw [e, if_neg (by omega), if_pos (by omega), upd_s]
      · rw [upd_o e]
        by_cases h : j + 1 ≤ i ∧ i < 24
        · rw [if_pos h, if_pos (by omega)]
        · rw [if_neg h, if_neg (by omega)]
theorem mKeep_67 (hb : b + 149 ≤ 400) : ∀ q j A, j + q = 24 → zKe b A0 (48 + j) A → ∃ A', zM_passes_67_1 d (nI j) A L = some (none, A', L) ∧ zKe b A0 72 A' := by
  intro q
  induction q with
  | zero =>
    intro j A hj h
    have e : j = 24 := by omega
    subst e
    exact ⟨A, by rw [zM_passes_67_1_q, if_pos (by decide), zM_passes_67_4_q], h⟩
  | succ q ih =>
    intro j A hj h
    have h3 := h.2.2.1
    have h4 := h.2.2.2.1
    have hx : A 67 j = zvl A0 (48 + j) := by
      rw [h.1 67 (by decide) (by decide)]
      unfold zvl
      rw [if_neg (by omega), if_neg (by omega), if_pos (by omega), show 48 + j - 48 = j by omega]
    obtain ⟨A', e1, e2⟩ := ih (j + 1) _ (by omega) (h.step (by omega) hx)
    refine ⟨A', ?_, e2⟩
    have h4' : zput A 81 (b + (48 + j)) (A 67 j) 63 32 = nI (b + (48 + j)) := by rw [zput_o (by decide), h4]
    rw [zM_passes_67_1_q, if_neg (nI_ge (by omega) (by omega)), h3, if_neg (by decide), zck_n (by omega) (by decide), h4, zck_n (by omega) (by decide), nI_clamp (by omega), nI_clamp (by omega), zM_passes_67_3_q, h4', nI_1, nI_1]
    exact e1
theorem mPut_67 (hc : c + 24 ≤ 400) : ∀ q j A, j + q = 24 → A 63 31 = 0 → A 63 32 = nI (c + j) → ∃ A', zM_passes_67_1 d (nI j) A L = some (none, A', L) ∧ (∀ x, x ≠ 63 → x ≠ 67 → A' x = A x) ∧ (∀ i, i ≠ 32 → A' 63 i = A 63 i) ∧ A' 63 32 = nI (c + 24) ∧ ∀ i, A' 67 i = if j ≤ i ∧ i < 24 then A 81 (c + i) else A 67 i := by
  intro q
  induction q with
  | zero =>
    intro j A hj h3 h4
    have e : j = 24 := by omega
    subst e
    exact ⟨A, by rw [zM_passes_67_1_q, if_pos (by decide), zM_passes_67_4_q], fun _ _ _ => rfl, fun _ _ => rfl, h4, fun i => by rw [if_neg (by omega)]⟩
  | succ q ih =>
    intro j A hj h3 h4
    have h4' : zput A 67 j (A 81 (c + j)) 63 32 = nI (c + j) := by rw [zput_o (by decide), h4]
    obtain ⟨A', e1, e2, e3, e4, e5⟩ := ih (j + 1) (zput (zput A 67 j (A 81 (c + j))) 63 32 (nI (c + (j + 1)))) (by omega) (by rw [zput_s, upd_o (by decide), zput_o (by decide), h3]) (by rw [zput_s, upd_s])
    refine ⟨A', ?_, fun x a b => by rw [e2 x a b, zput_o a, zput_o b], fun i hi => by rw [e3 i hi, zput_s, upd_o hi, zput_o (by decide)], e4, fun i => ?_⟩
    · rw [zM_passes_67_1_q, if_neg (nI_ge (by omega) (by omega)), h3, if_pos rfl, zM_passes_67_2_q, h4, zck_n (by omega) (by decide), zck_n (by omega) (by decide), nI_clamp (by omega), nI_clamp (by omega), zM_passes_67_3_q, h4', nI_1, nI_1]
      exact e1
    · rw [e5 i, zput_o (show 81 ≠ 63 by decide), zput_o (show 81 ≠ 67 by decide), zput_o (show 67 ≠ 63 by decide), zput_s]
      by_cases e : i = j
      · rw [e, if_neg (by omega), if_pos (by omega), upd_s]
      · rw [upd_o e]
        by_cases h : j + 1 ≤ i ∧ i < 24
        · rw [if_pos h, if_pos (by omega)]
        · rw [if_neg h, if_neg (by omega)]
theorem mKeep_68 (hb : b + 149 ≤ 400) : ∀ q j A, j + q = 24 → zKe b A0 (72 + j) A → ∃ A', zM_passes_68_1 d (nI j) A L = some (none, A', L) ∧ zKe b A0 96 A' := by
  intro q
  induction q with
  | zero =>
    intro j A hj h
    have e : j = 24 := by omega
    subst e
    exact ⟨A, by rw [zM_passes_68_1_q, if_pos (by decide), zM_passes_68_4_q], h⟩
  | succ q ih =>
    intro j A hj h
    have h3 := h.2.2.1
    have h4 := h.2.2.2.1
    have hx : A 68 j = zvl A0 (72 + j) := by
      rw [h.1 68 (by decide) (by decide)]
      unfold zvl
      rw [if_neg (by omega), if_neg (by omega), if_neg (by omega), if_pos (by omega), show 72 + j - 72 = j by omega]
    obtain ⟨A', e1, e2⟩ := ih (j + 1) _ (by omega) (h.step (by omega) hx)
    refine ⟨A', ?_, e2⟩
    have h4' : zput A 81 (b + (72 + j)) (A 68 j) 63 32 = nI (b + (72 + j)) := by rw [zput_o (by decide), h4]
    rw [zM_passes_68_1_q, if_neg (nI_ge (by omega) (by omega)), h3, if_neg (by decide), zck_n (by omega) (by decide), h4, zck_n (by omega) (by decide), nI_clamp (by omega), nI_clamp (by omega), zM_passes_68_3_q, h4', nI_1, nI_1]
    exact e1
theorem mPut_68 (hc : c + 24 ≤ 400) : ∀ q j A, j + q = 24 → A 63 31 = 0 → A 63 32 = nI (c + j) → ∃ A', zM_passes_68_1 d (nI j) A L = some (none, A', L) ∧ (∀ x, x ≠ 63 → x ≠ 68 → A' x = A x) ∧ (∀ i, i ≠ 32 → A' 63 i = A 63 i) ∧ A' 63 32 = nI (c + 24) ∧ ∀ i, A' 68 i = if j ≤ i ∧ i < 24 then A 81 (c + i) else A 68 i := by
  intro q
  induction q with
  | zero =>
    intro j A hj h3 h4
    have e : j = 24 := by omega
    subst e
    exact ⟨A, by rw [zM_passes_68_1_q, if_pos (by decide), zM_passes_68_4_q], fun _ _ _ => rfl, fun _ _ => rfl, h4, fun i => by rw [if_neg (by omega)]⟩
  | succ q ih =>
    intro j A hj h3 h4
    have h4' : zput A 68 j (A 81 (c + j)) 63 32 = nI (c + j) := by rw [zput_o (by decide), h4]
    obtain ⟨A', e1, e2, e3, e4, e5⟩ := ih (j + 1) (zput (zput A 68 j (A 81 (c + j))) 63 32 (nI (c + (j + 1)))) (by omega) (by rw [zput_s, upd_o (by decide), zput_o (by decide), h3]) (by rw [zput_s, upd_s])
    refine ⟨A', ?_, fun x a b => by rw [e2 x a b, zput_o a, zput_o b], fun i hi => by rw [e3 i hi, zput_s, upd_o hi, zput_o (by decide)], e4, fun i => ?_⟩
    · rw [zM_passes_68_1_q, if_neg (nI_ge (by omega) (by omega)), h3, if_pos rfl, zM_passes_68_2_q, h4, zck_n (by omega) (by decide), zck_n (by omega) (by decide), nI_clamp (by omega), nI_clamp (by omega), zM_passes_68_3_q, h4', nI_1, nI_1]
      exact e1
    · rw [e5 i, zput_o (show 81 ≠ 63 by decide), zput_o (show 81 ≠ 68 by decide), zput_o (show 68 ≠ 63 by decide), zput_s]
      by_cases e : i = j
      · rw [e, if_neg (by omega), if_pos (by omega), upd_s]
      · rw [upd_o e]
        by_cases h : j + 1 ≤ i ∧ i < 24
        · rw [if_pos h, if_pos (by omega)]
        · rw [if_neg h, if_neg (by omega)]
theorem mKeep_69 (hb : b + 149 ≤ 400) : ∀ q j A, j + q = 4 → zKe b A0 (96 + j) A → ∃ A', zM_passes_69_1 d (nI j) A L = some (none, A', L) ∧ zKe b A0 100 A' := by
  intro q
  induction q with
  | zero =>
    intro j A hj h
    have e : j = 4 := by omega
    subst e
    exact ⟨A, by rw [zM_passes_69_1_q, if_pos (by decide), zM_passes_69_4_q], h⟩
  | succ q ih =>
    intro j A hj h
    have h3 := h.2.2.1
    have h4 := h.2.2.2.1
    have hx : A 69 j = zvl A0 (96 + j) := by
      rw [h.1 69 (by decide) (by decide)]
      unfold zvl
      rw [if_neg (by omega), if_neg (by omega), if_neg (by omega), if_neg (by omega), if_pos (by omega), show 96 + j - 96 = j by omega]
    obtain ⟨A', e1, e2⟩ := ih (j + 1) _ (by omega) (h.step (by omega) hx)
    refine ⟨A', ?_, e2⟩
    have h4' : zput A 81 (b + (96 + j)) (A 69 j) 63 32 = nI (b + (96 + j)) := by rw [zput_o (by decide), h4]
    rw [zM_passes_69_1_q, if_neg (nI_ge (by omega) (by omega)), h3, if_neg (by decide), zck_n (by omega) (by decide), h4, zck_n (by omega) (by decide), nI_clamp (by omega), nI_clamp (by omega), zM_passes_69_3_q, h4', nI_1, nI_1]
    exact e1
theorem mPut_69 (hc : c + 4 ≤ 400) : ∀ q j A, j + q = 4 → A 63 31 = 0 → A 63 32 = nI (c + j) → ∃ A', zM_passes_69_1 d (nI j) A L = some (none, A', L) ∧ (∀ x, x ≠ 63 → x ≠ 69 → A' x = A x) ∧ (∀ i, i ≠ 32 → A' 63 i = A 63 i) ∧ A' 63 32 = nI (c + 4) ∧ ∀ i, A' 69 i = if j ≤ i ∧ i < 4 then A 81 (c + i) else A 69 i := by
  intro q
  induction q with
  | zero =>
    intro j A hj h3 h4
    have e : j = 4 := by omega
    subst e
    exact ⟨A, by rw [zM_passes_69_1_q, if_pos (by decide), zM_passes_69_4_q], fun _ _ _ => rfl, fun _ _ => rfl, h4, fun i => by rw [if_neg (by omega)]⟩
  | succ q ih =>
    intro j A hj h3 h4
    have h4' : zput A 69 j (A 81 (c + j)) 63 32 = nI (c + j) := by rw [zput_o (by decide), h4]
    obtain ⟨A', e1, e2, e3, e4, e5⟩ := ih (j + 1) (zput (zput A 69 j (A 81 (c + j))) 63 32 (nI (c + (j + 1)))) (by omega) (by rw [zput_s, upd_o (by decide), zput_o (by decide), h3]) (by rw [zput_s, upd_s])
    refine ⟨A', ?_, fun x a b => by rw [e2 x a b, zput_o a, zput_o b], fun i hi => by rw [e3 i hi, zput_s, upd_o hi, zput_o (by decide)], e4, fun i => ?_⟩
    · rw [zM_passes_69_1_q, if_neg (nI_ge (by omega) (by omega)), h3, if_pos rfl, zM_passes_69_2_q, h4, zck_n (by omega) (by decide), zck_n (by omega) (by decide), nI_clamp (by omega), nI_clamp (by omega), zM_passes_69_3_q, h4', nI_1, nI_1]
      exact e1
    · rw [e5 i, zput_o (show 81 ≠ 63 by decide), zput_o (show 81 ≠ 69 by decide), zput_o (show 69 ≠ 63 by decide), zput_s]
      by_cases e : i = j
      · rw [e, if_neg (by omega), if_pos (by omega), upd_s]
      · rw [upd_o e]
        by_cases h : j + 1 ≤ i ∧ i < 4
        · rw [if_pos h, if_pos (by omega)]
        · rw [if_neg h, if_neg (by omega)]
theorem mKeep_70 (hb : b + 149 ≤ 400) : ∀ q j A, j + q = 4 → zKe b A0 (100 + j) A → ∃ A', zM_passes_70_1 d (nI j) A L = some (none, A', L) ∧ zKe b A0 104 A' := by
  intro q
  induction q with
  | zero =>
    intro j A hj h
    have e : j = 4 := by omega
    subst e
    exact ⟨A, by rw [zM_passes_70_1_q, if_pos (by decide), zM_passes_70_4_q], h⟩
  | succ q ih =>
    intro j A hj h
    have h3 := h.2.2.1
    have h4 := h.2.2.2.1
    have hx : A 70 j = zvl A0 (100 + j) := by
      rw [h.1 70 (by decide) (by decide)]
      unfold zvl
      rw [if_neg (by omega), if_neg (by omega), if_neg (by omega), if_neg (by omega), if_neg (by omega), if_pos (by omega), show 100 + j - 100 = j by omega]
    obtain ⟨A', e1, e2⟩ := ih (j + 1) _ (by omega) (h.step (by omega) hx)
    refine ⟨A', ?_, e2⟩
    have h4' : zput A 81 (b + (100 + j)) (A 70 j) 63 32 = nI (b + (100 + j)) := by rw [zput_o (by decide), h4]
    rw [zM_passes_70_1_q, if_neg (nI_ge (by omega) (by omega)), h3, if_neg (by decide), zck_n (by omega) (by decide), h4, zck_n (by omega) (by decide), nI_clamp (by omega), nI_clamp (by omega), zM_passes_70_3_q, h4', nI_1, nI_1]
    exact e1
theorem mPut_70 (hc : c + 4 ≤ 400) : ∀ q j A, j + q = 4 → A 63 31 = 0 → A 63 32 = nI (c + j) → ∃ A', zM_passes_70_1 d (nI j) A L = some (none, A', L) ∧ (∀ x, x ≠ 63 → x ≠ 70 → A' x = A x) ∧ (∀ i, i ≠ 32 → A' 63 i = A 63 i) ∧ A' 63 32 = nI (c + 4) ∧ ∀ i, A' 70 i = if j ≤ i ∧ i < 4 then A 81 (c + i) else A 70 i := by
  intro q
  induction q with
  | zero =>
    intro j A hj h3 h4
    have e : j = 4 := by omega
    subst e
    exact ⟨A, by rw [zM_passes_70_1_q, if_pos (by decide), zM_passes_70_4_q], fun _ _ _ => rfl, fun _ _ => rfl, h4, fun i => by rw [if_neg (by omega)]⟩
  | succ q ih =>
    intro j A hj h3 h4
    have h4' : zput A 70 j (A 81 (c + j)) 63 32 = nI (c + j) := by rw [zput_o (by decide), h4]
    obtain ⟨A', e1, e2, e3, e4, e5⟩ := ih (j + 1) (zput (zput A 70 j (A 81 (c + j))) 63 32 (nI (c + (j + 1)))) (by omega) (by rw [zput_s, upd_o (by decide), zput_o (by decide), h3]) (by rw [zput_s, upd_s])
    refine ⟨A', ?_, fun x a b => by rw [e2 x a b, zput_o a, zput_o b], fun i hi => by rw [e3 i hi, zput_s, upd_o hi, zput_o (by decide)], e4, fun i => ?_⟩
    · rw [zM_passes_70_1_q, if_neg (nI_ge (by omega) (by omega)), h3, if_pos rfl, zM_passes_70_2_q, h4, zck_n (by omega) (by decide), zck_n (by omega) (by decide), nI_clamp (by omega), nI_clamp (by omega), zM_passes_70_3_q, h4', nI_1, nI_1]
      exact e1
    · rw [e5 i, zput_o (show 81 ≠ 63 by decide), zput_o (show 81 ≠ 70 by decide), zput_o (show 70 ≠ 63 by decide), zput_s]
      by_cases e : i = j
      · rw [e, if_neg (by omega), if_pos (by omega), upd_s]
      · rw [upd_o e]
        by_cases h : j + 1 ≤ i ∧ i < 4
        · rw [if_pos h, if_pos (by omega)]
        · rw [if_neg h, if_neg (by omega)]
theorem mKeep_71 (hb : b + 149 ≤ 400) : ∀ q j A, j + q = 24 → zKe b A0 (104 + j) A → ∃ A', zM_passes_71_1 d (nI j) A L = some (none, A', L) ∧ zKe b A0 128 A' := by
  intro q
  induction q with
  | zero =>
    intro j A hj h
    have e : j = 24 := by omega
    subst e
    exact ⟨A, by rw [zM_passes_71_1_q, if_pos (by decide), zM_passes_71_4_q], h⟩
  | succ q ih =>
    intro j A hj h
    have h3 := h.2.2.1
    have h4 := h.2.2.2.1
    have hx : A 71 j = zvl A0 (104 + j) := by
      rw [h.1 71 (by decide) (by decide)]
      unfold zvl
      rw [if_neg (by omega), if_neg (by omega), if_neg (by omega), if_neg (by omega), if_neg (by omega), if_neg (by omega), if_pos (by omega), show 104 + j - 104 = j by omega]
    obtain ⟨A', e1, e2⟩ := ih (j + 1) _ (by omega) (h.step (by omega) hx)
    refine ⟨A', ?_, e2⟩
    have h4' : zput A 81 (b + (104 + j)) (A 71 j) 63 32 = nI (b + (104 + j)) := by rw [zput_o (by decide), h4]
    rw [zM_passes_71_1_q, if_neg (nI_ge (by omega) (by omega)), h3, if_neg (by decide), zck_n (by omega) (by decide), h4, zck_n (by omega) (by decide), nI_clamp (by omega), nI_clamp (by omega), zM_passes_71_3_q, h4', nI_1, nI_1]
    exact e1
theorem mPut_71 (hc : c + 24 ≤ 400) : ∀ q j A, j + q = 24 → A 63 31 = 0 → A 63 32 = nI (c + j) → ∃ A', zM_passes_71_1 d (nI j) A L = some (none, A', L) ∧ (∀ x, x ≠ 63 → x ≠ 71 → A' x = A x) ∧ (∀ i, i ≠ 32 → A' 63 i = A 63 i) ∧ A' 63 32 = nI (c + 24) ∧ ∀ i, A' 71 i = if j ≤ i ∧ i < 24 then A 81 (c + i) else A 71 i := by
  intro q
  induction q with
  | zero =>
    intro j A hj h3 h4
    have e : j = 24 := by omega
    subst e
    exact ⟨A, by rw [zM_passes_71_1_q, if_pos (by decide), zM_passes_71_4_q], fun _ _ _ => rfl, fun _ _ => rfl, h4, fun i => by rw [if_neg (by omega)]⟩
  | succ q ih =>
    intro j A hj h3 h4
    have h4' : zput A 71 j (A 81 (c + j)) 63 32 = nI (c + j) := by rw [zput_o (by decide), h4]
    obtain ⟨A', e1, e2, e3, e4, e5⟩ := ih (j + 1) (zput (zput A 71 j (A 81 (c + j))) 63 32 (nI (c + (j + 1)))) (by omega) (by rw [zput_s, upd_o (by decide), zput_o (by decide), h3]) (by rw [zput_s, upd_s])
    refine ⟨A', ?_, fun x a b => by rw [e2 x a b, zput_o a, zput_o b], fun i hi => by rw [e3 i hi, zput_s, upd_o hi, zput_o (by decide)], e4, fun i => ?_⟩
    · rw [zM_passes_71_1_q, if_neg (nI_ge (by omega) (by omega)), h3, if_pos rfl, zM_passes_71_2_q, h4, zck_n (by omega) (by decide), zck_n (by omega) (by decide), nI_clamp (by omega), nI_clamp (by omega), zM_passes_71_3_q, h4', nI_1, nI_1]
      exact e1
    · rw [e5 i, zput_o (show 81 ≠ 63 by decide), zput_o (show 81 ≠ 71 by decide), zput_o (show 71 ≠ 63 by decide), zput_s]
      by_cases e : i = j
      · rw [e, if_neg (by omega), if_pos (by omega), upd_s]
      · rw [upd_o e]
        by_cases h : j + 1 ≤ i ∧ i < 24
        · rw [if_pos h, if_pos (by omega)]
        · rw [if_neg h, if_neg (by omega)]
theorem mKeep_72 (hb : b + 149 ≤ 400) : ∀ q j A, j + q = 4 → zKe b A0 (128 + j) A → ∃ A', zM_passes_72_1 d (nI j) A L = some (none, A', L) ∧ zKe b A0 132 A' := by
  intro q
  induction q with
  | zero =>
    intro j A hj h
    have e : j = 4 := by omega
    subst e
    exact ⟨A, by rw [zM_passes_72_1_q, if_pos (by decide), zM_passes_72_4_q], h⟩
  | succ q ih =>
    intro j A hj h
    have h3 := h.2.2.1
    have h4 := h.2.2.2.1
    have hx : A 72 j = zvl A0 (128 + j) := by
      rw [h.1 72 (by decide) (by decide)]
      unfold zvl
      rw [if_neg (by omega), if_neg (by omega), if_neg (by omega), if_neg (by omega), if_neg (by omega), if_neg (by omega), if_neg (by omega), if_pos (by omega), show 128 + j - 128 = j by omega]
    obtain ⟨A', e1, e2⟩ := ih (j + 1) _ (by omega) (h.step (by omega) hx)
    refine ⟨A', ?_, e2⟩
    have h4' : zput A 81 (b + (128 + j)) (A 72 j) 63 32 = nI (b + (128 + j)) := by rw [zput_o (by decide), h4]
    rw [zM_passes_72_1_q, if_neg (nI_ge (by omega) (by omega)), h3, if_neg (by decide), zck_n (by omega) (by decide), h4, zck_n (by omega) (by decide), nI_clamp (by omega), nI_clamp (by omega), zM_passes_72_3_q, h4', nI_1, nI_1]
    exact e1
theorem mPut_72 (hc : c + 4 ≤ 400) : ∀ q j A, j + q = 4 → A 63 31 = 0 → A 63 32 = nI (c + j) → ∃ A', zM_passes_72_1 d (nI j) A L = some (none, A', L) ∧ (∀ x, x ≠ 63 → x ≠ 72 → A' x = A x) ∧ (∀ i, i ≠ 32 → A' 63 i = A 63 i) ∧ A' 63 32 = nI (c + 4) ∧ ∀ i, A' 72 i = if j ≤ i ∧ i < 4 then A 81 (c + i) else A 72 i := by
  intro q
  induction q with
  | zero =>
    intro j A hj h3 h4
    have e : j = 4 := by omega
    subst e
    exact ⟨A, by rw [zM_passes_72_1_q, if_pos (by decide), zM_passes_72_4_q], fun _ _ _ => rfl, fun _ _ => rfl, h4, fun i => by rw [if_neg (by omega)]⟩
  | succ q ih =>
    intro j A hj h3 h4
    have h4' : zput A 72 j (A 81 (c + j)) 63 32 = nI (c + j) := by rw [zput_o (by decide), h4]
    obtain ⟨A', e1, e2, e3, e4, e5⟩ := ih (j + 1) (zput (zput A 72 j (A 81 (c + j))) 63 32 (nI (c + (j + 1)))) (by omega) (by rw [zput_s, upd_o (by decide), zput_o (by decide), h3]) (by rw [zput_s, upd_s])
    refine ⟨A', ?_, fun x a b => by rw [e2 x a b, zput_o a, zput_o b], fun i hi => by rw [e3 i hi, zput_s, upd_o hi, zput_o (by decide)], e4, fun i => ?_⟩
    · rw [zM_passes_72_1_q, if_neg (nI_ge (by omega) (by omega)), h3, if_pos rfl, zM_passes_72_2_q, h4, zck_n (by omega) (by decide), zck_n (by omega) (by decide), nI_clamp (by omega), nI_clamp (by omega), zM_passes_72_3_q, h4', nI_1, nI_1]
      exact e1
    · rw [e5 i, zput_o (show 81 ≠ 63 by decide), zput_o (show 81 ≠ 72 by decide), zput_o (show 72 ≠ 63 by decide), zput_s]
      by_cases e : i = j
      · rw [e, if_neg (by omega), if_pos (by omega), upd_s]
      · rw [upd_o e]
        by_cases h : j + 1 ≤ i ∧ i < 4
        · rw [if_pos h, if_pos (by omega)]
        · rw [if_neg h, if_neg (by omega)]
theorem mKeep_73 (hb : b + 149 ≤ 400) : ∀ q j A, j + q = 8 → zKe b A0 (132 + j) A → ∃ A', zM_passes_73_1 d (nI j) A L = some (none, A', L) ∧ zKe b A0 140 A' := by
  intro q
  induction q with
  | zero =>
    intro j A hj h
    have e : j = 8 := by omega
    subst e
    exact ⟨A, by rw [zM_passes_73_1_q, if_pos (by decide), zM_passes_73_4_q], h⟩
  | succ q ih =>
    intro j A hj h
    have h3 := h.2.2.1
    have h4 := h.2.2.2.1
    have hx : A 73 j = zvl A0 (132 + j) := by
      rw [h.1 73 (by decide) (by decide)]
      unfold zvl
      rw [if_neg (by omega), if_neg (by omega), if_neg (by omega), if_neg (by omega), if_neg (by omega), if_neg (by omega), if_neg (by omega), if_neg (by omega), if_pos (by omega), show 132 + j - 132 = j by omega]
    obtain ⟨A', e1, e2⟩ := ih (j + 1) _ (by omega) (h.step (by omega) hx)
    refine ⟨A', ?_, e2⟩
    have h4' : zput A 81 (b + (132 + j)) (A 73 j) 63 32 = nI (b + (132 + j)) := by rw [zput_o (by decide), h4]
    rw [zM_passes_73_1_q, if_neg (nI_ge (by omega) (by omega)), h3, if_neg (by decide), zck_n (by omega) (by decide), h4, zck_n (by omega) (by decide), nI_clamp (by omega), nI_clamp (by omega), zM_passes_73_3_q, h4', nI_1, nI_1]
    exact e1
theorem mPut_73 (hc : c + 8 ≤ 400) : ∀ q j A, j + q = 8 → A 63 31 = 0 → A 63 32 = nI (c + j) → ∃ A', zM_passes_73_1 d (nI j) A L = some (none, A', L) ∧ (∀ x, x ≠ 63 → x ≠ 73 → A' x = A x) ∧ (∀ i, i ≠ 32 → A' 63 i = A 63 i) ∧ A' 63 32 = nI (c + 8) ∧ ∀ i, A' 73 i = if j ≤ i ∧ i < 8 then A 81 (c + i) else A 73 i := by
  intro q
  induction q with
  | zero =>
    intro j A hj h3 h4
    have e : j = 8 := by omega
    subst e
    exact ⟨A, by rw [zM_passes_73_1_q, if_pos (by decide), zM_passes_73_4_q], fun _ _ _ => rfl, fun _ _ => rfl, h4, fun i => by rw [if_neg (by omega)]⟩
  | succ q ih =>
    intro j A hj h3 h4
    have h4' : zput A 73 j (A 81 (c + j)) 63 32 = nI (c + j) := by rw [zput_o (by decide), h4]
    obtain ⟨A', e1, e2, e3, e4, e5⟩ := ih (j + 1) (zput (zput A 73 j (A 81 (c + j))) 63 32 (nI (c + (j + 1)))) (by omega) (by rw [zput_s, upd_o (by decide), zput_o (by decide), h3]) (by rw [zput_s, upd_s])
    refine ⟨A', ?_, fun x a b => by rw [e2 x a b, zput_o a, zput_o b], fun i hi => by rw [e3 i hi, zput_s, upd_o hi, zput_o (by decide)], e4, fun i => ?_⟩
    · rw [zM_passes_73_1_q, if_neg (nI_ge (by omega) (by omega)), h3, if_pos rfl, zM_passes_73_2_q, h4, zck_n (by omega) (by decide), zck_n (by omega) (by decide), nI_clamp (by omega), nI_clamp (by omega), zM_passes_73_3_q, h4', nI_1, nI_1]
      exact e1
    · rw [e5 i, zput_o (show 81 ≠ 63 by decide), zput_o (show 81 ≠ 73 by decide), zput_o (show 73 ≠ 63 by decide), zput_s]
      by_cases e : i = j
      · rw [e, if_neg (by omega), if_pos (by omega), upd_s]
      · rw [upd_o e]
        by_cases h : j + 1 ≤ i ∧ i < 8
        · rw [if_pos h, if_pos (by omega)]
        · rw [if_neg h, if_neg (by omega)]
/-- the whole is kept -/
theorem mKeepAll {k : Nat} (hk : k < 2) : ∃ A', zM_passesAll (d + 1) (nI k) 1 A0 L = some (none, A', L) ∧ zKe (200 * k) A0 149 A' := by
  have hb : 200 * k + 149 ≤ 400 := by omega
  have h0 : zKe (200 * k) A0 0 (zput (zput A0 63 32 (nI (200 * k))) 63 31 1) := by
    refine ⟨fun x a _ => by rw [zput_o a, zput_o a], fun i a e => by rw [zput_s, upd_o a, zput_s, upd_o e], by rw [zput_s, upd_s], by rw [zput_s, upd_o (by decide), zput_s, upd_s]; rfl, fun i _ => by rw [zput_o (by decide), zput_o (by decide)], fun j hj => absurd hj (Nat.not_lt_zero j)⟩
  obtain ⟨A1, e1, h1⟩ := mKeep_65 (d := d) (L := L) hb 24 0 _ (by omega) h0
  obtain ⟨A2, e2, h2⟩ := mKeep_66 (d := d) (L := L) hb 24 0 _ (by omega) h1
  obtain ⟨A3, e3, h3⟩ := mKeep_67 (d := d) (L := L) hb 24 0 _ (by omega) h2
  obtain ⟨A4, e4, h4⟩ := mKeep_68 (d := d) (L := L) hb 24 0 _ (by omega) h3
  obtain ⟨A5, e5, h5⟩ := mKeep_69 (d := d) (L := L) hb 4 0 _ (by omega) h4
  obtain ⟨A6, e6, h6⟩ := mKeep_70 (d := d) (L := L) hb 4 0 _ (by omega) h5
  obtain ⟨A7, e7, h7⟩ := mKeep_71 (d := d) (L := L) hb 24 0 _ (by omega) h6
  obtain ⟨A8, e8, h8⟩ := mKeep_72 (d := d) (L := L) hb 4 0 _ (by omega) h7
  obtain ⟨A9, e9, h9⟩ := mKeep_73 (d := d) (L := L) hb 8 0 _ (by omega) h8
  obtain ⟨A10, e10, h10⟩ := mKeepOne (d := d) (L := L) (x := A0 63 10) h9 hb (by omega) rfl
  obtain ⟨A11, e11, h11⟩ := mKeepOne (d := d) (L := L) (x := A0 63 11) h10 hb (by omega) rfl
  obtain ⟨A12, e12, h12⟩ := mKeepOne (d := d) (L := L) (x := A0 63 12) h11 hb (by omega) rfl
  obtain ⟨A13, e13, h13⟩ := mKeepOne (d := d) (L := L) (x := A0 63 13) h12 hb (by omega) rfl
  obtain ⟨A14, e14, h14⟩ := mKeepOne (d := d) (L := L) (x := A0 63 14) h13 hb (by omega) rfl
  obtain ⟨A15, e15, h15⟩ := mKeepOne (d := d) (L := L) (x := A0 63 15) h14 hb (by omega) rfl
  obtain ⟨A16, e16, h16⟩ := mKeepOne (d := d) (L := L) (x := A0 63 16) h15 hb (by omega) rfl
  obtain ⟨A17, e17, h17⟩ := mKeepOne (d := d) (L := L) (x := A0 63 17) h16 hb (by omega) rfl
  obtain ⟨A18, e18, h18⟩ := mKeepOne (d := d) (L := L) (x := A0 63 18) h17 hb (by omega) rfl
  refine ⟨A18, ?_, h18⟩
  have z0 : (0 : Int32) = nI 0 := rfl
  have z200 : (200 : Int32) * nI k = nI (200 * k) := by rw [show (200 : Int32) = nI 200 from rfl, pk_mul]
  have g10 : A9 63 10 = A0 63 10 := h9.2.1 10 (by decide) (by decide)
  have g11 : A10 63 11 = A0 63 11 := h10.2.1 11 (by decide) (by decide)
  have g12 : A11 63 12 = A0 63 12 := h11.2.1 12 (by decide) (by decide)
  have g13 : A12 63 13 = A0 63 13 := h12.2.1 13 (by decide) (by decide)
  have g14 : A13 63 14 = A0 63 14 := h13.2.1 14 (by decide) (by decide)
  have g15 : A14 63 15 = A0 63 15 := h14.2.1 15 (by decide) (by decide)
  have g16 : A15 63 16 = A0 63 16 := h15.2.1 16 (by decide) (by decide)
  have g17 : A16 63 17 = A0 63 17 := h16.2.1 17 (by decide) (by decide)
  have g18 : A17 63 18 = A0 63 18 := h17.2.1 18 (by decide) (by decide)
  rw [zM_passesAll_q, zcb_1, z200, zM_passes_65_q, z0, e1, zbv_s, zM_passes_66_q, z0, e2, zbv_s, zM_passes_67_q, z0, e3, zbv_s, zM_passes_68_q, z0, e4, zbv_s, zM_passes_69_q, z0, e5, zbv_s, zM_passes_70_q, z0, e6, zbv_s, zM_passes_71_q, z0, e7, zbv_s, zM_passes_72_q, z0, e8, zbv_s, zM_passes_73_q, z0, e9, zbv_s, g10, e10, zbi_s, h10.same (i := 10) (by decide) (by decide), g11, e11, zbi_s, h11.same (i := 11) (by decide) (by decide), g12, e12, zbi_s, h12.same (i := 12) (by decide) (by decide), g13, e13, zbi_s, h13.same (i := 13) (by decide) (by decide), g14, e14, zbi_s, h14.same (i := 14) (by decide) (by decide), g15, e15, zbi_s, h15.same (i := 15) (by decide) (by decide), g16, e16, zbi_s, h16.same (i := 16) (by decide) (by decide), g17, e17, zbi_s, h17.same (i := 17) (by decide) (by decide), g18, e18, zbi_s, h18.same (i := 18) (by decide) (by decide)]
/-- the whole is put back -/
theorem mPutAll {k : Nat} (hk : k < 2) : ∃ A', zM_passesAll (d + 1) (nI k) 0 A0 L = some (none, A', L) ∧ (∀ x, (x < 63 ∨ x = 64 ∨ 73 < x) → A' x = A0 x) ∧
    (∀ i, A' 65 i = if i < 24 then A0 81 (200 * k + 0 + i) else A0 65 i) ∧ (∀ i, A' 66 i = if i < 24 then A0 81 (200 * k + 24 + i) else A0 66 i) ∧ (∀ i, A' 67 i = if i < 24 then A0 81 (200 * k + 48 + i) else A0 67 i) ∧ (∀ i, A' 68 i = if i < 24 then A0 81 (200 * k + 72 + i) else A0 68 i) ∧ (∀ i, A' 69 i = if i < 4 then A0 81 (200 * k + 96 + i) else A0 69 i) ∧ (∀ i, A' 70 i = if i < 4 then A0 81 (200 * k + 100 + i) else A0 70 i) ∧ (∀ i, A' 71 i = if i < 24 then A0 81 (200 * k + 104 + i) else A0 71 i) ∧ (∀ i, A' 72 i = if i < 4 then A0 81 (200 * k + 128 + i) else A0 72 i) ∧ (∀ i, A' 73 i = if i < 8 then A0 81 (200 * k + 132 + i) else A0 73 i) ∧ A' 63 10 = A0 81 (200 * k + 140) ∧ A' 63 11 = A0 81 (200 * k + 141) ∧ A' 63 12 = A0 81 (200 * k + 142) ∧ A' 63 13 = A0 81 (200 * k + 143) ∧ A' 63 14 = A0 81 (200 * k + 144) ∧ A' 63 15 = A0 81 (200 * k + 145) ∧ A' 63 16 = A0 81 (200 * k + 146) ∧ A' 63 17 = A0 81 (200 * k + 147) ∧ A' 63 18 = A0 81 (200 * k + 148) ∧ (∀ i, (i < 10 ∨ 18 < i) → i ≠ 31 → i ≠ 32 → A' 63 i = A0 63 i) := by
  obtain ⟨B, hB⟩ : ∃ B, B = zput (zput A0 63 32 (nI (200 * k))) 63 31 0 := ⟨_, rfl⟩
  have hBc : ∀ x, x ≠ 63 → B x = A0 x := fun x hx => by rw [hB, zput_o hx, zput_o hx]
  have hBf : ∀ i, i ≠ 31 → i ≠ 32 → B 63 i = A0 63 i := fun i a e => by rw [hB, zput_s, upd_o a, zput_s, upd_o e]
  have s0 : B 63 31 = 0 := by rw [hB, zput_s, upd_s]
  have t0 : B 63 32 = nI (200 * k + 0) := by rw [hB, zput_s, upd_o (by decide), zput_s, upd_s]; rfl
  obtain ⟨A1, e1, f1, g1, t1, r1⟩ := mPut_65 (d := d) (L := L) (c := 200 * k + 0) (by omega) 24 0 B (by omega) s0 t0
  have s1 : A1 63 31 = 0 := by rw [g1 31 (by decide), s0]
  have t1' : A1 63 32 = nI (200 * k + 24 + 0) := by rw [t1]
  obtain ⟨A2, e2, f2, g2, t2, r2⟩ := mPut_66 (d := d) (L := L) (c := 200 * k + 24) (by omega) 24 0 A1 (by omega) s1 t1'
  have s2 : A2 63 31 = 0 := by rw [g2 31 (by decide), s1]
  have t2' : A2 63 32 = nI (200 * k + 48 + 0) := by rw [t2]
  obtain ⟨A3, e3, f3, g3, t3, r3⟩ := mPut_67 (d := d) (L := L) (c := 200 * k + 48) (by omega) 24 0 A2 (by omega) s2 t2'
  have s3 : A3 63 31 = 0 := by rw [g3 31 (by decide), s2]
  have t3' : A3 63 32 = nI (200 * k + 72 + 0) := by rw [t3]
  obtain ⟨A4, e4, f4, g4, t4, r4⟩ := mPut_68 (d := d) (L := L) (c := 200 * k + 72) (by omega) 24 0 A3 (by omega) s3 t3'
  have s4 : A4 63 31 = 0 := by rw [g4 31 (by decide), s3]
  have t4' : A4 63 32 = nI (200 * k + 96 + 0) := by rw [t4]
  obtain ⟨A5, e5, f5, g5, t5, r5⟩ := mPut_69 (d := d) (L := L) (c := 200 * k + 96) (by omega) 4 0 A4 (by omega) s4 t4'
  have s5 : A5 63 31 = 0 := by rw [g5 31 (by decide), s4]
  have t5' : A5 63 32 = nI (200 * k + 100 + 0) := by rw [t5]
  obtain ⟨A6, e6, f6, g6, t6, r6⟩ := mPut_70 (d := d) (L := L) (c := 200 * k + 100) (by omega) 4 0 A5 (by omega) s5 t5'
  have s6 : A6 63 31 = 0 := by rw [g6 31 (by decide), s5]
  have t6' : A6 63 32 = nI (200 * k + 104 + 0) := by rw [t6]
  obtain ⟨A7, e7, f7, g7, t7, r7⟩ := mPut_71 (d := d) (L := L) (c := 200 * k + 104) (by omega) 24 0 A6 (by omega) s6 t6'
  have s7 : A7 63 31 = 0 := by rw [g7 31 (by decide), s6]
  have t7' : A7 63 32 = nI (200 * k + 128 + 0) := by rw [t7]
  obtain ⟨A8, e8, f8, g8, t8, r8⟩ := mPut_72 (d := d) (L := L) (c := 200 * k + 128) (by omega) 4 0 A7 (by omega) s7 t7'
  have s8 : A8 63 31 = 0 := by rw [g8 31 (by decide), s7]
  have t8' : A8 63 32 = nI (200 * k + 132 + 0) := by rw [t8]
  obtain ⟨A9, e9, f9, g9, t9, r9⟩ := mPut_73 (d := d) (L := L) (c := 200 * k + 132) (by omega) 8 0 A8 (by omega) s8 t8'
  have s9 : A9 63 31 = 0 := by rw [g9 31 (by decide), s8]
  have t9' : A9 63 32 = nI (200 * k + 140) := by rw [t9]
  have hc9 : ∀ x, (x < 63 ∨ x = 64 ∨ 73 < x) → A9 x = A0 x := fun x hx => by rw [f9 x (by omega) (by omega), f8 x (by omega) (by omega), f7 x (by omega) (by omega), f6 x (by omega) (by omega), f5 x (by omega) (by omega), f4 x (by omega) (by omega), f3 x (by omega) (by omega), f2 x (by omega) (by omega), f1 x (by omega) (by omega), hBc x (by omega)]
  have h63 : ∀ i, i ≠ 31 → i ≠ 32 → A9 63 i = A0 63 i := fun i a e => by rw [g9 i e, g8 i e, g7 i e, g6 i e, g5 i e, g4 i e, g3 i e, g2 i e, g1 i e, hBf i a e]
  have q1 : ∀ i, A9 65 i = if i < 24 then A0 81 (200 * k + 0 + i) else A0 65 i := fun i => by
    rw [f9 65 (by decide) (by decide), f8 65 (by decide) (by decide), f7 65 (by decide) (by decide), f6 65 (by decide) (by decide), f5 65 (by decide) (by decide), f4 65 (by decide) (by decide), f3 65 (by decide) (by decide), f2 65 (by decide) (by decide), r1 i, hBc 81 (by decide), hBc 65 (by decide)]
    by_cases h : i < 24
    · rw [if_pos (show 0 ≤ i ∧ i < 24 by omega), if_pos h]
    · rw [if_neg (show ¬ (0 ≤ i ∧ i < 24) by omega), if_neg h]
  have q2 : ∀ i, A9 66 i = if i < 24 then A0 81 (200 * k + 24 + i) else A0 66 i := fun i => by
    rw [f9 66 (by decide) (by decide), f8 66 (by decide) (by decide), f7 66 (by decide) (by decide), f6 66 (by decide) (by decide), f5 66 (by decide) (by decide), f4 66 (by decide) (by decide), f3 66 (by decide) (by decide), r2 i, f1 81 (by decide) (by decide), hBc 81 (by decide), f1 66 (by decide) (by decide), hBc 66 (by decide)]
    by_cases h : i < 24
    · rw [if_pos (show 0 ≤ i ∧ i < 24 by omega), if_pos h]
    · rw [if_neg (show ¬ (0 ≤ i ∧ i < 24) by omega), if_neg h]
  have q3 : ∀ i, A9 67 i = if i < 24 then A0 81 (200 * k + 48 + i) else A0 67 i := fun i => by
    rw [f9 67 (by decide) (by decide), f8 67 (by decide) (by decide), f7 67 (by decide) (by decide), f6 67 (by decide) (by decide), f5 67 (by decide) (by decide), f4 67 (by decide) (by decide), r3 i, f2 81 (by decide) (by decide), f1 81 (by decide) (by decide), hBc 81 (by decide), f2 67 (by decide) (by decide), f1 67 (by decide) (by decide), hBc 67 (by decide)]
    by_cases h : i < 24
    · rw [if_pos (show 0 ≤ i ∧ i < 24 by omega), if_pos h]
    · rw [if_neg (show ¬ (0 ≤ i ∧ i < 24) by omega), if_neg h]
  have q4 : ∀ i, A9 68 i = if i < 24 then A0 81 (200 * k + 72 + i) else A0 68 i := fun i => by
    rw [f9 68 (by decide) (by decide), f8 68 (by decide) (by decide), f7 68 (by decide) (by decide), f6 68 (by decide) (by decide), f5 68 (by decide) (by decide), r4 i, f3 81 (by decide) (by decide), f2 81 (by decide) (by decide), f1 81 (by decide) (by decide), hBc 81 (by decide), f3 68 (by decide) (by decide), f2 68 (by decide) (by decide), f1 68 (by decide) (by decide), hBc 68 (by decide)]
    by_cases h : i < 24
    · rw [if_pos (show 0 ≤ i ∧ i < 24 by omega), if_pos h]
    · rw [if_neg (show ¬ (0 ≤ i ∧ i < 24) by omega), if_neg h]
  have q5 : ∀ i, A9 69 i = if i < 4 then A0 81 (200 * k + 96 + i) else A0 69 i := fun i => by
    rw [f9 69 (by decide) (by decide), f8 69 (by decide) (by decide), f7 69 (by decide) (by decide), f6 69 (by decide) (by decide), r5 i, f4 81 (by decide) (by decide), f3 81 (by decide) (by decide), f2 81 (by decide) (by decide), f1 81 (by decide) (by decide), hBc 81 (by decide), f4 69 (by decide) (by decide), f3 69 (by decide) (by decide), f2 69 (by decide) (by decide), f1 69 (by decide) (by decide), hBc 69 (by decide)]
    by_cases h : i < 4
    · rw [if_pos (show 0 ≤ i ∧ i < 4 by omega), if_pos h]
    · rw [if_neg (show ¬ (0 ≤ i ∧ i < 4) by omega), if_neg h]
  have q6 : ∀ i, A9 70 i = if i < 4 then A0 81 (200 * k + 100 + i) else A0 70 i := fun i => by
    rw [f9 70 (by decide) (by decide), f8 70 (by decide) (by decide), f7 70 (by decide) (by decide), r6 i, f5 81 (by decide) (by decide), f4 81 (by decide) (by decide), f3 81 (by decide) (by decide), f2 81 (by decide) (by decide), f1 81 (by decide) (by decide), hBc 81 (by decide), f5 70 (by decide) (by decide), f4 70 (by decide) (by decide), f3 70 (by decide) (by decide), f2 70 (by decide) (by decide), f1 70 (by decide) (by decide), hBc 70 (by decide)]
    by_cases h : i < 4
    · rw [if_pos (show 0 ≤ i ∧ i < 4 by omega), if_pos h]
    · rw [if_neg (show ¬ (0 ≤ i ∧ i < 4) by omega), if_neg h]
  have q7 : ∀ i, A9 71 i = if i < 24 then A0 81 (200 * k + 104 + i) else A0 71 i := fun i => by
    rw [f9 71 (by decide) (by decide), f8 71 (by decide) (by decide), r7 i, f6 81 (by decide) (by decide), f5 81 (by decide) (by decide), f4 81 (by decide) (by decide), f3 81 (by decide) (by decide), f2 81 (by decide) (by decide), f1 81 (by decide) (by decide), hBc 81 (by decide), f6 71 (by decide) (by decide), f5 71 (by decide) (by decide), f4 71 (by decide) (by decide), f3 71 (by decide) (by decide), f2 71 (by decide) (by decide), f1 71 (by decide) (by decide), hBc 71 (by decide)]
    by_cases h : i < 24
    · rw [if_pos (show 0 ≤ i ∧ i < 24 by omega), if_pos h]
    · rw [if_neg (show ¬ (0 ≤ i ∧ i < 24) by omega), if_neg h]
  have q8 : ∀ i, A9 72 i = if i < 4 then A0 81 (200 * k + 128 + i) else A0 72 i := fun i => by
    rw [f9 72 (by decide) (by decide), r8 i, f7 81 (by decide) (by decide), f6 81 (by decide) (by decide), f5 81 (by decide) (by decide), f4 81 (by decide) (by decide), f3 81 (by decide) (by decide), f2 81 (by decide) (by decide), f1 81 (by decide) (by decide), hBc 81 (by decide), f7 72 (by decide) (by decide), f6 72 (by decide) (by decide), f5 72 (by decide) (by decide), f4 72 (by decide) (by decide), f3 72 (by decide) (by decide), f2 72 (by decide) (by decide), f1 72 (by decide) (by decide), hBc 72 (by decide)]
    by_cases h : i < 4
    · rw [if_pos (show 0 ≤ i ∧ i < 4 by omega), if_pos h]
    · rw [if_neg (show ¬ (0 ≤ i ∧ i < 4) by omega), if_neg h]
  have q9 : ∀ i, A9 73 i = if i < 8 then A0 81 (200 * k + 132 + i) else A0 73 i := fun i => by
    rw [r9 i, f8 81 (by decide) (by decide), f7 81 (by decide) (by decide), f6 81 (by decide) (by decide), f5 81 (by decide) (by decide), f4 81 (by decide) (by decide), f3 81 (by decide) (by decide), f2 81 (by decide) (by decide), f1 81 (by decide) (by decide), hBc 81 (by decide), f8 73 (by decide) (by decide), f7 73 (by decide) (by decide), f6 73 (by decide) (by decide), f5 73 (by decide) (by decide), f4 73 (by decide) (by decide), f3 73 (by decide) (by decide), f2 73 (by decide) (by decide), f1 73 (by decide) (by decide), hBc 73 (by decide)]
    by_cases h : i < 8
    · rw [if_pos (show 0 ≤ i ∧ i < 8 by omega), if_pos h]
    · rw [if_neg (show ¬ (0 ≤ i ∧ i < 8) by omega), if_neg h]
  have k81 : A9 81 = A0 81 := hc9 81 (by omega)
  have p10 := mPutOne (d := d) (L := L) (x := A9 63 10) s9 t9' (by omega)
  obtain ⟨C10, hC10⟩ : ∃ C, C = zput (zput A9 63 32 (nI (200 * k + 140 + 1))) 63 10 (A9 81 (200 * k + 140)) := ⟨_, rfl⟩
  have s10 : C10 63 31 = 0 := by rw [hC10, zput_s, upd_o (by decide), zput_s, upd_o (by decide), s9]
  have t10 : C10 63 32 = nI (200 * k + 141) := by rw [hC10, zput_s, upd_o (by decide), zput_s, upd_s]
  have c10 : ∀ x, x ≠ 63 → C10 x = A9 x := fun x hx => by rw [hC10, zput_o hx, zput_o hx]
  have v10 : C10 63 10 = A0 81 (200 * k + 140) := by rw [hC10, zput_s, upd_s]; rw [k81]
  have w10 : ∀ i, i ≠ 10 → i ≠ 32 → C10 63 i = A9 63 i := fun i a e => by rw [hC10, zput_s, upd_o a, zput_s, upd_o e]
  have p11 := mPutOne (d := d) (L := L) (x := C10 63 11) s10 t10 (by omega)
  obtain ⟨C11, hC11⟩ : ∃ C, C = zput (zput C10 63 32 (nI (200 * k + 141 + 1))) 63 11 (C10 81 (200 * k + 141)) := ⟨_, rfl⟩
  have s11 : C11 63 31 = 0 := by rw [hC11, zput_s, upd_o (by decide), zput_s, upd_o (by decide), s10]
  have t11 : C11 63 32 = nI (200 * k + 142) := by rw [hC11, zput_s, upd_o (by decide), zput_s, upd_s]
  have c11 : ∀ x, x ≠ 63 → C11 x = C10 x := fun x hx => by rw [hC11, zput_o hx, zput_o hx]
  have v11 : C11 63 11 = A0 81 (200 * k + 141) := by rw [hC11, zput_s, upd_s]; rw [c10 81 (by decide), k81]
  have w11 : ∀ i, i ≠ 11 → i ≠ 32 → C11 63 i = C10 63 i := fun i a e => by rw [hC11, zput_s, upd_o a, zput_s, upd_o e]
  have p12 := mPutOne (d := d) (L := L) (x := C11 63 12) s11 t11 (by omega)
  obtain ⟨C12, hC12⟩ : ∃ C, C = zput (zput C11 63 32 (nI (200 * k + 142 + 1))) 63 12 (C11 81 (200 * k + 142)) := ⟨_, rfl⟩
  have s12 : C12 63 31 = 0 := by rw [hC12, zput_s, upd_o (by decide), zput_s, upd_o (by decide), s11]
  have t12 : C12 63 32 = nI (200 * k + 143) := by rw [hC12, zput_s, upd_o (by decide), zput_s, upd_s]
  have c12 : ∀ x, x ≠ 63 → C12 x = C11 x := fun x hx => by rw [hC12, zput_o hx, zput_o hx]
  have v12 : C12 63 12 = A0 81 (200 * k + 142) := by rw [hC12, zput_s, upd_s]; rw [c11 81 (by decide), c10 81 (by decide), k81]
  have w12 : ∀ i, i ≠ 12 → i ≠ 32 → C12 63 i = C11 63 i := fun i a e => by rw [hC12, zput_s, upd_o a, zput_s, upd_o e]
  have p13 := mPutOne (d := d) (L := L) (x := C12 63 13) s12 t12 (by omega)
  obtain ⟨C13, hC13⟩ : ∃ C, C = zput (zput C12 63 32 (nI (200 * k + 143 + 1))) 63 13 (C12 81 (200 * k + 143)) := ⟨_, rfl⟩
  have s13 : C13 63 31 = 0 := by rw [hC13, zput_s, upd_o (by decide), zput_s, upd_o (by decide), s12]
  have t13 : C13 63 32 = nI (200 * k + 144) := by rw [hC13, zput_s, upd_o (by decide), zput_s, upd_s]
  have c13 : ∀ x, x ≠ 63 → C13 x = C12 x := fun x hx => by rw [hC13, zput_o hx, zput_o hx]
  have v13 : C13 63 13 = A0 81 (200 * k + 143) := by rw [hC13, zput_s, upd_s]; rw [c12 81 (by decide), c11 81 (by decide), c10 81 (by decide), k81]
  have w13 : ∀ i, i ≠ 13 → i ≠ 32 → C13 63 i = C12 63 i := fun i a e => by rw [hC13, zput_s, upd_o a, zput_s, upd_o e]
  have p14 := mPutOne (d := d) (L := L) (x := C13 63 14) s13 t13 (by omega)
  obtain ⟨C14, hC14⟩ : ∃ C, C = zput (zput C13 63 32 (nI (200 * k + 144 + 1))) 63 14 (C13 81 (200 * k + 144)) := ⟨_, rfl⟩
  have s14 : C14 63 31 = 0 := by rw [hC14, zput_s, upd_o (by decide), zput_s, upd_o (by decide), s13]
  have t14 : C14 63 32 = nI (200 * k + 145) := by rw [hC14, zput_s, upd_o (by decide), zput_s, upd_s]
  have c14 : ∀ x, x ≠ 63 → C14 x = C13 x := fun x hx => by rw [hC14, zput_o hx, zput_o hx]
  have v14 : C14 63 14 = A0 81 (200 * k + 144) := by rw [hC14, zput_s, upd_s]; rw [c13 81 (by decide), c12 81 (by decide), c11 81 (by decide), c10 81 (by decide), k81]
  have w14 : ∀ i, i ≠ 14 → i ≠ 32 → C14 63 i = C13 63 i := fun i a e => by rw [hC14, zput_s, upd_o a, zput_s, upd_o e]
  have p15 := mPutOne (d := d) (L := L) (x := C14 63 15) s14 t14 (by omega)
  obtain ⟨C15, hC15⟩ : ∃ C, C = zput (zput C14 63 32 (nI (200 * k + 145 + 1))) 63 15 (C14 81 (200 * k + 145)) := ⟨_, rfl⟩
  have s15 : C15 63 31 = 0 := by rw [hC15, zput_s, upd_o (by decide), zput_s, upd_o (by decide), s14]
  have t15 : C15 63 32 = nI (200 * k + 146) := by rw [hC15, zput_s, upd_o (by decide), zput_s, upd_s]
  have c15 : ∀ x, x ≠ 63 → C15 x = C14 x := fun x hx => by rw [hC15, zput_o hx, zput_o hx]
  have v15 : C15 63 15 = A0 81 (200 * k + 145) := by rw [hC15, zput_s, upd_s]; rw [c14 81 (by decide), c13 81 (by decide), c12 81 (by decide), c11 81 (by decide), c10 81 (by decide), k81]
  have w15 : ∀ i, i ≠ 15 → i ≠ 32 → C15 63 i = C14 63 i := fun i a e => by rw [hC15, zput_s, upd_o a, zput_s, upd_o e]
  have p16 := mPutOne (d := d) (L := L) (x := C15 63 16) s15 t15 (by omega)
  obtain ⟨C16, hC16⟩ : ∃ C, C = zput (zput C15 63 32 (nI (200 * k + 146 + 1))) 63 16 (C15 81 (200 * k + 146)) := ⟨_, rfl⟩
  have s16 : C16 63 31 = 0 := by rw [hC16, zput_s, upd_o (by decide), zput_s, upd_o (by decide), s15]
  have t16 : C16 63 32 = nI (200 * k + 147) := by rw [hC16, zput_s, upd_o (by decide), zput_s, upd_s]
  have c16 : ∀ x, x ≠ 63 → C16 x = C15 x := fun x hx => by rw [hC16, zput_o hx, zput_o hx]
  have v16 : C16 63 16 = A0 81 (200 * k + 146) := by rw [hC16, zput_s, upd_s]; rw [c15 81 (by decide), c14 81 (by decide), c13 81 (by decide), c12 81 (by decide), c11 81 (by decide), c10 81 (by decide), k81]
  have w16 : ∀ i, i ≠ 16 → i ≠ 32 → C16 63 i = C15 63 i := fun i a e => by rw [hC16, zput_s, upd_o a, zput_s, upd_o e]
  have p17 := mPutOne (d := d) (L := L) (x := C16 63 17) s16 t16 (by omega)
  obtain ⟨C17, hC17⟩ : ∃ C, C = zput (zput C16 63 32 (nI (200 * k + 147 + 1))) 63 17 (C16 81 (200 * k + 147)) := ⟨_, rfl⟩
  have s17 : C17 63 31 = 0 := by rw [hC17, zput_s, upd_o (by decide), zput_s, upd_o (by decide), s16]
  have t17 : C17 63 32 = nI (200 * k + 148) := by rw [hC17, zput_s, upd_o (by decide), zput_s, upd_s]
  have c17 : ∀ x, x ≠ 63 → C17 x = C16 x := fun x hx => by rw [hC17, zput_o hx, zput_o hx]
  have v17 : C17 63 17 = A0 81 (200 * k + 147) := by rw [hC17, zput_s, upd_s]; rw [c16 81 (by decide), c15 81 (by decide), c14 81 (by decide), c13 81 (by decide), c12 81 (by decide), c11 81 (by decide), c10 81 (by decide), k81]
  have w17 : ∀ i, i ≠ 17 → i ≠ 32 → C17 63 i = C16 63 i := fun i a e => by rw [hC17, zput_s, upd_o a, zput_s, upd_o e]
  have p18 := mPutOne (d := d) (L := L) (x := C17 63 18) s17 t17 (by omega)
  obtain ⟨C18, hC18⟩ : ∃ C, C = zput (zput C17 63 32 (nI (200 * k + 148 + 1))) 63 18 (C17 81 (200 * k + 148)) := ⟨_, rfl⟩
  have s18 : C18 63 31 = 0 := by rw [hC18, zput_s, upd_o (by decide), zput_s, upd_o (by decide), s17]
  have t18 : C18 63 32 = nI (200 * k + 149) := by rw [hC18, zput_s, upd_o (by decide), zput_s, upd_s]
  have c18 : ∀ x, x ≠ 63 → C18 x = C17 x := fun x hx => by rw [hC18, zput_o hx, zput_o hx]
  have v18 : C18 63 18 = A0 81 (200 * k + 148) := by rw [hC18, zput_s, upd_s]; rw [c17 81 (by decide), c16 81 (by decide), c15 81 (by decide), c14 81 (by decide), c13 81 (by decide), c12 81 (by decide), c11 81 (by decide), c10 81 (by decide), k81]
  have w18 : ∀ i, i ≠ 18 → i ≠ 32 → C18 63 i = C17 63 i := fun i a e => by rw [hC18, zput_s, upd_o a, zput_s, upd_o e]
  have hall : ∀ x, x ≠ 63 → C18 x = A9 x := fun x hx => by rw [c18 x hx, c17 x hx, c16 x hx, c15 x hx, c14 x hx, c13 x hx, c12 x hx, c11 x hx, c10 x hx]
  refine ⟨C18, ?_, fun x hx => by rw [hall x (by omega), hc9 x hx], fun i => by rw [hall 65 (by decide)]; exact q1 i, fun i => by rw [hall 66 (by decide)]; exact q2 i, fun i => by rw [hall 67 (by decide)]; exact q3 i, fun i => by rw [hall 68 (by decide)]; exact q4 i, fun i => by rw [hall 69 (by decide)]; exact q5 i, fun i => by rw [hall 70 (by decide)]; exact q6 i, fun i => by rw [hall 71 (by decide)]; exact q7 i, fun i => by rw [hall 72 (by decide)]; exact q8 i, fun i => by rw [hall 73 (by decide)]; exact q9 i, by rw [w18 10 (by decide) (by decide), w17 10 (by decide) (by decide), w16 10 (by decide) (by decide), w15 10 (by decide) (by decide), w14 10 (by decide) (by decide), w13 10 (by decide) (by decide), w12 10 (by decide) (by decide), w11 10 (by decide) (by decide), v10], by rw [w18 11 (by decide) (by decide), w17 11 (by decide) (by decide), w16 11 (by decide) (by decide), w15 11 (by decide) (by decide), w14 11 (by decide) (by decide), w13 11 (by decide) (by decide), w12 11 (by decide) (by decide), v11], by rw [w18 12 (by decide) (by decide), w17 12 (by decide) (by decide), w16 12 (by decide) (by decide), w15 12 (by decide) (by decide), w14 12 (by decide) (by decide), w13 12 (by decide) (by decide), v12], by rw [w18 13 (by decide) (by decide), w17 13 (by decide) (by decide), w16 13 (by decide) (by decide), w15 13 (by decide) (by decide), w14 13 (by decide) (by decide), v13], by rw [w18 14 (by decide) (by decide), w17 14 (by decide) (by decide), w16 14 (by decide) (by decide), w15 14 (by decide) (by decide), v14], by rw [w18 15 (by decide) (by decide), w17 15 (by decide) (by decide), w16 15 (by decide) (by decide), v15], by rw [w18 16 (by decide) (by decide), w17 16 (by decide) (by decide), v16], by rw [w18 17 (by decide) (by decide), v17], by rw [v18], fun i h a e => by rw [w18 i (by omega) e, w17 i (by omega) e, w16 i (by omega) e, w15 i (by omega) e, w14 i (by omega) e, w13 i (by omega) e, w12 i (by omega) e, w11 i (by omega) e, w10 i (by omega) e, h63 i a e]⟩
  have z0 : (0 : Int32) = nI 0 := rfl
  have z200 : (200 : Int32) * nI k = nI (200 * k) := by rw [show (200 : Int32) = nI 200 from rfl, pk_mul]
  rw [zM_passesAll_q, zcb_0, z200, ← hB, zM_passes_65_q, show zM_passes_65_1 d 0 _ L = _ from e1, zbv_s, zM_passes_66_q, show zM_passes_66_1 d 0 _ L = _ from e2, zbv_s, zM_passes_67_q, show zM_passes_67_1 d 0 _ L = _ from e3, zbv_s, zM_passes_68_q, show zM_passes_68_1 d 0 _ L = _ from e4, zbv_s, zM_passes_69_q, show zM_passes_69_1 d 0 _ L = _ from e5, zbv_s, zM_passes_70_q, show zM_passes_70_1 d 0 _ L = _ from e6, zbv_s, zM_passes_71_q, show zM_passes_71_1 d 0 _ L = _ from e7, zbv_s, zM_passes_72_q, show zM_passes_72_1 d 0 _ L = _ from e8, zbv_s, zM_passes_73_q, show zM_passes_73_1 d 0 _ L = _ from e9, zbv_s, p10, zbi_s, ← hC10, p11, zbi_s, ← hC11, p12, zbi_s, ← hC12, p13, zbi_s, ← hC13, p14, zbi_s, ← hC14, p15, zbi_s, ← hC15, p16, zbi_s, ← hC16, p17, zbi_s, ← hC17, p18, zbi_s, ← hC18]
end PA
