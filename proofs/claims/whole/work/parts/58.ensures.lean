/-! ===== the class's sets are the spec's ===== -/
section EN
variable {v A : zA} {d g n s m p : Nat} {good : Nat → Bool} {stuck : Bool}
theorem cWithEnd {x : Int64} {L : zL} {mov own : Bool} (ho : Ok v) (hv : zv A = v) (hs : s < 8) (hq : zAsk A L p good stuck g) : ∃ y, zO_withEnd (d + 2) x (nI s) (if mov then 1 else 0) (if own then 1 else 0) A L = some (some (.long y), A, L) ∧ ∀ m, m < 64 → lb y m = zfi own mov (vEn v s) (good m) stuck (lb x m) := by
  obtain ⟨q1, q2, q3, q4⟩ := hq
  rw [zO_withEnd_q, cIsEnd ho hv hs, zbi_s]
  unfold zfi
  cases mov with
  | false =>
    rw [ite_ft, if_pos (by rfl), zO_withEnd_4_q]
    cases vEn v s with
    | false =>
      rw [ite_ft, if_pos (by rfl), zO_withEnd_5_q, q2]
      cases stuck with
      | false => 
        refine ⟨_, by rw [ite_ft, if_pos (by rfl), zO_withEnd_6_q, zO_withEnd_7_q], fun m hm => by rw [lb_0]; rfl⟩
      | true =>
        refine ⟨_, by rw [ite_tt, if_neg (by decide), zO_withEnd_7_q], fun m hm => by rw [lb_m1 m hm]; rfl⟩
    | true =>
      refine ⟨_, by rw [ite_tt, if_neg (by decide), zO_withEnd_7_q], fun m hm => by rw [q4 m hm]; rfl⟩
  | true =>
    rw [ite_tt, if_neg (by decide)]
    cases vEn v s with
    | false =>
      refine ⟨_, by rw [ite_ft, if_pos (by rfl), zO_withEnd_3_q], fun m hm => rfl⟩
    | true =>
      rw [ite_tt, if_neg (by decide), zO_withEnd_1_q]
      cases own with
      | false =>
        refine ⟨_, by rw [ite_ft, if_pos (by rfl), zO_withEnd_2_q, zO_withEnd_3_q], fun m hm => by rw [lb_and, q4 m hm]; rfl⟩
      | true =>
        refine ⟨_, by rw [ite_tt, if_neg (by decide), zO_withEnd_3_q], fun m hm => by rw [lb_or, q4 m hm]; rfl⟩
theorem zAsk_of {L L' : zL} (h : zAsk A L p good stuck g) (e : L' 56 = L 56) : zAsk A L' p good stuck g := by
  unfold zAsk at *
  rw [e]; exact h
theorem cFill12 {row mv : Nat} {own : Bool} {Y : Nat → Nat → Bool} (ho : Ok v) (hv : zv A = v) (hmv : mv < 256) (hrow : row < 9) :
    ∀ k s L, s + k = 8 → zAsk A L p good stuck g → (∀ t, s ≤ t → t < 8 → ∀ m, m < 64 → lb (L 57 (row + t)) m = Y t m) → (∀ t, t < s → ∀ m, m < 64 → lb (L 57 (row + t)) m = zfi own (mv.testBit t) (vEn v t) (good m) stuck (Y t m)) →
    ∃ L', zO_fillSets_12 (d + 3) (nI row) (if own then 1 else 0) (nI mv) (nI s) A L = some (none, A, L') ∧ (∀ c, c ≠ 57 → L' c = L c) ∧ (∀ i, (i < row ∨ row + 8 ≤ i) → L' 57 i = L 57 i) ∧ ∀ t, t < 8 → ∀ m, m < 64 → lb (L' 57 (row + t)) m = zfi own (mv.testBit t) (vEn v t) (good m) stuck (Y t m) := by
  intro k
  induction k with
  | zero =>
    intro s L hs hq h1 h2
    have e : s = 8 := by omega
    subst e
    refine ⟨L, ?_, fun _ _ => rfl, fun _ _ => rfl, h2⟩
    rw [zO_fillSets_12_q, if_pos (by decide), zO_fillSets_15_q]
  | succ k ih =>
    intro s L hs hq h1 h2
    have hs8 : s < 8 := by omega
    obtain ⟨y, y1, y2⟩ := cWithEnd (d := d) (x := L 57 (row + s)) (mov := mv.testBit s) (own := own) ho hv hs8 hq
    have h14 : ∀ b : Int32, b = (if mv.testBit s then 1 else 0) → ∃ L', zO_fillSets_14 (d + 3) (nI row) (if own then 1 else 0) (nI mv) (nI s) (nI (row + s)) (L 57 (row + s)) (nI s) b A L = some (none, A, L') ∧ (∀ c, c ≠ 57 → L' c = L c) ∧ (∀ i, (i < row ∨ row + 8 ≤ i) → L' 57 i = L 57 i) ∧ ∀ t, t < 8 → ∀ m, m < 64 → lb (L' 57 (row + t)) m = zfi own (mv.testBit t) (vEn v t) (good m) stuck (Y t m) := by
      intro b hb
      subst hb
      obtain ⟨L', e1, e2, e3, e4⟩ := ih (s + 1) (zputL L 57 (row + s) y) (by omega) (zAsk_of hq (zputL_o (by decide))) (fun t ht ht8 m hm => by rw [zputL_s, updL_o (by omega)]; exact h1 t (by omega) ht8 m hm) (fun t ht m hm => by
        rw [zputL_s]
        by_cases e : t = s
        · rw [e, updL_s, y2 m hm, h1 s (Nat.le_refl s) hs8 m hm]
        · rw [updL_o (by omega)]; exact h2 t (by omega) m hm)
      refine ⟨L', ?_, fun c hc => by rw [e2 c hc, zputL_o hc], fun i hi => by rw [e3 i hi, zputL_s, updL_o (by omega)], e4⟩
      rw [zO_fillSets_14_q, y1, zbl_s, zck_n (by omega) (by decide), nI_clamp (by omega), nI_1]
      exact e1
    rw [zO_fillSets_12_q, if_neg (nI_g8 hs8), nI_add, zck_n (by omega) (by decide), nI_clamp (by omega), zifc (zbit0 (by omega) (by omega))]
    cases hb : mv.testBit s with
    | false =>
      rw [if_pos (by rfl), zO_fillSets_13_q]
      exact h14 0 (by rw [hb]; rfl)
    | true =>
      rw [if_neg (by decide)]
      exact h14 1 (by rw [hb]; rfl)
theorem cFillSets {L : zL} {X : Nat → Nat → Bool} (ho : Ok v) (hv : zv A = v) (hp : p < vP v) (hn : n < 65535) (hg2 : g < 2 ^ 24) (hq : zAsk A L p good stuck g) (hX : ∀ s, s < 8 → ∀ m, m < 64 → lb (L 57 ((n + 1) % 2 * 8 + s)) m = X s m) :
    ∃ L', zO_fillSets (d + 4) (nI n) A L = some (none, A, L') ∧ (∀ c, c ≠ 57 → L' c = L c) ∧ ∀ s, s < 8 → ∀ m, m < 64 → lb (L' 57 (n % 2 * 8 + s)) m = zfi (decide (vTr v n = p)) ((zmv (vRk v g n) (vFr v) (vR v)).testBit s) (vEn v s) (good m) stuck (zfr (decide (vTr v n = p)) (vRk v g n) (vFr v) (vTt v) (vMm v) X (vR v) s m) := by
  have h5 := ho.P.2
  have hR := ho.R
  have hpp : 0 < vP v := by omega
  have htr := (ho.tr hpp n).2
  obtain ⟨q1, q2, q3, q4⟩ := hq
  have hwa : vWa v n < 256 := by
    unfold vWa
    split
    · omega
    · exact (ho.pw (p := vTr v n) (by omega)).2
  have hmv : zmv (vRk v g n) (vFr v) (vR v) < 256 := zmv_lt _ (fun r hr => by
    obtain ⟨h1, -⟩ := ho.rule (r := r) (by omega)
    exact (h1.clamp (by decide)).2)
  have h2 : ∀ own : Bool, own = decide (vTr v n = p) → ∃ L', zO_fillSets_2 (d + 4) (nI n) (nI (n % 2 * 8)) (nI ((n + 1) % 2 * 8)) (if own then 1 else 0) A L = some (none, A, L') ∧ (∀ c, c ≠ 57 → L' c = L c) ∧ ∀ s, s < 8 → ∀ m, m < 64 → lb (L' 57 (n % 2 * 8 + s)) m = zfi own ((zmv (vRk v g n) (vFr v) (vR v)).testBit s) (vEn v s) (good m) stuck (zfr own (vRk v g n) (vFr v) (vTt v) (vMm v) X (vR v) s m) := by
    intro own hoo
    obtain ⟨B, b1, b2, b3, b4⟩ := cFill3 (d := d + 4) (A := A) (n := n) (nx := (n + 1) % 2 * 8) (row := n % 2 * 8) (by omega) (own := own) 8 0 L (by omega) (fun t ht => absurd ht (Nat.not_lt_zero t))
    obtain ⟨C, c1, c2, c3, c4⟩ := cFill7 (d := d + 2) (g := g) (n := n) (row := n % 2 * 8) (nx := (n + 1) % 2 * 8) (own := own) (X := X) ho hv rfl hwa q3 hg2 (by omega) (vR v) 0 B (by omega) (fun s hs m hm => by rw [b3 _ (by omega)]; exact hX s hs m hm) (fun s hs m hm => b4 s hs m hm)
    obtain ⟨L', e1, e2, e3, e4⟩ := cFill12 (d := d + 1) (own := own) (Y := fun s m => zfr own (vRk v g n) (vFr v) (vTt v) (vMm v) X (vR v) s m) (row := n % 2 * 8) (p := p) (g := g) (good := good) (stuck := stuck) ho hv hmv (by omega) 8 0 C (by omega) (zAsk_of (L := L) ⟨q1, q2, q3, q4⟩ (by rw [c2 _ (by decide), b2 _ (by decide)])) (fun t _ ht m hm => c4 t ht m hm) (fun t ht => absurd ht (Nat.not_lt_zero t))
    refine ⟨L', ?_, fun c hc => by rw [e2 c hc, c2 c hc, b2 c hc], e4⟩
    rw [zO_fillSets_2_q, show (0 : Int32) = nI 0 from rfl] 
    have b1' := b1
    rw [show (0 : Int32) = nI 0 from rfl] at b1'
    rw [b1', zO_fillSets_6_q, cWordsAt ho hv (by omega), zbi_s]
    have c1' := c1
    rw [show zmv (vRk v g n) (vFr v) 0 = 0 from rfl] at c1'
    rw [show (nI (if vP v = 0 ∨ vLen v ≤ n then 0 else vPw v (vTr v n))) = nI (vWa v n) from rfl, show (0 : Int32) = nI 0 from rfl]
    rw [show (0 : Int32) = nI 0 from rfl] at c1'
    rw [c1', zO_fillSets_11_q, show (0 : Int32) = nI 0 from rfl]
    rw [show (0 : Int32) = nI 0 from rfl] at e1
    exact e1
  rw [zO_fillSets_q, cRowOf, zbi_s, nI_1, cRowOf, zbi_s, cAtTurn ho hv (by omega) hpp, zbi_s, q1, zifi (nI_eq (by omega) (by omega))]
  by_cases htp : vTr v n = p
  · rw [if_pos htp]
    have := h2 true (by simp [htp])
    rw [ite_tt] at this
    rw [show decide (vTr v n = p) = true from decide_eq_true htp]
    exact this
  · rw [if_neg htp, zO_fillSets_1_q]
    have := h2 false (by simp [htp])
    rw [ite_ft] at this
    rw [show decide (vTr v n = p) = false from decide_eq_false htp]
    exact this
end EN
