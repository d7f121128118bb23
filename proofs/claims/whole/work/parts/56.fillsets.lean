/-! ===== the class's sets: one count is filled ===== -/
/-- what the power asks -/
def zAsk (A : zA) (L : zL) (p : Nat) (good : Nat → Bool) (stuck : Bool) (g : Nat) : Prop := A 56 4 = nI p ∧ A 56 6 = (if stuck then 1 else 0) ∧ A 56 7 = nI g ∧ ∀ m, m < 64 → lb (L 56 5) m = good m
section FS
variable {v A : zA} {L : zL} {d g n s m p : Nat} {good : Nat → Bool} {stuck : Bool}
theorem cRowOf : zX_rowOf d (nI n) A L = some (some (.int (nI (n % 2 * 8))), A, L) := by
  rw [zX_rowOf_q, nI_and1, show (8 : Int32) = nI 8 from rfl, pk_mul]
/-- the row begins -/
theorem cFill3 {row nx : Nat} (hrow : row < 9) {own : Bool} : ∀ k s L, s + k = 8 → (∀ t, t < s → ∀ m, m < 64 → lb (L 57 (row + t)) m = !own) → ∃ L', zO_fillSets_3 d (nI n) (nI row) (nI nx) (if own then 1 else 0) (nI s) A L = zO_fillSets_6 d (nI n) (nI row) (nI nx) (if own then 1 else 0) A L' ∧ (∀ c, c ≠ 57 → L' c = L c) ∧ (∀ i, (i < row ∨ row + 8 ≤ i) → L' 57 i = L 57 i) ∧ ∀ t, t < 8 → ∀ m, m < 64 → lb (L' 57 (row + t)) m = !own := by
  intro k
  induction k with
  | zero =>
    intro s L hs h
    have e : s = 8 := by omega
    subst e
    refine ⟨L, ?_, fun _ _ => rfl, fun _ _ => rfl, h⟩
    rw [zO_fillSets_3_q, if_pos (by decide)]
  | succ k ih =>
    intro s L hs h
    have key : ∀ x : Int64, (∀ m, m < 64 → lb x m = !own) → ∃ L', zO_fillSets_5 d (nI n) (nI row) (nI nx) (if own then 1 else 0) (nI s) (nI row + nI s) x A L = zO_fillSets_6 d (nI n) (nI row) (nI nx) (if own then 1 else 0) A L' ∧ (∀ c, c ≠ 57 → L' c = L c) ∧ (∀ i, (i < row ∨ row + 8 ≤ i) → L' 57 i = L 57 i) ∧ ∀ t, t < 8 → ∀ m, m < 64 → lb (L' 57 (row + t)) m = !own := by
      intro x hx
      obtain ⟨L', e1, e2, e3, e4⟩ := ih (s + 1) (zputL L 57 (row + s) x) (by omega) (fun t ht m hm => by
        rw [zputL_s]
        by_cases e : t = s
        · rw [e, updL_s]; exact hx m hm
        · rw [updL_o (by omega)]; exact h t (by omega) m hm)
      refine ⟨L', ?_, fun c hc => by rw [e2 c hc, zputL_o hc], fun i hi => by rw [e3 i hi, zputL_s, updL_o (by omega)], e4⟩
      rw [zO_fillSets_5_q, nI_add, zck_n (by omega) (by decide), nI_clamp (by omega), nI_1]
      exact e1
    rw [zO_fillSets_3_q, if_neg (nI_g8 (by omega))]
    cases own with
    | false =>
      rw [ite_ft] at key ⊢
      obtain ⟨L', e1, e2⟩ := key (-1) (fun m hm => by rw [lb_m1 m hm]; rfl)
      refine ⟨L', ?_, e2⟩
      rw [if_pos (by rfl), zO_fillSets_4_q]
      exact e1
    | true =>
      rw [ite_tt] at key ⊢
      obtain ⟨L', e1, e2⟩ := key 0 (fun m hm => by rw [lb_0 m]; rfl)
      refine ⟨L', ?_, e2⟩
      rw [if_neg (by decide)]
      exact e1
theorem cAcross {r : Nat} {x : Int64} (ho : Ok v) (hv : zv A = v) (hr : r < 24) : ∃ y, zG_acrossRule d (nI r) x A L = some (some (.long y), A, L) ∧ ∀ m, m < 64 → lb y m = lb x (m ^^^ vMm v r) := by
  obtain ⟨-, -, -, h4⟩ := ho.rule hr
  rw [zG_acrossRule_q, if_neg (nI_pos (by omega)), if_neg (by rw [show (24 : Int32) = nI 24 from rfl]; exact nI_ge hr (by omega)), zck_n hr (by decide), nI_clamp (by omega), zv_c hv 6 (by decide), zG_acrossRule_2_q]
  rcases h4 with h4 | h4
  · refine ⟨x, by rw [h4, if_pos (by decide), zG_acrossRule_3_q], fun m hm => ?_⟩
    unfold vMm vBit
    rw [h4, if_pos (by decide), Nat.xor_zero]
  · obtain ⟨e1, e2⟩ := h4.clamp (by decide)
    generalize hj : (v 6 r).toNatClampNeg = j at e1 e2
    have hp : 2 ^ j < 64 := by
      have := Nat.pow_lt_pow_right (a := 2) (by omega) e2
      omega
    refine ⟨zlshl (x &&& zMW j) (nI (2 ^ j)) ||| (zlushr x (nI (2 ^ j)) &&& zMW j), ?_, fun m hm => ?_⟩
    · rw [e1, if_neg (nI_pos (by omega)), show (6 : Int32) = nI 6 from rfl, if_pos (nI_lt e2 (by omega)), zG_acrossRule_4_q, zck_n e2 (by decide), nI_clamp (by omega), zpow (by omega)]
    · have e : vMm v r = 2 ^ j := by
        unfold vMm vBit
        rw [hj, e1, if_neg (nI_pos (by omega))]
      rw [lb_across x e2 hm, e]
/-- a rule's states, looked at where they are asked for -/
theorem cStateFrom {r : Nat} (ho : Ok v) (hv : zv A = v) (hr : r < 24) : zG_stateFrom (d + 1) (nI r) A L = some (some (.int (nI (vFr v r))), A, L) := by
  obtain ⟨h1, -, -, -⟩ := ho.rule hr
  obtain ⟨a1, a2⟩ := h1.clamp (by decide)
  have fa : (v 3 r).toNatClampNeg = vFr v r := rfl
  rw [fa] at a1 a2
  rw [zG_stateFrom_q, if_neg (nI_pos (by omega)), if_neg (nI_g24 hr), zck_n hr (by decide), nI_clamp (by omega), zv_c hv 3 (by decide), a1, cIsState a2, zbi_s, if_neg (by decide), zck_n hr (by decide), zv_c hv 3 (by decide), a1, zG_stateFrom_2_q]
theorem cStateTo {r : Nat} (ho : Ok v) (hv : zv A = v) (hr : r < 24) : zG_stateTo (d + 1) (nI r) A L = some (some (.int (nI (vTt v r))), A, L) := by
  obtain ⟨-, -, h3, -⟩ := ho.rule hr
  obtain ⟨c1, c2⟩ := h3.clamp (by decide)
  have fc : (v 5 r).toNatClampNeg = vTt v r := rfl
  rw [fc] at c1 c2
  rw [zG_stateTo_q, if_neg (nI_pos (by omega)), if_neg (nI_g24 hr), zck_n hr (by decide), nI_clamp (by omega), zv_c hv 5 (by decide), c1, cIsState c2, zbi_s, if_neg (by decide), zck_n hr (by decide), zv_c hv 5 (by decide), c1, zG_stateTo_2_q]
end FS
