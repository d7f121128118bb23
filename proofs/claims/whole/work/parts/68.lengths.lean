/-! ===== the most words: the class's rows ===== -/
theorem cMin {a b d : Nat} {A : zA} {L : zL} (ha : a < 2 ^ 31) (hb : b < 2 ^ 31) : zJM_min d (nI a) (nI b) A L = some (some (.int (nI (min a b))), A, L) := by
  rw [zJM_min_q, zifi (nI_ltI hb ha)]
  by_cases h : b < a
  · rw [if_pos h, zJM_min_1_q, zJM_min_2_q, Nat.min_eq_right (by omega)]
  · rw [if_neg h, zJM_min_2_q, Nat.min_eq_left (by omega)]
def zfl (own : Bool) (ok : Nat → Bool) (fr tt : Nat → Nat) (X : Nat → Nat) : Nat → Nat → Nat
  | 0, _ => if own then 0 else 8
  | r + 1, s => if ok r && decide (fr r = s) then (if own then max (zfl own ok fr tt X r s) (X (tt r)) else min (zfl own ok fr tt X r s) (X (tt r))) else zfl own ok fr tt X r s
theorem zfl_s {own : Bool} {ok : Nat → Bool} {fr tt : Nat → Nat} {X : Nat → Nat} {r s : Nat} : zfl own ok fr tt X (r + 1) s = if ok r && decide (fr r = s) then (if own then max (zfl own ok fr tt X r s) (X (tt r)) else min (zfl own ok fr tt X r s) (X (tt r))) else zfl own ok fr tt X r s := rfl
theorem zfl_8 {own : Bool} {ok : Nat → Bool} {fr tt : Nat → Nat} {X : Nat → Nat} {s : Nat} : ∀ k, (∀ r, r < k → ok r = true → X (tt r) ≤ 8) → zfl own ok fr tt X k s ≤ 8
  | 0, _ => by
    show (if own then 0 else 8) ≤ 8
    split <;> omega
  | k + 1, h => by
    have ih := zfl_8 (own := own) (ok := ok) (fr := fr) (tt := tt) (X := X) (s := s) k (fun r hr => h r (by omega))
    rw [zfl_s]
    cases hk : ok k with
    | false => rw [Bool.false_and, ite_ft]; exact ih
    | true =>
      have := h k (by omega) hk
      split
      · split <;> omega
      · exact ih
theorem zfl_zfr {own : Bool} {ok : Nat → Bool} {fr tt mm : Nat → Nat} {X : Nat → Nat} {s m y : Nat} (h1 : 1 ≤ y) (h8 : y ≤ 8) : ∀ k, decide (y ≤ zfl own ok fr tt X k s) = zfr own ok fr tt mm (fun s _ => decide (y ≤ X s)) k s m
  | 0 => by
    show decide (y ≤ if own then 0 else 8) = !own
    cases own
    · rw [ite_ft]; exact decide_eq_true h8
    · rw [ite_tt]; exact decide_eq_false (by omega)
  | k + 1 => by
    have ih := zfl_zfr (own := own) (ok := ok) (fr := fr) (tt := tt) (mm := mm) (X := X) (s := s) (m := m) h1 h8 k
    rw [zfl_s, zfr_s, ← ih]
    cases ok k && decide (fr k = s) with
    | false => rw [ite_ft, ite_ft]
    | true =>
      rw [ite_tt, ite_tt]
      cases own
      · rw [ite_ft, ite_ft, ← Bool.decide_and]
        exact decide_eq_decide.mpr (by omega)
      · rw [ite_tt, ite_tt, ← Bool.decide_or]
        exact decide_eq_decide.mpr (by omega)
section FL
variable {v A : zA} {L : zL} {d n s m p : Nat}
theorem cLen3 {row nx : Nat} (hrow : row < 9) {own : Bool} : ∀ k s A, s + k = 8 → (∀ t, t < s → A 58 (row + t) = nI (if own then 0 else 8)) → ∃ A', zO_fillLengths_3 d (nI n) (nI row) (nI nx) (if own then 1 else 0) (nI s) A L = zO_fillLengths_6 d (nI n) (nI row) (nI nx) (if own then 1 else 0) A' L ∧ (∀ c, c ≠ 58 → A' c = A c) ∧ (∀ i, (i < row ∨ row + 8 ≤ i) → A' 58 i = A 58 i) ∧ ∀ t, t < 8 → A' 58 (row + t) = nI (if own then 0 else 8) := by
  intro k
  induction k with
  | zero =>
    intro s A hs h
    have e : s = 8 := by omega
    subst e
    refine ⟨A, ?_, fun _ _ => rfl, fun _ _ => rfl, h⟩
    rw [zO_fillLengths_3_q, if_pos (by decide)]
  | succ k ih =>
    intro s A hs h
    have key : ∀ x : Int32, x = nI (if own then 0 else 8) → ∃ A', zO_fillLengths_5 d (nI n) (nI row) (nI nx) (if own then 1 else 0) (nI s) (nI row + nI s) x A L = zO_fillLengths_6 d (nI n) (nI row) (nI nx) (if own then 1 else 0) A' L ∧ (∀ c, c ≠ 58 → A' c = A c) ∧ (∀ i, (i < row ∨ row + 8 ≤ i) → A' 58 i = A 58 i) ∧ ∀ t, t < 8 → A' 58 (row + t) = nI (if own then 0 else 8) := by
      intro x hx
      obtain ⟨A', e1, e2, e3, e4⟩ := ih (s + 1) (zput A 58 (row + s) x) (by omega) (fun t ht => by
        rw [zput_s]
        by_cases e : t = s
        · rw [e, upd_s]; exact hx
        · rw [upd_o (by omega)]; exact h t (by omega))
      refine ⟨A', ?_, fun c hc => by rw [e2 c hc, zput_o hc], fun i hi => by rw [e3 i hi, zput_s, upd_o (by omega)], e4⟩
      rw [zO_fillLengths_5_q, nI_add, zck_n (by omega) (by decide), nI_clamp (by omega), nI_1]
      exact e1
    rw [zO_fillLengths_3_q, if_neg (nI_g8 (by omega))]
    cases own with
    | false =>
      rw [ite_ft] at key ⊢
      obtain ⟨A', e1, e2⟩ := key 8 (by rfl)
      refine ⟨A', ?_, e2⟩
      rw [if_pos (by rfl), zO_fillLengths_4_q]
      exact e1
    | true =>
      rw [ite_tt] at key ⊢
      obtain ⟨A', e1, e2⟩ := key 0 (by rfl)
      refine ⟨A', ?_, e2⟩
      rw [if_neg (by decide)]
      exact e1
theorem cLen7 {row nx w : Nat} {own : Bool} {X : Nat → Nat} (ho : Ok v) (hwa : w = vWa v n) (hw : w < 256) (hrn : (row = 0 ∧ nx = 8) ∨ (row = 8 ∧ nx = 0)) :
    ∀ k r A, r + k = vR v → zv A = v → (∀ r, r < vR v → vRk v 0 n r = true → A 58 (nx + vTt v r) = nI (X (vTt v r)) ∧ X (vTt v r) ≤ 8) → (∀ s, s < 8 → A 58 (row + s) = nI (zfl own (vRk v 0 n) (vFr v) (vTt v) X r s)) →
    ∃ A', zO_fillLengths_7 (d + 2) (nI n) (nI row) (nI nx) (if own then 1 else 0) (nI w) (nI (zmv (vRk v 0 n) (vFr v) r)) (nI r) A L = zO_fillLengths_11 (d + 2) (nI n) (nI row) (if own then 1 else 0) (nI (zmv (vRk v 0 n) (vFr v) (vR v))) A' L ∧ (∀ c, c ≠ 58 → A' c = A c) ∧ (∀ i, (i < row ∨ row + 8 ≤ i) → A' 58 i = A 58 i) ∧ ∀ s, s < 8 → A' 58 (row + s) = nI (zfl own (vRk v 0 n) (vFr v) (vTt v) X (vR v) s) := by
  have hR := ho.R
  intro k
  induction k with
  | zero =>
    intro r A hr hv hX hS
    have e : r = vR v := by omega
    subst e
    refine ⟨A, ?_, fun _ _ => rfl, fun _ _ => rfl, hS⟩
    rw [zO_fillLengths_7_q, zv_c hv 2 (by decide), hR.1, if_pos (nI_le (by omega) (by omega))]
  | succ k ih =>
    intro r A hr hv hX hS
    have hr24 : r < 24 := by omega
    obtain ⟨h1, h2, h3, -⟩ := ho.rule hr24
    obtain ⟨a1, a2⟩ := h1.clamp (by decide)
    obtain ⟨b1, b2⟩ := h2.clamp (by decide)
    obtain ⟨c1, c2⟩ := h3.clamp (by decide)
    have fa : (v 3 r).toNatClampNeg = vFr v r := rfl
    have fb : (v 4 r).toNatClampNeg = vBy v r := rfl
    have fc : (v 5 r).toNatClampNeg = vTt v r := rfl
    rw [fa] at a1 a2; rw [fb] at b1 b2; rw [fc] at c1 c2
    have h8 : ∀ s, zfl own (vRk v 0 n) (vFr v) (vTt v) X r s ≤ 8 := fun s => zfl_8 r (fun q hq hk => (hX q (by omega) hk).2)
    cases hb : w.testBit (vBy v r) with
    | false =>
      have hk : vRk v 0 n r = false := by unfold vRk; rw [← hwa, hb]; rfl
      obtain ⟨A', e1, e2⟩ := ih (r + 1) A (by omega) hv hX (fun s hs => by rw [zfl_s, hk, Bool.false_and, ite_ft]; exact hS s hs)
      rw [zmv_s, hk, ite_ft] at e1
      refine ⟨A', ?_, e2⟩
      rw [zO_fillLengths_7_q, zv_c hv 2 (by decide), zv_c hv 4 (by decide), hR.1, if_neg (nI_ge (by omega) (by omega)), if_neg (nI_g24 hr24), zck_n hr24 (by decide), nI_clamp (by omega), b1, zifc (zbit0 (by omega) (by omega)), hb, if_pos rfl, zO_fillLengths_10_q, nI_1]
      exact e1
    | true =>
      have hk : vRk v 0 n r = true := by unfold vRk; rw [← hwa, hb]; simp
      obtain ⟨x1, x2⟩ := hX r (by omega) hk
      have hzf : zfl own (vRk v 0 n) (vFr v) (vTt v) X (r + 1) (vFr v r) = if own then max (zfl own (vRk v 0 n) (vFr v) (vTt v) X r (vFr v r)) (X (vTt v r)) else min (zfl own (vRk v 0 n) (vFr v) (vTt v) X r (vFr v r)) (X (vTt v r)) := by
        rw [zfl_s, hk, show decide (vFr v r = vFr v r) = true from decide_eq_true rfl, Bool.and_true, ite_tt]
      have h9 : ∃ A', zO_fillLengths_9 (d + 2) (nI n) (nI row) (nI nx) (if own then 1 else 0) (nI w) (nI (zmv (vRk v 0 n) (vFr v) r)) (nI r) (nI (vFr v r)) (nI (row + vFr v r)) (nI (zfl own (vRk v 0 n) (vFr v) (vTt v) X (r + 1) (vFr v r))) A L = zO_fillLengths_11 (d + 2) (nI n) (nI row) (if own then 1 else 0) (nI (zmv (vRk v 0 n) (vFr v) (vR v))) A' L ∧ (∀ c, c ≠ 58 → A' c = A c) ∧ (∀ i, (i < row ∨ row + 8 ≤ i) → A' 58 i = A 58 i) ∧ ∀ s, s < 8 → A' 58 (row + s) = nI (zfl own (vRk v 0 n) (vFr v) (vTt v) X (vR v) s) := by
        obtain ⟨A', e1, e2, e3, e4⟩ := ih (r + 1) (zput A 58 (row + vFr v r) (nI (zfl own (vRk v 0 n) (vFr v) (vTt v) X (r + 1) (vFr v r)))) (by omega) ((zv_put (by decide)).trans hv) (fun q hq hkq => by
          obtain ⟨q1, q2⟩ := hX q hq hkq
          have q3 : vTt v q < 8 := ((ho.rule (r := q) (by omega)).2.2.1.clamp (by decide)).2
          rw [zput_s, upd_o (by omega)]
          exact ⟨q1, q2⟩) (fun s hs => by
          rw [zput_s]
          by_cases e : s = vFr v r
          · rw [e, upd_s]
          · rw [upd_o (by omega), zfl_s, hk, show decide (vFr v r = s) = false from decide_eq_false (fun h => e h.symm), Bool.and_false, ite_ft]
            exact hS s hs)
        rw [zmv_s, hk, ite_tt] at e1
        refine ⟨A', ?_, fun c hc => by rw [e2 c hc, zput_o hc], fun i hi => by rw [e3 i hi, zput_s, upd_o (by omega)], e4⟩
        rw [zO_fillLengths_9_q, zck_n (by omega) (by decide), nI_clamp (by omega), zpow (by omega), nI_or, zO_fillLengths_10_q, nI_1]
        exact e1
      rw [zO_fillLengths_7_q, zv_c hv 2 (by decide), zv_c hv 4 (by decide), hR.1, if_neg (nI_ge (by omega) (by omega)), if_neg (nI_g24 hr24), zck_n hr24 (by decide), nI_clamp (by omega), b1, zifc (zbit0 (by omega) (by omega)), hb, if_neg (by decide), cStateFrom ho hv hr24, zbi_s, cStateTo ho hv hr24, zbi_s, nI_add, nI_add, zck_n (by omega) (by decide), zck_n (by omega) (by decide), nI_clamp (by omega), nI_clamp (by omega), x1, hS _ a2]
      have h8' := h8 (vFr v r)
      cases own with
      | false =>
        rw [ite_ft] at h9 hzf ⊢
        rw [hzf] at h9
        rw [if_pos (by rfl), zO_fillLengths_8_q, nI_add, zck_n (by omega) (by decide), nI_clamp (by omega), hS _ a2, cMin (by omega) (by omega), zbi_s]
        exact h9
      | true =>
        rw [ite_tt] at h9 hzf ⊢
        rw [hzf] at h9
        rw [if_neg (by decide), cMax (by omega) (by omega), zbi_s]
        exact h9
def zle (own mov en : Bool) (n x : Nat) : Nat := if mov && (own || !en) then x else n
theorem cLen12 {row mv : Nat} {own : Bool} {Y : Nat → Nat} (ho : Ok v) (hmv : mv < 256) (hrow : row < 9) :
    ∀ k s A, s + k = 8 → zv A = v → (∀ t, s ≤ t → t < 8 → A 58 (row + t) = nI (Y t)) → (∀ t, t < s → A 58 (row + t) = nI (zle own (mv.testBit t) (vEn v t) n (Y t))) →
    ∃ A', zO_fillLengths_12 (d + 2) (nI n) (nI row) (if own then 1 else 0) (nI mv) (nI s) A L = some (none, A', L) ∧ (∀ c, c ≠ 58 → A' c = A c) ∧ (∀ i, (i < row ∨ row + 8 ≤ i) → A' 58 i = A 58 i) ∧ ∀ t, t < 8 → A' 58 (row + t) = nI (zle own (mv.testBit t) (vEn v t) n (Y t)) := by
  intro k
  induction k with
  | zero =>
    intro s A hs hv h1 h2
    have e : s = 8 := by omega
    subst e
    refine ⟨A, ?_, fun _ _ => rfl, fun _ _ => rfl, h2⟩
    rw [zO_fillLengths_12_q, if_pos (by decide), zO_fillLengths_19_q]
  | succ k ih =>
    intro s A hs hv h1 h2
    have hs8 : s < 8 := by omega
    have h18 : ∀ x, x = nI (zle own (mv.testBit s) (vEn v s) n (Y s)) → ∃ A', zO_fillLengths_18 (d + 2) (nI n) (nI row) (if own then 1 else 0) (nI mv) (nI s) (nI row + nI s) x A L = some (none, A', L) ∧ (∀ c, c ≠ 58 → A' c = A c) ∧ (∀ i, (i < row ∨ row + 8 ≤ i) → A' 58 i = A 58 i) ∧ ∀ t, t < 8 → A' 58 (row + t) = nI (zle own (mv.testBit t) (vEn v t) n (Y t)) := by
      intro x hx
      subst hx
      obtain ⟨A', e1, e2, e3, e4⟩ := ih (s + 1) (zput A 58 (row + s) (nI (zle own (mv.testBit s) (vEn v s) n (Y s)))) (by omega) ((zv_put (by decide)).trans hv) (fun t ht ht8 => by rw [zput_s, upd_o (by omega)]; exact h1 t (by omega) ht8) (fun t ht => by
        rw [zput_s]
        by_cases e : t = s
        · rw [e, upd_s]
        · rw [upd_o (by omega)]; exact h2 t (by omega))
      refine ⟨A', ?_, fun c hc => by rw [e2 c hc, zput_o hc], fun i hi => by rw [e3 i hi, zput_s, upd_o (by omega)], e4⟩
      rw [zO_fillLengths_18_q, nI_add, zck_n (by omega) (by decide), nI_clamp (by omega), nI_1]
      exact e1
    have h16 : ∀ mb ob : Bool, mb = mv.testBit s → ob = (!own && vEn v s) → ∃ A', zO_fillLengths_16 (d + 2) (nI n) (nI row) (if own then 1 else 0) (nI mv) (nI s) (if mb then 1 else 0) (if ob then 1 else 0) A L = some (none, A', L) ∧ (∀ c, c ≠ 58 → A' c = A c) ∧ (∀ i, (i < row ∨ row + 8 ≤ i) → A' 58 i = A 58 i) ∧ ∀ t, t < 8 → A' 58 (row + t) = nI (zle own (mv.testBit t) (vEn v t) n (Y t)) := by
      intro mb ob hmb hob
      have hz : zle own (mv.testBit s) (vEn v s) n (Y s) = if mb && !ob then Y s else n := by
        unfold zle
        rw [hmb, hob]
        cases own <;> cases vEn v s <;> rfl
      rw [hz] at h18
      rw [zO_fillLengths_16_q]
      cases mb with
      | false =>
        rw [ite_ft, if_pos (by rfl), zO_fillLengths_17_q]
        exact h18 _ (by rw [Bool.false_and, ite_ft])
      | true =>
        rw [ite_tt, if_neg (by decide)]
        cases ob with
        | false =>
          rw [ite_ft, if_pos (by rfl)]
          have h := h18 (nI (Y s)) (by rfl)
          rw [nI_add] at h ⊢
          rw [zck_n (by omega) (by decide), nI_clamp (by omega), h1 s (Nat.le_refl s) hs8]
          exact h
        | true =>
          rw [ite_tt, if_neg (by decide), zO_fillLengths_17_q]
          exact h18 _ (by rfl)
    have h14 : ∀ mb : Bool, mb = mv.testBit s → ∃ A', zO_fillLengths_14 (d + 2) (nI n) (nI row) (if own then 1 else 0) (nI mv) (nI s) (if mb then 1 else 0) A L = some (none, A', L) ∧ (∀ c, c ≠ 58 → A' c = A c) ∧ (∀ i, (i < row ∨ row + 8 ≤ i) → A' 58 i = A 58 i) ∧ ∀ t, t < 8 → A' 58 (row + t) = nI (zle own (mv.testBit t) (vEn v t) n (Y t)) := by
      intro mb hmb
      rw [zO_fillLengths_14_q]
      cases own with
      | true =>
        rw [ite_tt] at h16 ⊢
        rw [if_neg (by decide), zO_fillLengths_15_q]
        have := h16 mb false hmb (by rfl)
        rw [ite_ft] at this
        exact this
      | false =>
        rw [ite_ft] at h16 ⊢
        rw [if_pos (by rfl), cIsEnd ho hv hs8, zbi_s]
        cases he : vEn v s with
        | false =>
          rw [ite_ft, if_pos (by rfl), zO_fillLengths_15_q]
          have := h16 mb false hmb (by rw [he]; rfl)
          rw [ite_ft] at this
          exact this
        | true =>
          rw [ite_tt, if_neg (by decide)]
          have := h16 mb true hmb (by rw [he]; rfl)
          rw [ite_tt] at this
          exact this
    rw [zO_fillLengths_12_q, if_neg (nI_g8 hs8), zifc (zbit0 (by omega) (by omega))]
    cases hb : mv.testBit s with
    | false =>
      rw [if_pos (by rfl), zO_fillLengths_13_q]
      have := h14 false (by rw [hb])
      rw [ite_ft] at this; exact this
    | true =>
      rw [if_neg (by decide)]
      have := h14 true (by rw [hb])
      rw [ite_tt] at this; exact this
end FL
