/-! ===== the most words: the class says what the model says ===== -/
theorem zany_eq {f g : Nat → Bool} {k : Nat} (h : ∀ t, t < k → f t = g t) : (List.range k).any f = (List.range k).any g := by
  rw [Bool.eq_iff_iff]
  simp only [List.any_eq_true, List.mem_range]
  exact ⟨fun ⟨t, a, b⟩ => ⟨t, a, by rw [← h t a]; exact b⟩, fun ⟨t, a, b⟩ => ⟨t, a, by rw [h t a]; exact b⟩⟩
theorem zall_eq {f g : Nat → Bool} {k : Nat} (h : ∀ t, t < k → f t = g t) : (List.range k).all f = (List.range k).all g := by
  rw [Bool.eq_iff_iff]
  simp only [List.all_eq_true, List.mem_range]
  exact ⟨fun e t a => by rw [← h t a]; exact e t a, fun e t a => by rw [h t a]; exact e t a⟩
section MW2
variable {v A : zA} {L : zL} {d n s m p : Nat}
/-- the row of a count holds the spec's lengths -/
def zRowL (v A : zA) (p n : Nat) : Prop := ∀ s, s < 8 → ∃ l, l ≤ 8 ∧ A 58 (n % 2 * 8 + s) = nI l ∧ ∀ y, 1 ≤ y → y ≤ 8 → decide (y ≤ l) = vZ v p y (9 - n) n s
theorem vRk_len {g r : Nat} (h : vRk v g n r = true) : n < vLen v := by
  unfold vRk vWa at h
  rw [Bool.and_eq_true] at h
  have h1 := h.1
  split at h1
  · simp at h1
  · omega
theorem cFillLen (ho : Ok v) (hv : zv A = v) (hp : p < vP v) (hn : n ≤ 8) (hq : A 56 4 = nI p) (hX : vLen v ≤ n ∨ zRowL v A p (n + 1)) :
    ∃ A', zO_fillLengths (d + 3) (nI n) A L = some (none, A', L) ∧ (∀ c, c ≠ 58 → A' c = A c) ∧ zRowL v A' p n := by
  have h5 := ho.P.2
  have hR := ho.R
  have hpp : 0 < vP v := by omega
  have htr := (ho.tr hpp n).2
  obtain ⟨X, hXd⟩ : ∃ X : Nat → Nat, ∀ s, X s = (A 58 ((n + 1) % 2 * 8 + s)).toNatClampNeg := ⟨_, fun _ => rfl⟩
  have hXX : n < vLen v → ∀ s, s < 8 → X s ≤ 8 ∧ A 58 ((n + 1) % 2 * 8 + s) = nI (X s) ∧ ∀ y, 1 ≤ y → y ≤ 8 → decide (y ≤ X s) = vZ v p y (8 - n) (n + 1) s := by
    intro hl s hs
    rcases hX with h | h
    · omega
    · obtain ⟨l, h1, h2, h3⟩ := h s hs
      have e : X s = l := by rw [hXd, h2, nI_clamp (by omega)]
      rw [e]
      exact ⟨h1, h2, fun y a b => by rw [h3 y a b, show 9 - (n + 1) = 8 - n by omega]⟩
  have hXr : ∀ r, r < vR v → vRk v 0 n r = true → A 58 ((n + 1) % 2 * 8 + vTt v r) = nI (X (vTt v r)) ∧ X (vTt v r) ≤ 8 := by
    intro r hr hk
    have h8 : vTt v r < 8 := ((ho.rule (r := r) (by omega)).2.2.1.clamp (by decide)).2
    obtain ⟨a, b, -⟩ := hXX (vRk_len hk) _ h8
    exact ⟨b, a⟩
  have hwa : vWa v n < 256 := by
    unfold vWa
    split
    · omega
    · exact (ho.pw (p := vTr v n) (by omega)).2
  have hmv : zmv (vRk v 0 n) (vFr v) (vR v) < 256 := zmv_lt _ (fun r hr => by
    obtain ⟨h1, -⟩ := ho.rule (r := r) (by omega)
    exact (h1.clamp (by decide)).2)
  have h2 : ∀ own : Bool, own = decide (vTr v n = p) → ∃ A', zO_fillLengths_2 (d + 3) (nI n) (nI (n % 2 * 8)) (nI ((n + 1) % 2 * 8)) (if own then 1 else 0) A L = some (none, A', L) ∧ (∀ c, c ≠ 58 → A' c = A c) ∧ ∀ s, s < 8 → A' 58 (n % 2 * 8 + s) = nI (zle own ((zmv (vRk v 0 n) (vFr v) (vR v)).testBit s) (vEn v s) n (zfl own (vRk v 0 n) (vFr v) (vTt v) X (vR v) s)) := by
    intro own hoo
    obtain ⟨B, b1, b2, b3, b4⟩ := cLen3 (d := d + 3) (L := L) (n := n) (nx := (n + 1) % 2 * 8) (row := n % 2 * 8) (by omega) (own := own) 8 0 A (by omega) (fun t ht => absurd ht (Nat.not_lt_zero t))
    have hvB : zv B = v := (zv_of (fun c hc => b2 c (by omega))).trans hv
    obtain ⟨C, c1, c2, c3, c4⟩ := cLen7 (d := d + 1) (L := L) (n := n) (row := n % 2 * 8) (nx := (n + 1) % 2 * 8) (own := own) (X := X) ho rfl hwa (by omega) (vR v) 0 B (by omega) hvB (fun r hr hk => by
      have h8 : vTt v r < 8 := ((ho.rule (r := r) (by omega)).2.2.1.clamp (by decide)).2
      rw [b3 _ (by omega)]; exact hXr r hr hk) (fun s hs => b4 s hs)
    have hvC : zv C = v := (zv_of (fun c hc => c2 c (by omega))).trans hvB
    obtain ⟨A', e1, e2, e3, e4⟩ := cLen12 (d := d + 1) (L := L) (n := n) (own := own) (Y := fun s => zfl own (vRk v 0 n) (vFr v) (vTt v) X (vR v) s) (row := n % 2 * 8) ho hmv (by omega) 8 0 C (by omega) hvC (fun t _ ht => c4 t ht) (fun t ht => absurd ht (Nat.not_lt_zero t))
    refine ⟨A', ?_, fun c hc => by rw [e2 c hc, c2 c hc, b2 c hc], e4⟩
    rw [zO_fillLengths_2_q, show (0 : Int32) = nI 0 from rfl]
    rw [show (0 : Int32) = nI 0 from rfl] at b1
    rw [b1, zO_fillLengths_6_q, cWordsAt ho hvB (by omega), zbi_s]
    rw [show zmv (vRk v 0 n) (vFr v) 0 = 0 from rfl] at c1
    rw [show (nI (if vP v = 0 ∨ vLen v ≤ n then 0 else vPw v (vTr v n))) = nI (vWa v n) from rfl, show (0 : Int32) = nI 0 from rfl]
    rw [show (0 : Int32) = nI 0 from rfl] at c1
    rw [c1, zO_fillLengths_11_q, show (0 : Int32) = nI 0 from rfl]
    rw [show (0 : Int32) = nI 0 from rfl] at e1
    exact e1
  have hval : ∀ (A' : zA), (∀ s, s < 8 → A' 58 (n % 2 * 8 + s) = nI (zle (decide (vTr v n = p)) ((zmv (vRk v 0 n) (vFr v) (vR v)).testBit s) (vEn v s) n (zfl (decide (vTr v n = p)) (vRk v 0 n) (vFr v) (vTt v) X (vR v) s))) → zRowL v A' p n := by
    intro A' h s hs
    have h8 : zfl (decide (vTr v n = p)) (vRk v 0 n) (vFr v) (vTt v) X (vR v) s ≤ 8 := zfl_8 _ (fun r hr hk => (hXr r hr hk).2)
    refine ⟨_, ?_, h s hs, fun y hy1 hy8 => ?_⟩
    · unfold zle; split <;> omega
    · rw [show 9 - n = (8 - n) + 1 by omega, vZ_s]
      unfold zle
      by_cases h0 : vMg v 0 n s = 0
      · have hb : (zmv (vRk v 0 n) (vFr v) (vR v)).testBit s = false := by
          cases h : (zmv (vRk v 0 n) (vFr v) (vR v)).testBit s
          · rfl
          · exact absurd h0 ((zmv_Mg ho hs).mp h)
        rw [if_pos h0, hb, Bool.false_and, ite_ft]
      · rw [if_neg h0, (zmv_Mg ho hs).mpr h0, Bool.true_and]
        have hl : n < vLen v := by
          obtain ⟨r, -, h2, -⟩ := zmv_bit _ |>.mp ((zmv_Mg ho hs).mpr h0)
          exact vRk_len h2
        have hx := fun t (ht : t < 8) => (hXX hl (vTo v s t) (ho.to hs ht).2).2.2 y hy1 hy8
        by_cases hpt : vTr v n = p
        · rw [if_pos hpt, decide_eq_true hpt, Bool.true_or, ite_tt, zfl_zfr (mm := fun _ => 0) (m := 0) hy1 hy8, zfr_any (v := v) (g := 0) (n := n) ho hs]
          sorry
        · sorry
  sorry
end MW2
