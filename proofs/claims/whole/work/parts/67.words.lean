/-! ===== the most words: the spec by bounds, the model's ===== -/
def vZ (v : zA) (p y : Nat) : Nat → Nat → Nat → Bool
  | 0, n, _ => decide (y ≤ n)
  | f + 1, n, s =>
    if vMg v 0 n s = 0 then decide (y ≤ n)
    else if vTr v n = p then (vEn v s && decide (y ≤ n)) || (List.range 8).any (fun t => (vMg v 0 n s).testBit t && vZ v p y f (n + 1) (vTo v s t))
    else (!vEn v s || decide (y ≤ n)) && (List.range 8).all (fun t => !(vMg v 0 n s).testBit t || vZ v p y f (n + 1) (vTo v s t))
theorem vZ_s {v : zA} {p y f n s : Nat} : vZ v p y (f + 1) n s = if vMg v 0 n s = 0 then decide (y ≤ n)
    else if vTr v n = p then (vEn v s && decide (y ≤ n)) || (List.range 8).any (fun t => (vMg v 0 n s).testBit t && vZ v p y f (n + 1) (vTo v s t))
    else (!vEn v s || decide (y ≤ n)) && (List.range 8).all (fun t => !(vMg v 0 n s).testBit t || vZ v p y f (n + 1) (vTo v s t)) := rfl
theorem vZ_le {v : zA} {p y : Nat} : ∀ {f n s}, y ≤ n → vZ v p y f n s = true := by
  intro f
  induction f with
  | zero => intro n s h; exact decide_eq_true h
  | succ f ih =>
    intro n s h
    rw [vZ_s]
    by_cases h0 : vMg v 0 n s = 0
    · rw [if_pos h0]; exact decide_eq_true h
    · rw [if_neg h0]
      by_cases hp : vTr v n = p
      · rw [if_pos hp]
        obtain ⟨t, ht, hb⟩ := zmask_bit (k := 8) (vMg_lt v 0 n s) h0
        rw [Bool.or_eq_true]
        refine Or.inr ?_
        simp only [List.any_eq_true, List.mem_range, Bool.and_eq_true]
        exact ⟨t, ht, hb, ih (by omega)⟩
      · rw [if_neg hp, decide_eq_true h, Bool.or_true, Bool.true_and]
        simp only [List.all_eq_true, List.mem_range, Bool.or_eq_true]
        exact fun t ht => Or.inr (ih (by omega))
theorem vGm_vZ {v : zA} {p y : Nat} {c : Nat → Nat → Int32} (hc : ∀ e n, c e n = nI n) (hy : y < 65536) : ∀ f n s m, n + f < 65536 → (nI y ≤ vGm v 0 c p f n s m ↔ vZ v p y f n s = true) := by
  have hle : ∀ e n, n < 65536 → (nI y ≤ c e n ↔ y ≤ n) := fun e n hn => by rw [hc, nI_leI (by omega) (by omega)]
  intro f
  induction f with
  | zero =>
    intro n s m hn
    show nI y ≤ c (if vEn v s then m else 64 + m) n ↔ decide (y ≤ n) = true
    rw [hle _ _ (by omega), decide_eq_true_eq]
  | succ f ih =>
    intro n s m hn
    rw [vZ_s]
    unfold vGm
    by_cases h0 : vMg v 0 n s = 0
    · rw [if_pos h0, if_pos h0, hle _ _ (by omega), decide_eq_true_eq]
    · rw [if_neg h0, if_neg h0]
      obtain ⟨t0, ht0, hb0⟩ := zmask_bit (k := 8) (vMg_lt v 0 n s) h0
      by_cases hp : vTr v n = p
      · rw [if_pos hp]
        have hany := (zfo_any (own := true) (b := (vMg v 0 n s).testBit) (x := fun t => vGm v 0 c p f (n + 1) (vTo v s t) (m ^^^ vMk v s t)) (st := (vEn v s, if vEn v s then c m n else 0)) 8).mpr (Or.inr ⟨t0, ht0, hb0⟩)
        have h := zfo_own (b := (vMg v 0 n s).testBit) (x := fun t => vGm v 0 c p f (n + 1) (vTo v s t) (m ^^^ vMk v s t)) (st := (vEn v s, if vEn v s then c m n else 0)) (nI y) 8
        simp only [hp, decide_true]
        rw [show (nI y ≤ (zfo true (vMg v 0 n s).testBit (fun t => vGm v 0 c p f (n + 1) (vTo v s t) (m ^^^ vMk v s t)) (vEn v s, if vEn v s then c m n else 0) 8).2) ↔ _ from ⟨fun hh => h.mp ⟨hany, hh⟩, fun hh => (h.mpr hh).2⟩]
        simp only [Bool.or_eq_true, Bool.and_eq_true, List.any_eq_true, List.mem_range, decide_eq_true_eq]
        constructor
        · rintro (⟨h1, h2⟩ | ⟨t, h1, h2, h3⟩)
          · rw [if_pos h1, hle _ _ (by omega)] at h2
            exact Or.inl ⟨h1, h2⟩
          · exact Or.inr ⟨t, h1, h2, (ih _ _ _ (by omega)).mp h3⟩
        · rintro (⟨h1, h2⟩ | ⟨t, h1, h2, h3⟩)
          · refine Or.inl ⟨h1, ?_⟩
            rw [if_pos h1, hle _ _ (by omega)]; exact h2
          · exact Or.inr ⟨t, h1, h2, (ih _ _ _ (by omega)).mpr h3⟩
      · rw [if_neg hp]
        have hany := (zfo_any (own := false) (b := (vMg v 0 n s).testBit) (x := fun t => vGm v 0 c p f (n + 1) (vTo v s t) (m ^^^ vMk v s t)) (st := (vEn v s, if vEn v s then c m n else 0)) 8).mpr (Or.inr ⟨t0, ht0, hb0⟩)
        have h := zfo_oth (b := (vMg v 0 n s).testBit) (x := fun t => vGm v 0 c p f (n + 1) (vTo v s t) (m ^^^ vMk v s t)) (st := (vEn v s, if vEn v s then c m n else 0)) (nI y) 8 hany
        simp only [hp, decide_false]
        rw [h]
        simp only [Bool.and_eq_true, Bool.or_eq_true, Bool.not_eq_true', List.all_eq_true, List.mem_range, decide_eq_true_eq]
        constructor
        · rintro ⟨h1, h2⟩
          refine ⟨?_, fun t ht => ?_⟩
          · cases he : vEn v s
            · exact Or.inl rfl
            · have := h1 he
              rw [if_pos he, hle _ _ (by omega)] at this
              exact Or.inr this
          · cases hb : (vMg v 0 n s).testBit t
            · exact Or.inl rfl
            · exact Or.inr ((ih _ _ _ (by omega)).mp (h2 t ht hb))
        · rintro ⟨h1, h2⟩
          refine ⟨fun he => ?_, fun t ht hb => ?_⟩
          · rw [if_pos he, hle _ _ (by omega)]
            rcases h1 with h1 | h1
            · rw [he] at h1; cases h1
            · exact h1
          · rcases h2 t ht with h3 | h3
            · rw [hb] at h3; cases h3
            · exact (ih _ _ _ (by omega)).mpr h3
/-- a number of the machine between 0 and b is told by its bounds -/
theorem zle_eq {a b : Int32} {k : Nat} (hk : k < 65536) (ha : zIs (k + 1) a) (hb : zIs (k + 1) b) (h : ∀ y, 1 ≤ y → y ≤ k → (nI y ≤ a ↔ nI y ≤ b)) : a = b := by
  obtain ⟨i, hi, rfl⟩ := ha
  obtain ⟨j, hj, rfl⟩ := hb
  rcases Nat.lt_trichotomy i j with h1 | h1 | h1
  · have := (h j (by omega) (by omega)).mpr (nI_le (Nat.le_refl j) (by omega))
    rw [nI_leI (by omega) (by omega)] at this; omega
  · rw [h1]
  · have := (h i (by omega) (by omega)).mp (nI_le (Nat.le_refl i) (by omega))
    rw [nI_leI (by omega) (by omega)] at this; omega
