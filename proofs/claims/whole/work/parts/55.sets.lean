/-! ===== the class's sets of one count ===== -/
def vFr (v : zA) (r : Nat) : Nat := (v 3 r).toNatClampNeg
def vBy (v : zA) (r : Nat) : Nat := (v 4 r).toNatClampNeg
def vTt (v : zA) (r : Nat) : Nat := (v 5 r).toNatClampNeg
def vMm (v : zA) (r : Nat) : Nat := vBit (v 6 r)
/-- the words of the one whose turn it is -/
def vWa (v : zA) (n : Nat) : Nat := if vP v = 0 ∨ vLen v ≤ n then 0 else vPw v (vTr v n)
/-- whether a rule counts at a count -/
def vRk (v : zA) (g n r : Nat) : Bool := (vWa v n).testBit (vBy v r) && !(g.testBit r)
def zfr (own : Bool) (ok : Nat → Bool) (fr tt mm : Nat → Nat) (X : Nat → Nat → Bool) : Nat → Nat → Nat → Bool
  | 0, _, _ => !own
  | r + 1, s, m => if ok r && decide (fr r = s) then (if own then zfr own ok fr tt mm X r s m || X (tt r) (m ^^^ mm r) else zfr own ok fr tt mm X r s m && X (tt r) (m ^^^ mm r)) else zfr own ok fr tt mm X r s m
def zmv (ok : Nat → Bool) (fr : Nat → Nat) : Nat → Nat
  | 0 => 0
  | r + 1 => if ok r then zmv ok fr r ||| 2 ^ (fr r) else zmv ok fr r
theorem zmv_lt {ok : Nat → Bool} {fr : Nat → Nat} : ∀ k, (∀ r, r < k → fr r < 8) → zmv ok fr k < 256
  | 0, _ => by
    show (0 : Nat) < 256
    decide
  | k + 1, h => by
    have ih := zmv_lt (ok := ok) (fr := fr) k (fun r hr => h r (by omega))
    show (if ok k then zmv ok fr k ||| 2 ^ (fr k) else zmv ok fr k) < 256
    cases ok k
    · rw [ite_ft]; exact ih
    · rw [ite_tt]
      exact Nat.or_lt_two_pow (n := 8) ih (Nat.pow_lt_pow_right (by omega) (h k (by omega)))
theorem zmv_bit {ok : Nat → Bool} {fr : Nat → Nat} {s : Nat} : ∀ k, (zmv ok fr k).testBit s = true ↔ ∃ r, r < k ∧ ok r = true ∧ fr r = s
  | 0 => by
    show (0 : Nat).testBit s = true ↔ _
    simp
  | k + 1 => by
    have ih := zmv_bit (ok := ok) (fr := fr) (s := s) k
    have hsplit : (∃ r, r < k + 1 ∧ ok r = true ∧ fr r = s) ↔ (∃ r, r < k ∧ ok r = true ∧ fr r = s) ∨ (ok k = true ∧ fr k = s) := by
      constructor
      · rintro ⟨r, h1, h2, h3⟩
        rcases Nat.lt_or_ge r k with h | h
        · exact Or.inl ⟨r, h, h2, h3⟩
        · have : r = k := by omega
          subst this; exact Or.inr ⟨h2, h3⟩
      · rintro (⟨r, h1, h2, h3⟩ | ⟨h2, h3⟩)
        · exact ⟨r, by omega, h2, h3⟩
        · exact ⟨k, by omega, h2, h3⟩
    rw [hsplit, ← ih]
    show (if ok k then zmv ok fr k ||| 2 ^ (fr k) else zmv ok fr k).testBit s = true ↔ _
    cases h : ok k
    · rw [ite_ft]; simp
    · rw [ite_tt, Nat.testBit_or, Nat.testBit_two_pow, Bool.or_eq_true, decide_eq_true_eq]; simp
theorem zfr_own {ok : Nat → Bool} {fr tt mm : Nat → Nat} {X : Nat → Nat → Bool} {s m : Nat} : ∀ k, zfr true ok fr tt mm X k s m = true ↔ ∃ r, r < k ∧ ok r = true ∧ fr r = s ∧ X (tt r) (m ^^^ mm r) = true
  | 0 => by
    show (false = true) ↔ _
    simp
  | k + 1 => by
    have ih := zfr_own (ok := ok) (fr := fr) (tt := tt) (mm := mm) (X := X) (s := s) (m := m) k
    have hsplit : (∃ r, r < k + 1 ∧ ok r = true ∧ fr r = s ∧ X (tt r) (m ^^^ mm r) = true) ↔ (∃ r, r < k ∧ ok r = true ∧ fr r = s ∧ X (tt r) (m ^^^ mm r) = true) ∨ (ok k = true ∧ fr k = s ∧ X (tt k) (m ^^^ mm k) = true) := by
      constructor
      · rintro ⟨r, h1, h2⟩
        rcases Nat.lt_or_ge r k with h | h
        · exact Or.inl ⟨r, h, h2⟩
        · have : r = k := by omega
          subst this; exact Or.inr h2
      · rintro (⟨r, h1, h2⟩ | h2)
        · exact ⟨r, by omega, h2⟩
        · exact ⟨k, by omega, h2⟩
    rw [hsplit, ← ih]
    show (if ok k && decide (fr k = s) then (if true then zfr true ok fr tt mm X k s m || X (tt k) (m ^^^ mm k) else zfr true ok fr tt mm X k s m && X (tt k) (m ^^^ mm k)) else zfr true ok fr tt mm X k s m) = true ↔ _
    cases h : ok k
    · simp
    · by_cases hf : fr k = s
      · simp [hf]
      · simp [hf]
theorem zfr_oth {ok : Nat → Bool} {fr tt mm : Nat → Nat} {X : Nat → Nat → Bool} {s m : Nat} : ∀ k, zfr false ok fr tt mm X k s m = true ↔ ∀ r, r < k → ok r = true → fr r = s → X (tt r) (m ^^^ mm r) = true
  | 0 => by
    show (true = true) ↔ _
    simp
  | k + 1 => by
    have ih := zfr_oth (ok := ok) (fr := fr) (tt := tt) (mm := mm) (X := X) (s := s) (m := m) k
    have hsplit : (∀ r, r < k + 1 → ok r = true → fr r = s → X (tt r) (m ^^^ mm r) = true) ↔ (∀ r, r < k → ok r = true → fr r = s → X (tt r) (m ^^^ mm r) = true) ∧ (ok k = true → fr k = s → X (tt k) (m ^^^ mm k) = true) := by
      constructor
      · intro h; exact ⟨fun r hr => h r (by omega), h k (by omega)⟩
      · rintro ⟨h1, h2⟩ r hr
        rcases Nat.lt_or_ge r k with h | h
        · exact h1 r h
        · have : r = k := by omega
          subst this; exact h2
    rw [hsplit, ← ih]
    show (if ok k && decide (fr k = s) then (if false then zfr false ok fr tt mm X k s m || X (tt k) (m ^^^ mm k) else zfr false ok fr tt mm X k s m && X (tt k) (m ^^^ mm k)) else zfr false ok fr tt mm X k s m) = true ↔ _
    cases h : ok k
    · simp
    · by_cases hf : fr k = s
      · simp [hf]
      · simp [hf]
section PS
variable {v : zA} {g n s m p : Nat}
/-- the rules that count are the words that may be said -/
theorem vRk_of (ho : Ok v) (hs : s < 8) {t : Nat} (ht : t < 8) (hb : (vMg v g n s).testBit t = true) : vRu v s t < vR v ∧ vRk v g n (vRu v s t) = true ∧ vFr v (vRu v s t) = s ∧ vTt v (vRu v s t) = vTo v s t ∧ vMm v (vRu v s t) = vMk v s t := by
  have hw := vMg_g hb
  rw [vWg_bit v g s ht, Bool.and_eq_true] at hw
  obtain ⟨h1, h2, h3⟩ := (ho.has hs ht).mp hw.1
  have hwa : (vWa v n).testBit t = true := by
    unfold vMg at hb
    unfold vWa
    split at hb
    · simp at hb
    · rename_i hc
      rw [if_neg hc]
      rw [Nat.testBit_and, Bool.and_eq_true] at hb; exact hb.1
  have e4 : vBy v (vRu v s t) = t := by unfold vBy; rw [h3, nI_clamp (by omega)]
  refine ⟨h1, ?_, ?_, rfl, rfl⟩
  · unfold vRk
    rw [e4, hwa, hw.2]; rfl
  · unfold vFr; rw [h2, nI_clamp (by omega)]
theorem vRk_to (ho : Ok v) {r : Nat} (hr : r < vR v) (hk : vRk v g n r = true) : vFr v r < 8 ∧ vBy v r < 8 ∧ vRu v (vFr v r) (vBy v r) = r ∧ (vMg v g n (vFr v r)).testBit (vBy v r) = true := by
  have hR := ho.R.2
  obtain ⟨h1, h2, h3, h4⟩ := ho.rule (r := r) (by omega)
  obtain ⟨a1, a2⟩ := h1.clamp (by decide)
  obtain ⟨b1, b2⟩ := h2.clamp (by decide)
  have ha : vFr v r < 8 := a2
  have hb : vBy v r < 8 := b2
  have hat := ho.at hr
  have hru : vRu v (vFr v r) (vBy v r) = r := by
    show (v 7 (8 * vFr v r + vBy v r)).toNatClampNeg = r
    rw [show v 7 (8 * vFr v r + vBy v r) = nI r from hat, nI_clamp (by omega)]
  have hwf : (vWf v (vFr v r)).testBit (vBy v r) = true := (ho.has ha hb).mpr ⟨by rw [hru]; exact hr, by rw [hru]; exact a1, by rw [hru]; exact b1⟩
  unfold vRk at hk
  rw [Bool.and_eq_true] at hk
  have hwg : (vWg v g (vFr v r)).testBit (vBy v r) = true := by
    rw [vWg_bit v g _ hb, hwf, hru, hk.2]; rfl
  refine ⟨ha, hb, hru, ?_⟩
  have hwa := hk.1
  unfold vWa at hwa
  unfold vMg
  split at hwa
  · simp at hwa
  · rename_i hc
    rw [if_neg hc, Nat.testBit_and, hwa, hwg]; rfl
theorem zmv_Mg (ho : Ok v) (hs : s < 8) : (zmv (vRk v g n) (vFr v) (vR v)).testBit s = true ↔ vMg v g n s ≠ 0 := by
  rw [zmv_bit]
  constructor
  · rintro ⟨r, h1, h2, h3⟩ h0
    have h := (vRk_to ho h1 h2).2.2.2
    rw [h3, h0] at h
    simp at h
  · intro h0
    obtain ⟨t, ht, hb⟩ := zmask_bit (k := 8) (vMg_lt v g n s) h0
    obtain ⟨h1, h2, h3, -⟩ := vRk_of ho hs ht hb
    exact ⟨_, h1, h2, h3⟩
theorem zfr_any (ho : Ok v) (hs : s < 8) {X : Nat → Nat → Bool} : zfr true (vRk v g n) (vFr v) (vTt v) (vMm v) X (vR v) s m = (List.range 8).any (fun t => (vMg v g n s).testBit t && X (vTo v s t) (m ^^^ vMk v s t)) := by
  rw [Bool.eq_iff_iff, zfr_own]
  simp only [List.any_eq_true, List.mem_range, Bool.and_eq_true]
  constructor
  · rintro ⟨r, h1, h2, h3, h4⟩
    obtain ⟨a, b, c, e⟩ := vRk_to ho h1 h2
    subst h3
    refine ⟨vBy v r, b, e, ?_⟩
    have e1 : vTo v (vFr v r) (vBy v r) = vTt v r := by unfold vTo; rw [c]; rfl
    have e2 : vMk v (vFr v r) (vBy v r) = vMm v r := by unfold vMk; rw [c]; rfl
    rw [e1, e2]; exact h4
  · rintro ⟨t, h1, h2, h3⟩
    obtain ⟨a, b, c, e1, e2⟩ := vRk_of ho hs h1 h2
    exact ⟨_, a, b, c, by rw [e1, e2]; exact h3⟩
theorem zfr_all (ho : Ok v) (hs : s < 8) {X : Nat → Nat → Bool} : zfr false (vRk v g n) (vFr v) (vTt v) (vMm v) X (vR v) s m = (List.range 8).all (fun t => !(vMg v g n s).testBit t || X (vTo v s t) (m ^^^ vMk v s t)) := by
  rw [Bool.eq_iff_iff, zfr_oth]
  simp only [List.all_eq_true, List.mem_range, Bool.or_eq_true, Bool.not_eq_true']
  constructor
  · intro h t ht
    cases hb : (vMg v g n s).testBit t
    · exact Or.inl rfl
    · obtain ⟨a, b, c, e1, e2⟩ := vRk_of ho hs ht hb
      have := h _ a b c
      rw [e1, e2] at this
      exact Or.inr this
  · intro h r h1 h2 h3
    obtain ⟨a, b, c, e⟩ := vRk_to ho h1 h2
    subst h3
    have e1 : vTo v (vFr v r) (vBy v r) = vTt v r := by unfold vTo; rw [c]; rfl
    have e2 : vMk v (vFr v r) (vBy v r) = vMm v r := by unfold vMk; rw [c]; rfl
    rcases h (vBy v r) b with h | h
    · rw [e] at h; cases h
    · rw [e1, e2] at h; exact h
end PS
