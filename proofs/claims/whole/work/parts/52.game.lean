/-! ===== the game: what one can be sure of ===== -/
/-- the most (own) or the least of what comes of the words below k, from a beginning -/
def zfo (own : Bool) (b : Nat → Bool) (x : Nat → Int32) (st : Bool × Int32) : Nat → Bool × Int32
  | 0 => st
  | k + 1 => if b k then (if !(zfo own b x st k).1 || (if own then decide ((zfo own b x st k).2 < x k) else decide (x k < (zfo own b x st k).2)) then (true, x k) else (true, (zfo own b x st k).2)) else zfo own b x st k
theorem zfo_s {own : Bool} {b : Nat → Bool} {x : Nat → Int32} {st : Bool × Int32} {k : Nat} : zfo own b x st (k + 1) = if b k then (if !(zfo own b x st k).1 || (if own then decide ((zfo own b x st k).2 < x k) else decide (x k < (zfo own b x st k).2)) then (true, x k) else (true, (zfo own b x st k).2)) else zfo own b x st k := rfl
def vGm (v : zA) (g : Nat) (c : Nat → Nat → Int32) (p : Nat) : Nat → Nat → Nat → Nat → Int32
  | 0, n, s, m => c (if vEn v s then m else 64 + m) n
  | f + 1, n, s, m =>
    if vMg v g n s = 0 then c (if vEn v s then m else 64 + m) n
    else (zfo (decide (vTr v n = p)) (vMg v g n s).testBit (fun t => vGm v g c p f (n + 1) (vTo v s t) (m ^^^ vMk v s t)) (vEn v s, if vEn v s then c m n else 0) 8).2
/-- whether one can be sure of good meanings (or of the stuck, if that is good) -/
def vS (v : zA) (g p : Nat) (good : Nat → Bool) (stuck : Bool) : Nat → Nat → Nat → Nat → Bool
  | 0, _, s, m => if vEn v s then good m else stuck
  | f + 1, n, s, m =>
    if vMg v g n s = 0 then (if vEn v s then good m else stuck)
    else if vTr v n = p then (vEn v s && good m) || (List.range 8).any (fun t => (vMg v g n s).testBit t && vS v g p good stuck f (n + 1) (vTo v s t) (m ^^^ vMk v s t))
    else (!vEn v s || good m) && (List.range 8).all (fun t => !(vMg v g n s).testBit t || vS v g p good stuck f (n + 1) (vTo v s t) (m ^^^ vMk v s t))
theorem zfo_any {own : Bool} {b : Nat → Bool} {x : Nat → Int32} {st : Bool × Int32} : ∀ k, (zfo own b x st k).1 = true ↔ st.1 = true ∨ ∃ t, t < k ∧ b t = true
  | 0 => by simp [zfo]
  | k + 1 => by
    have ih := zfo_any (own := own) (b := b) (x := x) (st := st) k
    rw [zfo_s]
    cases hb : b k with
    | false =>
      simp only [Bool.false_eq_true, if_false]
      rw [ih]
      constructor
      · rintro (h | ⟨t, h1, h2⟩)
        · exact Or.inl h
        · exact Or.inr ⟨t, by omega, h2⟩
      · rintro (h | ⟨t, h1, h2⟩)
        · exact Or.inl h
        · refine Or.inr ⟨t, ?_, h2⟩
          rcases Nat.lt_or_ge t k with h | h
          · exact h
          · have : t = k := by omega
            rw [this, hb] at h2
            cases h2
    | true =>
      simp only [if_true]
      constructor
      · intro _; exact Or.inr ⟨k, by omega, hb⟩
      · intro _; repeat' split
        all_goals rfl
theorem zle_lt_trans {a b c : Int32} (h1 : a ≤ b) (h2 : b < c) : a ≤ c := by
  rw [Int32.le_iff_toInt_le] at *
  rw [Int32.lt_iff_toInt_lt] at h2
  omega
theorem zle_le_trans {a b c : Int32} (h1 : a ≤ b) (h2 : b ≤ c) : a ≤ c := by
  rw [Int32.le_iff_toInt_le] at *
  omega
/-- own: a bound is reached just if one of all reaches it -/
theorem zfo_own {b : Nat → Bool} {x : Nat → Int32} {st : Bool × Int32} (y : Int32) : ∀ k, ((zfo true b x st k).1 = true ∧ y ≤ (zfo true b x st k).2) ↔ (st.1 = true ∧ y ≤ st.2) ∨ ∃ t, t < k ∧ b t = true ∧ y ≤ x t
  | 0 => by simp [zfo]
  | k + 1 => by
    have ih := zfo_own (b := b) (x := x) (st := st) y k
    have hsplit : (∃ t, t < k + 1 ∧ b t = true ∧ y ≤ x t) ↔ (∃ t, t < k ∧ b t = true ∧ y ≤ x t) ∨ (b k = true ∧ y ≤ x k) := by
      constructor
      · rintro ⟨t, h1, h2, h3⟩
        rcases Nat.lt_or_ge t k with h | h
        · exact Or.inl ⟨t, h, h2, h3⟩
        · have : t = k := by omega
          subst this; exact Or.inr ⟨h2, h3⟩
      · rintro (⟨t, h1, h2, h3⟩ | ⟨h2, h3⟩)
        · exact ⟨t, by omega, h2, h3⟩
        · exact ⟨k, by omega, h2, h3⟩
    rw [hsplit, ← or_assoc, ← ih]
    rw [zfo_s]
    cases hb : b k with
    | false => simp
    | true =>
      simp only [if_true, true_and]
      cases h1 : (zfo true b x st k).1 with
      | false => simp
      | true =>
        by_cases hlt : (zfo true b x st k).2 < x k
        · simp only [hlt, decide_true, Bool.or_true, if_true, true_and]
          exact ⟨fun h => Or.inr h, fun h => h.elim (fun h => zle_lt_trans h hlt) id⟩
        · simp only [hlt, decide_false, Bool.not_true, Bool.or_false, Bool.false_eq_true, if_false, true_and]
          exact ⟨fun h => Or.inl h, fun h => h.elim id (fun h => zle_le_trans h (Int32.not_lt.mp hlt))⟩
/-- others: a bound is reached just if all reach it -/
theorem zfo_oth {b : Nat → Bool} {x : Nat → Int32} {st : Bool × Int32} (y : Int32) : ∀ k, (zfo false b x st k).1 = true → (y ≤ (zfo false b x st k).2 ↔ (st.1 = true → y ≤ st.2) ∧ ∀ t, t < k → b t = true → y ≤ x t)
  | 0, h => by
    simp only [zfo] at h ⊢
    simp [h]
  | k + 1, h => by
    have hsplit : (∀ t, t < k + 1 → b t = true → y ≤ x t) ↔ (∀ t, t < k → b t = true → y ≤ x t) ∧ (b k = true → y ≤ x k) := by
      constructor
      · intro h; exact ⟨fun t h1 => h t (by omega), h k (by omega)⟩
      · rintro ⟨h1, h2⟩ t ht hb
        rcases Nat.lt_or_ge t k with h | h
        · exact h1 t h hb
        · have : t = k := by omega
          subst this; exact h2 hb
    rw [hsplit, ← and_assoc]
    cases hb : b k with
    | false =>
      rw [zfo_s] at h ⊢
      simp only [hb, Bool.false_eq_true, if_false, false_implies, and_true] at h ⊢
      exact zfo_oth y k h
    | true =>
      cases h1 : (zfo false b x st k).1 with
      | false =>
        have hno : ¬ (st.1 = true ∨ ∃ t, t < k ∧ b t = true) := fun hh => by
          have := (zfo_any (own := false) (b := b) (x := x) (st := st) k).mpr hh
          rw [h1] at this; cases this
        rw [zfo_s]
        simp only [hb, h1, if_true, Bool.not_false, Bool.true_or, true_implies]
        constructor
        · intro h; exact ⟨⟨fun hs => absurd (Or.inl hs) hno, fun t ht hbt => absurd (Or.inr ⟨t, ht, hbt⟩) hno⟩, h⟩
        · intro h; exact h.2
      | true =>
        have ih := zfo_oth (b := b) (x := x) (st := st) y k h1
        rw [← ih]
        rw [zfo_s]
        simp only [hb, h1, if_true, Bool.not_true, Bool.false_or, true_implies, Bool.false_eq_true, if_false]
        by_cases hlt : x k < (zfo false b x st k).2
        · simp only [hlt, decide_true, if_true]
          exact ⟨fun h => ⟨zle_lt_trans h hlt, h⟩, fun h => h.2⟩
        · simp only [hlt, decide_false, Bool.false_eq_true, if_false]
          exact ⟨fun h => ⟨h, zle_le_trans h (Int32.not_lt.mp hlt)⟩, fun h => h.1⟩
theorem zmask_bit {a k : Nat} (ha : a < 2 ^ k) (h0 : a ≠ 0) : ∃ t, t < k ∧ a.testBit t = true := ⟨_, zlow_lt ha h0, zlow_yes a k (zlow_lt ha h0)⟩
/-- a bound is reached in the game just if one can be sure of the ends that reach it -/
theorem vGm_vS {v : zA} {g p : Nat} {c : Nat → Nat → Int32} {y : Int32} (hn : ∀ e n n', c e n = c e n') (hst : ∀ m n, c (64 + m) n = c 64 n) : ∀ f n s m, y ≤ vGm v g c p f n s m ↔ vS v g p (fun m => decide (y ≤ c m 0)) (decide (y ≤ c 64 0)) f n s m = true := by
  have hbase : ∀ n s m, y ≤ c (if vEn v s then m else 64 + m) n ↔ (if vEn v s then decide (y ≤ c m 0) else decide (y ≤ c 64 0)) = true := by
    intro n s m
    cases vEn v s
    · simp only [Bool.false_eq_true, if_false, decide_eq_true_eq, hst, hn 64 n 0]
    · simp only [if_true, decide_eq_true_eq, hn m n 0]
  intro f
  induction f with
  | zero => intro n s m; exact hbase n s m
  | succ f ih =>
    intro n s m
    unfold vGm vS
    by_cases h0 : vMg v g n s = 0
    · rw [if_pos h0, if_pos h0]; exact hbase n s m
    · rw [if_neg h0, if_neg h0]
      obtain ⟨t0, ht0, hb0⟩ := zmask_bit (k := 8) (vMg_lt v g n s) h0
      by_cases hp : vTr v n = p
      · rw [if_pos hp]
        have hany := (zfo_any (own := true) (b := (vMg v g n s).testBit) (x := fun t => vGm v g c p f (n + 1) (vTo v s t) (m ^^^ vMk v s t)) (st := (vEn v s, if vEn v s then c m n else 0)) 8).mpr (Or.inr ⟨t0, ht0, hb0⟩)
        have h := zfo_own (b := (vMg v g n s).testBit) (x := fun t => vGm v g c p f (n + 1) (vTo v s t) (m ^^^ vMk v s t)) (st := (vEn v s, if vEn v s then c m n else 0)) y 8
        simp only [hp, decide_true]
        rw [show (y ≤ (zfo true (vMg v g n s).testBit (fun t => vGm v g c p f (n + 1) (vTo v s t) (m ^^^ vMk v s t)) (vEn v s, if vEn v s then c m n else 0) 8).2) ↔ _ from ⟨fun hh => h.mp ⟨hany, hh⟩, fun hh => (h.mpr hh).2⟩]
        simp only [Bool.or_eq_true, Bool.and_eq_true, List.any_eq_true, List.mem_range, decide_eq_true_eq]
        constructor
        · rintro (⟨h1, h2⟩ | ⟨t, h1, h2, h3⟩)
          · rw [if_pos h1] at h2
            exact Or.inl ⟨h1, by rw [hn m 0 n]; exact h2⟩
          · exact Or.inr ⟨t, h1, h2, (ih _ _ _).mp h3⟩
        · rintro (⟨h1, h2⟩ | ⟨t, h1, h2, h3⟩)
          · refine Or.inl ⟨h1, ?_⟩
            rw [if_pos h1, hn m n 0]; exact h2
          · exact Or.inr ⟨t, h1, h2, (ih _ _ _).mpr h3⟩
      · rw [if_neg hp]
        have hany := (zfo_any (own := false) (b := (vMg v g n s).testBit) (x := fun t => vGm v g c p f (n + 1) (vTo v s t) (m ^^^ vMk v s t)) (st := (vEn v s, if vEn v s then c m n else 0)) 8).mpr (Or.inr ⟨t0, ht0, hb0⟩)
        have h := zfo_oth (b := (vMg v g n s).testBit) (x := fun t => vGm v g c p f (n + 1) (vTo v s t) (m ^^^ vMk v s t)) (st := (vEn v s, if vEn v s then c m n else 0)) y 8 hany
        simp only [hp, decide_false]
        rw [h]
        simp only [Bool.and_eq_true, Bool.or_eq_true, Bool.not_eq_true', List.all_eq_true, List.mem_range, decide_eq_true_eq]
        constructor
        · rintro ⟨h1, h2⟩
          refine ⟨?_, fun t ht => ?_⟩
          · cases he : vEn v s
            · exact Or.inl rfl
            · have := h1 he
              rw [if_pos he] at this
              exact Or.inr (by rw [hn m 0 n]; exact this)
          · cases hb : (vMg v g n s).testBit t
            · exact Or.inl rfl
            · exact Or.inr ((ih _ _ _).mp (h2 t ht hb))
        · rintro ⟨h1, h2⟩
          refine ⟨fun he => ?_, fun t ht hb => ?_⟩
          · rw [if_pos he, hn m n 0]
            rcases h1 with h1 | h1
            · rw [he] at h1; cases h1
            · exact h1
          · rcases h2 t ht with h3 | h3
            · rw [hb] at h3; cases h3
            · exact (ih _ _ _).mpr h3
