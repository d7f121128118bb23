/-! ===== the class copies a world ===== -/
theorem zcc_n {n m : Nat} {x : Int32} {k : Option zR} (hx : x = nI n) (hn : n < 65536) (hm : n ≤ m) : zcc 0 0 x m m k = k := by
  unfold zcc
  rw [hx, nI_clamp (by omega), if_pos ⟨rfl, rfl, nI_pos (by omega), hm, hm⟩]
theorem va0 {α : Type} (f g : Nat → α) (n j : Nat) : va_cpy f g 0 0 n j = if j < n then f j else g j := by
  by_cases h : j < n
  · rw [if_pos h]
    show (if 0 ≤ j ∧ j < 0 + n then f (0 + (j - 0)) else g j) = f j
    rw [if_pos (by omega), Nat.sub_zero, Nat.zero_add]
  · rw [if_neg h]
    show (if 0 ≤ j ∧ j < 0 + n then f (0 + (j - 0)) else g j) = g j
    rw [if_neg (by omega)]
/-- a row is copied -/
def zRw (A A' : zA) (s t n : Nat) : Prop := ∀ j, A' t j = if j < n then A s j else A t j
theorem zkn24 : (24 : Int32).toNatClampNeg = 24 := by decide
theorem zkn64 : (64 : Int32).toNatClampNeg = 64 := by decide
theorem zkn8 : (8 : Int32).toNatClampNeg = 8 := by decide
theorem zkn4 : (4 : Int32).toNatClampNeg = 4 := by decide
theorem zkn9 : (9 : Int32).toNatClampNeg = 9 := by decide
/-- a world of the cells from s is copied into the cells from t -/
def zCp (A A' : zA) (s t : Nat) : Prop := (∀ c, (c < t ∨ t + 15 < c) → A' c = A c) ∧ zRw A A' (s + 2) (t + 2) 24 ∧ zRw A A' (s + 3) (t + 3) 24 ∧ zRw A A' (s + 4) (t + 4) 24 ∧ zRw A A' (s + 5) (t + 5) 24 ∧ zRw A A' (s + 6) (t + 6) 64 ∧ zRw A A' (s + 7) (t + 7) 8 ∧ A' (t + 1) = upd (upd (A (t + 1)) 6 (A (s + 1) 6)) 7 (A (s + 1) 7) ∧
  zRw A A' (s + 9) (t + 9) 4 ∧ zRw A A' (s + 10) (t + 10) 4 ∧ zRw A A' (s + 11) (t + 11) 24 ∧ zRw A A' (s + 12) (t + 12) 4 ∧ A' (t + 8) = upd (A (t + 8)) 4 (A (s + 8) 4) ∧ zRw A A' (s + 14) (t + 14) 8 ∧ zRw A A' (s + 15) (t + 15) 9 ∧ A' (t + 13) = upd (upd (A (t + 13)) 2 (A (s + 13) 2)) 3 (A (s + 13) 3) ∧ A' t = upd (upd (A t) 3 (A s 3)) 4 (A s 4)
section CY
variable {d : Nat} {A : zA} {L : zL}
theorem zGi_copyFrom_2_c : ∃ A', zGi_copyFrom_2 d A L = some (none, A', L) ∧ (∀ c, (c < 18 ∨ 24 < c) → A' c = A c) ∧ zRw A A' 3 19 24 ∧ zRw A A' 4 20 24 ∧ zRw A A' 5 21 24 ∧ zRw A A' 6 22 24 ∧ zRw A A' 7 23 64 ∧ zRw A A' 8 24 8 ∧ A' 18 = upd (upd (A 18) 6 (A 2 6)) 7 (A 2 7) := by
  obtain ⟨X, hX⟩ : ∃ X, X = (zcpy (zcpy (zcpy (zcpy (zcpy (zcpy A 3 19 24) 4 20 24) 5 21 24) 6 22 24) 7 23 64) 8 24 8) := ⟨_, rfl⟩
  have x0 : ∀ c, (c ≤ 18 ∨ 24 < c) → X c = A c := fun c hc => by rw [hX, zcpy_o (by omega), zcpy_o (by omega), zcpy_o (by omega), zcpy_o (by omega), zcpy_o (by omega), zcpy_o (by omega)]
  have x1 : zRw A X 3 19 24 := fun j => by rw [hX, zcpy_o (by decide), zcpy_o (by decide), zcpy_o (by decide), zcpy_o (by decide), zcpy_o (by decide), zcpy_s, va0]
  have x2 : zRw A X 4 20 24 := fun j => by rw [hX, zcpy_o (by decide), zcpy_o (by decide), zcpy_o (by decide), zcpy_o (by decide), zcpy_s, va0]; rw [zcpy_o (by decide), zcpy_o (by decide)]
  have x3 : zRw A X 5 21 24 := fun j => by rw [hX, zcpy_o (by decide), zcpy_o (by decide), zcpy_o (by decide), zcpy_s, va0]; rw [zcpy_o (by decide), zcpy_o (by decide), zcpy_o (by decide), zcpy_o (by decide)]
  have x4 : zRw A X 6 22 24 := fun j => by rw [hX, zcpy_o (by decide), zcpy_o (by decide), zcpy_s, va0]; rw [zcpy_o (by decide), zcpy_o (by decide), zcpy_o (by decide), zcpy_o (by decide), zcpy_o (by decide), zcpy_o (by decide)]
  have x5 : zRw A X 7 23 64 := fun j => by rw [hX, zcpy_o (by decide), zcpy_s, va0]; rw [zcpy_o (by decide), zcpy_o (by decide), zcpy_o (by decide), zcpy_o (by decide), zcpy_o (by decide), zcpy_o (by decide), zcpy_o (by decide), zcpy_o (by decide)]
  have x6 : zRw A X 8 24 8 := fun j => by rw [hX, zcpy_s, va0]; rw [zcpy_o (by decide), zcpy_o (by decide), zcpy_o (by decide), zcpy_o (by decide), zcpy_o (by decide), zcpy_o (by decide), zcpy_o (by decide), zcpy_o (by decide), zcpy_o (by decide), zcpy_o (by decide)]
  have so : X 2 = A 2 := x0 2 (by omega)
  have to : X 18 = A 18 := x0 18 (by omega)
  refine ⟨zput (zput X 18 6 (X 2 6)) 18 7 ((zput X 18 6 (X 2 6)) 2 7), ?_, ?_, fun j => by rw [zput_o (by decide), zput_o (by decide)]; exact x1 j, fun j => by rw [zput_o (by decide), zput_o (by decide)]; exact x2 j, fun j => by rw [zput_o (by decide), zput_o (by decide)]; exact x3 j, fun j => by rw [zput_o (by decide), zput_o (by decide)]; exact x4 j, fun j => by rw [zput_o (by decide), zput_o (by decide)]; exact x5 j, fun j => by rw [zput_o (by decide), zput_o (by decide)]; exact x6 j, ?_⟩
  · rw [zGi_copyFrom_2_q, zcc_n (x := 24) (n := 24) rfl (by omega) (Nat.le_refl _), zcc_n (x := 24) (n := 24) rfl (by omega) (Nat.le_refl _), zcc_n (x := 24) (n := 24) rfl (by omega) (Nat.le_refl _), zcc_n (x := 24) (n := 24) rfl (by omega) (Nat.le_refl _), zcc_n (x := 64) (n := 64) rfl (by omega) (Nat.le_refl _), zcc_n (x := 8) (n := 8) rfl (by omega) (Nat.le_refl _), zkn24, zkn64, zkn8, ← hX]
  · intro c hc
    rw [zput_o (by omega), zput_o (by omega)]; exact x0 c (by omega)
  · rw [zput_s, zput_s, zput_o (by decide), so, to]
theorem zPi_copyFrom_9_c : ∃ A', zPi_copyFrom_9 d A L = some (none, A', L) ∧ (∀ c, (c < 25 ∨ 29 < c) → A' c = A c) ∧ zRw A A' 10 26 4 ∧ zRw A A' 11 27 4 ∧ zRw A A' 12 28 24 ∧ zRw A A' 13 29 4 ∧ A' 25 = upd (A 25) 4 (A 9 4) := by
  obtain ⟨X, hX⟩ : ∃ X, X = (zcpy (zcpy (zcpy (zcpy A 10 26 4) 11 27 4) 12 28 24) 13 29 4) := ⟨_, rfl⟩
  have x0 : ∀ c, (c ≤ 25 ∨ 29 < c) → X c = A c := fun c hc => by rw [hX, zcpy_o (by omega), zcpy_o (by omega), zcpy_o (by omega), zcpy_o (by omega)]
  have x1 : zRw A X 10 26 4 := fun j => by rw [hX, zcpy_o (by decide), zcpy_o (by decide), zcpy_o (by decide), zcpy_s, va0]
  have x2 : zRw A X 11 27 4 := fun j => by rw [hX, zcpy_o (by decide), zcpy_o (by decide), zcpy_s, va0]; rw [zcpy_o (by decide), zcpy_o (by decide)]
  have x3 : zRw A X 12 28 24 := fun j => by rw [hX, zcpy_o (by decide), zcpy_s, va0]; rw [zcpy_o (by decide), zcpy_o (by decide), zcpy_o (by decide), zcpy_o (by decide)]
  have x4 : zRw A X 13 29 4 := fun j => by rw [hX, zcpy_s, va0]; rw [zcpy_o (by decide), zcpy_o (by decide), zcpy_o (by decide), zcpy_o (by decide), zcpy_o (by decide), zcpy_o (by decide)]
  have so : X 9 = A 9 := x0 9 (by omega)
  have to : X 25 = A 25 := x0 25 (by omega)
  refine ⟨zput X 25 4 (X 9 4), ?_, ?_, fun j => by rw [zput_o (by decide)]; exact x1 j, fun j => by rw [zput_o (by decide)]; exact x2 j, fun j => by rw [zput_o (by decide)]; exact x3 j, fun j => by rw [zput_o (by decide)]; exact x4 j, ?_⟩
  · rw [zPi_copyFrom_9_q, zcc_n (x := 4) (n := 4) rfl (by omega) (Nat.le_refl _), zcc_n (x := 4) (n := 4) rfl (by omega) (Nat.le_refl _), zcc_n (x := 24) (n := 24) rfl (by omega) (Nat.le_refl _), zcc_n (x := 4) (n := 4) rfl (by omega) (Nat.le_refl _), zkn24, zkn4, ← hX]
  · intro c hc
    rw [zput_o (by omega)]; exact x0 c (by omega)
  · rw [zput_s, so, to]
theorem zTi_copyFrom_14_c (hb : A 14 3 = 0 ∨ A 14 3 = 1) : ∃ A', zTi_copyFrom_14 d A L = some (none, A', L) ∧ (∀ c, (c < 30 ∨ 32 < c) → A' c = A c) ∧ zRw A A' 15 31 8 ∧ zRw A A' 16 32 9 ∧ A' 30 = upd (upd (A 30) 2 (A 14 2)) 3 (A 14 3) := by
  obtain ⟨X, hX⟩ : ∃ X, X = (zcpy (zcpy A 15 31 8) 16 32 9) := ⟨_, rfl⟩
  have x0 : ∀ c, (c ≤ 30 ∨ 32 < c) → X c = A c := fun c hc => by rw [hX, zcpy_o (by omega), zcpy_o (by omega)]
  have x1 : zRw A X 15 31 8 := fun j => by rw [hX, zcpy_o (by decide), zcpy_s, va0]
  have x2 : zRw A X 16 32 9 := fun j => by rw [hX, zcpy_s, va0]; rw [zcpy_o (by decide), zcpy_o (by decide)]
  have so : X 14 = A 14 := x0 14 (by omega)
  have to : X 30 = A 30 := x0 30 (by omega)
  refine ⟨zput (zput X 30 2 (X 14 2)) 30 3 ((zput X 30 2 (X 14 2)) 14 3), ?_, ?_, fun j => by rw [zput_o (by decide), zput_o (by decide)]; exact x1 j, fun j => by rw [zput_o (by decide), zput_o (by decide)]; exact x2 j, ?_⟩
  · rw [zTi_copyFrom_14_q, zcc_n (x := 8) (n := 8) rfl (by omega) (Nat.le_refl _), zcc_n (x := 9) (n := 9) rfl (by omega) (Nat.le_refl _), zkn8, zkn9, ← hX, zput_o (by decide), so]
    rcases hb with hb | hb <;> rw [hb]
    · rw [zcb_0]
    · rw [zcb_1]
  · intro c hc
    rw [zput_o (by omega), zput_o (by omega)]; exact x0 c (by omega)
  · rw [zput_s, zput_s, zput_o (by decide), so, to]
theorem zWi_copyFrom_1_c (hb : A 14 3 = 0 ∨ A 14 3 = 1) : ∃ A', zWi_copyFrom_1 (d + 1) A L = some (none, A', L) ∧ zCp A A' 1 17 := by
  obtain ⟨B, b0, b1, b2, b3, b4, b5, b6, b7, b8⟩ := zGi_copyFrom_2_c (d := d) (A := A) (L := L)
  obtain ⟨C, c0, c1, c2, c3, c4, c5, c6⟩ := zPi_copyFrom_9_c (d := d) (A := B) (L := L)
  have hbC : C 14 3 = A 14 3 := by rw [c1 14 (by omega), b1 14 (by omega)]
  obtain ⟨D, e0, e1, e2, e3, e4⟩ := zTi_copyFrom_14_c (d := d) (A := C) (L := L) (by rw [hbC]; exact hb)
  have hDs : D 1 = A 1 := by rw [e1 1 (by omega), c1 1 (by omega), b1 1 (by omega)]
  have hDt : D 17 = A 17 := by rw [e1 17 (by omega), c1 17 (by omega), b1 17 (by omega)]
  refine ⟨zput (zput D 17 3 (D 1 3)) 17 4 ((zput D 17 3 (D 1 3)) 1 4), ?_, ?_⟩
  · rw [zWi_copyFrom_1_q, b0, zbv_s, c0, zbv_s, e0, zbv_s]
  refine ⟨fun c hc => by rw [zput_o (by omega), zput_o (by omega), e1 c (by omega), c1 c (by omega), b1 c (by omega)], fun j => by rw [zput_o (by decide), zput_o (by decide), e1 19 (by omega), c1 19 (by omega)]; exact b2 j, fun j => by rw [zput_o (by decide), zput_o (by decide), e1 20 (by omega), c1 20 (by omega)]; exact b3 j, fun j => by rw [zput_o (by decide), zput_o (by decide), e1 21 (by omega), c1 21 (by omega)]; exact b4 j, fun j => by rw [zput_o (by decide), zput_o (by decide), e1 22 (by omega), c1 22 (by omega)]; exact b5 j, fun j => by rw [zput_o (by decide), zput_o (by decide), e1 23 (by omega), c1 23 (by omega)]; exact b6 j, fun j => by rw [zput_o (by decide), zput_o (by decide), e1 24 (by omega), c1 24 (by omega)]; exact b7 j, by rw [zput_o (by decide), zput_o (by decide), e1 18 (by omega), c1 18 (by omega)]; exact b8, fun j => by rw [zput_o (by decide), zput_o (by decide), e1 26 (by omega), c2 j, b1 10 (by omega), b1 26 (by omega)], fun j => by rw [zput_o (by decide), zput_o (by decide), e1 27 (by omega), c3 j, b1 11 (by omega), b1 27 (by omega)], fun j => by rw [zput_o (by decide), zput_o (by decide), e1 28 (by omega), c4 j, b1 12 (by omega), b1 28 (by omega)], fun j => by rw [zput_o (by decide), zput_o (by decide), e1 29 (by omega), c5 j, b1 13 (by omega), b1 29 (by omega)], by rw [zput_o (by decide), zput_o (by decide), e1 25 (by omega), c6, b1 9 (by omega), b1 25 (by omega)], fun j => by rw [zput_o (by decide), zput_o (by decide), e2 j, c1 15 (by omega), b1 15 (by omega), c1 31 (by omega), b1 31 (by omega)], fun j => by rw [zput_o (by decide), zput_o (by decide), e3 j, c1 16 (by omega), b1 16 (by omega), c1 32 (by omega), b1 32 (by omega)], by rw [zput_o (by decide), zput_o (by decide), e4, c1 14 (by omega), b1 14 (by omega), c1 30 (by omega), b1 30 (by omega)], by rw [zput_s, zput_s, zput_o (by decide), hDs, hDt]⟩
theorem zG_copyFrom_18_c : ∃ A', zG_copyFrom_18 d A L = some (none, A', L) ∧ (∀ c, (c < 2 ∨ 8 < c) → A' c = A c) ∧ zRw A A' 19 3 24 ∧ zRw A A' 20 4 24 ∧ zRw A A' 21 5 24 ∧ zRw A A' 22 6 24 ∧ zRw A A' 23 7 64 ∧ zRw A A' 24 8 8 ∧ A' 2 = upd (upd (A 2) 6 (A 18 6)) 7 (A 18 7) := by
  obtain ⟨X, hX⟩ : ∃ X, X = (zcpy (zcpy (zcpy (zcpy (zcpy (zcpy A 19 3 24) 20 4 24) 21 5 24) 22 6 24) 23 7 64) 24 8 8) := ⟨_, rfl⟩
  have x0 : ∀ c, (c ≤ 2 ∨ 8 < c) → X c = A c := fun c hc => by rw [hX, zcpy_o (by omega), zcpy_o (by omega), zcpy_o (by omega), zcpy_o (by omega), zcpy_o (by omega), zcpy_o (by omega)]
  have x1 : zRw A X 19 3 24 := fun j => by rw [hX, zcpy_o (by decide), zcpy_o (by decide), zcpy_o (by decide), zcpy_o (by decide), zcpy_o (by decide), zcpy_s, va0]
  have x2 : zRw A X 20 4 24 := fun j => by rw [hX, zcpy_o (by decide), zcpy_o (by decide), zcpy_o (by decide), zcpy_o (by decide), zcpy_s, va0]; rw [zcpy_o (by decide), zcpy_o (by decide)]
  have x3 : zRw A X 21 5 24 := fun j => by rw [hX, zcpy_o (by decide), zcpy_o (by decide), zcpy_o (by decide), zcpy_s, va0]; rw [zcpy_o (by decide), zcpy_o (by decide), zcpy_o (by decide), zcpy_o (by decide)]
  have x4 : zRw A X 22 6 24 := fun j => by rw [hX, zcpy_o (by decide), zcpy_o (by decide), zcpy_s, va0]; rw [zcpy_o (by decide), zcpy_o (by decide), zcpy_o (by decide), zcpy_o (by decide), zcpy_o (by decide), zcpy_o (by decide)]
  have x5 : zRw A X 23 7 64 := fun j => by rw [hX, zcpy_o (by decide), zcpy_s, va0]; rw [zcpy_o (by decide), zcpy_o (by decide), zcpy_o (by decide), zcpy_o (by decide), zcpy_o (by decide), zcpy_o (by decide), zcpy_o (by decide), zcpy_o (by decide)]
  have x6 : zRw A X 24 8 8 := fun j => by rw [hX, zcpy_s, va0]; rw [zcpy_o (by decide), zcpy_o (by decide), zcpy_o (by decide), zcpy_o (by decide), zcpy_o (by decide), zcpy_o (by decide), zcpy_o (by decide), zcpy_o (by decide), zcpy_o (by decide), zcpy_o (by decide)]
  have so : X 18 = A 18 := x0 18 (by omega)
  have to : X 2 = A 2 := x0 2 (by omega)
  refine ⟨zput (zput X 2 6 (X 18 6)) 2 7 ((zput X 2 6 (X 18 6)) 18 7), ?_, ?_, fun j => by rw [zput_o (by decide), zput_o (by decide)]; exact x1 j, fun j => by rw [zput_o (by decide), zput_o (by decide)]; exact x2 j, fun j => by rw [zput_o (by decide), zput_o (by decide)]; exact x3 j, fun j => by rw [zput_o (by decide), zput_o (by decide)]; exact x4 j, fun j => by rw [zput_o (by decide), zput_o (by decide)]; exact x5 j, fun j => by rw [zput_o (by decide), zput_o (by decide)]; exact x6 j, ?_⟩
  · rw [zG_copyFrom_18_q, zcc_n (x := 24) (n := 24) rfl (by omega) (Nat.le_refl _), zcc_n (x := 24) (n := 24) rfl (by omega) (Nat.le_refl _), zcc_n (x := 24) (n := 24) rfl (by omega) (Nat.le_refl _), zcc_n (x := 24) (n := 24) rfl (by omega) (Nat.le_refl _), zcc_n (x := 64) (n := 64) rfl (by omega) (Nat.le_refl _), zcc_n (x := 8) (n := 8) rfl (by omega) (Nat.le_refl _), zkn24, zkn64, zkn8, ← hX]
  · intro c hc
    rw [zput_o (by omega), zput_o (by omega)]; exact x0 c (by omega)
  · rw [zput_s, zput_s, zput_o (by decide), so, to]
theorem zP_copyFrom_25_c : ∃ A', zP_copyFrom_25 d A L = some (none, A', L) ∧ (∀ c, (c < 9 ∨ 13 < c) → A' c = A c) ∧ zRw A A' 26 10 4 ∧ zRw A A' 27 11 4 ∧ zRw A A' 28 12 24 ∧ zRw A A' 29 13 4 ∧ A' 9 = upd (A 9) 4 (A 25 4) := by
  obtain ⟨X, hX⟩ : ∃ X, X = (zcpy (zcpy (zcpy (zcpy A 26 10 4) 27 11 4) 28 12 24) 29 13 4) := ⟨_, rfl⟩
  have x0 : ∀ c, (c ≤ 9 ∨ 13 < c) → X c = A c := fun c hc => by rw [hX, zcpy_o (by omega), zcpy_o (by omega), zcpy_o (by omega), zcpy_o (by omega)]
  have x1 : zRw A X 26 10 4 := fun j => by rw [hX, zcpy_o (by decide), zcpy_o (by decide), zcpy_o (by decide), zcpy_s, va0]
  have x2 : zRw A X 27 11 4 := fun j => by rw [hX, zcpy_o (by decide), zcpy_o (by decide), zcpy_s, va0]; rw [zcpy_o (by decide), zcpy_o (by decide)]
  have x3 : zRw A X 28 12 24 := fun j => by rw [hX, zcpy_o (by decide), zcpy_s, va0]; rw [zcpy_o (by decide), zcpy_o (by decide), zcpy_o (by decide), zcpy_o (by decide)]
  have x4 : zRw A X 29 13 4 := fun j => by rw [hX, zcpy_s, va0]; rw [zcpy_o (by decide), zcpy_o (by decide), zcpy_o (by decide), zcpy_o (by decide), zcpy_o (by decide), zcpy_o (by decide)]
  have so : X 25 = A 25 := x0 25 (by omega)
  have to : X 9 = A 9 := x0 9 (by omega)
  refine ⟨zput X 9 4 (X 25 4), ?_, ?_, fun j => by rw [zput_o (by decide)]; exact x1 j, fun j => by rw [zput_o (by decide)]; exact x2 j, fun j => by rw [zput_o (by decide)]; exact x3 j, fun j => by rw [zput_o (by decide)]; exact x4 j, ?_⟩
  · rw [zP_copyFrom_25_q, zcc_n (x := 4) (n := 4) rfl (by omega) (Nat.le_refl _), zcc_n (x := 4) (n := 4) rfl (by omega) (Nat.le_refl _), zcc_n (x := 24) (n := 24) rfl (by omega) (Nat.le_refl _), zcc_n (x := 4) (n := 4) rfl (by omega) (Nat.le_refl _), zkn24, zkn4, ← hX]
  · intro c hc
    rw [zput_o (by omega)]; exact x0 c (by omega)
  · rw [zput_s, so, to]
theorem zT_copyFrom_30_c (hb : A 30 3 = 0 ∨ A 30 3 = 1) : ∃ A', zT_copyFrom_30 d A L = some (none, A', L) ∧ (∀ c, (c < 14 ∨ 16 < c) → A' c = A c) ∧ zRw A A' 31 15 8 ∧ zRw A A' 32 16 9 ∧ A' 14 = upd (upd (A 14) 2 (A 30 2)) 3 (A 30 3) := by
  obtain ⟨X, hX⟩ : ∃ X, X = (zcpy (zcpy A 31 15 8) 32 16 9) := ⟨_, rfl⟩
  have x0 : ∀ c, (c ≤ 14 ∨ 16 < c) → X c = A c := fun c hc => by rw [hX, zcpy_o (by omega), zcpy_o (by omega)]
  have x1 : zRw A X 31 15 8 := fun j => by rw [hX, zcpy_o (by decide), zcpy_s, va0]
  have x2 : zRw A X 32 16 9 := fun j => by rw [hX, zcpy_s, va0]; rw [zcpy_o (by decide), zcpy_o (by decide)]
  have so : X 30 = A 30 := x0 30 (by omega)
  have to : X 14 = A 14 := x0 14 (by omega)
  refine ⟨zput (zput X 14 2 (X 30 2)) 14 3 ((zput X 14 2 (X 30 2)) 30 3), ?_, ?_, fun j => by rw [zput_o (by decide), zput_o (by decide)]; exact x1 j, fun j => by rw [zput_o (by decide), zput_o (by decide)]; exact x2 j, ?_⟩
  · rw [zT_copyFrom_30_q, zcc_n (x := 8) (n := 8) rfl (by omega) (Nat.le_refl _), zcc_n (x := 9) (n := 9) rfl (by omega) (Nat.le_refl _), zkn8, zkn9, ← hX, zput_o (by decide), so]
    rcases hb with hb | hb <;> rw [hb]
    · rw [zcb_0]
    · rw [zcb_1]
  · intro c hc
    rw [zput_o (by omega), zput_o (by omega)]; exact x0 c (by omega)
  · rw [zput_s, zput_s, zput_o (by decide), so, to]
theorem zW_copyFrom_17_c (hb : A 30 3 = 0 ∨ A 30 3 = 1) : ∃ A', zW_copyFrom_17 (d + 1) A L = some (none, A', L) ∧ zCp A A' 17 1 := by
  obtain ⟨B, b0, b1, b2, b3, b4, b5, b6, b7, b8⟩ := zG_copyFrom_18_c (d := d) (A := A) (L := L)
  obtain ⟨C, c0, c1, c2, c3, c4, c5, c6⟩ := zP_copyFrom_25_c (d := d) (A := B) (L := L)
  have hbC : C 30 3 = A 30 3 := by rw [c1 30 (by omega), b1 30 (by omega)]
  obtain ⟨D, e0, e1, e2, e3, e4⟩ := zT_copyFrom_30_c (d := d) (A := C) (L := L) (by rw [hbC]; exact hb)
  have hDs : D 17 = A 17 := by rw [e1 17 (by omega), c1 17 (by omega), b1 17 (by omega)]
  have hDt : D 1 = A 1 := by rw [e1 1 (by omega), c1 1 (by omega), b1 1 (by omega)]
  refine ⟨zput (zput D 1 3 (D 17 3)) 1 4 ((zput D 1 3 (D 17 3)) 17 4), ?_, ?_⟩
  · rw [zW_copyFrom_17_q, b0, zbv_s, c0, zbv_s, e0, zbv_s]
  refine ⟨fun c hc => by rw [zput_o (by omega), zput_o (by omega), e1 c (by omega), c1 c (by omega), b1 c (by omega)], fun j => by rw [zput_o (by decide), zput_o (by decide), e1 3 (by omega), c1 3 (by omega)]; exact b2 j, fun j => by rw [zput_o (by decide), zput_o (by decide), e1 4 (by omega), c1 4 (by omega)]; exact b3 j, fun j => by rw [zput_o (by decide), zput_o (by decide), e1 5 (by omega), c1 5 (by omega)]; exact b4 j, fun j => by rw [zput_o (by decide), zput_o (by decide), e1 6 (by omega), c1 6 (by omega)]; exact b5 j, fun j => by rw [zput_o (by decide), zput_o (by decide), e1 7 (by omega), c1 7 (by omega)]; exact b6 j, fun j => by rw [zput_o (by decide), zput_o (by decide), e1 8 (by omega), c1 8 (by omega)]; exact b7 j, by rw [zput_o (by decide), zput_o (by decide), e1 2 (by omega), c1 2 (by omega)]; exact b8, fun j => by rw [zput_o (by decide), zput_o (by decide), e1 10 (by omega), c2 j, b1 26 (by omega), b1 10 (by omega)], fun j => by rw [zput_o (by decide), zput_o (by decide), e1 11 (by omega), c3 j, b1 27 (by omega), b1 11 (by omega)], fun j => by rw [zput_o (by decide), zput_o (by decide), e1 12 (by omega), c4 j, b1 28 (by omega), b1 12 (by omega)], fun j => by rw [zput_o (by decide), zput_o (by decide), e1 13 (by omega), c5 j, b1 29 (by omega), b1 13 (by omega)], by rw [zput_o (by decide), zput_o (by decide), e1 9 (by omega), c6, b1 25 (by omega), b1 9 (by omega)], fun j => by rw [zput_o (by decide), zput_o (by decide), e2 j, c1 31 (by omega), b1 31 (by omega), c1 15 (by omega), b1 15 (by omega)], fun j => by rw [zput_o (by decide), zput_o (by decide), e3 j, c1 32 (by omega), b1 32 (by omega), c1 16 (by omega), b1 16 (by omega)], by rw [zput_o (by decide), zput_o (by decide), e4, c1 30 (by omega), b1 30 (by omega), c1 14 (by omega), b1 14 (by omega)], by rw [zput_s, zput_s, zput_o (by decide), hDs, hDt]⟩
theorem zGt_copyFrom_2_c : ∃ A', zGt_copyFrom_2 d A L = some (none, A', L) ∧ (∀ c, (c < 36 ∨ 42 < c) → A' c = A c) ∧ zRw A A' 3 37 24 ∧ zRw A A' 4 38 24 ∧ zRw A A' 5 39 24 ∧ zRw A A' 6 40 24 ∧ zRw A A' 7 41 64 ∧ zRw A A' 8 42 8 ∧ A' 36 = upd (upd (A 36) 6 (A 2 6)) 7 (A 2 7) := by
  obtain ⟨X, hX⟩ : ∃ X, X = (zcpy (zcpy (zcpy (zcpy (zcpy (zcpy A 3 37 24) 4 38 24) 5 39 24) 6 40 24) 7 41 64) 8 42 8) := ⟨_, rfl⟩
  have x0 : ∀ c, (c ≤ 36 ∨ 42 < c) → X c = A c := fun c hc => by rw [hX, zcpy_o (by omega), zcpy_o (by omega), zcpy_o (by omega), zcpy_o (by omega), zcpy_o (by omega), zcpy_o (by omega)]
  have x1 : zRw A X 3 37 24 := fun j => by rw [hX, zcpy_o (by decide), zcpy_o (by decide), zcpy_o (by decide), zcpy_o (by decide), zcpy_o (by decide), zcpy_s, va0]
  have x2 : zRw A X 4 38 24 := fun j => by rw [hX, zcpy_o (by decide), zcpy_o (by decide), zcpy_o (by decide), zcpy_o (by decide), zcpy_s, va0]; rw [zcpy_o (by decide), zcpy_o (by decide)]
  have x3 : zRw A X 5 39 24 := fun j => by rw [hX, zcpy_o (by decide), zcpy_o (by decide), zcpy_o (by decide), zcpy_s, va0]; rw [zcpy_o (by decide), zcpy_o (by decide), zcpy_o (by decide), zcpy_o (by decide)]
  have x4 : zRw A X 6 40 24 := fun j => by rw [hX, zcpy_o (by decide), zcpy_o (by decide), zcpy_s, va0]; rw [zcpy_o (by decide), zcpy_o (by decide), zcpy_o (by decide), zcpy_o (by decide), zcpy_o (by decide), zcpy_o (by decide)]
  have x5 : zRw A X 7 41 64 := fun j => by rw [hX, zcpy_o (by decide), zcpy_s, va0]; rw [zcpy_o (by decide), zcpy_o (by decide), zcpy_o (by decide), zcpy_o (by decide), zcpy_o (by decide), zcpy_o (by decide), zcpy_o (by decide), zcpy_o (by decide)]
  have x6 : zRw A X 8 42 8 := fun j => by rw [hX, zcpy_s, va0]; rw [zcpy_o (by decide), zcpy_o (by decide), zcpy_o (by decide), zcpy_o (by decide), zcpy_o (by decide), zcpy_o (by decide), zcpy_o (by decide), zcpy_o (by decide), zcpy_o (by decide), zcpy_o (by decide)]
  have so : X 2 = A 2 := x0 2 (by omega)
  have to : X 36 = A 36 := x0 36 (by omega)
  refine ⟨zput (zput X 36 6 (X 2 6)) 36 7 ((zput X 36 6 (X 2 6)) 2 7), ?_, ?_, fun j => by rw [zput_o (by decide), zput_o (by decide)]; exact x1 j, fun j => by rw [zput_o (by decide), zput_o (by decide)]; exact x2 j, fun j => by rw [zput_o (by decide), zput_o (by decide)]; exact x3 j, fun j => by rw [zput_o (by decide), zput_o (by decide)]; exact x4 j, fun j => by rw [zput_o (by decide), zput_o (by decide)]; exact x5 j, fun j => by rw [zput_o (by decide), zput_o (by decide)]; exact x6 j, ?_⟩
  · rw [zGt_copyFrom_2_q, zcc_n (x := 24) (n := 24) rfl (by omega) (Nat.le_refl _), zcc_n (x := 24) (n := 24) rfl (by omega) (Nat.le_refl _), zcc_n (x := 24) (n := 24) rfl (by omega) (Nat.le_refl _), zcc_n (x := 24) (n := 24) rfl (by omega) (Nat.le_refl _), zcc_n (x := 64) (n := 64) rfl (by omega) (Nat.le_refl _), zcc_n (x := 8) (n := 8) rfl (by omega) (Nat.le_refl _), zkn24, zkn64, zkn8, ← hX]
  · intro c hc
    rw [zput_o (by omega), zput_o (by omega)]; exact x0 c (by omega)
  · rw [zput_s, zput_s, zput_o (by decide), so, to]
theorem zPt_copyFrom_9_c : ∃ A', zPt_copyFrom_9 d A L = some (none, A', L) ∧ (∀ c, (c < 43 ∨ 47 < c) → A' c = A c) ∧ zRw A A' 10 44 4 ∧ zRw A A' 11 45 4 ∧ zRw A A' 12 46 24 ∧ zRw A A' 13 47 4 ∧ A' 43 = upd (A 43) 4 (A 9 4) := by
  obtain ⟨X, hX⟩ : ∃ X, X = (zcpy (zcpy (zcpy (zcpy A 10 44 4) 11 45 4) 12 46 24) 13 47 4) := ⟨_, rfl⟩
  have x0 : ∀ c, (c ≤ 43 ∨ 47 < c) → X c = A c := fun c hc => by rw [hX, zcpy_o (by omega), zcpy_o (by omega), zcpy_o (by omega), zcpy_o (by omega)]
  have x1 : zRw A X 10 44 4 := fun j => by rw [hX, zcpy_o (by decide), zcpy_o (by decide), zcpy_o (by decide), zcpy_s, va0]
  have x2 : zRw A X 11 45 4 := fun j => by rw [hX, zcpy_o (by decide), zcpy_o (by decide), zcpy_s, va0]; rw [zcpy_o (by decide), zcpy_o (by decide)]
  have x3 : zRw A X 12 46 24 := fun j => by rw [hX, zcpy_o (by decide), zcpy_s, va0]; rw [zcpy_o (by decide), zcpy_o (by decide), zcpy_o (by decide), zcpy_o (by decide)]
  have x4 : zRw A X 13 47 4 := fun j => by rw [hX, zcpy_s, va0]; rw [zcpy_o (by decide), zcpy_o (by decide), zcpy_o (by decide), zcpy_o (by decide), zcpy_o (by decide), zcpy_o (by decide)]
  have so : X 9 = A 9 := x0 9 (by omega)
  have to : X 43 = A 43 := x0 43 (by omega)
  refine ⟨zput X 43 4 (X 9 4), ?_, ?_, fun j => by rw [zput_o (by decide)]; exact x1 j, fun j => by rw [zput_o (by decide)]; exact x2 j, fun j => by rw [zput_o (by decide)]; exact x3 j, fun j => by rw [zput_o (by decide)]; exact x4 j, ?_⟩
  · rw [zPt_copyFrom_9_q, zcc_n (x := 4) (n := 4) rfl (by omega) (Nat.le_refl _), zcc_n (x := 4) (n := 4) rfl (by omega) (Nat.le_refl _), zcc_n (x := 24) (n := 24) rfl (by omega) (Nat.le_refl _), zcc_n (x := 4) (n := 4) rfl (by omega) (Nat.le_refl _), zkn24, zkn4, ← hX]
  · intro c hc
    rw [zput_o (by omega)]; exact x0 c (by omega)
  · rw [zput_s, so, to]
theorem zTt_copyFrom_14_c (hb : A 14 3 = 0 ∨ A 14 3 = 1) : ∃ A', zTt_copyFrom_14 d A L = some (none, A', L) ∧ (∀ c, (c < 48 ∨ 50 < c) → A' c = A c) ∧ zRw A A' 15 49 8 ∧ zRw A A' 16 50 9 ∧ A' 48 = upd (upd (A 48) 2 (A 14 2)) 3 (A 14 3) := by
  obtain ⟨X, hX⟩ : ∃ X, X = (zcpy (zcpy A 15 49 8) 16 50 9) := ⟨_, rfl⟩
  have x0 : ∀ c, (c ≤ 48 ∨ 50 < c) → X c = A c := fun c hc => by rw [hX, zcpy_o (by omega), zcpy_o (by omega)]
  have x1 : zRw A X 15 49 8 := fun j => by rw [hX, zcpy_o (by decide), zcpy_s, va0]
  have x2 : zRw A X 16 50 9 := fun j => by rw [hX, zcpy_s, va0]; rw [zcpy_o (by decide), zcpy_o (by decide)]
  have so : X 14 = A 14 := x0 14 (by omega)
  have to : X 48 = A 48 := x0 48 (by omega)
  refine ⟨zput (zput X 48 2 (X 14 2)) 48 3 ((zput X 48 2 (X 14 2)) 14 3), ?_, ?_, fun j => by rw [zput_o (by decide), zput_o (by decide)]; exact x1 j, fun j => by rw [zput_o (by decide), zput_o (by decide)]; exact x2 j, ?_⟩
  · rw [zTt_copyFrom_14_q, zcc_n (x := 8) (n := 8) rfl (by omega) (Nat.le_refl _), zcc_n (x := 9) (n := 9) rfl (by omega) (Nat.le_refl _), zkn8, zkn9, ← hX, zput_o (by decide), so]
    rcases hb with hb | hb <;> rw [hb]
    · rw [zcb_0]
    · rw [zcb_1]
  · intro c hc
    rw [zput_o (by omega), zput_o (by omega)]; exact x0 c (by omega)
  · rw [zput_s, zput_s, zput_o (by decide), so, to]
theorem zWt_copyFrom_1_c (hb : A 14 3 = 0 ∨ A 14 3 = 1) : ∃ A', zWt_copyFrom_1 (d + 1) A L = some (none, A', L) ∧ zCp A A' 1 35 := by
  obtain ⟨B, b0, b1, b2, b3, b4, b5, b6, b7, b8⟩ := zGt_copyFrom_2_c (d := d) (A := A) (L := L)
  obtain ⟨C, c0, c1, c2, c3, c4, c5, c6⟩ := zPt_copyFrom_9_c (d := d) (A := B) (L := L)
  have hbC : C 14 3 = A 14 3 := by rw [c1 14 (by omega), b1 14 (by omega)]
  obtain ⟨D, e0, e1, e2, e3, e4⟩ := zTt_copyFrom_14_c (d := d) (A := C) (L := L) (by rw [hbC]; exact hb)
  have hDs : D 1 = A 1 := by rw [e1 1 (by omega), c1 1 (by omega), b1 1 (by omega)]
  have hDt : D 35 = A 35 := by rw [e1 35 (by omega), c1 35 (by omega), b1 35 (by omega)]
  refine ⟨zput (zput D 35 3 (D 1 3)) 35 4 ((zput D 35 3 (D 1 3)) 1 4), ?_, ?_⟩
  · rw [zWt_copyFrom_1_q, b0, zbv_s, c0, zbv_s, e0, zbv_s]
  refine ⟨fun c hc => by rw [zput_o (by omega), zput_o (by omega), e1 c (by omega), c1 c (by omega), b1 c (by omega)], fun j => by rw [zput_o (by decide), zput_o (by decide), e1 37 (by omega), c1 37 (by omega)]; exact b2 j, fun j => by rw [zput_o (by decide), zput_o (by decide), e1 38 (by omega), c1 38 (by omega)]; exact b3 j, fun j => by rw [zput_o (by decide), zput_o (by decide), e1 39 (by omega), c1 39 (by omega)]; exact b4 j, fun j => by rw [zput_o (by decide), zput_o (by decide), e1 40 (by omega), c1 40 (by omega)]; exact b5 j, fun j => by rw [zput_o (by decide), zput_o (by decide), e1 41 (by omega), c1 41 (by omega)]; exact b6 j, fun j => by rw [zput_o (by decide), zput_o (by decide), e1 42 (by omega), c1 42 (by omega)]; exact b7 j, by rw [zput_o (by decide), zput_o (by decide), e1 36 (by omega), c1 36 (by omega)]; exact b8, fun j => by rw [zput_o (by decide), zput_o (by decide), e1 44 (by omega), c2 j, b1 10 (by omega), b1 44 (by omega)], fun j => by rw [zput_o (by decide), zput_o (by decide), e1 45 (by omega), c3 j, b1 11 (by omega), b1 45 (by omega)], fun j => by rw [zput_o (by decide), zput_o (by decide), e1 46 (by omega), c4 j, b1 12 (by omega), b1 46 (by omega)], fun j => by rw [zput_o (by decide), zput_o (by decide), e1 47 (by omega), c5 j, b1 13 (by omega), b1 47 (by omega)], by rw [zput_o (by decide), zput_o (by decide), e1 43 (by omega), c6, b1 9 (by omega), b1 43 (by omega)], fun j => by rw [zput_o (by decide), zput_o (by decide), e2 j, c1 15 (by omega), b1 15 (by omega), c1 49 (by omega), b1 49 (by omega)], fun j => by rw [zput_o (by decide), zput_o (by decide), e3 j, c1 16 (by omega), b1 16 (by omega), c1 50 (by omega), b1 50 (by omega)], by rw [zput_o (by decide), zput_o (by decide), e4, c1 14 (by omega), b1 14 (by omega), c1 48 (by omega), b1 48 (by omega)], by rw [zput_s, zput_s, zput_o (by decide), hDs, hDt]⟩
theorem zG_copyFrom_36_c : ∃ A', zG_copyFrom_36 d A L = some (none, A', L) ∧ (∀ c, (c < 2 ∨ 8 < c) → A' c = A c) ∧ zRw A A' 37 3 24 ∧ zRw A A' 38 4 24 ∧ zRw A A' 39 5 24 ∧ zRw A A' 40 6 24 ∧ zRw A A' 41 7 64 ∧ zRw A A' 42 8 8 ∧ A' 2 = upd (upd (A 2) 6 (A 36 6)) 7 (A 36 7) := by
  obtain ⟨X, hX⟩ : ∃ X, X = (zcpy (zcpy (zcpy (zcpy (zcpy (zcpy A 37 3 24) 38 4 24) 39 5 24) 40 6 24) 41 7 64) 42 8 8) := ⟨_, rfl⟩
  have x0 : ∀ c, (c ≤ 2 ∨ 8 < c) → X c = A c := fun c hc => by rw [hX, zcpy_o (by omega), zcpy_o (by omega), zcpy_o (by omega), zcpy_o (by omega), zcpy_o (by omega), zcpy_o (by omega)]
  have x1 : zRw A X 37 3 24 := fun j => by rw [hX, zcpy_o (by decide), zcpy_o (by decide), zcpy_o (by decide), zcpy_o (by decide), zcpy_o (by decide), zcpy_s, va0]
  have x2 : zRw A X 38 4 24 := fun j => by rw [hX, zcpy_o (by decide), zcpy_o (by decide), zcpy_o (by decide), zcpy_o (by decide), zcpy_s, va0]; rw [zcpy_o (by decide), zcpy_o (by decide)]
  have x3 : zRw A X 39 5 24 := fun j => by rw [hX, zcpy_o (by decide), zcpy_o (by decide), zcpy_o (by decide), zcpy_s, va0]; rw [zcpy_o (by decide), zcpy_o (by decide), zcpy_o (by decide), zcpy_o (by decide)]
  have x4 : zRw A X 40 6 24 := fun j => by rw [hX, zcpy_o (by decide), zcpy_o (by decide), zcpy_s, va0]; rw [zcpy_o (by decide), zcpy_o (by decide), zcpy_o (by decide), zcpy_o (by decide), zcpy_o (by decide), zcpy_o (by decide)]
  have x5 : zRw A X 41 7 64 := fun j => by rw [hX, zcpy_o (by decide), zcpy_s, va0]; rw [zcpy_o (by decide), zcpy_o (by decide), zcpy_o (by decide), zcpy_o (by decide), zcpy_o (by decide), zcpy_o (by decide), zcpy_o (by decide), zcpy_o (by decide)]
  have x6 : zRw A X 42 8 8 := fun j => by rw [hX, zcpy_s, va0]; rw [zcpy_o (by decide), zcpy_o (by decide), zcpy_o (by decide), zcpy_o (by decide), zcpy_o (by decide), zcpy_o (by decide), zcpy_o (by decide), zcpy_o (by decide), zcpy_o (by decide), zcpy_o (by decide)]
  have so : X 36 = A 36 := x0 36 (by omega)
  have to : X 2 = A 2 := x0 2 (by omega)
  refine ⟨zput (zput X 2 6 (X 36 6)) 2 7 ((zput X 2 6 (X 36 6)) 36 7), ?_, ?_, fun j => by rw [zput_o (by decide), zput_o (by decide)]; exact x1 j, fun j => by rw [zput_o (by decide), zput_o (by decide)]; exact x2 j, fun j => by rw [zput_o (by decide), zput_o (by decide)]; exact x3 j, fun j => by rw [zput_o (by decide), zput_o (by decide)]; exact x4 j, fun j => by rw [zput_o (by decide), zput_o (by decide)]; exact x5 j, fun j => by rw [zput_o (by decide), zput_o (by decide)]; exact x6 j, ?_⟩
  · rw [zG_copyFrom_36_q, zcc_n (x := 24) (n := 24) rfl (by omega) (Nat.le_refl _), zcc_n (x := 24) (n := 24) rfl (by omega) (Nat.le_refl _), zcc_n (x := 24) (n := 24) rfl (by omega) (Nat.le_refl _), zcc_n (x := 24) (n := 24) rfl (by omega) (Nat.le_refl _), zcc_n (x := 64) (n := 64) rfl (by omega) (Nat.le_refl _), zcc_n (x := 8) (n := 8) rfl (by omega) (Nat.le_refl _), zkn24, zkn64, zkn8, ← hX]
  · intro c hc
    rw [zput_o (by omega), zput_o (by omega)]; exact x0 c (by omega)
  · rw [zput_s, zput_s, zput_o (by decide), so, to]
theorem zP_copyFrom_43_c : ∃ A', zP_copyFrom_43 d A L = some (none, A', L) ∧ (∀ c, (c < 9 ∨ 13 < c) → A' c = A c) ∧ zRw A A' 44 10 4 ∧ zRw A A' 45 11 4 ∧ zRw A A' 46 12 24 ∧ zRw A A' 47 13 4 ∧ A' 9 = upd (A 9) 4 (A 43 4) := by
  obtain ⟨X, hX⟩ : ∃ X, X = (zcpy (zcpy (zcpy (zcpy A 44 10 4) 45 11 4) 46 12 24) 47 13 4) := ⟨_, rfl⟩
  have x0 : ∀ c, (c ≤ 9 ∨ 13 < c) → X c = A c := fun c hc => by rw [hX, zcpy_o (by omega), zcpy_o (by omega), zcpy_o (by omega), zcpy_o (by omega)]
  have x1 : zRw A X 44 10 4 := fun j => by rw [hX, zcpy_o (by decide), zcpy_o (by decide), zcpy_o (by decide), zcpy_s, va0]
  have x2 : zRw A X 45 11 4 := fun j => by rw [hX, zcpy_o (by decide), zcpy_o (by decide), zcpy_s, va0]; rw [zcpy_o (by decide), zcpy_o (by decide)]
  have x3 : zRw A X 46 12 24 := fun j => by rw [hX, zcpy_o (by decide), zcpy_s, va0]; rw [zcpy_o (by decide), zcpy_o (by decide), zcpy_o (by decide), zcpy_o (by decide)]
  have x4 : zRw A X 47 13 4 := fun j => by rw [hX, zcpy_s, va0]; rw [zcpy_o (by decide), zcpy_o (by decide), zcpy_o (by decide), zcpy_o (by decide), zcpy_o (by decide), zcpy_o (by decide)]
  have so : X 43 = A 43 := x0 43 (by omega)
  have to : X 9 = A 9 := x0 9 (by omega)
  refine ⟨zput X 9 4 (X 43 4), ?_, ?_, fun j => by rw [zput_o (by decide)]; exact x1 j, fun j => by rw [zput_o (by decide)]; exact x2 j, fun j => by rw [zput_o (by decide)]; exact x3 j, fun j => by rw [zput_o (by decide)]; exact x4 j, ?_⟩
  · rw [zP_copyFrom_43_q, zcc_n (x := 4) (n := 4) rfl (by omega) (Nat.le_refl _), zcc_n (x := 4) (n := 4) rfl (by omega) (Nat.le_refl _), zcc_n (x := 24) (n := 24) rfl (by omega) (Nat.le_refl _), zcc_n (x := 4) (n := 4) rfl (by omega) (Nat.le_refl _), zkn24, zkn4, ← hX]
  · intro c hc
    rw [zput_o (by omega)]; exact x0 c (by omega)
  · rw [zput_s, so, to]
theorem zT_copyFrom_48_c (hb : A 48 3 = 0 ∨ A 48 3 = 1) : ∃ A', zT_copyFrom_48 d A L = some (none, A', L) ∧ (∀ c, (c < 14 ∨ 16 < c) → A' c = A c) ∧ zRw A A' 49 15 8 ∧ zRw A A' 50 16 9 ∧ A' 14 = upd (upd (A 14) 2 (A 48 2)) 3 (A 48 3) := by
  obtain ⟨X, hX⟩ : ∃ X, X = (zcpy (zcpy A 49 15 8) 50 16 9) := ⟨_, rfl⟩
  have x0 : ∀ c, (c ≤ 14 ∨ 16 < c) → X c = A c := fun c hc => by rw [hX, zcpy_o (by omega), zcpy_o (by omega)]
  have x1 : zRw A X 49 15 8 := fun j => by rw [hX, zcpy_o (by decide), zcpy_s, va0]
  have x2 : zRw A X 50 16 9 := fun j => by rw [hX, zcpy_s, va0]; rw [zcpy_o (by decide), zcpy_o (by decide)]
  have so : X 48 = A 48 := x0 48 (by omega)
  have to : X 14 = A 14 := x0 14 (by omega)
  refine ⟨zput (zput X 14 2 (X 48 2)) 14 3 ((zput X 14 2 (X 48 2)) 48 3), ?_, ?_, fun j => by rw [zput_o (by decide), zput_o (by decide)]; exact x1 j, fun j => by rw [zput_o (by decide), zput_o (by decide)]; exact x2 j, ?_⟩
  · rw [zT_copyFrom_48_q, zcc_n (x := 8) (n := 8) rfl (by omega) (Nat.le_refl _), zcc_n (x := 9) (n := 9) rfl (by omega) (Nat.le_refl _), zkn8, zkn9, ← hX, zput_o (by decide), so]
    rcases hb with hb | hb <;> rw [hb]
    · rw [zcb_0]
    · rw [zcb_1]
  · intro c hc
    rw [zput_o (by omega), zput_o (by omega)]; exact x0 c (by omega)
  · rw [zput_s, zput_s, zput_o (by decide), so, to]
theorem zW_copyFrom_35_c (hb : A 48 3 = 0 ∨ A 48 3 = 1) : ∃ A', zW_copyFrom_35 (d + 1) A L = some (none, A', L) ∧ zCp A A' 35 1 := by
  obtain ⟨B, b0, b1, b2, b3, b4, b5, b6, b7, b8⟩ := zG_copyFrom_36_c (d := d) (A := A) (L := L)
  obtain ⟨C, c0, c1, c2, c3, c4, c5, c6⟩ := zP_copyFrom_43_c (d := d) (A := B) (L := L)
  have hbC : C 48 3 = A 48 3 := by rw [c1 48 (by omega), b1 48 (by omega)]
  obtain ⟨D, e0, e1, e2, e3, e4⟩ := zT_copyFrom_48_c (d := d) (A := C) (L := L) (by rw [hbC]; exact hb)
  have hDs : D 35 = A 35 := by rw [e1 35 (by omega), c1 35 (by omega), b1 35 (by omega)]
  have hDt : D 1 = A 1 := by rw [e1 1 (by omega), c1 1 (by omega), b1 1 (by omega)]
  refine ⟨zput (zput D 1 3 (D 35 3)) 1 4 ((zput D 1 3 (D 35 3)) 35 4), ?_, ?_⟩
  · rw [zW_copyFrom_35_q, b0, zbv_s, c0, zbv_s, e0, zbv_s]
  refine ⟨fun c hc => by rw [zput_o (by omega), zput_o (by omega), e1 c (by omega), c1 c (by omega), b1 c (by omega)], fun j => by rw [zput_o (by decide), zput_o (by decide), e1 3 (by omega), c1 3 (by omega)]; exact b2 j, fun j => by rw [zput_o (by decide), zput_o (by decide), e1 4 (by omega), c1 4 (by omega)]; exact b3 j, fun j => by rw [zput_o (by decide), zput_o (by decide), e1 5 (by omega), c1 5 (by omega)]; exact b4 j, fun j => by rw [zput_o (by decide), zput_o (by decide), e1 6 (by omega), c1 6 (by omega)]; exact b5 j, fun j => by rw [zput_o (by decide), zput_o (by decide), e1 7 (by omega), c1 7 (by omega)]; exact b6 j, fun j => by rw [zput_o (by decide), zput_o (by decide), e1 8 (by omega), c1 8 (by omega)]; exact b7 j, by rw [zput_o (by decide), zput_o (by decide), e1 2 (by omega), c1 2 (by omega)]; exact b8, fun j => by rw [zput_o (by decide), zput_o (by decide), e1 10 (by omega), c2 j, b1 44 (by omega), b1 10 (by omega)], fun j => by rw [zput_o (by decide), zput_o (by decide), e1 11 (by omega), c3 j, b1 45 (by omega), b1 11 (by omega)], fun j => by rw [zput_o (by decide), zput_o (by decide), e1 12 (by omega), c4 j, b1 46 (by omega), b1 12 (by omega)], fun j => by rw [zput_o (by decide), zput_o (by decide), e1 13 (by omega), c5 j, b1 47 (by omega), b1 13 (by omega)], by rw [zput_o (by decide), zput_o (by decide), e1 9 (by omega), c6, b1 43 (by omega), b1 9 (by omega)], fun j => by rw [zput_o (by decide), zput_o (by decide), e2 j, c1 49 (by omega), b1 49 (by omega), c1 15 (by omega), b1 15 (by omega)], fun j => by rw [zput_o (by decide), zput_o (by decide), e3 j, c1 50 (by omega), b1 50 (by omega), c1 16 (by omega), b1 16 (by omega)], by rw [zput_o (by decide), zput_o (by decide), e4, c1 48 (by omega), b1 48 (by omega), c1 14 (by omega), b1 14 (by omega)], by rw [zput_s, zput_s, zput_o (by decide), hDs, hDt]⟩
end CY
