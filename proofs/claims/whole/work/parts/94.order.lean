/-! ===== class and model answer alike: order ===== -/
/-- a digit of a number -/
def zdi (n j : Nat) : Nat := n / 10 ^ j % 10
theorem zdi_0 (n : Nat) : zdi n 0 = n % 10 := by unfold zdi; rw [Nat.pow_zero, Nat.div_one]
theorem zdi_s (n j : Nat) : zdi n (j + 1) = zdi (n / 10) j := by unfold zdi; rw [Nat.pow_succ', Nat.div_div_eq_div_mul]
theorem zdi_lt (n j : Nat) : zdi n j < 10 := Nat.mod_lt _ (by omega)
/-- whether the digits are an order -/
def zod (P : Nat) : Nat → Nat → Nat → Bool
  | 0, n, _ => decide (n = 0)
  | q + 1, n, u => if n % 10 < P ∧ u.testBit (n % 10) = false then zod P q (n / 10) (u ||| 2 ^ (n % 10)) else false
theorem zod_0 {P n u : Nat} : zod P 0 n u = decide (n = 0) := rfl
theorem zod_s {P q n u : Nat} : zod P (q + 1) n u = if n % 10 < P ∧ u.testBit (n % 10) = false then zod P q (n / 10) (u ||| 2 ^ (n % 10)) else false := rfl
theorem zod_in {P : Nat} : ∀ {q n u : Nat}, zod P q n u = true → ∀ j, j < q → zdi n j < P ∧ u.testBit (zdi n j) = false
  | 0, n, u, _, j, hj => absurd hj (Nat.not_lt_zero j)
  | q + 1, n, u, h, j, hj => by
    rw [zod_s] at h
    by_cases hc : n % 10 < P ∧ u.testBit (n % 10) = false
    · rw [if_pos hc] at h
      cases j with
      | zero => rw [zdi_0]; exact hc
      | succ j =>
        obtain ⟨h1, h2⟩ := zod_in h j (by omega)
        rw [Nat.testBit_or, Bool.or_eq_false_iff] at h2
        rw [zdi_s]
        exact ⟨h1, h2.1⟩
    · rw [if_neg hc] at h; cases h
theorem zod_lt {P : Nat} : ∀ {q n u : Nat}, zod P q n u = true → ∀ i j, i < j → j < q → zdi n i ≠ zdi n j
  | 0, n, u, _, i, j, _, hj => absurd hj (Nat.not_lt_zero j)
  | q + 1, n, u, h, i, j, hij, hj => by
    rw [zod_s] at h
    by_cases hc : n % 10 < P ∧ u.testBit (n % 10) = false
    · rw [if_pos hc] at h
      cases j with
      | zero => omega
      | succ j =>
        cases i with
        | zero =>
          obtain ⟨h1, h2⟩ := zod_in h j (by omega)
          rw [Nat.testBit_or, Bool.or_eq_false_iff] at h2
          rw [zdi_0, zdi_s]
          intro e
          rw [e, Nat.testBit_two_pow] at h2
          simp at h2
        | succ i =>
          rw [zdi_s, zdi_s]
          exact zod_lt h i j (by omega) (by omega)
    · rw [if_neg hc] at h; cases h
theorem zod_ne {P q n u i j : Nat} (h : zod P q n u = true) (hi : i < q) (hj : j < q) (e : zdi n i = zdi n j) : i = j := by
  rcases Nat.lt_trichotomy i j with h1 | h1 | h1
  · exact absurd e (zod_lt h i j h1 hj)
  · exact h1
  · exact absurd e.symm (zod_lt h j i h1 hi)
/-- a row with the first of its places the digits -/
def zNr (n i P : Nat) (r : Nat → Int32) : Nat → Int32 := fun j => if i ≤ j ∧ j < P then nI (zdi n (j - i)) else r j
/-- the number that a row's first places are the digits of -/
def zds (f : Nat → Nat) : Nat → Nat
  | 0 => 0
  | k + 1 => zds f k + 10 ^ k * f k
theorem zds_s (f : Nat → Nat) (k : Nat) : zds f (k + 1) = zds f k + 10 ^ k * f k := rfl
theorem zneg_rem {x : Int32} (h : x < 0) : zrem x 10 < 0 ∨ (zrem x 10 = 0 ∧ x / 10 < 0) := by
  unfold zrem
  have e := Int32.toInt_div_of_ne_right x 10 (by decide)
  rw [show (10 : Int32).toInt = 10 by decide] at e
  have h0 := Int32.lt_iff_toInt_lt.mp h
  rw [show (0 : Int32).toInt = 0 by decide] at h0
  have hl : -2 ^ 31 ≤ x.toInt := Int32.le_toInt x
  obtain ⟨q, hq⟩ : ∃ q, q = x / 10 := ⟨_, rfl⟩
  rw [← hq] at e ⊢
  have ht : x.toInt.tdiv 10 = -((-x.toInt) / 10) := by
    have : x.toInt = -(-x.toInt) := by omega
    rw [this, Int.neg_tdiv, Int.tdiv_eq_ediv_of_nonneg (by omega)]; simp
  rw [ht] at e
  have hm : (q * 10).toInt = q.toInt * 10 := by
    rw [Int32.toInt_mul, show (10 : Int32).toInt = 10 by decide]
    refine Int.bmod_eq_of_le ?_ ?_ <;> omega
  have hs : (x - q * 10).toInt = x.toInt - q.toInt * 10 := by
    rw [Int32.toInt_sub, hm]
    refine Int.bmod_eq_of_le ?_ ?_ <;> omega
  by_cases hr : x.toInt - q.toInt * 10 < 0
  · left
    rw [Int32.lt_iff_toInt_lt, hs]
    exact hr
  · right
    refine ⟨?_, ?_⟩
    · apply Int32.toInt.inj
      rw [hs, show (0 : Int32).toInt = 0 by decide]; omega
    · rw [Int32.lt_iff_toInt_lt, show (0 : Int32).toInt = 0 by decide]; omega
section OR
variable {a b d n P : Nat} {A A' B v w : zA} {L M : zL} {x y : Int32} {f : Nat → Nat}
theorem nI_m1 (k : Nat) : nI (k + 1) + (-1) = nI k := by
  rw [← nI_1, Int32.add_assoc, show (1 : Int32) + (-1) = 0 by decide, Int32.add_zero]
theorem cIsOrder1 (h9 : A 9 4 = nI P) (hP : P < 5) : ∀ q i n u, i + q = P → n < 2 ^ 31 → u < 1024 → zP_isOrder_1 d (nI n) (nI u) (nI i) A L = some (some (.int (if zod P q n u then 1 else 0)), A, L) := by
  intro q
  induction q with
  | zero =>
    intro i n u hi hn hu
    rw [zP_isOrder_1_q, h9, if_pos (nI_le (by omega) (by omega)), zP_isOrder_4_q, zod_0, show (0 : Int32) = nI 0 from rfl, zifi (nI_eq hn (by omega))]
    by_cases h0 : n = 0
    · rw [if_pos h0, zP_isOrder_6_q, zcb_1, decide_eq_true h0, ite_tt]
    · rw [if_neg h0, zP_isOrder_5_q, zP_isOrder_6_q, zcb_0, decide_eq_false h0, ite_ft]; rfl
  | succ q ih =>
    intro i n u hi hn hu
    have hm : n % 10 < 10 := Nat.mod_lt _ (by omega)
    have hr : zrem (nI n) 10 = nI (n % 10) := zrem_n (b := 10) hn (by omega) (by omega)
    have hd : nI n / 10 = nI (n / 10) := pk_div (d := 10) hn (by omega) (by omega)
    have hc : ∀ k : Option zR, zcd 10 k = k := fun k => zcd_n (n := 10) (by omega) (by omega)
    rw [zP_isOrder_1_q, h9, if_neg (nI_ge (by omega) (by omega)), hc, if_neg (nI_pos (by omega)), hr, zod_s]
    by_cases h1 : n % 10 < P
    · rw [if_neg (nI_ge h1 (by omega)), zifc (zbit0 (by omega) (by omega))]
      by_cases h2 : u.testBit (n % 10) = false
      · have hu' : u ||| 2 ^ (n % 10) < 1024 := Nat.or_lt_two_pow (n := 10) hu (Nat.pow_lt_pow_right (by omega) hm)
        rw [if_pos h2, if_pos (show n % 10 < P ∧ u.testBit (n % 10) = false from ⟨h1, h2⟩), zP_isOrder_3_q, hc, hd, zpow (by omega), nI_or, nI_1]
        exact ih (i + 1) (n / 10) _ (by omega) (by omega) hu'
      · rw [if_neg h2, if_neg (show ¬ (n % 10 < P ∧ u.testBit (n % 10) = false) from fun hh => h2 hh.2), zP_isOrder_2_q, zcb_0, ite_ft]
    · rw [if_pos (nI_le (by omega) (by omega)), if_neg (show ¬ (n % 10 < P ∧ u.testBit (n % 10) = false) from fun hh => h1 hh.1), zP_isOrder_2_q, zcb_0, ite_ft]
theorem cIsOrder (h9 : A 9 4 = nI P) (hP : P < 5) (hn : n < 2 ^ 31) : zP_isOrder d (nI n) A L = some (some (.int (if zod P P n 0 then 1 else 0)), A, L) := by
  rw [zP_isOrder_q, show (0 : Int32) = nI 0 from rfl]
  exact cIsOrder1 h9 hP P 0 n 0 (by omega) hn (by omega)
theorem cIsOrderNeg (h9 : A 9 4 = nI P) (hP : P < 5) (hx : x < 0) : zP_isOrder d x A L = some (some (.int 0), A, L) := by
  rw [zP_isOrder_q, zP_isOrder_1_q, h9]
  have hc : ∀ k : Option zR, zcd 10 k = k := fun k => zcd_n (n := 10) (by omega) (by omega)
  have hx0 : ¬ x = 0 := fun e => by rw [e] at hx; exact absurd hx (by decide)
  by_cases h0 : nI P ≤ 0
  · rw [if_pos h0, zP_isOrder_4_q, if_neg hx0, zP_isOrder_5_q, zP_isOrder_6_q, zcb_0]
  · rw [if_neg h0, hc, if_pos hx, zP_isOrder_2_q, zcb_0]
/-- what both answer to an order that is none -/
theorem mOrder1 (ho : Ok v) (hw : zmw B v) {x0 : Int32} : ∀ q i n u, i + q = vP v → n < 2 ^ 31 → u < 1024 → zM_order_1 (d + 1) x0 (nI n) (nI u) (nI i) B M = if zod (vP v) q n u then zM_order_5 (d + 1) x0 B M else zbi (zM_no d (-1) B M) (fun r1 A1 L1 => some (some (.int r1), A1, L1)) := by
  have h5 := ho.P
  have w12 : B 63 12 = v 9 4 := hw.2.2.2.2.2.2.2.2.2.2.2.1
  intro q
  induction q with
  | zero =>
    intro i n u hi hn hu
    rw [zM_order_1_q, w12, h5.1, if_pos (nI_le (by omega) (by omega)), zM_order_4_q, zod_0, show (0 : Int32) = nI 0 from rfl, zifi (nI_eq hn (by omega))]
    by_cases h0 : n = 0
    · rw [if_pos h0, decide_eq_true h0, ite_tt]
    · rw [if_neg h0, decide_eq_false h0, ite_ft]
  | succ q ih =>
    intro i n u hi hn hu
    have hm : n % 10 < 10 := Nat.mod_lt _ (by omega)
    have hr : zrem (nI n) 10 = nI (n % 10) := zrem_n (b := 10) hn (by omega) (by omega)
    have hd : nI n / 10 = nI (n / 10) := pk_div (d := 10) hn (by omega) (by omega)
    have hc : ∀ k : Option zR, zcd 10 k = k := fun k => zcd_n (n := 10) (by omega) (by omega)
    rw [zM_order_1_q, w12, h5.1, if_neg (nI_ge (by omega) (by omega)), hc, hc, hr, zod_s]
    by_cases h1 : n % 10 < vP v
    · rw [mOne1 ho hw h1, zbi_s, if_neg (by decide), zifc (zbit1 (by omega) (by omega))]
      by_cases h2 : u.testBit (n % 10) = false
      · have hu' : u ||| 2 ^ (n % 10) < 1024 := Nat.or_lt_two_pow (n := 10) hu (Nat.pow_lt_pow_right (by omega) hm)
        rw [if_neg (by rw [h2]; decide), if_pos (show n % 10 < vP v ∧ u.testBit (n % 10) = false from ⟨h1, h2⟩), zM_order_3_q, hd, zpow (by omega), nI_or, nI_1]
        exact ih (i + 1) (n / 10) _ (by omega) (by omega) hu'
      · rw [if_pos (by simpa using h2), if_neg (show ¬ (n % 10 < vP v ∧ u.testBit (n % 10) = false) from fun hh => h2 hh.2), zM_order_2_q, ite_ft]
    · rw [mOne0 hw (Or.inr (by rw [h5.1]; exact nI_le (by omega) (by omega))), zbi_s, if_pos rfl, if_neg (show ¬ (n % 10 < vP v ∧ u.testBit (n % 10) = false) from fun hh => h1 hh.1), zM_order_2_q, ite_ft]
theorem mOrderNeg (ho : Ok v) (hw : zmw B v) (hx : x < 0) : zM_order (d + 1) x B M = zbi (zM_no d (-1) B M) (fun r1 A1 L1 => some (some (.int r1), A1, L1)) := by
  have h5 := ho.P
  have w12 : B 63 12 = v 9 4 := hw.2.2.2.2.2.2.2.2.2.2.2.1
  have hc : ∀ k : Option zR, zcd 10 k = k := fun k => zcd_n (n := 10) (by omega) (by omega)
  have hne : ∀ y : Int32, y < 0 → ¬ y = 0 := fun y hy e => by rw [e] at hy; exact absurd hy (by decide)
  rw [zM_order_q, zM_order_1_q, w12, h5.1]
  by_cases h0 : nI (vP v) ≤ 0
  · rw [if_pos h0, zM_order_4_q, if_neg (hne x hx)]
  · have hpos : 0 < vP v := by
      rcases Nat.eq_zero_or_pos (vP v) with e | e
      · rw [e] at h0; exact absurd (by decide) h0
      · exact e
    rw [if_neg h0, hc, hc]
    rcases zneg_rem hx with h1 | ⟨h1, h2⟩
    · rw [mOne0 hw (Or.inl h1), zbi_s, if_pos rfl, zM_order_2_q]
    · rw [h1, show (0 : Int32) = nI 0 from rfl, mOne1 ho hw hpos, zbi_s, if_neg (by decide), if_neg (by decide), zM_order_3_q, zM_order_1_q, w12, h5.1]
      by_cases h3 : nI (vP v) ≤ nI 0 + 1
      · rw [if_pos h3, zM_order_4_q, if_neg (hne _ h2)]
      · rw [if_neg h3, hc, hc]
        rcases zneg_rem h2 with k1 | ⟨k1, k2⟩
        · rw [mOne0 hw (Or.inl k1), zbi_s, if_pos rfl, zM_order_2_q]
        · rw [k1, show (0 : Int32) = nI 0 from rfl, mOne1 ho hw hpos, zbi_s, if_neg (by decide), if_pos (by decide), zM_order_2_q]
theorem cPutOrder1 (hP : P < 5) : ∀ q i n A, i + q = P → A 9 4 = nI P → n < 2 ^ 31 → ∃ A', zP_putOrder_1 d (nI n) (nI i) A L = some (none, A', L) ∧ (∀ c, c ≠ 13 → A' c = A c) ∧ A' 13 = zNr n i P (A 13) := by
  intro q
  induction q with
  | zero =>
    intro i n A hi h9 hn
    refine ⟨A, ?_, fun _ _ => rfl, ?_⟩
    · rw [zP_putOrder_1_q, h9, if_pos (nI_le (by omega) (by omega)), zP_putOrder_2_q]
    · funext j; unfold zNr; rw [if_neg (by omega)]
  | succ q ih =>
    intro i n A hi h9 hn
    have hr : zrem (nI n) 10 = nI (n % 10) := zrem_n (b := 10) hn (by omega) (by omega)
    have hd : nI n / 10 = nI (n / 10) := pk_div (d := 10) hn (by omega) (by omega)
    have hc : ∀ k : Option zR, zcd 10 k = k := fun k => zcd_n (n := 10) (by omega) (by omega)
    obtain ⟨A', e1, e2, e3⟩ := ih (i + 1) (n / 10) (zput A 13 i (nI (n % 10))) (by omega) (by rw [zput_o (by decide)]; exact h9) (by omega)
    refine ⟨A', ?_, fun c hc => by rw [e2 c hc, zput_o hc], ?_⟩
    · rw [zP_putOrder_1_q, h9, if_neg (nI_ge (by omega) (by omega)), if_neg (nI_g4 (by omega)), hc, zck_n (by omega) (by decide), hc, nI_clamp (by omega), hr, hd, nI_1]
      exact e1
    · rw [e3, zput_s]
      funext j
      unfold zNr
      by_cases e : j = i
      · rw [e, if_neg (by omega), upd_s, if_pos (by omega), Nat.sub_self, zdi_0]
      · by_cases hj : i + 1 ≤ j ∧ j < P
        · rw [if_pos hj, if_pos (by omega), show j - i = (j - (i + 1)) + 1 by omega, zdi_s]
        · rw [if_neg hj, upd_o e, if_neg (by omega)]
theorem cPutOrder (hP : P < 5) (h9 : A 9 4 = nI P) (hn : n < 2 ^ 31) : ∃ A', zP_putOrder d (nI n) A L = some (none, A', L) ∧ (∀ c, c ≠ 13 → A' c = A c) ∧ A' 13 = zNr n 0 P (A 13) := by
  obtain ⟨A', e1, e2⟩ := cPutOrder1 (d := d) (L := L) hP P 0 n A (by omega) h9 hn
  exact ⟨A', by rw [zP_putOrder_q]; exact e1, e2⟩
theorem mOrder7 (hP : P < 5) {y : Int32} : ∀ q i n B, i + q = P → B 63 12 = nI P → n < 2 ^ 31 → ∃ B', zM_order_7 d (nI n) y (nI i) B M = some (some (.int y), B', M) ∧ (∀ c, c ≠ 72 → B' c = B c) ∧ B' 72 = zNr n i P (B 72) := by
  intro q
  induction q with
  | zero =>
    intro i n A hi h9 hn
    refine ⟨A, ?_, fun _ _ => rfl, ?_⟩
    · rw [zM_order_7_q, h9, if_pos (nI_le (by omega) (by omega)), zM_order_8_q]
    · funext j; unfold zNr; rw [if_neg (by omega)]
  | succ q ih =>
    intro i n A hi h9 hn
    have hr : zrem (nI n) 10 = nI (n % 10) := zrem_n (b := 10) hn (by omega) (by omega)
    have hd : nI n / 10 = nI (n / 10) := pk_div (d := 10) hn (by omega) (by omega)
    have hc : ∀ k : Option zR, zcd 10 k = k := fun k => zcd_n (n := 10) (by omega) (by omega)
    obtain ⟨A', e1, e2, e3⟩ := ih (i + 1) (n / 10) (zput A 72 i (nI (n % 10))) (by omega) (by rw [zput_o (by decide)]; exact h9) (by omega)
    refine ⟨A', ?_, fun c hc => by rw [e2 c hc, zput_o hc], ?_⟩
    · rw [zM_order_7_q, h9, if_neg (nI_ge (by omega) (by omega)), hc, zck_n (by omega) (by decide), hc, nI_clamp (by omega), hr, hd, nI_1]
      exact e1
    · rw [e3, zput_s]
      funext j
      unfold zNr
      by_cases e : j = i
      · rw [e, if_neg (by omega), upd_s, if_pos (by omega), Nat.sub_self, zdi_0]
      · by_cases hj : i + 1 ≤ j ∧ j < P
        · rw [if_pos hj, if_pos (by omega), show j - i = (j - (i + 1)) + 1 by omega, zdi_s]
        · rw [if_neg hj, upd_o e, if_neg (by omega)]
/-- the order as a number -/
theorem cOrderDigits1 (h9 : A 9 4 = nI P) (hP : P < 5) (hf : ∀ j, j < P → A 13 j = nI (f j)) : ∀ k x, k ≤ P → zP_orderDigits_1 d (nI x) (nI k + (-1)) A L = some (some (.int (nI (10 ^ k * x + zds f k))), A, L) := by
  intro k
  induction k with
  | zero =>
    intro x _
    rw [zP_orderDigits_1_q, if_pos (by decide), zP_orderDigits_4_q, Nat.pow_zero, Nat.one_mul]; rfl
  | succ k ih =>
    intro x hk
    rw [nI_m1, zP_orderDigits_1_q, if_neg (nI_pos (by omega)), h9, if_neg (nI_ge (by omega) (by omega)), zck_n (by omega) (by decide), nI_clamp (by omega), hf k (by omega), show (10 : Int32) = nI 10 from rfl, pk_mul, nI_add, zP_orderDigits_3_q, ih _ (by omega), zds_s, Nat.pow_succ, Nat.mul_add]
    rw [show 10 ^ k * (x * 10) + 10 ^ k * f k + zds f k = 10 ^ k * 10 * x + (zds f k + 10 ^ k * f k) by rw [Nat.mul_comm x 10, ← Nat.mul_assoc]; omega]
theorem cOrderDigits (h9 : A 9 4 = nI P) (hP : P < 5) (hf : ∀ j, j < P → A 13 j = nI (f j)) : zP_orderDigits d A L = some (some (.int (nI (zds f P))), A, L) := by
  have hskip : ∀ q, P + q ≤ 4 → zP_orderDigits_1 d 0 (nI (P + q) + (-1)) A L = zP_orderDigits_1 d 0 (nI P + (-1)) A L := by
    intro q
    induction q with
    | zero => intro _; rfl
    | succ q ih =>
      intro hq
      rw [← ih (by omega), show P + (q + 1) = P + q + 1 by omega, nI_m1, zP_orderDigits_1_q, if_neg (nI_pos (by omega)), h9, if_pos (nI_le (by omega) (by omega)), zP_orderDigits_2_q, zP_orderDigits_3_q]
  have h := cOrderDigits1 (d := d) (L := L) h9 hP hf P 0 (Nat.le_refl P)
  rw [Nat.mul_zero, Nat.zero_add] at h
  have h3 := hskip (4 - P) (by omega)
  rw [show P + (4 - P) = 4 by omega, show nI 4 + (-1) = (3 : Int32) by decide] at h3
  rw [zP_orderDigits_q, h3]
  exact h
theorem mOrderDigits1 (hP : P < 5) (hf : ∀ j, j < P → B 72 j = nI (f j)) : ∀ k x, k ≤ P → zM_orderDigits_1 d (nI x) (nI k + (-1)) B M = some (some (.int (nI (10 ^ k * x + zds f k))), B, M) := by
  intro k
  induction k with
  | zero =>
    intro x _
    rw [zM_orderDigits_1_q, if_pos (by decide), zM_orderDigits_2_q, Nat.pow_zero, Nat.one_mul]; rfl
  | succ k ih =>
    intro x hk
    rw [nI_m1, zM_orderDigits_1_q, if_neg (nI_pos (by omega)), zck_n (by omega) (by decide), nI_clamp (by omega), hf k (by omega), show (10 : Int32) = nI 10 from rfl, pk_mul, nI_add, ih _ (by omega), zds_s, Nat.pow_succ, Nat.mul_add]
    rw [show 10 ^ k * (10 * x) + 10 ^ k * f k + zds f k = 10 ^ k * 10 * x + (zds f k + 10 ^ k * f k) by rw [← Nat.mul_assoc]; omega]
theorem mOrderDigits (h12 : B 63 12 = nI P) (hP : P < 5) (hf : ∀ j, j < P → B 72 j = nI (f j)) : zM_orderDigits d B M = some (some (.int (nI (zds f P))), B, M) := by
  have h := mOrderDigits1 (d := d) (M := M) hP hf P 0 (Nat.le_refl P)
  rw [Nat.mul_zero, Nat.zero_add] at h
  rw [zM_orderDigits_q, h12, Int32.sub_eq_add_neg]
  exact h
theorem vTr_at (ho : Ok v) {j : Nat} (hj : j < vP v) : v 13 j = nI (vTr v j) ∧ vTr v j < vP v := by
  have h := ho.tr (by omega) j
  rw [Nat.mod_eq_of_lt hj] at h
  exact h
theorem zNat (x : Int32) : x < 0 ∨ ∃ n, n < 2 ^ 31 ∧ x = nI n := by
  rcases pk_ix x (n := 2 ^ 31 - 1) (by omega) with h | h | ⟨j, h1, h2⟩
  · exact Or.inl h
  · refine Or.inr ⟨2 ^ 31 - 1, by omega, ?_⟩
    have h2 := Int32.le_iff_toInt_le.mp h
    rw [nI_toInt (by omega)] at h2
    have h3 := Int32.toInt_lt x
    apply Int32.toInt.inj
    rw [nI_toInt (by omega)]
    omega
  · exact Or.inr ⟨j, by omega, h2⟩
/-- a world in another order -/
def vOr (v : zA) (n : Nat) : zA := fun c => if c = 13 then zNr n 0 (vP v) (v 13) else v c
theorem vOr_o {c : Nat} (h : c ≠ 13) : vOr v n c = v c := if_neg h
theorem vOr_13 : vOr v n 13 = zNr n 0 (vP v) (v 13) := if_pos rfl
theorem vP_or : vP (vOr v n) = vP v := by unfold vP; rw [vOr_o (by decide)]
theorem Ok_or (ho : Ok v) (h : zod (vP v) (vP v) n 0 = true) : Ok (vOr v n) := by
  have h5 := ho.P.2
  have hin : ∀ j, j < vP v → vOr v n 13 j = nI (zdi n j) ∧ zdi n j < vP v := fun j hj => by
    rw [vOr_13]
    unfold zNr
    rw [if_pos (by omega), Nat.sub_zero]
    exact ⟨rfl, (zod_in h j hj).1⟩
  refine Ok_people (v := v) (fun c hc => vOr_o (by omega)) (by rw [vOr_o (by decide), vOr_o (by decide)]; exact ho.pp) (by rw [vOr_o (by decide)]; exact ho.ww) (fun j hj => ?_) (fun j hj => ?_) (fun i j hi hj e => ?_) ho
  · by_cases hp : j < vP v
    · rw [(hin j hp).1]; exact zIs_n (by have := (hin j hp).2; omega)
    · rw [vOr_13]; unfold zNr; rw [if_neg (by omega)]; exact ho.t4 j hj
  · rw [(hin j hj).1]; exact zIs_n (hin j hj).2
  · rw [(hin i hi).1, (hin j hj).1] at e
    exact zod_ne h hi hj ((nI_eq (by have := (hin i hi).2; omega) (by have := (hin j hj).2; omega)).mp e)
theorem zP_order (x : Int32) : zPr (zX_order (d + 70) x) (zM_order (d + 70) x) := by
  intro a A L h ha
  obtain ⟨v, hv⟩ : ∃ v, zv A = v := ⟨_, rfl⟩
  have ho := h.ok
  have hw := h.mw
  rw [hv] at ho hw
  have h5 := ho.P
  have h9 : A 9 4 = nI (vP v) := by rw [zv_c hv 9 (by decide), h5.1]
  have h14 := ho.sz
  rcases zNat x with hx | ⟨n, hn, rfl⟩
  · exact zPr_no (zNo1 h) (fun A1 n1 => by rw [zX_order_q, cIsOrderNeg h9 h5.2 hx, zbi_s, if_pos rfl, n1, zbi_s]) (fun A1 A2 n2 n4 => by rw [mOrderNeg ho (zmw62 hw n4) hx, n2, zbi_s])
  have hM : ∀ B, zmw B v → zM_order (d + 70) (nI n) B L = if zod (vP v) (vP v) n 0 then zM_order_5 (d + 70) (nI n) B L else zbi (zM_no (d + 69) (-1) B L) (fun r1 A1 L1 => some (some (.int r1), A1, L1)) := fun B hwB => by
    rw [zM_order_q]
    exact mOrder1 (d := d + 69) (M := L) ho hwB (x0 := nI n) (vP v) 0 n 0 (by omega) hn (by omega)
  have hX : zX_order (d + 70) (nI n) A L = if zod (vP v) (vP v) n 0 then zX_order_1 (d + 70) (nI n) A L else zbi (zX_refused (d + 69) (-1) A L) (fun r2 A2 L2 => some (some (.int r2), A2, L2)) := by
    rw [zX_order_q, cIsOrder h9 h5.2 hn, zbi_s]
    cases zod (vP v) (vP v) n 0
    · rw [ite_ft, if_pos rfl, ite_ft]
    · rw [ite_tt, if_neg (by decide), ite_tt]
  by_cases hz' : zod (vP v) (vP v) n 0 = false
  · exact zPr_no (zNo1 h) (fun A1 n1 => by rw [hX, hz', ite_ft, n1, zbi_s]) (fun A1 A2 n2 n4 => by rw [hM A1 (zmw62 hw n4), hz', ite_ft, n2, zbi_s])
  have hz : zod (vP v) (vP v) n 0 = true := by simpa using hz'
  by_cases hs' : ¬ vSz v = 0
  · refine zPr_no (zNo3 h) (fun A1 n1 => ?_) (fun A1 A2 n2 n4 => ?_)
    · rw [hX, hz, ite_tt, zX_order_1_q, zv_c hv 14 (by decide), h14.1, if_neg (nI_nle (by omega) (by omega)), n1, zbi_s]
    · have w15 : A1 63 15 = v 14 2 := (zmw62 hw n4).2.2.2.2.2.2.2.2.2.2.2.2.2.2.1
      rw [hM A1 (zmw62 hw n4), hz, ite_tt, zM_order_5_q, w15, h14.1, if_neg (nI_nle (by omega) (by omega)), n2, zbi_s]
  have hs : vSz v = 0 := by omega
  have hvt : ∀ j, j < vP v → v 13 j = nI (vTr v j) := fun j hj => (vTr_at ho hj).1
  obtain ⟨A1, c1, c2, c3⟩ := cPutOrder (A := A) (d := d + 69) (L := L) h5.2 h9 hn
  have hw72 : A 72 = v 13 := hw.2.2.2.2.2.2.2.1
  have w12 : A1 63 12 = nI (vP v) := by rw [c2 63 (by decide), hw.2.2.2.2.2.2.2.2.2.2.2.1, h5.1]
  obtain ⟨B, m1, m2, m3⟩ := mOrder7 (P := vP v) (d := d + 70) (M := L) (y := nI (zds (vTr v) (vP v))) h5.2 (vP v) 0 n A1 (by omega) w12 hn
  have hc : ∀ c, c ≠ 13 → c ≠ 72 → B c = A c := fun c h1 h2 => by rw [m2 c h2, c2 c h1]
  have hvB : zv B = vOr v n := by
    funext c
    by_cases e : c = 13
    · rw [e, zv_at (by decide), m2 13 (by decide), c3, vOr_13, zv_c hv 13 (by decide)]
    · rw [vOr_o e, ← hv]
      unfold zv
      split
      · rw [hc c e (by omega)]
      · rfl
  refine ⟨nI (zds (vTr v) (vP v)), A1, L, B, L, ?_, ?_, RR_w h (zPo_of (fun c hc' => hc c (by omega) (by omega)) (fun j _ => by rw [hc 63 (by decide) (by decide)])) (by rw [hvB]; exact Ok_or ho hz) ?_ ?_⟩
  · rw [hX, hz, ite_tt, zX_order_1_q, zv_c hv 14 (by decide), h14.1, hs, if_pos (by decide), zX_order_2_q, cOrderDigits h9 h5.2 (fun j hj => by rw [zv_c hv 13 (by decide)]; exact hvt j hj), zbi_s, c1, zbv_s]
  · have w15 : A1 63 15 = v 14 2 := by rw [c2 63 (by decide)]; exact hw.2.2.2.2.2.2.2.2.2.2.2.2.2.2.1
    have hM1 : zM_order (d + 70) (nI n) A1 L = zM_order_5 (d + 70) (nI n) A1 L := by
      have hwA : zmw A1 v := zmw_of hw (fun c h1 h2 => c2 c (by omega))
      rw [hM A1 hwA, hz, ite_tt]
    rw [hM1, zM_order_5_q, w15, h14.1, hs, if_pos (by decide), zM_order_6_q, mOrderDigits w12 h5.2 (fun j hj => by rw [c2 72 (by decide), hw72]; exact hvt j hj), zbi_s]
    exact m1
  · rw [hvB]
    have hw' := hw
    obtain ⟨-, -, -, -, w69, w70, w71, w72, -⟩ := hw'
    exact zmw_people hw (fun i _ _ => by rw [hc 63 (by decide) (by decide)]) (fun c hc' => hc c (by omega) (by omega)) (fun c hc' => vOr_o (by omega)) (by rw [hc 69 (by decide) (by decide), w69, vOr_o (by decide)]) (by rw [hc 70 (by decide) (by decide), w70, vOr_o (by decide)]) (by rw [hc 71 (by decide) (by decide), w71, vOr_o (by decide)]) (by rw [m3, c2 72 (by decide), w72, vOr_13])
  · obtain ⟨b, b1, b2⟩ := h.old
    exact ⟨b, by omega, zOld_of b2 (by rw [hc 51 (by decide) (by decide)]) (hc 52 (by decide) (by decide)) (hc 53 (by decide) (by decide))⟩
end OR
