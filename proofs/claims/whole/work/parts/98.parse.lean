/-! ===== letters read: what a statement is, and the class reads it so ===== -/
def ztl (T : Nat → Int32) (a : Nat) : Nat := (T a).toNatClampNeg
/-- a letter that is there, between two -/
def zin (T : Nat → Int32) (n a l h : Nat) : Bool := decide (a < n) && (decide (nI l ≤ T a) && decide (T a ≤ nI h))
theorem zin_lt {T : Nat → Int32} {n a l h : Nat} (hz : zin T n a l h = true) : a < n := by
  unfold zin at hz
  rw [Bool.and_eq_true] at hz
  exact of_decide_eq_true hz.1
theorem zin_l {T : Nat → Int32} {n a l h : Nat} (hz : zin T n a l h = true) : nI l ≤ T a := by
  unfold zin at hz
  rw [Bool.and_eq_true, Bool.and_eq_true] at hz
  exact of_decide_eq_true hz.2.1
theorem zin_h {T : Nat → Int32} {n a l h : Nat} (hz : zin T n a l h = true) : T a ≤ nI h := by
  unfold zin at hz
  rw [Bool.and_eq_true, Bool.and_eq_true] at hz
  exact of_decide_eq_true hz.2.2
theorem zin_n {T : Nat → Int32} {n a l h : Nat} (hh : h < 1000) (hl : l < 1000) (hz : zin T n a l h = true) : T a = nI (ztl T a) ∧ l ≤ ztl T a ∧ ztl T a ≤ h := by
  have h1 := Int32.le_iff_toInt_le.mp (zin_l hz)
  have h2 := Int32.le_iff_toInt_le.mp (zin_h hz)
  rw [nI_toInt (by omega)] at h1
  rw [nI_toInt (by omega)] at h2
  rcases zIs_or (T a) (b := 1000) (by omega) with k | k | ⟨j, k1, k2⟩
  · have k' := Int32.lt_iff_toInt_lt.mp k
    rw [show (0 : Int32).toInt = 0 by decide] at k'
    omega
  · have k' := Int32.le_iff_toInt_le.mp k
    rw [nI_toInt (by omega)] at k'
    omega
  · unfold ztl
    rw [k2, nI_toInt (by omega)] at h1 h2
    rw [k2, nI_clamp (by omega)]
    exact ⟨rfl, by omega, by omega⟩
theorem zin_no {T : Nat → Int32} {n a l h : Nat} (hz : zin T n a l h = false) (ha : a < n) : T a < nI l ∨ nI h < T a := by
  unfold zin at hz
  rw [decide_eq_true ha, Bool.true_and, Bool.and_eq_false_iff] at hz
  rcases hz with hz | hz
  · exact Or.inl (Int32.not_le.mp (of_decide_eq_false hz))
  · exact Or.inr (Int32.not_le.mp (of_decide_eq_false hz))
theorem zin_yes {T : Nat → Int32} {n a l h : Nat} (ha : a < n) (h1 : nI l ≤ T a) (h2 : T a ≤ nI h) : zin T n a l h = true := by
  unfold zin
  rw [decide_eq_true ha, decide_eq_true h1, decide_eq_true h2]; rfl
/-- the letters of the words that one has: where they end, and the words -/
def zwe (T : Nat → Int32) (n : Nat) : Nat → Nat → Nat → Nat → Nat × Nat
  | 0, _, b, M => (b, M)
  | q + 1, w, b, M => if zin T n b w w then zwe T n q (w + 1) (b + 1) (M ||| 2 ^ (w - 97)) else zwe T n q (w + 1) b M
theorem zwe_s {T : Nat → Int32} {n q w b M : Nat} : zwe T n (q + 1) w b M = if zin T n b w w then zwe T n q (w + 1) (b + 1) (M ||| 2 ^ (w - 97)) else zwe T n q (w + 1) b M := rfl
theorem zwe_le {T : Nat → Int32} {n : Nat} : ∀ {q w b M : Nat}, b ≤ (zwe T n q w b M).1 ∧ (b ≤ n → (zwe T n q w b M).1 ≤ n)
  | 0, w, b, M => ⟨Nat.le_refl _, fun h => h⟩
  | q + 1, w, b, M => by
    rw [zwe_s]
    cases h : zin T n b w w
    · rw [ite_ft]
      exact zwe_le
    · rw [ite_tt]
      have h1 := zin_lt h
      obtain ⟨h2, h3⟩ := zwe_le (T := T) (n := n) (q := q) (w := w + 1) (b := b + 1) (M := M ||| 2 ^ (w - 97))
      exact ⟨by omega, fun _ => h3 (by omega)⟩
def zsR (T : Nat → Int32) (n a : Nat) : Bool × Nat := if zin T n (a + 1) 48 57 then (if zin T n (a + 2) 97 104 then (if zin T n (a + 3) 48 57 then (if zin T n (a + 4) 65 70 then (if zin T n (a + 5) 59 59 then (true, a + 6) else (false, a + 5)) else (if zin T n (a + 4) 59 59 then (true, a + 5) else (false, a + 4))) else (false, a + 3)) else (false, a + 2)) else (false, a + 1)
def zsE (T : Nat → Int32) (n a : Nat) : Bool × Nat := if zin T n (a + 1) 48 57 then (if zin T n (a + 2) 59 59 then (true, a + 3) else (false, a + 2)) else (false, a + 1)
def zwb (T : Nat → Int32) (n a : Nat) : Nat := (zwe T n 8 97 (a + 2) 0).1
def zsP (T : Nat → Int32) (n a : Nat) : Bool × Nat := if zin T n (a + 1) 48 57 then (if zin T n (zwb T n a) 59 59 then (true, zwb T n a + 1) else (false, zwb T n a)) else (false, a + 1)
def zsD (T : Nat → Int32) (n a : Nat) : Bool × Nat := if zin T n (a + 4) 48 57 then (if zin T n (a + 5) 59 59 then (true, a + 6) else (false, a + 5)) else (false, a + 4)
def zsV (T : Nat → Int32) (n a : Nat) : Bool × Nat := if zin T n (a + 1) 48 57 then (if zin T n (a + 2) 65 70 then (if zin T n (a + 3) 43 43 then zsD T n a else if zin T n (a + 3) 45 45 then zsD T n a else (false, a + 3)) else (false, a + 2)) else (false, a + 1)
/-- a statement: whether it is one, and where it ends -/
def zst (T : Nat → Int32) (n a : Nat) : Bool × Nat := if zin T n a 114 114 then zsR T n a else if zin T n a 101 101 then zsE T n a else if zin T n a 108 108 then zsE T n a else if zin T n a 112 112 then zsP T n a else if zin T n a 118 118 then zsV T n a else (false, a)
/-- the class's reader at a place -/
def zSr (A : zA) (a : Nat) : zA := zput A 33 3 (nI a)
section CR
variable {d n a b : Nat} {A A0 B : zA} {L : zL} {T : Nat → Int32}
theorem zSr_s : zput (zSr A a) 33 3 (nI b) = zSr A b := by
  unfold zSr
  funext c
  by_cases e : c = 33
  · subst e; rw [zput_s, zput_s, zput_s, upd_uu]
  · rw [zput_o e, zput_o e, zput_o e]
theorem zSr_o {c : Nat} (h : c ≠ 33) : zSr A a c = A c := zput_o h
theorem zSr_2 : zSr A a 33 2 = A 33 2 := by unfold zSr; rw [zput_s, upd_o (by decide)]
theorem zSr_3 : zSr A a 33 3 = nI a := by unfold zSr; rw [zput_s, upd_s]
theorem cLetter (ha : a < 64) : zR_letter d (nI a) A L = some (some (.int (A 34 a)), A, L) := by
  rw [zR_letter_q, if_neg (nI_pos (by omega)), if_neg (nI_g64 ha), zck_n ha (by decide), nI_clamp (by omega), zR_letter_2_q]
theorem cTk {lo hi : Int32} {l h : Nat} (hl : lo = nI l) (hh : hi = nI h) (h2 : A0 33 2 = nI n) (hn : n ≤ 64) (ha : a ≤ 64) (hT : A0 34 = T) : zR_take (d + 1) lo hi (zSr A0 a) L = if zin T n a l h then some (some (.int 1), zSr A0 (a + 1), L) else some (some (.int 0), zSr A0 a, L) := by
  have h34 : zSr A0 a 34 = T := by rw [zSr_o (by decide), hT]
  rw [zR_take_q, zSr_2, zSr_3, h2, zifi (nI_leI (by omega) (by omega))]
  by_cases h0 : n ≤ a
  · have hz : zin T n a l h = false := by unfold zin; rw [decide_eq_false (by omega), Bool.false_and]
    rw [if_pos h0, hz, ite_ft, zR_take_1_q, zcb_0]
  · have han : a < n := by omega
    rw [if_neg h0, cLetter (by omega), zbi_s, h34, hl, zSr_3, cLetter (by omega), zbi_s, h34, hh]
    by_cases h1 : nI l ≤ T a
    · rw [if_neg (Int32.not_lt.mpr h1)]
      by_cases h3 : T a ≤ nI h
      · rw [if_pos h3, zin_yes han h1 h3, ite_tt, zR_take_2_q, zcb_1, zSr_3, nI_1, zSr_s]
      · have hz : zin T n a l h = false := by unfold zin; rw [decide_eq_false h3, Bool.and_false, Bool.and_false]
        rw [if_neg h3, hz, ite_ft, zR_take_1_q, zcb_0]
    · have hz : zin T n a l h = false := by unfold zin; rw [decide_eq_false h1, Bool.false_and, Bool.and_false]
      rw [if_pos (Int32.not_le.mp h1), hz, ite_ft, zR_take_1_q, zcb_0]
theorem cTy {lo hi : Int32} {l h : Nat} (hl : lo = nI l) (hh : hi = nI h) (h2 : A0 33 2 = nI n) (hn : n ≤ 64) (hT : A0 34 = T) (hz : zin T n a l h = true) : zR_take (d + 1) lo hi (zSr A0 a) L = some (some (.int 1), zSr A0 (a + 1), L) := by
  rw [cTk hl hh h2 hn (by have := zin_lt hz; omega) hT, hz, ite_tt]
theorem cTn {lo hi : Int32} {l h : Nat} (hl : lo = nI l) (hh : hi = nI h) (h2 : A0 33 2 = nI n) (hn : n ≤ 64) (ha : a ≤ 64) (hT : A0 34 = T) (hz : zin T n a l h = false) : zR_take (d + 1) lo hi (zSr A0 a) L = some (some (.int 0), zSr A0 a, L) := by
  rw [cTk hl hh h2 hn ha hT, hz, ite_ft]
theorem cPersonEnd (h2 : A0 33 2 = nI n) (hn : n ≤ 64) (hT : A0 34 = T) : ∀ q w b M, w + q = 105 → 97 ≤ w → b ≤ 64 → zR_isEndOfPerson_1 (d + 2) (nI w) (zSr A0 b) L = zR_isEndOfPerson_2 (d + 2) (zSr A0 (zwe T n q w b M).1) L := by
  intro q
  induction q with
  | zero =>
    intro w b M hw hw2 hb
    have e : w = 105 := by omega
    subst e
    rw [zR_isEndOfPerson_1_q, if_pos (by decide)]; rfl
  | succ q ih =>
    intro w b M hw hw2 hb
    rw [zR_isEndOfPerson_1_q, if_neg (show ¬ (104 : Int32) < nI w from by rw [show (104 : Int32) = nI 104 from rfl]; exact nI_nlt (by omega) (by omega)), zwe_s]
    cases hz : zin T n b w w
    · rw [cTn rfl rfl h2 hn hb hT hz, zbi_s, nI_1, ite_ft]
      exact ih (w + 1) b M (by omega) (by omega) hb
    · rw [cTy rfl rfl h2 hn hT hz, zbi_s, nI_1, ite_tt]
      exact ih (w + 1) (b + 1) _ (by omega) (by omega) (by have := zin_lt hz; omega)
theorem cStR (h2 : A0 33 2 = nI n) (hn : n ≤ 64) (hT : A0 34 = T) (hr : zin T n a 114 114 = true) : zR_isStatement (d + 3) (zSr A0 a) L = some (some (.int (if (zsR T n a).1 then 1 else 0)), zSr A0 (zsR T n a).2, L) := by
  have ha := zin_lt hr
  rw [zR_isStatement_q, cTy (lo := 114) (hi := 114) (l := 114) (h := 114) rfl rfl h2 hn hT hr, zbi_s, if_neg (by decide)]
  unfold zsR
  cases z1 : zin T n (a + 1) 48 57
  · rw [cTn (lo := 48) (hi := 57) (l := 48) (h := 57) rfl rfl h2 hn (by omega) hT z1, zbi_s, if_pos rfl, zR_isStatement_1_q, zR_isStatement_2_q, zcb_0]; rfl
  have a1 := zin_lt z1
  rw [cTy (lo := 48) (hi := 57) (l := 48) (h := 57) rfl rfl h2 hn hT z1, zbi_s, if_neg (by decide)]
  cases z2 : zin T n (a + 2) 97 104
  · rw [cTn (lo := 97) (hi := 104) (l := 97) (h := 104) rfl rfl h2 hn (by omega) hT z2, zbi_s, if_pos rfl, zR_isStatement_1_q, zR_isStatement_2_q, zcb_0]; rfl
  have a2 := zin_lt z2
  rw [cTy (lo := 97) (hi := 104) (l := 97) (h := 104) rfl rfl h2 hn hT z2, zbi_s, if_neg (by decide)]
  cases z3 : zin T n (a + 3) 48 57
  · rw [cTn (lo := 48) (hi := 57) (l := 48) (h := 57) rfl rfl h2 hn (by omega) hT z3, zbi_s, if_pos rfl, zR_isStatement_1_q, zR_isStatement_2_q, zcb_0]; rfl
  have a3 := zin_lt z3
  rw [cTy (lo := 48) (hi := 57) (l := 48) (h := 57) rfl rfl h2 hn hT z3, zbi_s, if_neg (by decide), zR_isEndOfRule_q]
  cases z4 : zin T n (a + 4) 65 70
  · rw [cTn (lo := 65) (hi := 70) (l := 65) (h := 70) rfl rfl h2 hn (by omega) hT z4, zbi_s]
    cases z5 : zin T n (a + 4) 59 59
    · rw [cTn (lo := 59) (hi := 59) (l := 59) (h := 59) rfl rfl h2 hn (by omega) hT z5, zbi_s, zcb_0, zbi_s, if_pos rfl, zR_isStatement_1_q, zR_isStatement_2_q, zcb_0]; rfl
    · rw [cTy (lo := 59) (hi := 59) (l := 59) (h := 59) rfl rfl h2 hn hT z5, zbi_s, zcb_1, zbi_s, if_neg (by decide), zR_isStatement_2_q, zcb_1]; rfl
  · have a4 := zin_lt z4
    rw [cTy (lo := 65) (hi := 70) (l := 65) (h := 70) rfl rfl h2 hn hT z4, zbi_s]
    cases z5 : zin T n (a + 5) 59 59
    · rw [cTn (lo := 59) (hi := 59) (l := 59) (h := 59) rfl rfl h2 hn (by omega) hT z5, zbi_s, zcb_0, zbi_s, if_pos rfl, zR_isStatement_1_q, zR_isStatement_2_q, zcb_0]; rfl
    · rw [cTy (lo := 59) (hi := 59) (l := 59) (h := 59) rfl rfl h2 hn hT z5, zbi_s, zcb_1, zbi_s, if_neg (by decide), zR_isStatement_2_q, zcb_1]; rfl
theorem cStE (h2 : A0 33 2 = nI n) (hn : n ≤ 64) (hT : A0 34 = T) (ha : a < n) : zR_isStatement_4 (d + 2) (zSr A0 (a + 1)) L = some (some (.int (if (zsE T n a).1 then 1 else 0)), zSr A0 (zsE T n a).2, L) := by
  rw [zR_isStatement_4_q]
  unfold zsE
  cases z1 : zin T n (a + 1) 48 57
  · rw [cTn (lo := 48) (hi := 57) (l := 48) (h := 57) rfl rfl h2 hn (by omega) hT z1, zbi_s, if_pos rfl, zR_isStatement_5_q, zR_isStatement_6_q, zcb_0]; rfl
  have a1 := zin_lt z1
  rw [cTy (lo := 48) (hi := 57) (l := 48) (h := 57) rfl rfl h2 hn hT z1, zbi_s, if_neg (by decide)]
  cases z2 : zin T n (a + 2) 59 59
  · rw [cTn (lo := 59) (hi := 59) (l := 59) (h := 59) rfl rfl h2 hn (by omega) hT z2, zbi_s, if_pos rfl, zR_isStatement_5_q, zR_isStatement_6_q, zcb_0]; rfl
  · rw [cTy (lo := 59) (hi := 59) (l := 59) (h := 59) rfl rfl h2 hn hT z2, zbi_s, if_neg (by decide), zR_isStatement_6_q, zcb_1]; rfl
theorem cStP (h2 : A0 33 2 = nI n) (hn : n ≤ 64) (hT : A0 34 = T) (hp : zin T n a 112 112 = true) : zR_isStatement_7 (d + 4) (zSr A0 a) L = some (some (.int (if (zsP T n a).1 then 1 else 0)), zSr A0 (zsP T n a).2, L) := by
  have ha := zin_lt hp
  rw [zR_isStatement_7_q, cTy (lo := 112) (hi := 112) (l := 112) (h := 112) rfl rfl h2 hn hT hp, zbi_s, if_neg (by decide)]
  unfold zsP
  cases z1 : zin T n (a + 1) 48 57
  · rw [cTn (lo := 48) (hi := 57) (l := 48) (h := 57) rfl rfl h2 hn (by omega) hT z1, zbi_s, if_pos rfl, zR_isStatement_8_q, zR_isStatement_9_q, zcb_0]; rfl
  have a1 := zin_lt z1
  have hb := (zwe_le (T := T) (n := n) (q := 8) (w := 97) (b := a + 2) (M := 0)).2 (by omega)
  have hpe := cPersonEnd (d := d + 1) (L := L) h2 hn hT 8 97 (a + 2) 0 (by omega) (by omega) (by omega)
  rw [cTy (lo := 48) (hi := 57) (l := 48) (h := 57) rfl rfl h2 hn hT z1, zbi_s, if_neg (by decide), zR_isEndOfPerson_q, show (97 : Int32) = nI 97 from rfl, hpe, zR_isEndOfPerson_2_q]
  cases z2 : zin T n (zwb T n a) 59 59
  · rw [show (zwe T n 8 97 (a + 2) 0).1 = zwb T n a from rfl, cTn (lo := 59) (hi := 59) (l := 59) (h := 59) rfl rfl h2 hn (show zwb T n a ≤ 64 from by unfold zwb; omega) hT z2, zbi_s, zcb_0, zbi_s, if_pos rfl, zR_isStatement_8_q, zR_isStatement_9_q, zcb_0]; rfl
  · rw [show (zwe T n 8 97 (a + 2) 0).1 = zwb T n a from rfl, cTy (lo := 59) (hi := 59) (l := 59) (h := 59) rfl rfl h2 hn hT z2, zbi_s, zcb_1, zbi_s, if_neg (by decide), zR_isStatement_9_q, zcb_1]; rfl
theorem cStD (h2 : A0 33 2 = nI n) (hn : n ≤ 64) (hT : A0 34 = T) (ha : a + 3 < n) : zR_isStatement_11 (d + 2) (zSr A0 (a + 4)) L = some (some (.int (if (zsD T n a).1 then 1 else 0)), zSr A0 (zsD T n a).2, L) := by
  rw [zR_isStatement_11_q]
  unfold zsD
  cases z1 : zin T n (a + 4) 48 57
  · rw [cTn (lo := 48) (hi := 57) (l := 48) (h := 57) rfl rfl h2 hn (by omega) hT z1, zbi_s, if_pos rfl, zR_isStatement_12_q, zR_isStatement_13_q, zcb_0]; rfl
  have a1 := zin_lt z1
  rw [cTy (lo := 48) (hi := 57) (l := 48) (h := 57) rfl rfl h2 hn hT z1, zbi_s, if_neg (by decide)]
  cases z2 : zin T n (a + 5) 59 59
  · rw [cTn (lo := 59) (hi := 59) (l := 59) (h := 59) rfl rfl h2 hn (by omega) hT z2, zbi_s, if_pos rfl, zR_isStatement_12_q, zR_isStatement_13_q, zcb_0]; rfl
  · rw [cTy (lo := 59) (hi := 59) (l := 59) (h := 59) rfl rfl h2 hn hT z2, zbi_s, if_neg (by decide), zR_isStatement_13_q, zcb_1]; rfl
theorem cStV (h2 : A0 33 2 = nI n) (hn : n ≤ 64) (hT : A0 34 = T) (hp : zin T n a 118 118 = true) : zR_isStatement_10 (d + 2) (zSr A0 a) L = some (some (.int (if (zsV T n a).1 then 1 else 0)), zSr A0 (zsV T n a).2, L) := by
  have ha := zin_lt hp
  rw [zR_isStatement_10_q, cTy (lo := 118) (hi := 118) (l := 118) (h := 118) rfl rfl h2 hn hT hp, zbi_s, if_neg (by decide)]
  unfold zsV
  cases z1 : zin T n (a + 1) 48 57
  · rw [cTn (lo := 48) (hi := 57) (l := 48) (h := 57) rfl rfl h2 hn (by omega) hT z1, zbi_s, if_pos rfl, zR_isStatement_12_q, zR_isStatement_13_q, zcb_0]; rfl
  have a1 := zin_lt z1
  rw [cTy (lo := 48) (hi := 57) (l := 48) (h := 57) rfl rfl h2 hn hT z1, zbi_s, if_neg (by decide)]
  cases z2 : zin T n (a + 2) 65 70
  · rw [cTn (lo := 65) (hi := 70) (l := 65) (h := 70) rfl rfl h2 hn (by omega) hT z2, zbi_s, if_pos rfl, zR_isStatement_12_q, zR_isStatement_13_q, zcb_0]; rfl
  have a2 := zin_lt z2
  rw [cTy (lo := 65) (hi := 70) (l := 65) (h := 70) rfl rfl h2 hn hT z2, zbi_s, if_neg (by decide)]
  cases z3 : zin T n (a + 3) 43 43
  · rw [cTn (lo := 43) (hi := 43) (l := 43) (h := 43) rfl rfl h2 hn (by omega) hT z3, zbi_s, if_pos rfl]
    cases z4 : zin T n (a + 3) 45 45
    · rw [cTn (lo := 45) (hi := 45) (l := 45) (h := 45) rfl rfl h2 hn (by omega) hT z4, zbi_s, if_pos rfl, zR_isStatement_12_q, zR_isStatement_13_q, zcb_0]; rfl
    · rw [cTy (lo := 45) (hi := 45) (l := 45) (h := 45) rfl rfl h2 hn hT z4, zbi_s, if_neg (by decide), cStD h2 hn hT (zin_lt z4)]; rfl
  · rw [cTy (lo := 43) (hi := 43) (l := 43) (h := 43) rfl rfl h2 hn hT z3, zbi_s, if_neg (by decide), cStD h2 hn hT (zin_lt z3)]; rfl
theorem cStat (h2 : A0 33 2 = nI n) (hn : n ≤ 64) (hT : A0 34 = T) (ha : a ≤ 64) : zR_isStatement (d + 4) (zSr A0 a) L = some (some (.int (if (zst T n a).1 then 1 else 0)), zSr A0 (zst T n a).2, L) := by
  unfold zst
  by_cases z1 : zin T n a 114 114 = true
  · rw [z1, ite_tt]
    exact cStR h2 hn hT z1
  have z1 : zin T n a 114 114 = false := by simpa using z1
  rw [z1, ite_ft]
  rw [zR_isStatement_q, cTn (lo := 114) (hi := 114) (l := 114) (h := 114) rfl rfl h2 hn ha hT z1, zbi_s, if_pos rfl, zR_isStatement_3_q]
  by_cases z2 : zin T n a 101 101 = true
  · rw [z2, ite_tt]
    rw [cTy (lo := 101) (hi := 101) (l := 101) (h := 101) rfl rfl h2 hn hT z2, zbi_s, if_neg (by decide)]
    exact cStE h2 hn hT (zin_lt z2)
  have z2 : zin T n a 101 101 = false := by simpa using z2
  rw [z2, ite_ft]
  rw [cTn (lo := 101) (hi := 101) (l := 101) (h := 101) rfl rfl h2 hn ha hT z2, zbi_s, if_pos rfl]
  by_cases z3 : zin T n a 108 108 = true
  · rw [z3, ite_tt]
    rw [cTy (lo := 108) (hi := 108) (l := 108) (h := 108) rfl rfl h2 hn hT z3, zbi_s, if_neg (by decide)]
    exact cStE h2 hn hT (zin_lt z3)
  have z3 : zin T n a 108 108 = false := by simpa using z3
  rw [z3, ite_ft]
  rw [cTn (lo := 108) (hi := 108) (l := 108) (h := 108) rfl rfl h2 hn ha hT z3, zbi_s, if_pos rfl]
  by_cases z4 : zin T n a 112 112 = true
  · rw [z4, ite_tt]
    exact cStP h2 hn hT z4
  have z4 : zin T n a 112 112 = false := by simpa using z4
  rw [z4, ite_ft]
  rw [zR_isStatement_7_q, cTn (lo := 112) (hi := 112) (l := 112) (h := 112) rfl rfl h2 hn ha hT z4, zbi_s, if_pos rfl]
  by_cases z5 : zin T n a 118 118 = true
  · rw [z5, ite_tt]
    exact cStV h2 hn hT z5
  have z5 : zin T n a 118 118 = false := by simpa using z5
  rw [z5, ite_ft]
  rw [zR_isStatement_10_q, cTn (lo := 118) (hi := 118) (l := 118) (h := 118) rfl rfl h2 hn ha hT z5, zbi_s, if_pos rfl, zR_isStatement_12_q, zR_isStatement_13_q, zcb_0]; rfl
end CR
