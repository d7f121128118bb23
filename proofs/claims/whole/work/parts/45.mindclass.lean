/-! ===== the class's mind ===== -/
def zn5 (y n : Int32) : Int32 := n + zushr y 1
def zn4 (y n : Int32) : Int32 := if y ≤ 4 then zn5 y n else zn5 (zushr y 2) (n + 2)
def zn3 (y n : Int32) : Int32 := if y ≤ 16 then zn4 y n else zn4 (zushr y 4) (n + 4)
def zn2 (y n : Int32) : Int32 := if y ≤ 256 then zn3 y n else zn3 (zushr y 8) (n + 8)
def zn1 (y : Int32) : Int32 := if y ≤ 65536 then zn2 y 1 else zn2 (zushr y 16) (1 + 16)
def zntz (x : Int32) : Int32 := if 0 < (x ^^^ (-1)) &&& (x - 1) then zn1 ((x ^^^ (-1)) &&& (x - 1)) else ((x ^^^ (-1)) &&& (x - 1)) &&& 32
theorem cNtz0 {d : Nat} {A : zA} {L : zL} (x : Int32) : zJ_numberOfTrailingZeros d x A L = some (some (.int (zntz x)), A, L) := by
  have h5 : ∀ y n, zJ_numberOfTrailingZeros_5 d y n A L = some (some (.int (zn5 y n)), A, L) := fun y n => zJ_numberOfTrailingZeros_5_q d y n A L
  have h4 : ∀ y n, zJ_numberOfTrailingZeros_4 d y n A L = some (some (.int (zn4 y n)), A, L) := by
    intro y n; rw [zJ_numberOfTrailingZeros_4_q, h5, h5]; unfold zn4; split <;> rfl
  have h3 : ∀ y n, zJ_numberOfTrailingZeros_3 d y n A L = some (some (.int (zn3 y n)), A, L) := by
    intro y n; rw [zJ_numberOfTrailingZeros_3_q, h4, h4]; unfold zn3; split <;> rfl
  have h2 : ∀ y n, zJ_numberOfTrailingZeros_2 d y n A L = some (some (.int (zn2 y n)), A, L) := by
    intro y n; rw [zJ_numberOfTrailingZeros_2_q, h3, h3]; unfold zn2; split <;> rfl
  have h1 : ∀ y, zJ_numberOfTrailingZeros_1 d y A L = some (some (.int (zn1 y)), A, L) := by
    intro y; rw [zJ_numberOfTrailingZeros_1_q, h2, h2]; unfold zn1; split <;> rfl
  rw [zJ_numberOfTrailingZeros_q, h1]; unfold zntz; split <;> rfl
theorem zntz_n : ∀ x, x < 512 → x ≠ 0 → zntz (nI x) = nI (zlow x 9) := by decide +kernel
theorem zlow_89 : ∀ x, x < 256 → x ≠ 0 → zlow x 9 = zlow x 8 := by decide +kernel
theorem zlow_or : ∀ x, x < 256 → x ≠ 0 → zlow (x ||| 256) 9 = zlow x 8 := by decide +kernel
section CM
variable {A v : zA} {L : zL} {d n s m p a : Nat}
theorem cLeast (ho : Ok v) (hs : s < 8) (h : vMay v n s ≠ 0) : zD_leastOf (d + 1) (nI (vOpt v n s)) A L = some (some (.int (nI (vLow v n s))), A, L) := by
  have hm := ho.may (n := n) hs
  have hx := ho.opt (n := n) hs
  have h0 : vOpt v n s ≠ 0 ∧ zlow (vOpt v n s) 9 = vLow v n s := by
    unfold vOpt vLow
    rw [if_neg h]
    split
    · refine ⟨fun e => ?_, zlow_or _ hm h⟩
      have := Nat.right_le_or (n := vMay v n s) (m := 256)
      omega
    · exact ⟨h, zlow_89 _ hm h⟩
  rw [zD_leastOf_q, show (0 : Int32) = nI 0 from rfl, zifi (nI_eq (by omega) (by omega)), if_neg h0.1, zD_leastOf_1_q, cNtz0, zbi_s, zD_leastOf_2_q, zntz_n _ hx h0.1, h0.2]
/-- a row of ends that were found at an age -/
def zMem (f : Nat → Nat → Nat → Nat) (row : Nat → Int32) (a : Nat) : Prop := ∀ n s m, n < 8 → s < 8 → m < 64 → ∃ x, row (zsp n s m) = nI x ∧ x < (a + 1) * 2048 ∧ (x / 2048 = a → x % 2048 = f n s m)
/-- the worths of all ends -/
def zWt (A v : zA) : Prop := (∀ p m, p < vP v → m < 64 → A 54 (65 * p + m) = vWs v p m 6) ∧ (∀ p, p < vP v → A 54 (65 * p + 64) = -(vLoss v)) ∧ ∀ e, e ≤ 64 → A 54 (260 + e) = vAll v e (vP v)
def zMi (A v : zA) (a : Nat) : Prop := A 51 4 = nI a ∧ a < 1048576 ∧ zMem (vE v) (A 52) a ∧ zMem (fun n s m => vD v (vTr v n) n s m) (A 53) a ∧ zWt A v
/-- nothing but what was found is changed -/
def zFm (A0 A : zA) : Prop := ∀ c, c ≠ 52 → c ≠ 53 → A c = A0 c
theorem zFm.rf (A : zA) : zFm A A := fun _ _ _ => rfl
theorem zFm.tr {A B C : zA} (h1 : zFm A B) (h2 : zFm B C) : zFm A C := fun c a b => (h2 c a b).trans (h1 c a b)
theorem zFm.zv {A B v : zA} (h : zFm A B) (hv : zv A = v) : zv B = v := by
  rw [← hv]
  exact zv_of (fun c hc => h c (by omega) (by omega))
theorem zFm.wt {A B v : zA} (h : zFm A B) (hw : zWt A v) : zWt B v := by
  unfold zWt at *
  rw [h 54 (by decide) (by decide)]
  exact hw
theorem vAll_64 (v : zA) {e : Nat} (he : 64 ≤ e) : ∀ k, vAll v e k = vAll v 64 k
  | 0 => rfl
  | k + 1 => by
    unfold vAll
    rw [vAll_64 v he k]
    unfold vEw
    rw [if_neg (by omega), if_neg (by omega)]
theorem cWorthAt {p k : Nat} (h : 65 * p + k < 325) : zD_worthAt d (nI p) (nI k) A L = some (some (.int (A 54 (65 * p + k))), A, L) := by
  have e : nI p * 65 + nI k = nI (65 * p + k) := by rw [show (65 : Int32) = nI 65 from rfl, pk_mul, nI_add, Nat.mul_comm]
  rw [zD_worthAt_q, e, if_neg (nI_pos (by omega)), if_neg (nI_ge h (by omega)), zck_n h (by decide), zD_worthAt_2_q, nI_clamp (by omega)]
theorem cEndSlot {p e : Nat} (hp : p < 5) (he : e < 65536) : zD_worthOfEnd (d + 2) (nI p) (nI e) A L = some (some (.int (A 54 (65 * p + (if e % 128 < 64 then e % 128 else 64)))), A, L) := by
  have h6 : zshr (nI e) 6 &&& 1 = nI (e / 64 % 2) := by rw [show (6 : Int32) = nI 6 from rfl, zshr_n (by omega) (by omega), nI_and1]
  rw [zD_worthOfEnd_q, zX_endStuck_q, zbi_s, h6, show (1 : Int32) = nI 1 from rfl, zifi (nI_eq (by omega) (by omega))]
  by_cases h : e / 64 % 2 = 1
  · rw [if_pos h, zD_worthOfEnd_2_q, show (64 : Int32) = nI 64 from rfl, cWorthAt (by omega), zbi_s, if_neg (by omega)]
  · rw [if_neg h, zD_worthOfEnd_1_q, zX_endMeaning_q, zbi_s, nI_and63, zD_worthOfEnd_2_q, cWorthAt (by omega), zbi_s, if_pos (by omega), show e % 64 = e % 128 by omega]
theorem cWorthOfEnd {p e : Nat} (ho : Ok v) (hw : zWt A v) (hp : p < vP v) (he : e < 65536) : zD_worthOfEnd (d + 2) (nI p) (nI e) A L = some (some (.int (vEw v p (e % 128))), A, L) := by
  have h5 := ho.P.2
  rw [cEndSlot (by omega) he]
  unfold vEw
  by_cases h : e % 128 < 64
  · rw [if_pos h, if_pos h, hw.1 p _ hp h]
  · rw [if_neg h, if_neg h, hw.2.1 p hp]
theorem cWorthOfAll {e : Nat} (hw : zWt A v) (he : e < 65536) : zD_worthOfEnd (d + 2) 4 (nI e) A L = some (some (.int (vAll v (e % 128) (vP v))), A, L) := by
  rw [show (4 : Int32) = nI 4 from rfl, cEndSlot (by omega) he]
  by_cases h : e % 128 < 64
  · rw [if_pos h, show 65 * 4 + e % 128 = 260 + e % 128 by omega, hw.2.2 _ (by omega)]
  · rw [if_neg h, show 65 * 4 + 64 = 260 + 64 by omega, hw.2.2 64 (by omega), vAll_64 v (e := e % 128) (by omega)]
/-- the best deed, over what each is worth -/
theorem cBest {D opt : Nat} {A0 : zA} {x y z : Int32} {val : Nat → Int32} (hopt : opt < 512)
    (hw : ∀ t A, t < 9 → opt.testBit t = true → zFm A0 A → zMi A v a → ∃ A', zD_weigh D x (nI t) y z A L = some (some (.int (val t)), A', L) ∧ zFm A0 A' ∧ zMi A' v a) :
    ∀ k t A b most, t + k = 9 → zFm A0 A → zMi A v a → (match zbst opt.testBit val t with | none => b = -9 ∧ most = 0 | some q => b = nI q.1 ∧ most = q.2) →
    ∃ A', zD_bestDeed_1 (D + 1) x (nI opt) y z b most (nI t) A L = some (some (.int (match zbst opt.testBit val 9 with | none => -9 | some q => nI q.1)), A', L) ∧ zFm A0 A' ∧ zMi A' v a := by
  intro k
  induction k with
  | zero =>
    intro t A b most ht hF hM hb
    have e : t = 9 := by omega
    subst e
    refine ⟨A, ?_, hF, hM⟩
    rw [zD_bestDeed_1_q, if_pos (by decide), zD_bestDeed_4_q]
    cases hz : zbst opt.testBit val 9 with
    | none => rw [hz] at hb; rw [hb.1]
    | some q => rw [hz] at hb; rw [hb.1]
  | succ k ih =>
    intro t A b most ht hF hM hb
    rw [zD_bestDeed_1_q, if_neg (nI_n8 (by omega)), zifc (zbit0 (by omega) (by omega))]
    cases hbit : opt.testBit t with
    | false =>
      rw [if_pos rfl, zD_bestDeed_3_q, nI_1]
      refine ih (t + 1) A b most (by omega) hF hM ?_
      unfold zbst
      cases hz : zbst opt.testBit val t with
      | none => rw [hz] at hb; simp only [hbit]; exact hb
      | some q => rw [hz] at hb; simp only [hbit]; exact hb
    | true =>
      rw [if_neg (by decide)]
      obtain ⟨A1, e1, hF1, hM1⟩ := hw t A (by omega) hbit hF hM
      rw [e1, zbi_s]
      cases hz : zbst opt.testBit val t with
      | none =>
        rw [hz] at hb
        rw [hb.1, if_pos rfl, zD_bestDeed_2_q, zD_bestDeed_3_q, nI_1]
        refine ih (t + 1) A1 _ _ (by omega) hF1 hM1 ?_
        unfold zbst
        rw [hz]
        simp only [hbit, if_true]
        exact ⟨trivial, trivial⟩
      | some q =>
        rw [hz] at hb
        have hq := (zbst_in (show zbst opt.testBit val t = some (q.1, q.2) from hz)).1
        rw [hb.1, if_neg (nI_ne9 (by omega)), hb.2]
        by_cases hlt : val t ≤ q.2
        · rw [if_pos hlt, zD_bestDeed_3_q, nI_1]
          refine ih (t + 1) A1 _ _ (by omega) hF1 hM1 ?_
          unfold zbst
          rw [hz]
          have hn : ¬ q.2 < val t := Int32.not_lt.mpr hlt
          simp only [hbit, hn, decide_false, Bool.and_false, Bool.false_eq_true, if_false]
          exact ⟨trivial, trivial⟩
        · rw [if_neg hlt, zD_bestDeed_2_q, zD_bestDeed_3_q, nI_1]
          refine ih (t + 1) A1 _ _ (by omega) hF1 hM1 ?_
          unfold zbst
          rw [hz]
          have hn : q.2 < val t := Int32.not_le.mp hlt
          simp only [hbit, hn, decide_true, Bool.and_self, if_true]
          exact ⟨trivial, trivial⟩
theorem cBestDeed {D : Nat} {A0 : zA} {x y z : Int32} {val : Nat → Int32} (ho : Ok v) (hs : s < 8) (hmay : vMay v n s ≠ 0)
    (hw : ∀ t A, t < 9 → vOk v n s t = true → zFm A0 A → zMi A v a → ∃ A', zD_weigh D x (nI t) y z A L = some (some (.int (val t)), A', L) ∧ zFm A0 A' ∧ zMi A' v a) (hM : zMi A0 v a) :
    ∃ A', zD_bestDeed (D + 1) x (nI (vOpt v n s)) y z A0 L = some (some (.int (nI (zbd (vOk v n s) val))), A', L) ∧ zFm A0 A' ∧ zMi A' v a := by
  obtain ⟨A', e, h⟩ := cBest (D := D) (L := L) (x := x) (y := y) (z := z) (val := val) (ho.opt (n := n) hs) hw 9 0 A0 (-9) 0 (by omega) (zFm.rf A0) hM ⟨rfl, rfl⟩
  refine ⟨A', ?_, h⟩
  rw [zD_bestDeed_q]
  have e' := e
  rw [show nI 0 = (0 : Int32) from rfl] at e'
  rw [e']
  congr 2
  unfold zbd
  have hok : (vOpt v n s).testBit = vOk v n s := rfl
  rw [hok]
  cases hz : zbst (vOk v n s) val 9 with
  | none =>
    have := zbst_none hz (vLow v n s) (by have := vLow_lt ho hs hmay; omega)
    rw [vLow_ok ho hs hmay] at this
    cases this
  | some q => rfl
end CM
