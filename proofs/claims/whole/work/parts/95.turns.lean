/-! ===== class and model answer alike: turns ===== -/
/-- the number of a code -/
def zdo (c : Nat) : Nat → Nat → Nat → Nat
  | 0, _, x => x
  | q + 1, i, x => zdo c q (i + 1) (x * 10 + c / 2 ^ (2 * i) % 4)
theorem zdo_s {c q i x : Nat} : zdo c (q + 1) i x = zdo c q (i + 1) (x * 10 + c / 2 ^ (2 * i) % 4) := rfl
/-- the orders among the codes from k on -/
def zol (P : Nat) : Nat → Nat → List Nat
  | 0, _ => []
  | q + 1, k => if zod P P (zdo k P 0 0) 0 then zdo k P 0 0 :: zol P q (k + 1) else zol P q (k + 1)
theorem zol_s {P q k : Nat} : zol P (q + 1) k = if zod P P (zdo k P 0 0) 0 then zdo k P 0 0 :: zol P q (k + 1) else zol P q (k + 1) := rfl
/-- the best of several orders, the first of like ones -/
def zs1 (W : Nat → Int32) (st : Int32 × Int32) (n : Nat) : Int32 × Int32 := if st.1 = -9 ∨ st.2 < W n then (nI n, W n) else st
def zsl (W : Nat → Int32) : List Nat → Int32 × Int32 → Int32 × Int32
  | [], st => st
  | n :: l, st => zsl W l (zs1 W st n)
theorem zsl_c {W : Nat → Int32} {n : Nat} {l : List Nat} {st : Int32 × Int32} : zsl W (n :: l) st = zsl W l (zs1 W st n) := rfl
/-- two places changed for each other -/
def zsx (r : Nat → Nat) (i j : Nat) : Nat → Nat := fun k => if k = j then r i else if k = i then r j else r k
def zx1 (r : Nat → Nat) : Nat → Nat
  | 0 => 0
  | k + 1 => if r k ≤ r (k + 1) then k + 1 else zx1 r k
theorem zx1_s {r : Nat → Nat} {k : Nat} : zx1 r (k + 1) = if r k ≤ r (k + 1) then k + 1 else zx1 r k := rfl
theorem zx1_in {r : Nat → Nat} : ∀ {k i : Nat}, zx1 r k = i + 1 → i < k ∧ r i ≤ r (i + 1)
  | 0, i, h => by cases h
  | k + 1, i, h => by
    rw [zx1_s] at h
    by_cases hc : r k ≤ r (k + 1)
    · rw [if_pos hc] at h
      have e : i = k := by omega
      rw [e]; exact ⟨by omega, hc⟩
    · rw [if_neg hc] at h
      obtain ⟨h1, h2⟩ := zx1_in h
      exact ⟨by omega, h2⟩
def zx4 (r : Nat → Nat) (i : Nat) : Nat → Nat
  | 0 => 0
  | k + 1 => if r i ≤ r (k + 1) then k + 1 else zx4 r i k
theorem zx4_s {r : Nat → Nat} {i k : Nat} : zx4 r i (k + 1) = if r i ≤ r (k + 1) then k + 1 else zx4 r i k := rfl
def zx6 : Nat → (Nat → Nat) → Nat → Nat → (Nat → Nat)
  | 0, r, _, _ => r
  | f + 1, r, a, b => if b ≤ a then r else zx6 f (zsx r a b) (a + 1) (b - 1)
theorem zx6_s {f a b : Nat} {r : Nat → Nat} : zx6 (f + 1) r a b = if b ≤ a then r else zx6 f (zsx r a b) (a + 1) (b - 1) := rfl
/-- the next order -/
def zxn (P : Nat) (r : Nat → Nat) : Option (Nat → Nat) := match zx1 r (P - 1) with
  | 0 => none
  | i + 1 => some (zx6 4 (zsx r i (zx4 r i (P - 1))) (i + 1) (P - 1))
def zxo (P n : Nat) : Option Nat := (zxn P (zdi n)).map (fun r => zds r P)
def zch (P : Nat) : List Nat → Bool
  | [] => false
  | [n] => decide (zxo P n = none)
  | n :: m :: l => decide (zxo P n = some m) && zch P (m :: l)
theorem zch_1 {P n : Nat} : zch P [n] = decide (zxo P n = none) := rfl
theorem zch_2 {P n m : Nat} {l : List Nat} : zch P (n :: m :: l) = (decide (zxo P n = some m) && zch P (m :: l)) := rfl
/-- an order's number -/
def zon (P n : Nat) : Bool := zod P P n 0 && decide (zds (zdi n) P = n) && decide (n < 10000)
theorem zol_all : ∀ P, P < 5 → 0 < P → zch P (zol P (2 ^ (2 * P)) 0) = true ∧ (zol P (2 ^ (2 * P)) 0).head? = some (zds id P) ∧ (zol P (2 ^ (2 * P)) 0).length ≤ 24 ∧ (zol P (2 ^ (2 * P)) 0).all (zon P) = true := by decide +kernel
theorem zdo_lt : ∀ P, P < 5 → ∀ c, c < 2 ^ (2 * P) → zdo c P 0 0 < 10000 := by decide +kernel
theorem zsx_lt {r : Nat → Nat} (h : ∀ j, r j < 10) (a b : Nat) : ∀ j, zsx r a b j < 10 := by
  intro j; unfold zsx; split
  · exact h a
  · split
    · exact h b
    · exact h j
theorem zx6_lt : ∀ {f : Nat} {r : Nat → Nat} {a b : Nat}, (∀ j, r j < 10) → ∀ j, zx6 f r a b j < 10
  | 0, r, a, b, h, j => h j
  | f + 1, r, a, b, h, j => by
    rw [zx6_s]
    split
    · exact h j
    · exact zx6_lt (zsx_lt h a b) j
theorem zds_lt {f : Nat → Nat} (h : ∀ j, f j < 10) : ∀ k, zds f k < 10 ^ k
  | 0 => Nat.one_pos
  | k + 1 => by
    have h1 := zds_lt h k
    have h2 := h k
    have h3 : 10 ^ k * f k ≤ 10 ^ k * 9 := Nat.mul_le_mul_left _ (by omega)
    rw [zds_s, Nat.pow_succ]
    omega
theorem zds_di {f : Nat → Nat} (h : ∀ j, f j < 10) : ∀ k j, j < k → zdi (zds f k) j = f j
  | 0, j, hj => absurd hj (Nat.not_lt_zero j)
  | k + 1, j, hj => by
    rw [zds_s]
    unfold zdi
    by_cases e : j = k
    · subst e
      rw [Nat.add_comm, Nat.mul_add_div (Nat.pow_pos (by omega)), Nat.div_eq_of_lt (zds_lt h j), Nat.add_zero, Nat.mod_eq_of_lt (h j)]
    · have ih := zds_di h k j (by omega)
      unfold zdi at ih
      obtain ⟨q, hq⟩ : ∃ q, k = j + 1 + q := ⟨k - j - 1, by omega⟩
      have e2 : 10 ^ k * f k = 10 ^ j * (10 * (10 ^ q * f k)) := by
        rw [hq, Nat.pow_add, Nat.pow_succ, Nat.mul_assoc, Nat.mul_assoc]
      rw [e2, Nat.add_mul_div_left _ _ (Nat.pow_pos (by omega)), Nat.add_mul_mod_self_left]
      exact ih
section TU
variable {a b d n p P : Nat} {A A' B v w : zA} {L M : zL} {x y : Int32} {r : Nat → Nat}
/-- the class goes through the codes -/
theorem cDigitsOf1 {c : Nat} (h9 : A 9 4 = nI P) (hP : P < 5) (hc : c < 2 ^ 31) : ∀ q i x, i + q = P → zB_digitsOf_1 d (nI c) (nI x) (nI i) A L = some (some (.int (nI (zdo c q i x))), A, L) := by
  intro q
  induction q with
  | zero =>
    intro i x hi
    rw [zB_digitsOf_1_q, h9, if_pos (nI_le (by omega) (by omega)), zB_digitsOf_2_q]; rfl
  | succ q ih =>
    intro i x hi
    have hm : nI (c / 2 ^ (2 * i)) &&& 3 = nI (c / 2 ^ (2 * i) % 4) := by
      rw [show (3 : Int32) = nI 3 from rfl, nI_and]
      exact congrArg nI (nI_mask (c / 2 ^ (2 * i)) 2)
    rw [zB_digitsOf_1_q, h9, if_neg (nI_ge (by omega) (by omega)), show (2 : Int32) * nI i = nI (2 * i) from pk_mul 2 i, zshr_n hc (by omega), hm, show (10 : Int32) = nI 10 from rfl, pk_mul, nI_add, nI_1, zdo_s]
    exact ih (i + 1) _ (by omega)
theorem cDigitsOf {c : Nat} (h9 : A 9 4 = nI P) (hP : P < 5) (hc : c < 2 ^ 31) : zB_digitsOf d (nI c) A L = some (some (.int (nI (zdo c P 0 0))), A, L) := by
  rw [zB_digitsOf_q]
  exact cDigitsOf1 h9 hP hc P 0 0 (by omega)
/-- a class's state that is as A0 was, but for the mind and the order -/
def zTo2 (A0 A : zA) (P : Nat) : Prop := (∀ c, (c < 51 ∨ 54 < c) → c ≠ 13 → A c = A0 c) ∧ ∀ j, P ≤ j → A 13 j = A0 13 j
theorem cTurns1 {A0 : zA} {was : Int32} (ho : Ok v) (hv : zv A0 = v) (hp : p < vP v) : ∀ q k A st b, k + q = 2 ^ (2 * vP v) → zTo2 A0 A (vP v) → zOld A b → b + (zol (vP v) q k).length < 1048576 →
    ∃ A', zB_bestOrder_1 (d + 61) (nI p) was st.1 st.2 (nI (2 ^ (2 * vP v))) (nI k) A L = zB_bestOrder_4 (d + 61) was (zsl (fun n => vF (vOr v n) p) (zol (vP v) q k) st).1 A' L ∧ zTo2 A0 A' (vP v) ∧ zOld A' (b + (zol (vP v) q k).length) := by
  have h5 := ho.P
  have hpw : 2 ^ (2 * vP v) ≤ 256 := show 2 ^ (2 * vP v) ≤ 2 ^ 8 from Nat.pow_le_pow_right (by omega) (by omega)
  intro q
  induction q with
  | zero =>
    intro k A st b hk hT hO hb
    refine ⟨A, ?_, hT, hO⟩
    rw [zB_bestOrder_1_q, if_pos (nI_le (by omega) (by omega))]; rfl
  | succ q ih =>
    intro k A st b hk hT hO hb
    have h9 : A 9 4 = nI (vP v) := by rw [hT.1 9 (by omega) (by decide), zv_c hv 9 (by decide), h5.1]
    have hlt := zdo_lt (vP v) h5.2 k (by omega)
    obtain ⟨n, hn⟩ : ∃ n, zdo k (vP v) 0 0 = n := ⟨_, rfl⟩
    rw [hn] at hlt
    rw [zB_bestOrder_1_q, if_neg (nI_ge (by omega) (by omega)), cDigitsOf h9 h5.2 (by omega), hn, zbi_s, cIsOrder h9 h5.2 (by omega), zbi_s]
    by_cases hz' : zod (vP v) (vP v) n 0 = false
    · have hl : zol (vP v) (q + 1) k = zol (vP v) q (k + 1) := by rw [zol_s, hn, hz', ite_ft]
      rw [hl] at hb ⊢
      rw [hz']
      obtain ⟨A', e1, e2, e3⟩ := ih (k + 1) A st b (by omega) hT hO hb
      refine ⟨A', ?_, e2, e3⟩
      rw [ite_ft, if_pos rfl, zB_bestOrder_3_q, nI_1]
      exact e1
    · have hz : zod (vP v) (vP v) n 0 = true := by simpa using hz'
      have hl : zol (vP v) (q + 1) k = n :: zol (vP v) q (k + 1) := by rw [zol_s, hn, hz, ite_tt]
      rw [hl, List.length_cons] at hb ⊢
      rw [hz]
      rw [ite_tt, if_neg (by decide)]
      obtain ⟨A1, c1, c2, c3⟩ := cPutOrder (A := A) (d := d + 60) (L := L) h5.2 h9 (n := n) (by omega)
      have hv1 : zv A1 = vOr v n := by
        funext c
        by_cases e : c = 13
        · rw [e, zv_at (by decide), c3, vOr_13]
          funext j
          unfold zNr
          by_cases hj : 0 ≤ j ∧ j < vP v
          · rw [if_pos hj, if_pos hj]
          · rw [if_neg hj, if_neg hj, hT.2 j (by omega), zv_c hv 13 (by decide)]
        · rw [vOr_o e, ← hv]
          unfold zv
          split
          · rw [c2 c e, hT.1 c (by omega) e]
          · rfl
      have hO1 : zOld A1 b := zOld_of hO (by rw [c2 51 (by decide)]) (c2 52 (by decide)) (c2 53 (by decide))
      obtain ⟨A2, e1, e2, -, e4⟩ := cWorthFromBeginning (d := d) (L := L) (p := p) (Ok_or ho hz) hv1 hO1 (by omega) (by rw [vP_or]; exact hp)
      have hT2 : zTo2 A0 A2 (vP v) := ⟨fun c hc h13 => by rw [e2 c hc, c2 c h13, hT.1 c hc h13], fun j hj => by
        rw [e2 13 (by omega), c3]
        unfold zNr
        rw [if_neg (by omega), hT.2 j hj]⟩
      obtain ⟨W, hW⟩ : ∃ W : Nat → Int32, (fun n => vF (vOr v n) p) = W := ⟨_, rfl⟩
      have hWn : W n = vF (vOr v n) p := by rw [← hW]
      obtain ⟨A', f1, f2, f3⟩ := ih (k + 1) A2 (zs1 W st n) (b + 1) (by omega) hT2 e4.old (by omega)
      rw [hW] at f1 ⊢
      refine ⟨A', ?_, f2, by rw [show b + ((zol (vP v) q (k + 1)).length + 1) = b + 1 + (zol (vP v) q (k + 1)).length by omega]; exact f3⟩
      rw [zsl_c, ← f1, c1, zbv_s, show zD_worthFromBeginning (d + 60) (nI p) A1 L = some (some (.int (vF (vOr v n) p)), A2, L) from e1, zbi_s, ← hWn]
      unfold zs1
      by_cases h0 : st.1 = -9
      · rw [if_pos h0, if_pos (Or.inl h0), zB_bestOrder_2_q, zB_bestOrder_3_q, nI_1]
      · rw [if_neg h0]
        by_cases hlt : st.2 < W n
        · rw [if_neg (Int32.not_le.mpr hlt), if_pos (Or.inr hlt), zB_bestOrder_2_q, zB_bestOrder_3_q, nI_1]
        · rw [if_pos (Int32.not_lt.mp hlt), if_neg (fun hh => hh.elim h0 hlt), zB_bestOrder_3_q, nI_1]
/-- the best order of all -/
def vTn (v : zA) (p : Nat) : Int32 := (zsl (fun n => vF (vOr v n) p) (zol (vP v) (2 ^ (2 * vP v)) 0) (-9, 0)).1
theorem cTurns (ho : Ok v) (hv : zv A = v) (hp : p < vP v) (hO : zOld A b) (hb : b + 24 < 1048576) : ∃ A' b', zB_bestOrder (d + 61) (nI p) A L = some (some (.int (vTn v p)), A', L) ∧ (∀ c, (c < 51 ∨ 54 < c) → A' c = A c) ∧ zOld A' b' ∧ b' ≤ b + 24 := by
  have h5 := ho.P
  have h9 : A 9 4 = nI (vP v) := by rw [zv_c hv 9 (by decide), h5.1]
  obtain ⟨-, -, hl, -⟩ := zol_all (vP v) h5.2 (by omega)
  have hvt : ∀ j, j < vP v → v 13 j = nI (vTr v j) := fun j hj => (vTr_at ho hj).1
  obtain ⟨A1, c1, c2, c3⟩ := cTurns1 (d := d) (L := L) (was := nI (zds (vTr v) (vP v))) ho hv hp (2 ^ (2 * vP v)) 0 A (-9, 0) b (by omega) ⟨fun _ _ _ => rfl, fun _ _ => rfl⟩ hO (by omega)
  have h91 : A1 9 4 = nI (vP v) := by rw [c2.1 9 (by omega) (by decide), h9]
  have h10 : ∀ j, vTr v j < 10 := fun j => by have := (ho.tr (by omega) j).2; omega
  have hz := zds_lt h10 (vP v)
  have hzp : 10 ^ vP v ≤ 10 ^ 4 := Nat.pow_le_pow_right (by omega) (by omega)
  obtain ⟨A2, k1, k2, k3⟩ := cPutOrder (A := A1) (d := d + 60) (L := L) h5.2 h91 (n := zds (vTr v) (vP v)) (by omega)
  have hmin : zJM_min (d + 60) (nI (vP v)) 4 A L = some (some (.int (nI (vP v))), A, L) := by
    rw [zJM_min_q, if_neg (show ¬ (4 : Int32) < nI (vP v) from by rw [show (4 : Int32) = nI 4 from rfl]; exact nI_nlt (by omega) (by omega)), zJM_min_2_q]
  refine ⟨A2, b + (zol (vP v) (2 ^ (2 * vP v)) 0).length, ?_, fun c hc => ?_, zOld_of c3 (by rw [k2 51 (by decide)]) (k2 52 (by decide)) (k2 53 (by decide)), by omega⟩
  · rw [zB_bestOrder_q, cOrderDigits h9 h5.2 (fun j hj => by rw [zv_c hv 13 (by decide)]; exact hvt j hj), zbi_s, h9, hmin, zbi_s, show (2 : Int32) * nI (vP v) = nI (2 * vP v) from pk_mul 2 _, zpow (by omega)]
    have c1' : zB_bestOrder_1 (d + 60 + 1) (nI p) (nI (zds (vTr v) (vP v))) (-9) 0 (nI (2 ^ (2 * vP v))) 0 A L = zB_bestOrder_4 (d + 60 + 1) (nI (zds (vTr v) (vP v))) (vTn v p) A1 L := c1
    rw [c1', zB_bestOrder_4_q, k1, zbv_s]
  · by_cases e : c = 13
    · subst e
      rw [k3]
      funext j
      unfold zNr
      by_cases hj : 0 ≤ j ∧ j < vP v
      · rw [if_pos hj, Nat.sub_zero, zds_di h10 (vP v) j hj.2, zv_c hv 13 (by decide), hvt j hj.2]
      · rw [if_neg hj, c2.2 j (by omega)]
    · rw [k2 c e, c2.1 c hc e]
/-- the model goes from an order to the next -/
theorem mNext1 (hP : P < 5) (hr : ∀ j, j < P → B 72 j = nI (r j)) (hl : ∀ j, r j < 10) : ∀ k, k < P → zM_nextOrder_1 d (nI k + (-1)) B M = zM_nextOrder_2 d (nI (zx1 r k) + (-1)) B M := by
  intro k
  induction k with
  | zero =>
    intro _
    rw [zM_nextOrder_1_q, if_pos (by decide)]; rfl
  | succ k ih =>
    intro hk
    have h1 := hl k
    have h2 := hl (k + 1)
    rw [nI_m1, zM_nextOrder_1_q, if_neg (nI_pos (by omega)), zck_n (by omega) (by decide), nI_1, zck_n (by omega) (by decide), nI_clamp (by omega), nI_clamp (by omega), hr k (by omega), hr (k + 1) hk, zx1_s, zifi (nI_leI (by omega) (by omega))]
    by_cases hc : r k ≤ r (k + 1)
    · rw [if_pos hc, if_pos hc, nI_m1]
    · rw [if_neg hc, if_neg hc]
      exact ih (by omega)
theorem mNext4 {i : Nat} (hP : P < 5) (hr : ∀ j, j < P → B 72 j = nI (r j)) (hl : ∀ j, r j < 10) (hi : r i ≤ r (i + 1)) : ∀ k, i < k → k < P → zM_nextOrder_4 d (nI i) (nI k) B M = zM_nextOrder_5 d (nI i) (nI (zx4 r i k)) B M ∧ i < zx4 r i k ∧ zx4 r i k ≤ k := by
  intro k
  induction k with
  | zero => intro h _; omega
  | succ k ih =>
    intro hik hk
    have h1 := hl i
    have h2 := hl (k + 1)
    rw [zM_nextOrder_4_q, zck_n (by omega) (by decide), zck_n (by omega) (by decide), nI_clamp (by omega), nI_clamp (by omega), hr i (by omega), hr (k + 1) hk, zx4_s, zifi (nI_leI (by omega) (by omega))]
    by_cases hc : r i ≤ r (k + 1)
    · rw [if_pos hc, if_pos hc]
      exact ⟨rfl, hik, Nat.le_refl _⟩
    · rw [if_neg hc, if_neg hc, nI_m1]
      have hne : i ≠ k := fun e => hc (by rw [← e]; exact hi)
      obtain ⟨e1, e2, e3⟩ := ih (by omega) (by omega)
      exact ⟨e1, e2, by omega⟩
theorem zsx_row {i j : Nat} (hr : ∀ k, k < P → B 72 k = nI (r k)) (hi : i < P) (hj : j < P) : (∀ k, k < P → zput (zput B 72 i (B 72 j)) 72 j (B 72 i) 72 k = nI (zsx r i j k)) ∧ (∀ k, P ≤ k → zput (zput B 72 i (B 72 j)) 72 j (B 72 i) 72 k = B 72 k) ∧ ∀ c, c ≠ 72 → zput (zput B 72 i (B 72 j)) 72 j (B 72 i) c = B c := by
  refine ⟨fun k hk => ?_, fun k hk => ?_, fun c hc => by rw [zput_o hc, zput_o hc]⟩
  · rw [zput_s, zput_s]
    unfold zsx
    by_cases e : k = j
    · rw [e, upd_s, if_pos rfl, hr i hi]
    · rw [upd_o e, if_neg e]
      by_cases e2 : k = i
      · rw [e2, upd_s, if_pos rfl, hr j hj]
      · rw [upd_o e2, if_neg e2, hr k hk]
  · rw [zput_s, zput_s, upd_o (by omega), upd_o (by omega)]
theorem mNext6 (hP : P < 5) : ∀ f i j r B, j ≤ i + f → i < 4 → j < P → (∀ k, k < P → B 72 k = nI (r k)) → ∃ B', zM_nextOrder_6 d (nI i) (nI j) B M = some (some (.int 1), B', M) ∧ (∀ c, c ≠ 72 → B' c = B c) ∧ (∀ k, P ≤ k → B' 72 k = B 72 k) ∧ ∀ k, k < P → B' 72 k = nI (zx6 f r i j k) := by
  intro f
  induction f with
  | zero =>
    intro i j r B hij hi hj hr
    exact ⟨B, by rw [zM_nextOrder_6_q, if_pos (nI_le (by omega) (by omega)), zM_nextOrder_7_q, zcb_1], fun _ _ => rfl, fun _ _ => rfl, hr⟩
  | succ f ih =>
    intro i j r B hij hi hj hr
    rw [zM_nextOrder_6_q, zifi (nI_leI (by omega) (by omega))]
    by_cases hc : j ≤ i
    · refine ⟨B, by rw [if_pos hc, zM_nextOrder_7_q, zcb_1], fun _ _ => rfl, fun _ _ => rfl, fun k hk => ?_⟩
      rw [zx6_s, if_pos hc]
      exact hr k hk
    · obtain ⟨s1, s2, s3⟩ := zsx_row (i := i) (j := j) hr (by omega) hj
      obtain ⟨j', rfl⟩ : ∃ j', j = j' + 1 := ⟨j - 1, by omega⟩
      obtain ⟨B', e1, e2, e3, e4⟩ := ih (i + 1) j' (zsx r i (j' + 1)) _ (by omega) (by omega) (by omega) s1
      refine ⟨B', ?_, fun c hc' => by rw [e2 c hc', s3 c hc'], fun k hk => by rw [e3 k hk, s2 k hk], fun k hk => ?_⟩
      · rw [if_neg hc, zck_n (by omega) (by decide), zck_n (by omega) (by decide), zck_n (by omega) (by decide), zck_n (by omega) (by decide), nI_clamp (by omega), nI_clamp (by omega), nI_1, nI_m1]
        exact e1
      · rw [zx6_s, if_neg hc, Nat.add_sub_cancel]
        exact e4 k hk
theorem mNextNo (hP : P < 5) (hP0 : 0 < P) (h12 : B 63 12 = nI P) (hr : ∀ j, j < P → B 72 j = nI (r j)) (hl : ∀ j, r j < 10) (h : zxn P r = none) : zM_nextOrder d B M = some (some (.int 0), B, M) := by
  obtain ⟨m, rfl⟩ : ∃ m, P = m + 1 := ⟨P - 1, by omega⟩
  have h0 : zx1 r m = 0 := by
    unfold zxn at h
    rw [Nat.add_sub_cancel] at h
    cases hz : zx1 r m with
    | zero => rfl
    | succ i => rw [hz] at h; cases h
  have e2 : nI (m + 1) - 2 = nI m + (-1) := by rw [← nI_1, Int32.sub_eq_add_neg, Int32.add_assoc]; rfl
  rw [zM_nextOrder_q, h12, e2, mNext1 hP hr hl m (by omega), h0, zM_nextOrder_2_q, if_neg (by decide), zcb_0]
theorem mNextYes {r' : Nat → Nat} (hP : P < 5) (hP0 : 0 < P) (h12 : B 63 12 = nI P) (hr : ∀ j, j < P → B 72 j = nI (r j)) (hl : ∀ j, r j < 10) (h : zxn P r = some r') : (∀ j, r' j < 10) ∧ ∃ B', zM_nextOrder d B M = some (some (.int 1), B', M) ∧ (∀ c, c ≠ 72 → B' c = B c) ∧ (∀ k, P ≤ k → B' 72 k = B 72 k) ∧ ∀ k, k < P → B' 72 k = nI (r' k) := by
  obtain ⟨m, rfl⟩ : ∃ m, P = m + 1 := ⟨P - 1, by omega⟩
  unfold zxn at h
  rw [Nat.add_sub_cancel] at h
  cases hz : zx1 r m with
  | zero => rw [hz] at h; cases h
  | succ i =>
    rw [hz] at h
    have h' : r' = zx6 4 (zsx r i (zx4 r i m)) (i + 1) m := (Option.some.inj h).symm
    obtain ⟨i1, i2⟩ := zx1_in hz
    have e2 : nI (m + 1) - 2 = nI m + (-1) := by rw [← nI_1, Int32.sub_eq_add_neg, Int32.add_assoc]; rfl
    have e3 : nI (m + 1) - 1 = nI m := by rw [← nI_1, Int32.add_sub_cancel]
    obtain ⟨f1, f2, f3⟩ := mNext4 (d := d) (M := M) hP hr hl i2 m i1 (by omega)
    obtain ⟨s1, s2, s3⟩ := zsx_row (i := i) (j := zx4 r i m) hr (by omega) (by omega)
    obtain ⟨B', g1, g2, g3, g4⟩ := mNext6 (d := d) (M := M) hP 4 (i + 1) m (zsx r i (zx4 r i m)) _ (by omega) (by omega) (by omega) s1
    refine ⟨by rw [h']; exact zx6_lt (zsx_lt hl _ _), B', ?_, fun c hc => by rw [g2 c hc, s3 c hc], fun k hk => by rw [g3 k hk, s2 k hk], by rw [h']; exact g4⟩
    rw [zM_nextOrder_q, h12, e2, mNext1 hP hr hl m (by omega), hz, nI_m1, zM_nextOrder_2_q, if_pos (nI_pos' (by omega)), zM_nextOrder_3_q, h12, e3, f1, zM_nextOrder_5_q, zck_n (by omega) (by decide), zck_n (by omega) (by decide), zck_n (by omega) (by decide), zck_n (by omega) (by decide), nI_clamp (by omega), nI_clamp (by omega), s3 63 (by decide), h12, e3, nI_1]
    exact g1
theorem zs1_in {W : Nat → Int32} {st : Int32 × Int32} (hn : n < 2 ^ 31) (hst : st.1 = -9 ∨ ∃ m, m < 2 ^ 31 ∧ st.1 = nI m) : (zs1 W st n).1 = -9 ∨ ∃ m, m < 2 ^ 31 ∧ (zs1 W st n).1 = nI m := by
  unfold zs1
  split
  · exact Or.inr ⟨n, hn, rfl⟩
  · exact hst
/-- the model's world in an order -/
theorem zmw_or (hw : zmw A v) (hc : ∀ c, (63 ≤ c ∧ c ≤ 73) → c ≠ 72 → B c = A c) (h72 : B 72 = zNr n 0 (vP v) (v 13)) : zmw B (vOr v n) := by
  have hw' := hw
  obtain ⟨-, -, -, -, w69, w70, w71, w72, -⟩ := hw'
  exact zmw_people hw (fun i _ _ => by rw [hc 63 (by decide) (by decide)]) (fun c hc' => hc c (by omega) (by omega)) (fun c hc' => vOr_o (by omega)) (by rw [hc 69 (by decide) (by decide), w69, vOr_o (by decide)]) (by rw [hc 70 (by decide) (by decide), w70, vOr_o (by decide)]) (by rw [hc 71 (by decide) (by decide), w71, vOr_o (by decide)]) (by rw [h72, vOr_13])
theorem mTurnOne {B0 : zA} {st : Int32 × Int32} (ho : Ok v) (hp : p < vP v) (hw : zmw B0 v) (hg : B0 63 33 = 0) (hz : zon (vP v) n = true) (hc : ∀ c, (c < 82 ∨ 88 < c) → c ≠ 72 → B c = B0 c) (hj : ∀ j, vP v ≤ j → B 72 j = B0 72 j) (hn : ∀ j, j < vP v → B 72 j = nI (zdi n j)) (hst : st.1 = -9 ∨ ∃ m, m < 2 ^ 31 ∧ st.1 = nI m) :
    ∃ B1, zM_turns_4 (d + 10) (nI p) st.1 st.2 1 B M = zM_turns_6 (d + 10) (nI p) (zs1 (fun n => vF (vOr v n) p) st n).1 (zs1 (fun n => vF (vOr v n) p) st n).2 B1 M ∧ ∀ c, (c < 82 ∨ 88 < c) → B1 c = B c := by
  have h5 := ho.P
  have hw' := hw
  obtain ⟨-, -, -, -, w69, w70, w71, w72, -, -, -, w12, -⟩ := hw'
  unfold zon at hz
  rw [Bool.and_eq_true, Bool.and_eq_true] at hz
  obtain ⟨⟨z1, z2⟩, z3⟩ := hz
  have z2 := of_decide_eq_true z2
  have z3 := of_decide_eq_true z3
  have hwB : zmw B (vOr v n) := zmw_or hw (fun c h1 h2 => hc c (by omega) h2) (by
    funext j
    unfold zNr
    by_cases h : 0 ≤ j ∧ j < vP v
    · rw [if_pos h, Nat.sub_zero]; exact hn j h.2
    · rw [if_neg h, hj j (by omega), w72])
  obtain ⟨B1, e1, e2⟩ := mFromStart (d := d) (M := M) (B := B) (p := p) (Ok_or ho z1) hwB (by rw [hc 63 (by omega) (by decide)]; exact hg) (by rw [vP_or]; exact hp)
  have hod : zM_orderDigits (d + 9) B1 M = some (some (.int (nI n)), B1, M) := by
    have h := mOrderDigits (B := B1) (M := M) (d := d + 9) (P := vP v) (f := zdi n) (by rw [e2 63 (by omega), hc 63 (by omega) (by decide), w12, h5.1]) h5.2 (fun j hj' => by rw [e2 72 (by omega)]; exact hn j hj')
    rw [z2] at h
    exact h
  refine ⟨B1, ?_, e2⟩
  obtain ⟨W, hW⟩ : ∃ W : Nat → Int32, (fun n => vF (vOr v n) p) = W := ⟨_, rfl⟩
  have hWn : W n = vF (vOr v n) p := by rw [← hW]
  rw [hW, zM_turns_4_q, if_neg (by decide), e1, zbi_s, ← hWn]
  unfold zs1
  rcases hst with h0 | ⟨m, hm, h0⟩
  · rw [if_pos (show st.1 < 0 by rw [h0]; decide), if_pos (Or.inl h0), zM_turns_5_q, hod, zbi_s]
  · have hne : ¬ st.1 = -9 := by rw [h0]; exact nI_ne9 hm
    rw [if_neg (show ¬ st.1 < 0 by rw [h0]; exact nI_pos hm)]
    by_cases hlt : st.2 < W n
    · rw [if_neg (Int32.not_le.mpr hlt), if_pos (Or.inr hlt), zM_turns_5_q, hod, zbi_s]
    · rw [if_pos (Int32.not_lt.mp hlt), if_neg (fun hh => hh.elim hne hlt)]
theorem mTurns4 {B0 : zA} (ho : Ok v) (hp : p < vP v) (hw : zmw B0 v) (hg : B0 63 33 = 0) : ∀ l n B st, zch (vP v) (n :: l) = true → (n :: l).all (zon (vP v)) = true → (∀ c, (c < 82 ∨ 88 < c) → c ≠ 72 → B c = B0 c) → (∀ j, vP v ≤ j → B 72 j = B0 72 j) → (∀ j, j < vP v → B 72 j = nI (zdi n j)) → (st.1 = -9 ∨ ∃ m, m < 2 ^ 31 ∧ st.1 = nI m) →
    ∃ B', zM_turns_4 (d + 10) (nI p) st.1 st.2 1 B M = zM_turns_7 (d + 10) (zsl (fun n => vF (vOr v n) p) (n :: l) st).1 B' M ∧ (∀ c, (c < 82 ∨ 88 < c) → c ≠ 72 → B' c = B0 c) ∧ ∀ j, vP v ≤ j → B' 72 j = B0 72 j := by
  have h5 := ho.P
  have w12 : B0 63 12 = nI (vP v) := by rw [← h5.1]; exact hw.2.2.2.2.2.2.2.2.2.2.2.1
  intro l
  induction l with
  | nil =>
    intro n B st hch hall hc hj hn hst
    rw [List.all_cons, Bool.and_eq_true] at hall
    obtain ⟨B1, e1, e2⟩ := mTurnOne (d := d) (M := M) ho hp hw hg hall.1 hc hj hn hst
    rw [zch_1] at hch
    have hch := of_decide_eq_true hch
    unfold zxo at hch
    have hno := Option.map_eq_none_iff.mp hch
    refine ⟨B1, ?_, fun c h1 h2 => by rw [e2 c h1, hc c h1 h2], fun j h1 => by rw [e2 72 (by omega), hj j h1]⟩
    rw [e1, zM_turns_6_q, mNextNo (B := B1) h5.2 (by omega) (by rw [e2 63 (by omega), hc 63 (by omega) (by decide), w12]) (fun j h1 => by rw [e2 72 (by omega)]; exact hn j h1) (fun j => zdi_lt n j) hno, zbi_s, zM_turns_4_q, if_pos rfl]
    rfl
  | cons m l ih =>
    intro n B st hch hall hc hj hn hst
    rw [List.all_cons, Bool.and_eq_true] at hall
    obtain ⟨B1, e1, e2⟩ := mTurnOne (d := d) (M := M) ho hp hw hg hall.1 hc hj hn hst
    rw [zch_2, Bool.and_eq_true] at hch
    have hch1 := of_decide_eq_true hch.1
    unfold zxo at hch1
    obtain ⟨r', hr1, hr2⟩ := Option.map_eq_some_iff.mp hch1
    obtain ⟨q1, B2, q2, q3, q4, q5⟩ := mNextYes (B := B1) (d := d + 9) (M := M) h5.2 (by omega) (by rw [e2 63 (by omega), hc 63 (by omega) (by decide), w12]) (fun j h1 => by rw [e2 72 (by omega)]; exact hn j h1) (fun j => zdi_lt n j) hr1
    have hz := hall.1
    unfold zon at hz
    rw [Bool.and_eq_true] at hz
    have hn3 := of_decide_eq_true hz.2
    obtain ⟨B', f1, f2, f3⟩ := ih m B2 (zs1 (fun n => vF (vOr v n) p) st n) hch.2 hall.2 (fun c h1 h2 => by rw [q3 c h2, e2 c h1, hc c h1 h2]) (fun j h1 => by rw [q4 j h1, e2 72 (by omega), hj j h1]) (fun j h1 => by rw [q5 j h1, ← hr2, zds_di q1 (vP v) j h1]) (zs1_in (by omega) hst)
    refine ⟨B', ?_, f2, f3⟩
    rw [e1, zM_turns_6_q, q2, zbi_s, f1]; rfl
/-- the model begins with the first order of all -/
theorem mTurns2 (hP : P < 5) : ∀ q i B, i + q = P → B 63 12 = nI P → ∃ B', zM_turns_2 d x (nI i) B M = zM_turns_3 d x B' M ∧ (∀ c, c ≠ 72 → B' c = B c) ∧ ∀ j, B' 72 j = if i ≤ j ∧ j < P then nI j else B 72 j := by
  intro q
  induction q with
  | zero =>
    intro i B hi h12
    refine ⟨B, ?_, fun _ _ => rfl, fun j => by rw [if_neg (by omega)]⟩
    rw [zM_turns_2_q, h12, if_pos (nI_le (by omega) (by omega))]
  | succ q ih =>
    intro i B hi h12
    obtain ⟨B', e1, e2, e3⟩ := ih (i + 1) (zput B 72 i (nI i)) (by omega) (by rw [zput_o (by decide)]; exact h12)
    refine ⟨B', ?_, fun c hc => by rw [e2 c hc, zput_o hc], fun j => ?_⟩
    · rw [zM_turns_2_q, h12, if_neg (nI_ge (by omega) (by omega)), zck_n (by omega) (by decide), nI_clamp (by omega), nI_1]
      exact e1
    · rw [e3 j, zput_s]
      by_cases e : j = i
      · rw [e, if_neg (by omega), upd_s, if_pos (by omega)]
      · rw [upd_o e]
        by_cases hj : i + 1 ≤ j ∧ j < P
        · rw [if_pos hj, if_pos (by omega)]
        · rw [if_neg hj, if_neg (by omega)]
theorem zP_turns (x : Int32) : zPr (zX_turns (d + 70) x) (zM_turns (d + 70) x) := by
  intro a A L h ha
  obtain ⟨v, hv⟩ : ∃ v, zv A = v := ⟨_, rfl⟩
  have ho := h.ok
  have hw := h.mw
  have hg := h.gone
  rw [hv] at ho hw
  have h5 := ho.P
  rcases zOne ho x with hx | ⟨p, hp, rfl⟩
  · exact zPr_no (zNo1 h) (fun A1 n1 => by rw [zX_turns_q, cNobody1 hv hx, zbi_s, if_neg (by decide), n1, zbi_s, zX_turns_2_q]) (fun A1 A2 n2 n4 => by rw [zM_turns_q, mOne0 (zmw62 hw n4) hx, zbi_s, if_pos rfl, n2, zbi_s])
  have h0 : 0 < vP v := by omega
  obtain ⟨b, x1, x2⟩ := h.old
  obtain ⟨A1, b1, c1, c2, c3, c4⟩ := cTurns (d := d + 8) (L := L) ho hv hp x2 (by omega)
  have hw1 : zmw A1 v := zmw_of hw (fun c h1 h2 => c2 c (by omega))
  have hg1 : A1 63 33 = 0 := by rw [c2 63 (by omega)]; exact hg
  obtain ⟨B2, k1, k2, k3, k4, k5, k6⟩ := mKeepTry (d := d + 68) (A0 := A1) (L := L) hw1
  have k12 : B2 63 12 = nI (vP v) := by rw [← h5.1]; exact k6.2.2.2.2.2.2.2.2.2.2.2.1
  have hw72 : B2 72 = v 13 := k6.2.2.2.2.2.2.2.1
  obtain ⟨B3, m1, m2, m3⟩ := mTurns2 (d := d + 70) (M := L) (x := nI p) (P := vP v) h5.2 (vP v) 0 B2 (by omega) k12
  obtain ⟨z1, z2, -, z4⟩ := zol_all (vP v) h5.2 h0
  obtain ⟨n, l, hl⟩ : ∃ n l, zol (vP v) (2 ^ (2 * vP v)) 0 = n :: l := by
    cases hz : zol (vP v) (2 ^ (2 * vP v)) 0 with
    | nil => rw [hz] at z2; cases z2
    | cons n l => exact ⟨n, l, rfl⟩
  rw [hl] at z1 z2 z4
  have hnid : n = zds id (vP v) := by
    rw [List.head?_cons] at z2
    exact Option.some.inj z2
  have hdi : ∀ j, j < vP v → zdi n j = j := by
    rw [hnid]
    have h4 : vP v = 1 ∨ vP v = 2 ∨ vP v = 3 ∨ vP v = 4 := by omega
    rcases h4 with e | e | e | e <;> rw [e] <;> decide
  have hg2 : B2 63 33 = 0 := by rw [k4 33 (by decide) (by decide)]; exact hg1
  obtain ⟨B4, n1, n2, n3⟩ := mTurns4 (d := d + 60) (M := L) (B0 := B2) ho hp k6 hg2 l n B3 (-9, 0) z1 z4 (fun c h1 h2 => m2 c h2) (fun j hj => by rw [m3 j, if_neg (by omega)]) (fun j hj => by rw [m3 j, if_pos (by omega), hdi j hj]) (Or.inl rfl)
  obtain ⟨B5, q1, q2, q3, q4⟩ := mPutTry (d := d + 68) (L := L) (A := B2) (B := B4) k6 k2 (fun i => by rw [n2 81 (by omega) (by decide)]) (fun c a1 a2 a3 a4 => n2 c (by omega) a4) (fun i hi => by rw [n2 69 (by omega) (by decide)]) (fun i hi => n3 i (by omega))
  have hcc : ∀ c, (c < 63 ∨ c = 64 ∨ (73 < c ∧ c < 81) ∨ 88 < c) → B5 c = A1 c := fun c hc => by rw [q2 c (by omega), n2 c (by omega) (by omega), k3 c (by omega) (by omega)]
  refine ⟨vTn v p, A1, L, B5, L, ?_, ?_, RR_mw h hv (fun c hc => by rw [hcc c (by omega), c2 c (by omega)]) q4 (fun i hi => by rw [q3 i (by omega) (by omega) (by omega), n2 63 (by omega) (by decide), k4 i (by omega) (by omega), c2 63 (by omega)]) (fun j hj => by rw [q2 81 (by omega), n2 81 (by omega) (by decide), k5 j hj, c2 81 (by omega)]) ⟨b1, by omega, zOld_of c3 (by rw [hcc 51 (by omega)]) (hcc 52 (by omega)) (hcc 53 (by omega))⟩⟩
  · rw [zX_turns_q, cNobody0 ho hv hp, zbi_s, if_pos rfl, zX_turns_1_q, c1, zbi_s, zX_turns_2_q]
  · have m1' : zM_turns_2 (d + 70) (nI p) 0 B2 L = zM_turns_3 (d + 70) (nI p) B3 L := m1
    have n1' : zM_turns_4 (d + 70) (nI p) (-9) 0 1 B3 L = zM_turns_7 (d + 70) (vTn v p) B4 L := by
      unfold vTn
      rw [hl]
      exact n1
    rw [zM_turns_q, mOne1 ho hw1 hp, zbi_s, if_neg (by decide), zM_turns_1_q, k1, zbv_s, m1', zM_turns_3_q, n1', zM_turns_7_q, q1, zbv_s]
end TU
