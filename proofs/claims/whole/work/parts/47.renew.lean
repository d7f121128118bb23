/-! ===== the class's mind is made new: all ends are weighed ===== -/
theorem zlow_bits : ∀ m, m < 64 → m ≠ 0 → zlow m 9 < 6 ∧ m &&& (m - 1) < m ∧ m.testBit (zlow m 9) = true ∧ ∀ k, k < 6 → (m &&& (m - 1)).testBit k = (m.testBit k && !(k == zlow m 9)) := by decide +kernel
theorem vWs_low (v : zA) (p : Nat) {m : Nat} (hm : m < 64) (h0 : m ≠ 0) : ∀ k, k ≤ 6 → vWs v p m k = vWs v p (m &&& (m - 1)) k + (if zlow m 9 < k then vWo v p (zlow m 9) else 0)
  | 0, _ => by simp [vWs]
  | k + 1, hk => by
    obtain ⟨h1, h2, h3, h4⟩ := zlow_bits m hm h0
    have ih := vWs_low v p hm h0 k (by omega)
    unfold vWs
    rw [ih, h4 k (by omega)]
    by_cases e : k = zlow m 9
    · have e2 : (k == zlow m 9) = true := by simp [e]
      rw [e2, if_neg (by omega), if_pos (show zlow m 9 < k + 1 by omega), ← e]
      rw [← e] at h3
      simp [h3]
    · have e2 : (k == zlow m 9) = false := by simp [e]
      rw [e2]
      by_cases e3 : zlow m 9 < k
      · rw [if_pos e3, if_pos (show zlow m 9 < k + 1 by omega)]
        simp only [Bool.not_false, Bool.and_true]
        rw [Int32.add_assoc, Int32.add_assoc, Int32.add_comm (vWo v p (zlow m 9))]
      · rw [if_neg e3, if_neg (show ¬ zlow m 9 < k + 1 by omega)]
        simp
section CN
variable {v : zA} {L : zL} {d a : Nat}
theorem cWorthOf {A : zA} {p k : Nat} (ho : Ok v) (hv : zv A = v) (hp : p < vP v) (hk : k < 6) : zP_worthOf (d + 1) (nI p) (nI k) A L = some (some (.int (vWo v p k)), A, L) := by
  have h5 := ho.P.2
  rw [zP_worthOf_q, cHas ho hv hp, zbi_s, if_neg (by decide), if_neg (nI_pos (by omega)), if_neg (nI_g6 hk), show nI p * 6 + nI k = nI (6 * p + k) by rw [show (6 : Int32) = nI 6 from rfl, pk_mul, nI_add, Nat.mul_comm], zck_n (by omega) (by decide), zP_worthOf_2_q, nI_clamp (by omega), zv_c hv 12 (by decide)]
  rfl
theorem cWeighMeaning {A : zA} {p m : Nat} (ho : Ok v) (hv : zv A = v) (hp : p < vP v) (hm : m < 64) (hT : ∀ m', m' < m → A 54 (65 * p + m') = vEw v p m') : zD_weighMeaning (d + 2) (nI p) (nI m) A L = some (some (.int (vEw v p m)), A, L) := by
  have h5 := ho.P.2
  rw [zD_weighMeaning_q, show (0 : Int32) = nI 0 from rfl, zifi (nI_eq (by omega) (by omega))]
  by_cases h0 : m = 0
  · subst h0
    rw [if_pos (by rfl)]
    have : vEw v p 0 = 0 := by
      unfold vEw vWs vWs vWs vWs vWs vWs vWs
      simp
    rw [this]
    rfl
  · obtain ⟨h1, h2, h3, h4⟩ := zlow_bits m hm h0
    rw [if_neg h0, zD_weighMeaning_1_q, cNtz0, zbi_s, zntz_n m (by omega) h0, show (1 : Int32) = nI 1 from rfl, pk_sub (show 1 ≤ m by omega), nI_and, cWorthAt (by omega), zbi_s, cWorthOf ho hv hp h1, zbi_s, hT _ h2]
    unfold vEw
    rw [if_pos (by omega), if_pos hm, vWs_low v p hm h0 6 (Nat.le_refl 6), if_pos h1]
theorem cWA2 (ho : Ok v) {s : Nat} (hs : s < 65) : ∀ k q A, q + k = vP v → zv A = v → (∀ p m, p < vP v → m < s → A 54 (65 * p + m) = vEw v p m) →
    ∃ A', zD_weighAllEnds_2 (d + 3) (nI (vP v)) (nI s) (vAll v s q) (nI q) A L = zD_weighAllEnds_5 (d + 3) (nI (vP v)) (nI s) (vAll v s (vP v)) A' L ∧ (∀ c, c ≠ 54 → A' c = A c) ∧
      (∀ q', q ≤ q' → q' < vP v → A' 54 (65 * q' + s) = vEw v q' s) ∧ ∀ i, (∀ q', q ≤ q' → q' < vP v → i ≠ 65 * q' + s) → A' 54 i = A 54 i := by
  have h5 := ho.P.2
  intro k
  induction k with
  | zero =>
    intro q A hq hv hT
    refine ⟨A, ?_, fun _ _ => rfl, fun q' h1 h2 => by omega, fun _ _ => rfl⟩
    have e : q = vP v := by omega
    rw [zD_weighAllEnds_2_q, if_pos (nI_le (by omega) (by omega)), e]
  | succ k ih =>
    intro q A hq hv hT
    have hstep : zD_weighAllEnds_2 (d + 3) (nI (vP v)) (nI s) (vAll v s q) (nI q) A L = zD_weighAllEnds_2 (d + 3) (nI (vP v)) (nI s) (vAll v s (q + 1)) (nI (q + 1)) (zput A 54 (65 * q + s) (vEw v q s)) L := by
      have h4 : ∀ x, x = vEw v q s → zD_weighAllEnds_4 (d + 3) (nI (vP v)) (nI s) (vAll v s q) (nI q) x A L = zD_weighAllEnds_2 (d + 3) (nI (vP v)) (nI s) (vAll v s (q + 1)) (nI (q + 1)) (zput A 54 (65 * q + s) (vEw v q s)) L := by
        intro x hx
        rw [zD_weighAllEnds_4_q, show nI q * 65 + nI s = nI (65 * q + s) by rw [show (65 : Int32) = nI 65 from rfl, pk_mul, nI_add, Nat.mul_comm], zck_n (by omega) (by decide), nI_clamp (by omega), nI_1, hx]
        rfl
      rw [zD_weighAllEnds_2_q, if_neg (nI_ge (by omega) (by omega)), if_neg (nI_g4 (by omega)), show (64 : Int32) = nI 64 from rfl, zifi (nI_eq (by omega) (by omega))]
      by_cases h64 : s = 64
      · rw [if_pos h64]
        refine h4 _ ?_
        unfold vEw vLoss
        rw [if_neg (by omega), zv_c hv 1 (by decide)]
      · rw [if_neg h64, zD_weighAllEnds_3_q, cWeighMeaning ho hv (by omega) (by omega) (fun m' hm' => hT q m' (by omega) hm'), zbi_s]
        exact h4 _ rfl
    obtain ⟨A', e1, e2, e3, e4⟩ := ih (q + 1) (zput A 54 (65 * q + s) (vEw v q s)) (by omega) (by rw [zv_put (by decide)]; exact hv) (fun p m hp hm => by rw [zput_s, upd_o (by omega)]; exact hT p m hp hm)
    refine ⟨A', hstep.trans e1, fun c hc => by rw [e2 c hc, zput_o hc], fun q' h1 h2 => ?_, fun i hi => ?_⟩
    · by_cases e : q' = q
      · subst e
        rw [e4 _ (fun q'' a1 a2 => by omega), zput_s, upd_s]
      · exact e3 q' (by omega) h2
    · rw [e4 i (fun q' a1 a2 => hi q' (by omega) a2), zput_s, upd_o (hi q (Nat.le_refl q) (by omega))]
theorem cWA1 (ho : Ok v) : ∀ k s A, s + k = 65 → zv A = v → (∀ p m, p < vP v → m < s → A 54 (65 * p + m) = vEw v p m) → (∀ e, e < s → A 54 (260 + e) = vAll v e (vP v)) →
    ∃ A', zD_weighAllEnds_1 (d + 3) (nI (vP v)) (nI s) A L = some (none, A', L) ∧ (∀ c, c ≠ 54 → A' c = A c) ∧ (∀ p m, p < vP v → m < 65 → A' 54 (65 * p + m) = vEw v p m) ∧ ∀ e, e < 65 → A' 54 (260 + e) = vAll v e (vP v) := by
  have h5 := ho.P.2
  intro k
  induction k with
  | zero =>
    intro s A hs hv hT hE
    have e : s = 65 := by omega
    subst e
    refine ⟨A, ?_, fun _ _ => rfl, hT, hE⟩
    rw [zD_weighAllEnds_1_q, if_pos (by decide), zD_weighAllEnds_6_q]
  | succ k ih =>
    intro s A hs hv hT hE
    obtain ⟨B, b1, b2, b3, b4⟩ := cWA2 (d := d) (L := L) ho (s := s) (by omega) (vP v) 0 A (by omega) hv hT
    have hB5 : zD_weighAllEnds_5 (d + 3) (nI (vP v)) (nI s) (vAll v s (vP v)) B L = zD_weighAllEnds_1 (d + 3) (nI (vP v)) (nI (s + 1)) (zput B 54 (260 + s) (vAll v s (vP v))) L := by
      rw [zD_weighAllEnds_5_q, show (260 : Int32) + nI s = nI (260 + s) by rw [show (260 : Int32) = nI 260 from rfl, nI_add], zck_n (by omega) (by decide), nI_clamp (by omega), nI_1]
    obtain ⟨A', e1, e2, e3, e4⟩ := ih (s + 1) (zput B 54 (260 + s) (vAll v s (vP v))) (by omega) (by rw [zv_put (by decide), ← hv]; exact zv_of (fun c hc => b2 c (by omega)))
      (fun p m hp hm => by
        rw [zput_s, upd_o (by omega)]
        by_cases e : m = s
        · subst e; exact b3 p (Nat.zero_le p) hp
        · rw [b4 _ (fun q' _ _ => by omega)]; exact hT p m hp (by omega))
      (fun e he => by
        rw [zput_s]
        by_cases e2 : e = s
        · rw [e2, upd_s]
        · rw [upd_o (by omega), b4 _ (fun q' _ h2 => by omega)]; exact hE e (by omega))
    refine ⟨A', ?_, fun c hc => by rw [e2 c hc, zput_o hc, b2 c hc], e3, e4⟩
    rw [zD_weighAllEnds_1_q, if_neg (nI_g65 (by omega))]
    have hb1 := b1
    rw [show vAll v s 0 = 0 from rfl, show nI 0 = (0 : Int32) from rfl] at hb1
    rw [hb1, hB5]
    exact e1
/-- the mind before it is made new: every entry is of an age that was -/
def zOld (A : zA) (a : Nat) : Prop := A 51 4 = nI a ∧ ∀ i, i < 4096 → (∃ x, A 52 i = nI x ∧ x < (a + 1) * 2048) ∧ ∃ x, A 53 i = nI x ∧ x < (a + 1) * 2048
theorem zMi.old {A v : zA} {a : Nat} (h : zMi A v a) : zOld A a := by
  refine ⟨h.1, fun i hi => ?_⟩
  have e : i = zsp (i / 512) (i / 64 % 8) (i % 64) := by unfold zsp; omega
  obtain ⟨x, h1, h2, -⟩ := h.2.2.1 (i / 512) (i / 64 % 8) (i % 64) (by omega) (by omega) (by omega)
  obtain ⟨y, g1, g2, -⟩ := h.2.2.2.1 (i / 512) (i / 64 % 8) (i % 64) (by omega) (by omega) (by omega)
  rw [← e] at h1 g1
  exact ⟨⟨x, h1, h2⟩, ⟨y, g1, g2⟩⟩
theorem cRenew {A : zA} (ho : Ok v) (hv : zv A = v) (hO : zOld A a) (ha : a + 1 < 1048576) : ∃ A', zD_renew (d + 4) A L = some (none, A', L) ∧ (∀ c, c ≠ 51 → c ≠ 54 → A' c = A c) ∧ (∀ i, i ≠ 4 → A' 51 i = A 51 i) ∧ zMi A' v (a + 1) := by
  obtain ⟨A', e1, e2, e3, e4⟩ := cWA1 (d := d) (L := L) ho 65 0 (zput A 51 4 (nI (a + 1))) (by omega) (by rw [zv_put (by decide)]; exact hv) (fun _ _ _ h => absurd h (Nat.not_lt_zero _)) (fun _ h => absurd h (Nat.not_lt_zero _))
  refine ⟨A', ?_, fun c h1 h2 => by rw [e2 c h2, zput_o h1], fun i hi => by rw [e2 51 (by decide), zput_s, upd_o hi], ?_⟩
  · rw [zD_renew_q, hO.1, nI_1, zput_s, upd_s, if_pos (by rw [show (1048576 : Int32) = nI 1048576 from rfl]; exact nI_lt ha (by omega)), zD_renew_3_q, zD_weighAllEnds_q, zput_o (by decide), zv_c hv 9 (by decide), ho.P.1, show (0 : Int32) = nI 0 from rfl, e1, zbv_s]
  · refine ⟨by rw [e2 51 (by decide), zput_s, upd_s], ha, ?_, ?_, ?_, ?_, fun e he => e4 e (by omega)⟩
    · intro n s m hn hs hm
      obtain ⟨⟨x, h1, h2⟩, -⟩ := hO.2 (zsp n s m) (by unfold zsp; omega)
      exact ⟨x, by rw [e2 52 (by decide), zput_o (by decide)]; exact h1, Nat.lt_of_lt_of_le h2 (Nat.mul_le_mul_right 2048 (Nat.le_succ _)), fun h => absurd h (Nat.ne_of_lt (Nat.div_lt_of_lt_mul (by rw [Nat.mul_comm]; exact h2)))⟩
    · intro n s m hn hs hm
      obtain ⟨-, ⟨x, h1, h2⟩⟩ := hO.2 (zsp n s m) (by unfold zsp; omega)
      exact ⟨x, by rw [e2 53 (by decide), zput_o (by decide)]; exact h1, Nat.lt_of_lt_of_le h2 (Nat.mul_le_mul_right 2048 (Nat.le_succ _)), fun h => absurd h (Nat.ne_of_lt (Nat.div_lt_of_lt_mul (by rw [Nat.mul_comm]; exact h2)))⟩
    · intro p m hp hm
      rw [e3 p m hp (by omega)]
      unfold vEw
      rw [if_pos hm]
    · intro p hp
      rw [e3 p 64 hp (by omega)]
      unfold vEw
      rw [if_neg (by omega)]
/-- the class's mind, asked from a place -/
theorem cEndFrom {A : zA} {n s m D : Nat} (ho : Ok v) (hv : zv A = v) (hM : zMi A v a) (hn : n ≤ 8) (hs : s < 8) (hm : m < 64) (hD : 49 ≤ D) : ∃ A', zD_endFrom D (nI (zsp n s m)) A L = some (some (.int (nI (vE v n s m))), A', L) ∧ zFm A A' ∧ zMi A' v a :=
  (cMind (L := L) (a := a) ho (8 - n) n (by omega) s m A hs hm hv hM).2 D (by omega)
theorem cDeed {A : zA} {n s m D : Nat} (ho : Ok v) (hv : zv A = v) (hM : zMi A v a) (hn : n ≤ 8) (hs : s < 8) (hm : m < 64) (hD : 53 ≤ D) : ∃ A', zD_deedAt D (nI (zsp n s m)) A L = some (some (.int (if vMay v n s = 0 then -9 else nI (vDeed v n s m))), A', L) ∧ zFm A A' ∧ zMi A' v a := by
  refine cDeedAt (f := 8 - n) ho (fun h => ?_) hn hs hm hv hM (by omega)
  have := cMind (L := L) (a := a) ho (8 - (n + 1)) (n + 1) (by omega)
  intro s m A hs hm hv hM
  obtain ⟨h1, h2⟩ := this s m A hs hm hv hM
  exact ⟨fun p D hp hD => h1 p D hp (by omega), fun D hD => h2 D (by omega)⟩
theorem cWorthFromBeginning {A : zA} {p : Nat} (ho : Ok v) (hv : zv A = v) (hO : zOld A a) (ha : a + 1 < 1048576) (hp : p < vP v) : ∃ A', zD_worthFromBeginning (d + 60) (nI p) A L = some (some (.int (vEw v p (vE v 0 0 0 % 128))), A', L) ∧ (∀ c, (c < 51 ∨ 54 < c) → A' c = A c) ∧ (∀ i, i ≠ 4 → A' 51 i = A 51 i) ∧ zMi A' v (a + 1) := by
  obtain ⟨B, b1, b2, b3, b4⟩ := cRenew (d := d + 55) (L := L) ho hv hO ha
  have hvB : zv B = v := by rw [← hv]; exact zv_of (fun c hc => b2 c (by omega) (by omega))
  obtain ⟨C, c1, c2, c3⟩ := cEndFrom (n := 0) (s := 0) (m := 0) (D := d + 59) (L := L) ho hvB b4 (by omega) (by omega) (by omega) (by omega)
  refine ⟨C, ?_, fun c hc => by rw [c2 c (by omega) (by omega), b2 c (by omega) (by omega)], fun i hi => by rw [c2 51 (by decide) (by decide), b3 i hi], c3⟩
  have hlt := vE_lt (n := 0) (s := 0) (m := 0) ho (by omega) (by omega) (by omega)
  rw [show nI (zsp 0 0 0) = (0 : Int32) from rfl] at c1
  rw [zD_worthFromBeginning_q, b1, zbv_s, c1, zbi_s, cWorthOfEnd ho c3.2.2.2.2 hp (by omega), zbi_s]
end CN
