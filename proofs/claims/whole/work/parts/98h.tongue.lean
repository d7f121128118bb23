/-! ===== class and model answer alike: tongue ===== -/
section TG
variable {d n a b k s t u p K : Nat} {A A' A0 B B0 v w g : zA} {L M : zL} {T : Nat → Int32} {x m : Int32}
theorem cSkip {x y : Int32} {f : Nat} (h2 : A 33 2 = nI n) (hn : n ≤ 64) (hT : A 34 = T) (hf : f < n) : ∀ q i, i + q = f → (∀ j, i ≤ j → j < f → ¬ T j = 59) → zR_applyAll_1 (d + 1) x y (nI i) A L = zR_applyAll_1 (d + 1) x y (nI f) A L := by
  intro q
  induction q with
  | zero =>
    intro i hi _
    rw [show i = f by omega]
  | succ q ih =>
    intro i hi h
    rw [← ih (i + 1) (by omega) (fun j h1 h3 => h j (by omega) h3), zR_applyAll_1_q, h2, if_neg (nI_ge (by omega) (by omega)), cLetter (by omega), zbi_s, hT, if_neg (h i (Nat.le_refl i) (by omega)), zR_applyAll_3_q, nI_1]
/-- the statements from the k-th on: all come to something, or one comes to nothing -/
theorem zApply {dm : Nat} (hn : n ≤ 64) (hK : K < 32) (hok : ∀ j, j < K → (zst T n (zpo T n j)).1 = true) (hend : n ≤ zpo T n K) (h28 : B0 63 28 = nI K) (hrec : ∀ j, j < K → zRec B0 T n (zpo T n j) j) (h2 : A0 33 2 = nI n) (hT : A0 34 = T) :
    ∀ q k A B w, k + q = K → Ok w → vSz w = 0 → zSm w (zvt A) → zmw B w → zTl v w → (∀ c, (c < 35 ∨ 50 < c) → A c = A0 c) → (∀ c, c ≠ 63 → (c < 65 ∨ 72 < c) → B c = B0 c) → (∀ i, (i < 10 ∨ 13 < i) → B 63 i = B0 63 i) →
    (∃ A' B' w', zR_applyAll_1 (d + 5) (nI k) (nI (zpo T n k)) (nI (zpo T n k)) A L = some (some (.int (nI K)), A', L) ∧ zM_tongue_8 (dm + 3) (nI k) B M = zM_tongue_11 (dm + 3) B' M ∧ Ok w' ∧ vSz w' = 0 ∧ zSm w' (zvt A') ∧ zmw B' w' ∧ zTl v w' ∧ (∀ c, (c < 35 ∨ 50 < c) → A' c = A0 c) ∧ (∀ c, c ≠ 63 → (c < 65 ∨ 72 < c) → B' c = B0 c) ∧ (∀ i, (i < 10 ∨ 13 < i) → B' 63 i = B0 63 i)) ∨
    (∃ j A' B' w', j < K ∧ zR_applyAll_1 (d + 5) (nI k) (nI (zpo T n k)) (nI (zpo T n k)) A L = some (some (.int (-2000 - nI (zpo T n j))), A', L) ∧ zM_tongue_8 (dm + 3) (nI k) B M = zM_tongue_9 (dm + 3) (nI j) B' M ∧ zpo T n j ≤ 64 ∧ zmw B' w' ∧ zTl v w' ∧ (∀ c, (c < 35 ∨ 50 < c) → A' c = A0 c) ∧ (∀ c, c ≠ 63 → (c < 65 ∨ 72 < c) → B' c = B0 c) ∧ (∀ i, (i < 10 ∨ 13 < i) → B' 63 i = B0 63 i)) := by
  intro q
  induction q with
  | zero =>
    intro k A B w hk ho h0 hC hB ht hA hb1 hb2
    have e : k = K := by omega
    subst e
    have hle : zpo T n k < 2 ^ 31 := by
      rcases Nat.eq_zero_or_pos k with e | e
      · rw [e]; show 0 < 2 ^ 31; omega
      · obtain ⟨f, f1, f2, f3, -⟩ := zst_ok (hok (k - 1) (by omega))
        rw [← zpo_s, show k - 1 + 1 = k by omega] at f1
        have := zin_lt f3
        omega
    refine Or.inl ⟨A, B, w, ?_, ?_, ho, h0, hC, hB, ht, hA, hb1, hb2⟩
    · rw [zR_applyAll_1_q, hA 33 (by omega), h2, if_pos (nI_le hend hle), zR_applyAll_4_q]
    · rw [zM_tongue_8_q, hb2 28 (by omega), h28, if_pos (nI_le (by omega) (by omega))]
  | succ q ih =>
    intro k A B w hk ho h0 hC hB ht hA hb1 hb2
    obtain ⟨f, f1, f2, f3, f4⟩ := zst_ok (hok k (by omega))
    rw [← zpo_s] at f1
    have hfn := zin_lt f3
    have hA2 : A 33 2 = nI n := by rw [hA 33 (by omega), h2]
    have hAT : A 34 = T := by rw [hA 34 (by omega), hT]
    have hr : zRec B T n (zpo T n k) k := (hrec k (by omega)).of (fun c c1 c2 => by rw [hb1 c (by omega) (by omega)])
    have hT59 : T f = 59 := by
      obtain ⟨z1, z2, z3⟩ := zin_n (by decide) (by decide) f3
      rw [z1, show ztl T f = 59 by omega]; rfl
    have hX : zR_applyAll_1 (d + 5) (nI k) (nI (zpo T n k)) (nI (zpo T n k)) A L = zbi (zR_applies (d + 4) (nI (zpo T n k)) A L) (fun r2 A2 L2 => if r2 = 0 then some (some (.int (-2000 - nI (zpo T n k))), A2, L2) else zR_applyAll_2 (d + 5) (nI k) (nI f) A2 L2) := by
      rw [cSkip hA2 hn hAT hfn (f - zpo T n k) (zpo T n k) (by omega) f4, zR_applyAll_1_q, hA2, if_neg (nI_ge hfn (by omega)), cLetter (by omega), zbi_s, hAT, if_pos hT59]
    have hY : zM_tongue_8 (dm + 3) (nI k) B M = zbi (zM_comes (dm + 2) (nI k) B M) (fun r1 A1 L1 => if r1 = 0 then zM_tongue_9 (dm + 3) (nI k) A1 L1 else zM_tongue_10 (dm + 3) (nI k) A1 L1) := by
      rw [zM_tongue_8_q, hb2 28 (by omega), h28, if_neg (nI_ge (by omega) (by omega))]
    rcases zStep (d := d) (dm := dm) (L := L) (M := M) ho h0 hC hB hA2 hn hAT (by omega) hr with ⟨e1, e2⟩ | ⟨A', B', w', e1, e2, e3, e4, e5, e6, e7, e8, e9, e10⟩
    · refine Or.inr ⟨k, A, B, w, by omega, ?_, ?_, by omega, hB, ht, hA, hb1, hb2⟩
      · rw [hX, e1, zbi_s, if_pos rfl]
      · rw [hY, e2, zbi_s, if_pos rfl]
    · have hX2 : zR_applyAll_1 (d + 5) (nI k) (nI (zpo T n k)) (nI (zpo T n k)) A L = zR_applyAll_1 (d + 5) (nI (k + 1)) (nI (zpo T n (k + 1))) (nI (zpo T n (k + 1))) A' L := by
        rw [hX, e1, zbi_s, if_neg (by decide), zR_applyAll_2_q, zR_applyAll_3_q, nI_1, nI_1, ← f1]
      have hY2 : zM_tongue_8 (dm + 3) (nI k) B M = zM_tongue_8 (dm + 3) (nI (k + 1)) B' M := by
        rw [hY, e2, zbi_s, if_neg (by decide), zM_tongue_10_q, nI_1]
      rw [hX2, hY2]
      exact ih (k + 1) A' B' w' (by omega) e3 e4 e5 e6 (ht.tr e7) (fun c hc => by rw [e8 c hc, hA c hc]) (fun c c1 c2 => by rw [e9 c c1 c2, hb1 c c1 c2]) (fun i hi => by rw [e10 i hi, hb2 i hi])
/-- the model's world as the class has it -/
theorem zmw_sm (hw : zmw B w) (ho : Ok w) (hs : zSm w g) (t1 : ∀ c i, (c = 3 ∨ c = 4 ∨ c = 5 ∨ c = 6 ∨ c = 12) → 24 ≤ i → g c i = w c i) (t2 : ∀ c i, (c = 10 ∨ c = 11 ∨ c = 13) → 4 ≤ i → g c i = w c i) (t3 : ∀ i, 8 ≤ i → g 15 i = w 15 i) : zmw B g := by
  obtain ⟨w65, w66, w67, w68, w69, w70, w71, w72, w73, w10, w11, w12, w13, w14, w15, w18, w16, w17⟩ := hw
  obtain ⟨s1, s2⟩ := vSt_sm hs ho
  have hp := zSm_pl.mp hs
  have r24 : ∀ c, (c = 3 ∨ c = 4 ∨ c = 5 ∨ c = 6 ∨ c = 12) → g c = w c := fun c hc => by
    funext i
    by_cases hi : i < 24
    · exact hp c i (by unfold zPl; omega)
    · exact t1 c i hc (by omega)
  have r4 : ∀ c, (c = 10 ∨ c = 11 ∨ c = 13) → g c = w c := fun c hc => by
    funext i
    by_cases hi : i < 4
    · exact hp c i (by unfold zPl; omega)
    · exact t2 c i hc (by omega)
  have r15 : g 15 = w 15 := by
    funext i
    by_cases hi : i < 8
    · exact hp 15 i (by unfold zPl; omega)
    · exact t3 i (by omega)
  exact ⟨by rw [r24 3 (by omega), w65], by rw [r24 4 (by omega), w66], by rw [r24 5 (by omega), w67], by rw [r24 6 (by omega), w68], by rw [r4 10 (by omega), w69], by rw [r4 11 (by omega), w70], by rw [r24 12 (by omega), w71], by rw [r4 13 (by omega), w72], by rw [r15, w73], by rw [hp 2 6 (by unfold zPl; omega), w10], by rw [hp 2 7 (by unfold zPl; omega), w11], by rw [hp 9 4 (by unfold zPl; omega), w12], by rw [hp 1 3 (by unfold zPl; omega), w13], by rw [hp 1 4 (by unfold zPl; omega), w14], by rw [hp 14 2 (by unfold zPl; omega), w15], by rw [hp 14 3 (by unfold zPl; omega), w18], by rw [s1, w16], by rw [s2, w17]⟩
/-- what a tongue leaves of the class -/
def zCq (A A1 : zA) : Prop := (∀ c, (c < 1 ∨ (16 < c ∧ c < 33) ∨ c = 34 ∨ 50 < c) → A1 c = A c) ∧ A1 33 2 = nI 0 ∧ Ok (zv A1)
/-- what a tongue leaves of the model -/
def zMq (B B' : zA) : Prop := (∀ c, (c < 63 ∨ c = 64 ∨ c = 74 ∨ 81 < c) → B' c = B c) ∧ (∀ i, (i = 30 ∨ i = 33 ∨ i = 45) → B' 63 i = B 63 i) ∧ B' 63 26 = nI 0 ∧ ∀ j, j < 200 → B' 81 j = B 81 j
theorem zTongue (ho : Ok v) (h0 : vSz v = 0) (hv : zv A = v) (h2 : A 33 2 = nI n) (hn : n ≤ 64) (hT : A 34 = T) (hw : zmw B v) (b26 : B 63 26 = nI n) (bT : B 74 = T) :
    ∃ r A1 B', zX_tongue_1 (d + 9) A L = some (some (.int r), A1, L) ∧ zM_tongue_1 (d + 9) B M = some (some (.int r), B', M) ∧ zCq A A1 ∧ zMq B B' ∧ zmw B' (zv A1) := by
  obtain ⟨B1, hB1⟩ : ∃ B1, B1 = zput (zput B 63 27 0) 63 28 0 := ⟨_, rfl⟩
  have f1 : zFz B B1 := ⟨fun c c1 c2 => by rw [hB1, zput_o c1, zput_o c1], fun i i1 i2 => by rw [hB1, zput_s, upd_o i2, zput_s, upd_o i1]⟩
  have b28 : B1 63 28 = nI 0 := by rw [hB1, zput_s, upd_s]; rfl
  have s1 : zMs B1 T n (zpo T n 0) := ⟨by rw [f1.2 26 (by decide) (by decide), b26], by rw [hB1, zput_s, upd_o (by decide), zput_s, upd_s]; rfl, by rw [f1.1 74 (by decide) (by decide), bT]⟩
  have hM1 : zM_tongue_1 (d + 9) B M = zM_tongue_3 (d + 9) B1 M := by
    rw [zM_tongue_1_q, ← hB1, zM_tongue_2_q, if_neg (by decide), b28]
    by_cases h : B1 63 27 < B1 63 26
    · rw [if_pos h]
    · rw [if_neg h, if_pos (by rfl)]
  have hX1 : ∀ r A2, zXk (d + 2) n 0 T A L = some (some (.int r), A2, L) → zR_isWellFormed (d + 7) A L = some (some (.int r), A2, L) := fun r A2 h => by
    rw [zR_isWellFormed_q]
    exact h
  have hX2 : ∀ r A6, zR_readInto_1 (d + 8) A L = some (some (.int r), A6, L) → zX_tongue_1 (d + 9) A L = some (some (.int r), A6, L) := fun r A6 h => by
    rw [zX_tongue_1_q, h, zbi_s, zX_tongue_2_q]
  -- what the class's last step leaves
  have hq : ∀ A5 r, (∀ c, (c < 1 ∨ (16 < c ∧ c < 33) ∨ c = 34 ∨ 50 < c) → A5 c = A c) → Ok (zv A5) → zR_readInto_1_2 (d + 8) r A5 L = some (some (.int r), zput A5 33 2 0, L) ∧ zCq A (zput A5 33 2 0) ∧ zv (zput A5 33 2 0) = zv A5 := fun A5 r h5 hok => by
    have e : zv (zput A5 33 2 0) = zv A5 := zv_put (by decide)
    exact ⟨zR_readInto_1_2_q .., ⟨fun c hc => by rw [zput_o (by omega), h5 c hc], by rw [zput_s, upd_s]; rfl, by rw [e]; exact hok⟩, e⟩
  rcases zRead (d := d + 2) (dm := d + 3) (L := L) (M := M) (B0 := B) h2 hn hT n 0 B1 (by omega) (fun j hj => absurd hj (Nat.not_lt_zero j)) (by omega) (Nat.zero_le _) s1 b28 (fun j hj => absurd hj (Nat.not_lt_zero j)) f1 with ⟨K, B2, K0, K32, hok, hend, x1, y1, c28, hrec, f2⟩ | ⟨e, B2, x1, y1, c27, f2⟩
  · obtain ⟨A2, hA2⟩ : ∃ A2, A2 = zSr A (zpo T n K) := ⟨_, rfl⟩
    rw [← hA2] at x1
    have hA2c : ∀ c, c ≠ 33 → A2 c = A c := fun c hc => by rw [hA2, zSr_o hc]
    have hA22 : A2 33 2 = nI n := by rw [hA2, zSr_2, h2]
    obtain ⟨A3, c1, c2⟩ := zWt_copyFrom_1_c (d := d + 6) (A := A2) (L := L) (by rw [hA2c 14 (by decide), zv_c hv 14 (by decide)]; exact ho.stop)
    have hA3c : ∀ c, (c < 35 ∨ 50 < c) → A3 c = A2 c := c2.1
    have hsm : zSm v (zvt A3) := zSm_cp c2 v (zvt A3) (fun c hc => by rw [show 1 + c = c + 1 by omega, hA2c _ (by omega), zv_c hv _ (by omega)]) (fun c hc => by rw [zvt_c (by omega), show c + 1 + 34 = 35 + c by omega])
    -- the model keeps its world
    obtain ⟨B3, hB3⟩ : ∃ B3, B3 = zput B2 63 26 0 := ⟨_, rfl⟩
    have f3 : ∀ c, c ≠ 63 → (c < 75 ∨ 80 < c) → B3 c = B c := fun c c1 c2 => by rw [hB3, zput_o c1, f2.1 c c1 c2]
    have f3' : ∀ i, i ≠ 26 → i ≠ 27 → i ≠ 28 → B3 63 i = B 63 i := fun i i1 i2 i3 => by rw [hB3, zput_s, upd_o i1, f2.2 i i2 i3]
    have hw3 : zmw B3 v := zmw_at hw (fun i i1 i2 => f3' i (by omega) (by omega) (by omega)) (fun c c1 c2 => f3 c (by omega) (by omega))
    obtain ⟨B4, k1, k2, k3, k4, k5, k6⟩ := mKeepTry (d := d + 7) (A0 := B3) (L := M) hw3
    have h28 : B4 63 28 = nI K := by rw [k4 28 (by decide) (by decide), hB3, zput_s, upd_o (by decide), c28]
    have hrec4 : ∀ j, j < K → zRec B4 T n (zpo T n j) j := fun j hj => (hrec j hj).of (fun c h1 h2 => by rw [k3 c (by omega) (by omega), hB3, zput_o (by omega)])
    have hM2 : zM_tongue_1 (d + 9) B M = zM_tongue_8 (d + 9) (nI 0) B4 M := by
      rw [hM1, show zM_tongue_3 (d + 9) B1 M = _ from y1, zM_tongue_6_q, if_neg (by decide), ← hB3, zM_tongue_7_q, k1, zbv_s]; rfl
    have hR : ∀ r A4, zR_applyAll_1 (d + 7) (nI 0) (nI (zpo T n 0)) (nI (zpo T n 0)) A3 L = some (some (.int r), A4, L) → zR_readInto_1 (d + 8) A L = if r ≤ 0 then zR_readInto_1_2 (d + 8) r A4 L else zbv (zW_copyFrom_35 (d + 7) A4 L) (fun A4 L4 => zR_readInto_1_2 (d + 8) r A4 L4) := fun r A4 h => by
      have h' : zR_applyAll (d + 7) A3 L = some (some (.int r), A4, L) := by rw [zR_applyAll_q]; exact h
      rw [zR_readInto_1_q, hX1 1 A2 x1, zbi_s, if_neg (by decide), c1, zbv_s, h', zbi_s]
    have mq : ∀ B6, (∀ c, c ≠ 63 → (c < 65 ∨ 73 < c) → B6 c = B4 c) → (∀ i, (i = 30 ∨ i = 33 ∨ i = 45 ∨ i = 26) → B6 63 i = B4 63 i) → zMq B B6 := fun B6 q1 q2 => by
      refine ⟨fun c hc => by rw [q1 c (by omega) (by omega), k3 c (by omega) (by omega), f3 c (by omega) (by omega)], fun i hi => by rw [q2 i (by omega), k4 i (by omega) (by omega), f3' i (by omega) (by omega) (by omega)], ?_, fun j hj => by rw [q1 81 (by decide) (by decide), k5 j hj, f3 81 (by decide) (by decide)]⟩
      rw [q2 26 (by omega), k4 26 (by decide) (by decide), hB3, zput_s, upd_s]; rfl
    rcases zApply (d := d + 2) (dm := d + 6) (L := L) (M := M) (v := v) (A0 := A3) (B0 := B4) hn K32 hok hend h28 hrec4 (by rw [hA3c 33 (by omega), hA22]) (by rw [hA3c 34 (by omega), hA2c 34 (by decide), hT]) K 0 A3 B4 v (by omega) ho h0 hsm k6 (zTl.rf v) (fun _ _ => rfl) (fun _ _ _ => rfl) (fun _ _ => rfl) with ⟨A4, B5, w', a1, a2, a3, a4, a5, a6, a7, a8, a9, a10⟩ | ⟨j, A4, B5, w', hj, a1, a2, a3, a6, a7, a8, a9, a10⟩
    · -- all came to something
      have hst : A4 48 3 = 0 ∨ A4 48 3 = 1 := by
        have := (zSm_pl.mp a5) 14 3 (by unfold zPl; omega)
        rw [zvt_c (by decide)] at this
        rw [show A4 48 3 = w' 14 3 from this]
        exact a3.stop
      obtain ⟨A5, d1, d2⟩ := zW_copyFrom_35_c (d := d + 6) (A := A4) (L := L) hst
      have hA5c : ∀ c, (c < 1 ∨ 16 < c) → A5 c = A4 c := d2.1
      have hs5 : zSm (zvt A4) (zv A5) := zSm_cp d2 (zvt A4) (zv A5) (fun c hc => by rw [zvt_c (by omega), show c + 1 + 34 = 35 + c by omega]) (fun c hc => by rw [zv_at (by omega), show 1 + c = c + 1 by omega])
      have hs6 : zSm w' (zv A5) := zSm_pl.mpr (fun c j hp => by rw [(zSm_pl.mp hs5) c j hp, (zSm_pl.mp a5) c j hp])
      have hok5 : Ok (zv A5) := Ok_sm hs6 a3
      have hA4o : ∀ c, c ≤ 16 → A4 c = v c := fun c hc => by rw [a8 c (by omega), hA3c c (by omega), hA2c c (by omega), zv_c hv c hc]
      obtain ⟨-, q2, q3, q4, q5, q6, q7, -, q9, q10, q11, q12, -, q14, q15, -, -⟩ := d2
      have hmw : zmw B5 (zv A5) := zmw_sm a6 a3 hs6 (fun c i hc hi => by
        rw [a7.1 c i hc hi, zv_at (by omega)]
        rcases hc with rfl | rfl | rfl | rfl | rfl
        · rw [q2 i, if_neg (by omega), hA4o 3 (by decide)]
        · rw [q3 i, if_neg (by omega), hA4o 4 (by decide)]
        · rw [q4 i, if_neg (by omega), hA4o 5 (by decide)]
        · rw [q5 i, if_neg (by omega), hA4o 6 (by decide)]
        · rw [q11 i, if_neg (by omega), hA4o 12 (by decide)]) (fun c i hc hi => by
        rw [a7.2.1 c i hc hi, zv_at (by omega)]
        rcases hc with rfl | rfl | rfl
        · rw [q9 i, if_neg (by omega), hA4o 10 (by decide)]
        · rw [q10 i, if_neg (by omega), hA4o 11 (by decide)]
        · rw [q12 i, if_neg (by omega), hA4o 13 (by decide)]) (fun i hi => by
        rw [a7.2.2 15 (by decide) (by decide), zv_at (by omega), q14 i, if_neg (by omega), hA4o 15 (by decide)])
      obtain ⟨g1, g2, g3⟩ := hq A5 (nI K) (fun c hc => by rw [hA5c c (by omega), a8 c (by omega), hA3c c (by omega), hA2c c (by omega)]) hok5
      refine ⟨nI K, _, B5, hX2 _ _ ?_, ?_, g2, mq B5 (fun c c1 c2 => a9 c c1 (by omega)) (fun i hi => a10 i (by omega)), by rw [g3]; exact hmw⟩
      · rw [hR _ _ a1, if_neg (nI_nle K0 (by omega)), d1, zbv_s]
        exact g1
      · rw [hM2, show zM_tongue_8 (d + 9) (nI 0) B4 M = _ from a2, zM_tongue_11_q, a10 28 (by omega), h28]
    · -- one came to nothing
      have hok4 : zv A4 = v := (zv_of (fun c hc => by rw [a8 c (by omega), hA3c c (by omega), hA2c c (by omega)])).trans hv
      obtain ⟨g1, g2, g3⟩ := hq A4 (-2000 - nI (zpo T n j)) (fun c hc => by rw [a8 c (by omega), hA3c c (by omega), hA2c c (by omega)]) (by rw [hok4]; exact ho)
      obtain ⟨B6, m1, m2, r65, r66, r67, r68, r69, r70, r71, r72, r73, f10, f11, f12, f13, f14, f15, f16, f17, f18, m3⟩ := mPutAll (d := d + 7) (A0 := B5) (L := M) (k := 1) (by omega)
      have hK5 : ∀ i, B4 81 i = B5 81 i := fun i => by rw [a9 81 (by decide) (by decide)]
      obtain ⟨u65, u66, u67, u68, u69, u70, u71, u72, u73, -⟩ := a6
      have hmw : zmw B6 v := zmw_put (k := 1) (K := B4 81) (B := B5) k2 hK5 (fun i hi => by rw [u65, a7.1 3 i (by omega) hi]) (fun i hi => by rw [u66, a7.1 4 i (by omega) hi]) (fun i hi => by rw [u67, a7.1 5 i (by omega) hi]) (fun i hi => by rw [u68, a7.1 6 i (by omega) hi]) (fun i hi => by rw [u69, a7.2.1 10 i (by omega) hi]) (fun i hi => by rw [u70, a7.2.1 11 i (by omega) hi]) (fun i hi => by rw [u71, a7.1 12 i (by omega) hi]) (fun i hi => by rw [u72, a7.2.1 13 i (by omega) hi]) (fun i hi => by rw [u73, a7.2.2 15 (by decide) (by decide)]) r65 r66 r67 r68 r69 r70 r71 r72 r73 f10 f11 f12 f13 f14 f15 f16 f17 f18
      have hle : (-2000 - nI (zpo T n j) : Int32) ≤ 0 := by
        have : ∀ q, q ≤ 64 → (-2000 - nI q : Int32) ≤ 0 := by decide
        exact this _ a3
      have h76 : B6 76 j = nI (zpo T n j) := by
        rw [m2 76 (by decide), a9 76 (by decide) (by decide)]
        exact (hrec4 j hj).1
      refine ⟨-2000 - nI (zpo T n j), _, B6, hX2 _ _ ?_, ?_, g2, mq B6 (fun c c1 c2 => by rw [m2 c (by omega), a9 c c1 (by omega)]) (fun i hi => by rw [m3 i (by omega) (by omega) (by omega), a10 i (by omega)]), by rw [g3, hok4]; exact hmw⟩
      · rw [hR _ _ a1, if_pos hle]
        exact g1
      · rw [hM2, show zM_tongue_8 (d + 9) (nI 0) B4 M = _ from a2, zM_tongue_9_q, show zM_passesAll (d + 8) 1 0 B5 M = _ from m1, zbv_s, zck_n (by omega) (by decide), nI_clamp (by omega), h76]
  · -- a wrong letter
    obtain ⟨A2, hA2⟩ : ∃ A2, A2 = zSr A e := ⟨_, rfl⟩
    rw [← hA2] at x1
    have hA2c : ∀ c, c ≠ 33 → A2 c = A c := fun c hc => by rw [hA2, zSr_o hc]
    have hv2 : zv A2 = v := (zv_of (fun c hc => hA2c c (by omega))).trans hv
    obtain ⟨g1, g2, g3⟩ := hq A2 (-1000 - nI e) (fun c hc => hA2c c (by omega)) (by rw [hv2]; exact ho)
    refine ⟨-1000 - nI e, _, zput B2 63 26 0, hX2 _ _ ?_, ?_, g2, ⟨fun c hc => by rw [zput_o (by omega), f2.1 c (by omega) (by omega)], fun i hi => by rw [zput_s, upd_o (by omega), f2.2 i (by omega) (by omega)], by rw [zput_s, upd_s]; rfl, fun j hj => by rw [zput_o (by decide), f2.1 81 (by decide) (by decide)]⟩, ?_⟩
    · rw [zR_readInto_1_q, hX1 0 A2 x1, zbi_s, if_pos rfl, zR_readInto_1_1_q, show A2 33 3 = nI e by rw [hA2, zSr_3]]
      exact g1
    · rw [hM1, show zM_tongue_3 (d + 9) B1 M = _ from y1, zM_tongue_6_q, if_pos rfl, zput_s, upd_o (by decide), c27]
    · rw [g3, hv2]
      exact zmw_at hw (fun i i1 i2 => by rw [zput_s, upd_o (by omega), f2.2 i (by omega) (by omega)]) (fun c c1 c2 => by rw [zput_o (by omega), f2.1 c (by omega) (by omega)])
theorem zP_tongue : zPr (zX_tongue (d + 70)) (zM_tongue (d + 70)) := by
  intro a A L h ha
  obtain ⟨v, hv⟩ : ∃ v, zv A = v := ⟨_, rfl⟩
  have ho := h.ok
  have hw := h.mw
  rw [hv] at ho hw
  have h14 := ho.sz
  by_cases hs : ¬ vSz v = 0
  · refine zPr_no (zNo3 h) (fun A1 n1 => ?_) (fun A1 A2 n2 n4 => ?_)
    · rw [zX_tongue_q, zv_c hv 14 (by decide), h14.1, if_neg (nI_nle (by omega) (by omega)), n1, zbi_s, zX_tongue_2_q]
    · have w15 : A1 63 15 = v 14 2 := (zmw62 hw n4).2.2.2.2.2.2.2.2.2.2.2.2.2.2.1
      rw [zM_tongue_q, w15, h14.1, if_neg (nI_nle (by omega) (by omega)), n2, zbi_s]
  have h0 : vSz v = 0 := by omega
  obtain ⟨n, hn, t1, t2⟩ := h.tape
  obtain ⟨r, A1, B', e1, e2, e3, e4, e5⟩ := zTongue (d := d + 61) (L := L) (M := L) (T := A 34) (B := A) ho h0 hv t1 hn rfl hw t2 h.lett.symm
  have hc : ∀ c, (c < 1 ∨ (16 < c ∧ c < 33) ∨ c = 34 ∨ 50 < c) → A1 c = A c := e3.1
  have hw1 : zmw A1 v := zmw_of hw (fun c c1 c2 => hc c (by omega))
  obtain ⟨r', A1', B, g1, g2, g3, g4, g5⟩ := zTongue (d := d + 61) (L := L) (M := L) (T := A 34) (B := A1) ho h0 hv t1 hn rfl hw1 (by rw [hc 63 (by omega), t2]) (by rw [hc 74 (by omega)]; exact h.lett.symm)
  cases e1.symm.trans g1
  obtain ⟨b1, b2, b3, b4⟩ := g4
  have hvB : zv B = zv A1 := zv_of (fun c hc' => b1 c (by omega))
  have hB : ∀ c, (c < 1 ∨ (16 < c ∧ c < 33) ∨ c = 34 ∨ (50 < c ∧ c < 63) ∨ c = 64 ∨ c = 74 ∨ 81 < c) → B c = A c := fun c hc' => by rw [b1 c (by omega), hc c (by omega)]
  have hsi : zSm (zvi A) (zvi B) := zSm_pl.mpr (fun c j hp => by
    obtain ⟨l1, l2⟩ := zPl_le hp
    unfold zvi
    rw [if_pos l2, if_pos l2, hB _ (by omega)])
  refine ⟨r, A1, L, B, L, ?_, ?_, ⟨by rw [hvB]; exact e3.2.2, by rw [hvB]; exact g5, by rw [b2 33 (by omega), hc 63 (by omega)]; exact h.gone, by rw [hB 62 (by omega), hB 64 (by omega)]; exact h.ref, ⟨0, by omega, by rw [b1 33 (by omega)]; exact e3.2.1, b3⟩, by rw [hB 34 (by omega), hB 74 (by omega)]; exact h.lett, ?_, by rw [hB 61 (by omega), hB 92 (by omega)]; exact h.rows, ?_, ?_⟩⟩
  · rw [zX_tongue_q, zv_c hv 14 (by decide), h14.1, h0, if_pos (by decide)]
    exact e1
  · have w15 : A1 63 15 = v 14 2 := by rw [hc 63 (by omega)]; exact hw.2.2.2.2.2.2.2.2.2.2.2.2.2.2.1
    rw [zM_tongue_q, w15, h14.1, h0, if_pos (by decide)]
    exact g2
  · rw [hB 0 (by omega), hB 61 (by omega), b2 45 (by omega), hc 63 (by omega)]; exact h.rown
  · rw [hB 0 (by omega), b2 30 (by omega), hc 63 (by omega)]
    rcases h.img with hi | ⟨i1, i2, i3, i4⟩
    · exact Or.inl hi
    · exact Or.inr ⟨i1, i2, Ok_sm hsi i3, zKp_sm (zKp_of i4 (fun j hj => by rw [b4 j hj, hc 81 (by omega)])) hsi i3⟩
  · obtain ⟨b, x1, x2⟩ := h.old
    exact ⟨b, by omega, zOld_of x2 (by rw [hB 51 (by omega)]) (hB 52 (by omega)) (hB 53 (by omega))⟩
end TG
