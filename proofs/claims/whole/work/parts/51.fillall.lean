/-! ===== the model's mind: fillMind, fillAll ===== -/
section MG
variable {v : zA} {L : zL} {d : Nat}
theorem mFillMind {A0 : zA} {p : Nat} (ho : Ok v) (hw : zmw A0 v) (hT : zTab A0 v 0) (hp : p < vP v) : ∃ A', zM_fillMind (d + 6) (nI p) A0 L = some (none, A', L) ∧ (∀ c, c ≠ 88 → A' c = A0 c) ∧ zMo A' v p (fun _ _ _ => True) ∧ ∀ i, (i < 4608 * p ∨ 4608 * p + 4608 ≤ i) → A' 88 i = A0 88 i := by
  have h5 := ho.P.2
  have key := zLoop3 (fun x A => zM_fillMind_1 (d + 6) (nI p) x A L) (fun x y A => zM_fillMind_2 (d + 6) (nI p) x y A L) (fun x y z A => zM_fillMind_3 (d + 6) (nI p) x y z A L) (fun A => some (none, A, L))
    (fun P A => (∀ c, c ≠ 88 → A c = A0 c) ∧ zMo A v p P ∧ ∀ i, (i < 4608 * p ∨ 4608 * p + 4608 ≤ i) → A 88 i = A0 88 i)
    (fun P Q A hPQ h => ⟨h.1, fun n s m hn hs hm hq => h.2.1 n s m hn hs hm (hPQ n s m hn hs hm hq), h.2.2⟩)
    (fun n A hn => by
      show zM_fillMind_1 _ _ _ _ _ = zM_fillMind_2 _ _ _ _ _ _
      rw [zM_fillMind_1_q, if_neg (nI_pos (by omega))]; rfl)
    (fun A => by
      show zM_fillMind_1 _ _ _ _ _ = _
      rw [zM_fillMind_1_q, if_pos (by decide), zM_fillMind_12_q])
    (fun n s A hs => by
      show zM_fillMind_2 _ _ _ _ _ _ = zM_fillMind_3 _ _ _ _ _ _ _
      rw [zM_fillMind_2_q, if_neg (nI_g8 hs)]; rfl)
    (fun n A => by
      show zM_fillMind_2 _ _ _ _ _ _ = zM_fillMind_1 _ _ _ _ _
      rw [zM_fillMind_2_q, if_pos (by decide), zM_fillMind_11_q])
    (fun n s A => by
      show zM_fillMind_3 _ _ _ _ _ _ _ = zM_fillMind_2 _ _ _ _ _ _
      rw [zM_fillMind_3_q, if_pos (by decide), zM_fillMind_10_q, nI_1])
    (fun n s m A hn hs hm hI => by
      show ∃ y, zM_fillMind_3 _ _ _ _ _ _ _ = zM_fillMind_3 _ _ _ _ _ _ _ ∧ _
      obtain ⟨hF, hM, hO⟩ := hI
      have hwA : zmw A v := zmw_of hw (fun c h1 h2 => hF c (by omega))
      have hTA : zTab A v 0 := zTab_of hT (fun c h1 h2 => hF c (by omega))
      have hsp : zsp n s m < 4608 := zsp_lt (b := 9) (by omega) hs hm
      have hmay := ho.may (n := n) hs
      have hix : (4608 : Int32) * nI p + nI (zsp n s m) = nI (4608 * p + zsp n s m) := by rw [show (4608 : Int32) = nI 4608 from rfl, pk_mul, nI_add]
      -- what is written
      have hwr : zM_fillMind_3 (d + 6) (nI p) (nI n) (nI s) (nI m) A L = zM_fillMind_9 (d + 6) (nI p) (nI n) (nI s) (nI m) (zput A 88 (4608 * p + zsp n s m) (nI (vD v p n s m % 128))) L := by
        rw [zM_fillMind_3_q, if_neg (nI_g64 hm), mPlaceAt, zbi_s, mMayAt ho hwA hTA (by omega) hs, zbi_s, vMg_0 ho hs, show (0 : Int32) = nI 0 from rfl, zifi (nI_eq (by omega) (by omega)), hix]
        by_cases h0 : vMay v n s = 0
        · rw [if_pos h0, mEndAt ho hwA hs, zbi_s, zck_n (by omega) (by decide), nI_clamp (by omega), vD_0 h0]
          have e : vEa v n s m % 128 = if vEn v s then m else 64 + m := by unfold vEa; split <;> omega
          rw [e]
        · have hpp := vMay_P h0
          have hn8 : n < 8 := by
            rcases Nat.lt_or_ge n 8 with h | h
            · exact h
            · exact absurd (vMay_8 ho h) h0
          have h8 : ∀ x, x = nI (vD v p n s m % 128) → zM_fillMind_8 (d + 6) (nI p) (nI n) (nI s) (nI m) (nI (4608 * p + zsp n s m)) x A L = zM_fillMind_9 (d + 6) (nI p) (nI n) (nI s) (nI m) (zput A 88 (4608 * p + zsp n s m) (nI (vD v p n s m % 128))) L := by
            intro x hx
            rw [zM_fillMind_8_q, zck_n (by omega) (by decide), nI_clamp (by omega), hx]
          have h6 : ∀ c, c < 9 → vOk v n s c = true → vD v p n s m = vGd4 v p n s m c → zM_fillMind_6 (d + 6) (nI p) (nI n) (nI s) (nI m) (nI (4608 * p + zsp n s m)) (nI c) A L = zM_fillMind_9 (d + 6) (nI p) (nI n) (nI s) (nI m) (zput A 88 (4608 * p + zsp n s m) (nI (vD v p n s m % 128))) L := by
            intro c hc hok hD
            rw [zM_fillMind_6_q, show (8 : Int32) = nI 8 from rfl, zifi (nI_eq (by omega) (by omega))]
            by_cases hc8 : c = 8
            · rw [if_pos hc8]
              refine h8 _ ?_
              rw [hD, hc8]
              unfold vGd4
              rw [if_pos rfl, show (128 * n + m) % 128 = m by omega]
            · have hc' : c < 8 := by omega
              have hto := (ho.to hs hc').2
              have hmk := Ok.xor hm (ho.mk hs hc')
              have hsp2 : zsp (n + 1) (vTo v s c) (m ^^^ vMk v s c) < 4608 := zsp_lt (b := 9) (by omega) hto hmk
              rw [if_neg hc8, zM_fillMind_7_q, mAfterWord ho hTA hs hc' (vOk_g ho hs hc' hok), zbi_s, show (4608 : Int32) * nI p + nI (zsp (n + 1) (vTo v s c) (m ^^^ vMk v s c)) = nI (4608 * p + zsp (n + 1) (vTo v s c) (m ^^^ vMk v s c)) by rw [show (4608 : Int32) = nI 4608 from rfl, pk_mul, nI_add], zck_n (by omega) (by decide), nI_clamp (by omega)]
              refine h8 _ ?_
              rw [hM _ _ _ (by omega) hto hmk (Or.inl (Nat.lt_succ_self n)), hD, vGd4_w hc']
          rw [if_neg h0, zM_fillMind_4_q, mTurnAt ho hwA (by omega) hpp, zbi_s, zifi (nI_eq (by have := (ho.tr hpp n).2; omega) (by omega))]
          by_cases htp : vTr v n = p
          · have hbd := zbd_in (ok := vOk v n s) (val := fun t => vEw v p (vGd4 v p n s m t % 128)) ⟨_, by have := vLow_lt ho hs h0; omega, vLow_ok ho hs h0⟩
            rw [if_pos htp, mBlind ho hwA hTA hn8 hs hm hp h0 hM (fun s m => Or.inl (Nat.lt_succ_self n)), zbi_s]
            exact h6 _ hbd.1 hbd.2 (by rw [vD_1 hn8 h0, if_pos htp])
          · have hlow := vLow_lt ho hs h0
            rw [if_neg htp, zM_fillMind_5_q, mLowest ho hs h0, zbi_s]
            exact h6 _ (by omega) (vLow_ok ho hs h0) (by rw [vD_1 hn8 h0, if_neg htp])
      refine ⟨_, by rw [hwr, zM_fillMind_9_q, nI_1], fun c hc => by rw [zput_o hc]; exact hF c hc, fun n' s' m' hn' hs' hm' hP => ?_, fun i hi => by rw [zput_s, upd_o (by omega)]; exact hO i hi⟩
      rw [zput_s]
      by_cases e : zsp n' s' m' = zsp n s m
      · obtain ⟨e1, e2, e3⟩ := zsp_inj hs' hm' hs hm e
        subst e1; subst e2; subst e3
        rw [upd_s]
      · rw [upd_o (by omega)]
        refine hM n' s' m' hn' hs' hm' ?_
        rcases hP with hP | ⟨e1, e2, e3⟩
        · exact hP
        · subst e1; subst e2; subst e3; exact absurd rfl e)
    A0 ⟨fun _ _ => rfl, fun _ _ _ _ _ _ h => h.elim, fun _ _ => rfl⟩
  obtain ⟨A', e, h1, h2, h3⟩ := key
  refine ⟨A', ?_, h1, h2, h3⟩
  rw [zM_fillMind_q]
  exact e
theorem mFillAll1 (ho : Ok v) : ∀ k q A, q + k = vP v → zmw A v → zTab A v 0 → (∀ p, p < q → vKd v p = 4 → zMo A v p (fun _ _ _ => True)) →
    ∃ A', zM_fillAll_1 (d + 7) (nI q) A L = zM_fillAll_3 (d + 7) A' L ∧ (∀ c, c ≠ 88 → A' c = A c) ∧ ∀ p, p < vP v → vKd v p = 4 → zMo A' v p (fun _ _ _ => True) := by
  have h5 := ho.P.2
  intro k
  induction k with
  | zero =>
    intro q A hq hw hT hM
    refine ⟨A, ?_, fun _ _ => rfl, fun p hp => hM p (by omega)⟩
    rw [zM_fillAll_1_q, mP ho hw, if_pos (nI_le (by omega) (by omega))]
  | succ k ih =>
    intro q A hq hw hT hM
    have hkd := ho.kd (p := q) (by omega)
    have h69 : A 69 q = nI (vKd v q) := by
      obtain ⟨-, -, -, -, h, -⟩ := hw
      rw [h]; exact hkd.1
    have hb : zM_fillAll_1 (d + 7) (nI q) A L = if vKd v q = 4 then zbv (zM_fillMind (d + 6) (nI q) A L) (fun A1 L1 => zM_fillAll_2 (d + 7) (nI q) A1 L1) else zM_fillAll_2 (d + 7) (nI q) A L := by
      rw [zM_fillAll_1_q, mP ho hw, if_neg (nI_ge (by omega) (by omega)), zck_n (by omega) (by decide), nI_clamp (by omega), h69, show (4 : Int32) = nI 4 from rfl, zifi (nI_eq (by omega) (by omega))]
    rw [hb]
    by_cases h4 : vKd v q = 4
    · obtain ⟨B, b1, b2, b3, b4⟩ := mFillMind (d := d) (L := L) ho hw hT (p := q) (by omega)
      obtain ⟨A', e1, e2, e3⟩ := ih (q + 1) B (by omega) (zmw_of hw (fun c h1 h2 => b2 c (by omega))) (zTab_of hT (fun c h1 h2 => b2 c (by omega))) (fun p hp hk => by
        by_cases e : p = q
        · rw [e]; exact b3
        · intro n s m hn hs hm _
          have hsp : zsp n s m < 4608 := zsp_lt (b := 9) (by omega) hs hm
          rw [b4 _ (by omega)]
          exact hM p (by omega) hk n s m hn hs hm trivial)
      refine ⟨A', ?_, fun c hc => by rw [e2 c hc, b2 c hc], e3⟩
      rw [if_pos h4, b1, zbv_s, zM_fillAll_2_q, nI_1]
      exact e1
    · obtain ⟨A', e1, e2, e3⟩ := ih (q + 1) A (by omega) hw hT (fun p hp hk => by
        by_cases e : p = q
        · rw [e] at hk; exact absurd hk h4
        · exact hM p (by omega) hk)
      refine ⟨A', ?_, e2, e3⟩
      rw [if_neg h4, zM_fillAll_2_q, nI_1]
      exact e1
theorem mFillAll4 {A0 : zA} (ho : Ok v) (hw : zmw A0 v) (hT : zTab A0 v 0) (hM : ∀ p, p < vP v → vKd v p = 4 → zMo A0 v p (fun _ _ _ => True)) : ∃ A', zM_fillAll_4 (d + 7) 8 A0 L = some (none, A', L) ∧ (∀ c, c ≠ 86 → c ≠ 87 → A' c = A0 c) ∧ zEo A' v (fun _ _ _ => True) := by
  have key := zLoop3 (fun x A => zM_fillAll_4 (d + 7) x A L) (fun x y A => zM_fillAll_5 (d + 7) x y A L) (fun x y z A => zM_fillAll_6 (d + 7) x y z A L) (fun A => some (none, A, L))
    (fun P A => (∀ c, c ≠ 86 → c ≠ 87 → A c = A0 c) ∧ zEo A v P)
    (fun P Q A hPQ h => ⟨h.1, fun n s m hn hs hm hq => h.2 n s m hn hs hm (hPQ n s m hn hs hm hq)⟩)
    (fun n A hn => by
      show zM_fillAll_4 _ _ _ _ = zM_fillAll_5 _ _ _ _ _
      rw [zM_fillAll_4_q, if_neg (nI_pos (by omega))]; rfl)
    (fun A => by
      show zM_fillAll_4 _ _ _ _ = _
      rw [zM_fillAll_4_q, if_pos (by decide), zM_fillAll_16_q])
    (fun n s A hs => by
      show zM_fillAll_5 _ _ _ _ _ = zM_fillAll_6 _ _ _ _ _ _
      rw [zM_fillAll_5_q, if_neg (nI_g8 hs)]; rfl)
    (fun n A => by
      show zM_fillAll_5 _ _ _ _ _ = zM_fillAll_4 _ _ _ _
      rw [zM_fillAll_5_q, if_pos (by decide), zM_fillAll_15_q])
    (fun n s A => by
      show zM_fillAll_6 _ _ _ _ _ _ = zM_fillAll_5 _ _ _ _ _
      rw [zM_fillAll_6_q, if_pos (by decide), zM_fillAll_14_q, nI_1])
    (fun n s m A hn hs hm hI => by
      show ∃ y, zM_fillAll_6 _ _ _ _ _ _ = zM_fillAll_6 _ _ _ _ _ _ ∧ _
      obtain ⟨hF, hE⟩ := hI
      have hwA : zmw A v := zmw_of hw (fun c h1 h2 => hF c (by omega) (by omega))
      have hTA : zTab A v 0 := zTab_of hT (fun c h1 h2 => hF c (by omega) (by omega))
      have hMA : ∀ p, p < vP v → vKd v p = 4 → zMo A v p (fun _ _ _ => True) := fun p hp hk n s m hn hs hm _ => by rw [hF 88 (by decide) (by decide)]; exact hM p hp hk n s m hn hs hm trivial
      have hsp : zsp n s m < 4608 := zsp_lt (b := 9) (by omega) hs hm
      have hmay := ho.may (n := n) hs
      have h13 : ∀ A1 (x : Int32), zM_fillAll_13 (d + 7) (nI n) (nI s) (nI m) (nI (zsp n s m)) x A1 L = zM_fillAll_6 (d + 7) (nI n) (nI s) (nI (m + 1)) (zput A1 87 (zsp n s m) x) L := by
        intro A1 x
        rw [zM_fillAll_13_q, zck_n (by omega) (by decide), nI_clamp (by omega), nI_1]
      have hwr : zM_fillAll_6 (d + 7) (nI n) (nI s) (nI m) A L = zM_fillAll_6 (d + 7) (nI n) (nI s) (nI (m + 1)) (zput (zput A 86 (zsp n s m) (nI (vE v n s m % 128))) 87 (zsp n s m) (nI (vE v n s m / 128))) L := by
        have hch := mChoice (A := A) (L := L) (d := d) ho hwA hTA hn hs hm hE (fun s m => Or.inl (Nat.lt_succ_self n)) hMA
        rw [zM_fillAll_6_q, if_neg (nI_g64 hm), mPlaceAt, zbi_s, hch, zbi_s]
        by_cases h0 : vMay v n s = 0
        · have e1 : vE v n s m % 128 = if vEn v s then m else 64 + m := by rw [vE_0 h0]; unfold vEa; split <;> omega
          have e2 : vE v n s m / 128 = n := by rw [vE_0 h0]; unfold vEa; split <;> omega
          rw [if_pos h0, if_pos (by decide), zM_fillAll_7_q, zM_fillAll_8_q, if_neg (by decide), zM_fillAll_9_q, if_pos (by rfl), zM_fillAll_10_q, mEndAt ho hwA hs, zbi_s, zM_fillAll_11_q, zck_n (by omega) (by decide), if_pos (by rfl), zM_fillAll_12_q, nI_clamp (by omega), h13, e1, e2]
        · have hn8 : n < 8 := by
            rcases Nat.lt_or_ge n 8 with h | h
            · exact h
            · exact absurd (vMay_8 ho h) h0
          obtain ⟨hd9, hdo⟩ := vDe_ok ho hs h0 (vGo v n s m) (vGd4 v (vTr v n) n s m) (m := m)
          have hd9 : vDeed v n s m < 9 := hd9
          have hdo : vOk v n s (vDeed v n s m) = true := hdo
          have hv1 := vE_1 (m := m) hn8 h0
          rw [if_neg h0, if_neg (nI_pos (by omega)), show (8 : Int32) = nI 8 from rfl, zifi (nI_eq (by omega) (by omega))]
          by_cases hc8 : vDeed v n s m = 8
          · have e0 : vE v n s m = 128 * n + m := by rw [hv1, hc8]; unfold vGo; rw [if_pos rfl]
            rw [if_pos hc8, zM_fillAll_7_q, zM_fillAll_8_q, if_pos (by rw [hc8]; rfl), zM_fillAll_11_q, zck_n (by omega) (by decide), if_pos (by rfl), zM_fillAll_12_q, nI_clamp (by omega), h13, e0, show (128 * n + m) % 128 = m by omega, show (128 * n + m) / 128 = n by omega]
          · have hc' : vDeed v n s m < 8 := by omega
            have hto := (ho.to hs hc').2
            have hmk := Ok.xor hm (ho.mk hs hc')
            have hsp2 : zsp (n + 1) (vTo v s (vDeed v n s m)) (m ^^^ vMk v s (vDeed v n s m)) < 4608 := zsp_lt (b := 9) (by omega) hto hmk
            obtain ⟨g1, g2⟩ := hE _ _ _ (by omega) hto hmk (Or.inl (Nat.lt_succ_self n))
            have hg := vOk_g ho hs hc' hdo
            have e0 : vE v n s m = vE v (n + 1) (vTo v s (vDeed v n s m)) (m ^^^ vMk v s (vDeed v n s m)) := by rw [hv1, vGo_w hc']
            have hTB : zTab (zput A 86 (zsp n s m) (nI (vE v n s m % 128))) v 0 := zTab_of hTA (fun c h1 h2 => zput_o (by omega))
            rw [if_neg hc8, zM_fillAll_8_q, if_neg (by rw [show (8 : Int32) = nI 8 from rfl]; exact nI_ne hc8 (by omega) (by omega)), zM_fillAll_9_q, if_neg (by decide), mAfterWord ho hTA hs hc' hg, zbi_s, zck_n (by omega) (by decide), nI_clamp (by omega), g1, ← e0, zM_fillAll_11_q, zck_n (by omega) (by decide), if_neg (by decide), nI_clamp (by omega), mAfterWord ho hTB hs hc' hg, zbi_s, zck_n (by omega) (by decide), nI_clamp (by omega), zput_o (by decide), g2, ← e0, h13]
      refine ⟨_, hwr, fun c h1 h2 => by rw [zput_o h2, zput_o h1]; exact hF c h1 h2, fun n' s' m' hn' hs' hm' hP => ?_⟩
      rw [zput_o (by decide), zput_s, zput_s, zput_o (by decide)]
      by_cases e : zsp n' s' m' = zsp n s m
      · obtain ⟨e1, e2, e3⟩ := zsp_inj hs' hm' hs hm e
        subst e1; subst e2; subst e3
        rw [upd_s, upd_s]
        exact ⟨rfl, rfl⟩
      · rw [upd_o e, upd_o e]
        refine hE n' s' m' hn' hs' hm' ?_
        rcases hP with hP | ⟨e1, e2, e3⟩
        · exact hP
        · subst e1; subst e2; subst e3; exact absurd rfl e)
    A0 ⟨fun _ _ _ => rfl, fun _ _ _ _ _ _ h => h.elim⟩
  obtain ⟨A', e, h1, h2⟩ := key
  exact ⟨A', e, h1, h2⟩
/-- all is found: the tables, the ends -/
theorem mFillAll {A : zA} (ho : Ok v) (hw : zmw A v) (hg : A 63 33 = 0) : ∃ A', zM_fillAll (d + 7) A L = some (none, A', L) ∧ (∀ c, (c < 82 ∨ 88 < c) → A' c = A c) ∧ zTab A' v 0 ∧ zEo A' v (fun _ _ _ => True) ∧ ∀ p, p < vP v → vKd v p = 4 → zMo A' v p (fun _ _ _ => True) := by
  obtain ⟨B, b1, b2, b3⟩ := mTables (d := d + 4) (L := L) (g := 0) ho hw hg (by omega)
  have hwB : zmw B v := zmw_of hw (fun c h1 h2 => b2 c (by omega))
  obtain ⟨C, c1, c2, c3⟩ := mFillAll1 (d := d) (L := L) ho (vP v) 0 B (by omega) hwB b3 (fun _ h => absurd h (Nat.not_lt_zero _))
  have hwC : zmw C v := zmw_of hwB (fun c h1 h2 => c2 c (by omega))
  have hTC : zTab C v 0 := zTab_of b3 (fun c h1 h2 => c2 c (by omega))
  obtain ⟨A', e1, e2, e3⟩ := mFillAll4 (d := d) (L := L) ho hwC hTC c3
  refine ⟨A', ?_, fun c hc => by rw [e2 c (by omega) (by omega), c2 c (by omega), b2 c (by omega)], zTab_of hTC (fun c h1 h2 => e2 c (by omega) (by omega)), e3, fun p hp hk n s m hn hs hm _ => by rw [e2 88 (by decide) (by decide)]; exact c3 p hp hk n s m hn hs hm trivial⟩
  rw [zM_fillAll_q, b1, zbv_s, show (0 : Int32) = nI 0 from rfl, c1, zM_fillAll_3_q, e1]
end MG
