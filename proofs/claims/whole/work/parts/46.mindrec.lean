/-! ===== the class's mind, from the last word back ===== -/
theorem vOpt_0 {v : zA} {n s : Nat} (ho : Ok v) (hs : s < 8) : vOpt v n s = 0 ↔ vMay v n s = 0 := by
  unfold vOpt
  constructor
  · intro h
    by_cases h0 : vMay v n s = 0
    · exact h0
    · rw [if_neg h0] at h
      split at h
      · have := Nat.right_le_or (n := vMay v n s) (m := 256); omega
      · exact h
  · intro h; rw [if_pos h]
theorem vMay_P {v : zA} {n s : Nat} (h : vMay v n s ≠ 0) : 0 < vP v := by
  rcases Nat.eq_zero_or_pos (vP v) with e | e
  · exfalso; apply h; unfold vMay; rw [if_pos (Or.inl e)]
  · exact e
theorem zMem_put {f : Nat → Nat → Nat → Nat} {row : Nat → Int32} {a n s m : Nat} (h : zMem f row a) (hn : n < 8) (hs : s < 8) (hm : m < 64) (ha : a < 1048576) (hf : f n s m < 2048) : zMem f (upd row (zsp n s m) (nI (a * 2048 + f n s m))) a := by
  intro n' s' m' hn' hs' hm'
  by_cases e : zsp n' s' m' = zsp n s m
  · have e1 : n' = n := by rw [← zsp_n (n := n') hs' hm', e, zsp_n hs hm]
    have e2 : s' = s := by rw [← zsp_s (n := n') hs' hm', e, zsp_s hs hm]
    have e3 : m' = m := by rw [← zsp_m (n := n') (s := s') hm', e, zsp_m hm]
    subst e1; subst e2; subst e3
    refine ⟨a * 2048 + f n' s' m', upd_s _ _ _, by omega, fun _ => by omega⟩
  · obtain ⟨x, h1, h2⟩ := h n' s' m' hn' hs' hm'
    exact ⟨x, by rw [upd_o e]; exact h1, h2⟩
theorem cAfter8 {A : zA} {L : zL} {d n s m : Nat} (hn : n < 65535) (hs : s < 8) (hm : m < 64) : zW_after (d + 2) (nI (zsp n s m)) 8 A L = some (some (.int (nI (zsp (n + 1) s m))), A, L) := by
  rw [zW_after_q, zG_spotBehind_q, cState (by omega) hs hm, zbi_s, if_neg (by decide), if_pos (by decide), zG_spotBehind_1_q, zG_spotBehind_2_q, if_pos (by decide), zG_spotBehind_3_q, cCount (by omega) hs hm, zbi_s, cMean hm, zbi_s, nI_1, cSpotOf (by omega) hs hm, zbi_s, zbi_s]
section CR
variable {v : zA} {L : zL} {a : Nat}
/-- what is known of the places behind n words -/
def zIH (v : zA) (L : zL) (a f n : Nat) : Prop := ∀ s m A, s < 8 → m < 64 → zv A = v → zMi A v a →
  (∀ p D, p < vP v → 5 * f + 9 ≤ D → ∃ A', zD_dreamFrom D (nI p) (nI (zsp n s m)) A L = some (some (.int (nI (vD v p n s m))), A', L) ∧ zFm A A' ∧ zMi A' v a) ∧
  (∀ D, 5 * f + 9 ≤ D → ∃ A', zD_endFrom D (nI (zsp n s m)) A L = some (some (.int (nI (vE v n s m))), A', L) ∧ zFm A A' ∧ zMi A' v a)
theorem cDreamAfter {f n s m t p D : Nat} {A : zA} (ho : Ok v) (ih : zIH v L a f (n + 1)) (hn : n < 8) (hs : s < 8) (hm : m < 64) (ht : t < 9) (hp : p < vP v) (hv : zv A = v) (hM : zMi A v a) (hD : 5 * f + 10 ≤ D) :
    ∃ A', zD_dreamAfter D (nI p) (nI (zsp n s m)) (nI t) A L = some (some (.int (nI (vGd4 v p n s m t))), A', L) ∧ zFm A A' ∧ zMi A' v a := by
  obtain ⟨D, rfl⟩ : ∃ D', D = D' + 3 := ⟨D - 3, by omega⟩
  unfold vGd4
  by_cases h8 : t = 8
  · subst h8
    refine ⟨A, ?_, zFm.rf A, hM⟩
    rw [zD_dreamAfter_q, if_pos (by rfl), cEndByStop (by omega) hs hm, zbi_s, zD_dreamAfter_2_q, if_pos (by rfl)]
  · have ht8 : t < 8 := by omega
    obtain ⟨A', e, h⟩ := (ih (vTo v s t) (m ^^^ vMk v s t) A (ho.to hs ht8).2 (Ok.xor hm (ho.mk hs ht8)) hv hM).1 p (D + 2) hp (by omega)
    refine ⟨A', ?_, h⟩
    rw [zD_dreamAfter_q, if_neg (by rw [show (8 : Int32) = nI 8 from rfl]; exact nI_ne h8 (by omega) (by omega)), zD_dreamAfter_1_q, cAfter ho hv (by omega) hs hm ht8, zbi_s, e, zbi_s, zD_dreamAfter_2_q, if_neg h8]
theorem cEndAfter {f n s m t D : Nat} {A : zA} (ho : Ok v) (ih : zIH v L a f (n + 1)) (hn : n < 8) (hs : s < 8) (hm : m < 64) (ht : t < 9) (hv : zv A = v) (hM : zMi A v a) (hD : 5 * f + 10 ≤ D) :
    ∃ A', zD_endAfter D (nI (zsp n s m)) (nI t) A L = some (some (.int (nI (vGo v n s m t))), A', L) ∧ zFm A A' ∧ zMi A' v a := by
  obtain ⟨D, rfl⟩ : ∃ D', D = D' + 3 := ⟨D - 3, by omega⟩
  unfold vGo
  by_cases h8 : t = 8
  · subst h8
    refine ⟨A, ?_, zFm.rf A, hM⟩
    rw [zD_endAfter_q, if_pos (by rfl), cEndByStop (by omega) hs hm, zbi_s, zD_endAfter_2_q, if_pos (by rfl)]
  · have ht8 : t < 8 := by omega
    obtain ⟨A', e, h⟩ := (ih (vTo v s t) (m ^^^ vMk v s t) A (ho.to hs ht8).2 (Ok.xor hm (ho.mk hs ht8)) hv hM).2 (D + 2) (by omega)
    refine ⟨A', ?_, h⟩
    rw [zD_endAfter_q, if_neg (by rw [show (8 : Int32) = nI 8 from rfl]; exact nI_ne h8 (by omega) (by omega)), zD_endAfter_1_q, cAfter ho hv (by omega) hs hm ht8, zbi_s, e, zbi_s, zD_endAfter_2_q, if_neg h8]
theorem vGo_lt (ho : Ok v) {n s m t : Nat} (hn : n < 8) (hs : s < 8) (hm : m < 64) (ht : t < 9) : vGo v n s m t < 1152 := by
  unfold vGo
  split
  · omega
  · exact vE_lt ho (by omega) (ho.to hs (by omega)).2 (Ok.xor hm (ho.mk hs (by omega)))
theorem vGd4_lt (ho : Ok v) {n s m t p : Nat} (hn : n < 8) (hs : s < 8) (hm : m < 64) (ht : t < 9) : vGd4 v p n s m t < 1152 := by
  unfold vGd4
  split
  · omega
  · exact vD_lt ho (by omega) (ho.to hs (by omega)).2 (Ok.xor hm (ho.mk hs (by omega)))
theorem cWeigh4 {f n s m t p D : Nat} {A : zA} (ho : Ok v) (ih : zIH v L a f (n + 1)) (hn : n < 8) (hs : s < 8) (hm : m < 64) (ht : t < 9) (hp : p < vP v) (hv : zv A = v) (hM : zMi A v a) (hD : 5 * f + 11 ≤ D) :
    ∃ A', zD_weigh D (nI (zsp n s m)) (nI t) (nI p) 4 A L = some (some (.int (vEw v p (vGd4 v p n s m t % 128))), A', L) ∧ zFm A A' ∧ zMi A' v a := by
  obtain ⟨D, rfl⟩ : ∃ D', D = D' + 3 := ⟨D - 3, by omega⟩
  obtain ⟨A', e, hF, hM'⟩ := cDreamAfter (D := D + 2) ho ih hn hs hm ht hp hv hM (by omega)
  refine ⟨A', ?_, hF, hM'⟩
  rw [zD_weigh_q, if_neg (by decide), if_neg (by decide), if_pos (by rfl), zD_weigh_2_q, e, zbi_s, cWorthOfEnd ho hM'.2.2.2.2 hp (by have := vGd4_lt (p := p) ho hn hs hm ht; omega), zbi_s]
theorem cWeigh {f n s m t p D kd : Nat} {A : zA} (ho : Ok v) (ih : zIH v L a f (n + 1)) (hn : n < 8) (hs : s < 8) (hm : m < 64) (ht : t < 9) (hok : vOk v n s t = true) (hp : p < vP v) (hk : kd < 7) (h1 : kd ≠ 1) (h5 : kd ≠ 5) (hv : zv A = v) (hM : zMi A v a) (hD : 5 * f + 11 ≤ D) :
    ∃ A', zD_weigh D (nI (zsp n s m)) (nI t) (nI p) (nI kd) A L = some (some (.int (if kd = 6 then vWs v p (if t = 8 then m else m ^^^ vMk v s t) 6 else if kd = 4 then vEw v p (vGd4 v p n s m t % 128) else vGd v p kd (vGo v n s m t % 128))), A', L) ∧ zFm A A' ∧ zMi A' v a := by
  have hcases : kd = 4 ∨ kd = 6 ∨ kd = 2 ∨ kd = 3 ∨ kd = 0 := by omega
  rcases hcases with rfl | rfl | rfl | rfl | rfl
  · exact cWeigh4 ho ih hn hs hm ht hp hv hM hD
  · -- greedy
    obtain ⟨D, rfl⟩ : ∃ D', D = D' + 4 := ⟨D - 4, by omega⟩
    refine ⟨A, ?_, zFm.rf A, hM⟩
    have hP := ho.P.2
    rw [zD_weigh_q, if_neg (by decide), if_neg (by decide), if_neg (by decide), if_neg (by decide), if_pos (by rfl), zD_weigh_1_q, if_pos (by rfl)]
    by_cases h8 : t = 8
    · subst h8
      rw [show nI 8 = (8 : Int32) from rfl, cAfter8 (by omega) hs hm, zbi_s, cMean hm, zbi_s, if_pos (by rfl), cWorthAt (by omega), zbi_s, hM.2.2.2.2.1 p _ hp hm]
    · have ht8 : t < 8 := by omega
      rw [cAfter ho hv (by omega) hs hm ht8, zbi_s, cMean (Ok.xor hm (ho.mk hs ht8)), zbi_s, if_neg h8, cWorthAt (by have := Ok.xor hm (ho.mk hs ht8); omega), zbi_s, hM.2.2.2.2.1 p _ hp (Ok.xor hm (ho.mk hs ht8))]
  · obtain ⟨D, rfl⟩ : ∃ D', D = D' + 3 := ⟨D - 3, by omega⟩
    obtain ⟨A', e, hF, hM'⟩ := cEndAfter (D := D + 2) ho ih hn hs hm ht hv hM (by omega)
    refine ⟨A', ?_, hF, hM'⟩
    have hlt := vGo_lt ho hn hs hm ht
    rw [zD_weigh_q, if_pos (by rfl), zD_weigh_3_q, e, zbi_s, cWorthOfEnd ho hM'.2.2.2.2 hp (by omega), zbi_s, cWorthOfAll hM'.2.2.2.2 (by omega), zbi_s]
    rfl
  · obtain ⟨D, rfl⟩ : ∃ D', D = D' + 3 := ⟨D - 3, by omega⟩
    obtain ⟨A', e, hF, hM'⟩ := cEndAfter (D := D + 2) ho ih hn hs hm ht hv hM (by omega)
    refine ⟨A', ?_, hF, hM'⟩
    have hlt := vGo_lt ho hn hs hm ht
    rw [zD_weigh_q, if_neg (by decide), if_pos (by rfl), zD_weigh_4_q, e, zbi_s, cWorthOfAll hM'.2.2.2.2 (by omega), zbi_s]
    rfl
  · obtain ⟨D, rfl⟩ : ∃ D', D = D' + 3 := ⟨D - 3, by omega⟩
    obtain ⟨A', e, hF, hM'⟩ := cEndAfter (D := D + 2) ho ih hn hs hm ht hv hM (by omega)
    refine ⟨A', ?_, hF, hM'⟩
    have hlt := vGo_lt ho hn hs hm ht
    rw [zD_weigh_q, if_neg (by decide), if_neg (by decide), if_neg (by decide), if_neg (by decide), if_neg (by decide), zD_weigh_5_q, e, zbi_s, cWorthOfEnd ho hM'.2.2.2.2 hp (by omega), zbi_s]
    rfl
theorem cDeedAt {f n s m D : Nat} {A : zA} (ho : Ok v) (ih : n < 8 → zIH v L a f (n + 1)) (hn : n ≤ 8) (hs : s < 8) (hm : m < 64) (hv : zv A = v) (hM : zMi A v a) (hD : 5 * f + 13 ≤ D) :
    ∃ A', zD_deedAt D (nI (zsp n s m)) A L = some (some (.int (if vMay v n s = 0 then -9 else nI (vDeed v n s m))), A', L) ∧ zFm A A' ∧ zMi A' v a := by
  obtain ⟨D, rfl⟩ : ∃ D', D = D' + 6 := ⟨D - 6, by omega⟩
  have hopt := ho.opt (n := n) hs
  by_cases h0 : vMay v n s = 0
  · refine ⟨A, ?_, zFm.rf A, hM⟩
    rw [zD_deedAt_q, cOptions ho hv (by omega) hs hm, zbi_s, (vOpt_0 ho hs).mpr h0, if_pos (by rfl), if_pos h0]
  · have hP := vMay_P h0
    have h5 := ho.P.2
    have hn8 : n < 8 := by
      rcases Nat.lt_or_ge n 8 with h | h
      · exact h
      · exact absurd (vMay_8 ho h) h0
    have htr := (ho.tr hP n).2
    have hkd := (ho.kd (p := vTr v n) (by omega)).2
    have ho0 : ¬ vOpt v n s = 0 := fun e => h0 ((vOpt_0 ho hs).mp e)
    have hb8 : (zshr (nI (vOpt v n s)) 8 &&& 1 = 0) = (vEn v s = false) := by
      rw [show (8 : Int32) = nI 8 from rfl, zbit0 (by omega) (by omega)]
      have := vOk_8 (n := n) ho hs
      unfold vOk at this
      rw [this]
      simp [h0]
    have hbegin : zD_deedAt (D + 6) (nI (zsp n s m)) A L = (if nI (vKd v (vTr v n)) = 5 then if vEn v s = false then zD_deedAt_2 (D + 6) (nI (zsp n s m)) (nI (vOpt v n s)) (nI (vTr v n)) (nI (vKd v (vTr v n))) A L else some (some (.int 8), A, L) else zD_deedAt_2 (D + 6) (nI (zsp n s m)) (nI (vOpt v n s)) (nI (vTr v n)) (nI (vKd v (vTr v n))) A L) := by
      rw [zD_deedAt_q, cOptions ho hv (by omega) hs hm, zbi_s, if_neg (by rw [show (0 : Int32) = nI 0 from rfl]; exact nI_ne ho0 (by omega) (by omega)), zD_deedAt_1_q, cSayer ho hv (by omega) hs hm hP, zbi_s, cKindOf ho hv htr, zbi_s]
      simp only [hb8]
    have hleast : zD_deedAt_3 (D + 6) (nI (vOpt v n s)) A L = some (some (.int (nI (vLow v n s))), A, L) := by
      rw [zD_deedAt_3_q, cLeast ho hs h0, zbi_s]
    rw [hbegin, if_neg h0]
    by_cases h5k : vKd v (vTr v n) = 5
    · have hd : vDeed v n s m = if vEn v s then 8 else vLow v n s := by unfold vDeed vDe; simp only [h5k, if_true]
      refine ⟨A, ?_, zFm.rf A, hM⟩
      rw [h5k, if_pos (by rfl), hd]
      cases vEn v s
      · rw [if_pos (by rfl), zD_deedAt_2_q, if_pos (by rfl), hleast, if_neg (by decide)]
      · rw [if_neg (by decide), if_pos (by rfl)]; rfl
    · rw [if_neg (by rw [show (5 : Int32) = nI 5 from rfl]; exact nI_ne h5k (by omega) (by omega)), zD_deedAt_2_q, if_neg (by rw [show (5 : Int32) = nI 5 from rfl]; exact nI_ne h5k (by omega) (by omega))]
      by_cases h1k : vKd v (vTr v n) = 1
      · have hd : vDeed v n s m = vLow v n s := by unfold vDeed vDe; simp [h1k]
        refine ⟨A, ?_, zFm.rf A, hM⟩
        rw [h1k, if_pos (by rfl), hleast, hd]
      · rw [if_neg (by rw [show (1 : Int32) = nI 1 from rfl]; exact nI_ne h1k (by omega) (by omega)), zD_deedAt_4_q]
        obtain ⟨A', e, hF, hM'⟩ := cBestDeed (D := D + 4) (L := L) (A0 := A) (x := nI (zsp n s m)) (y := nI (vTr v n)) (z := nI (vKd v (vTr v n))) ho hs h0 (fun t A1 ht hok hF1 hM1 => by
          obtain ⟨A2, e2, hF2, hM2⟩ := cWeigh (D := D + 4) ho (ih hn8) hn8 hs hm ht hok htr hkd h1k h5k (hF1.zv hv) hM1 (by omega)
          exact ⟨A2, e2, hF1.tr hF2, hM2⟩) hM
        refine ⟨A', ?_, hF, hM'⟩
        rw [e, zbi_s]
        congr 4
        unfold vDeed vDe
        simp only [h5k, h1k, if_false]
        by_cases h6 : vKd v (vTr v n) = 6
        · simp only [h6, if_true]
        · simp only [h6, if_false]
          by_cases h4 : vKd v (vTr v n) = 4
          · simp only [h4, if_true]
          · simp only [h4, if_false]
theorem zE_mask {a e : Nat} (he : e < 2048) (ha : a < 1048576) : (zshl (nI a) 11 ||| nI e) = nI (a * 2048 + e) := by
  rw [show (11 : Int32) = nI 11 from rfl, zshl_n (by omega) (by omega), nI_or, show a * 2 ^ 11 = 2 ^ 11 * a by omega, zor_add (k := 11) (by omega), Nat.mul_comm (2 ^ 11) a]
theorem zE_mask2 {a e : Nat} (he : e < 2048) (ha : a < 1048576) : (zshl (nI a) (nI 11) ||| nI e) = nI (a * 2048 + e) := zE_mask he ha
theorem zE_low {x : Nat} : nI x &&& 2047 = nI (x % 2048) := by
  rw [show (2047 : Int32) = nI 2047 from rfl, nI_and]
  exact congrArg nI (nI_mask x 11)
theorem cMind (ho : Ok v) : ∀ f n, n + f = 8 → zIH v L a f n := by
  intro f
  induction f with
  | zero =>
    intro n hn s m A hs hm hv hM
    have e : n = 8 := by omega
    subst e
    have h0 : vMay v 8 s = 0 := vMay_8 ho (by omega)
    have hge : (4096 : Int32) ≤ nI (zsp 8 s m) := by
      rw [show (4096 : Int32) = nI 4096 from rfl]
      exact nI_le (by unfold zsp; omega) (by unfold zsp; omega)
    have hpos : ¬ nI (zsp 8 s m) < 0 := nI_pos (by unfold zsp; omega)
    refine ⟨fun p D hp hD => ⟨A, ?_, zFm.rf A, hM⟩, fun D hD => ⟨A, ?_, zFm.rf A, hM⟩⟩
    · obtain ⟨D, rfl⟩ : ∃ D', D = D' + 4 := ⟨D - 4, by omega⟩
      rw [zD_dreamFrom_q, cOptions ho hv (by omega) hs hm, zbi_s, if_neg hpos, if_pos hge, zD_dreamFrom_1_q, cEndByItself ho hv (by omega) hs hm, zbi_s, vD_0 h0]
      rfl
    · obtain ⟨D, rfl⟩ : ∃ D', D = D' + 4 := ⟨D - 4, by omega⟩
      rw [zD_endFrom_q, if_neg hpos, if_neg (fun h => absurd hge (Int32.not_le.mpr h)), zD_endFrom_1_q, cEndByItself ho hv (by omega) hs hm, zbi_s, vE_0 h0]
      rfl
  | succ f ihf =>
    intro n hn s m A hs hm hv hM
    have ih : zIH v L a f (n + 1) := ihf (n + 1) (by omega)
    have hn8 : n < 8 := by omega
    have hsp : zsp n s m < 4096 := by unfold zsp; omega
    have hpos : ¬ nI (zsp n s m) < 0 := nI_pos (by omega)
    have hopt := ho.opt (n := n) hs
    refine ⟨fun p D hp hD => ?_, fun D hD => ?_⟩
    · -- the mind of a blind one
      obtain ⟨D, rfl⟩ : ∃ D', D = D' + 5 := ⟨D - 5, by omega⟩
      have hbegin : zD_dreamFrom (D + 5) (nI p) (nI (zsp n s m)) A L = if vMay v n s = 0 then zD_dreamFrom_1 (D + 5) (nI (zsp n s m)) A L else zD_dreamFrom_2 (D + 5) (nI p) (nI (zsp n s m)) (nI (vOpt v n s)) A L := by
        rw [zD_dreamFrom_q, cOptions ho hv (by omega) hs hm, zbi_s, if_neg hpos, if_neg (nI_g4096 hsp), show (0 : Int32) = nI 0 from rfl, zifi (nI_eq (by omega) (by omega))]
        simp only [vOpt_0 ho hs]
      rw [hbegin]
      by_cases h0 : vMay v n s = 0
      · refine ⟨A, ?_, zFm.rf A, hM⟩
        rw [if_pos h0, zD_dreamFrom_1_q, cEndByItself ho hv (by omega) hs hm, zbi_s, vD_0 h0]
        rfl
      · have hP := vMay_P h0
        rw [if_neg h0, zD_dreamFrom_2_q, cSayer ho hv (by omega) hs hm hP, zbi_s, zifi (nI_eq (by have := (ho.tr hP n).2; have := ho.P.2; omega) (by have := ho.P.2; omega)), vD_1 hn8 h0]
        by_cases htp : vTr v n = p
        · rw [if_pos htp, if_pos htp, zD_dreamFrom_3_q, zck_n hsp (by decide), nI_clamp (by omega)]
          obtain ⟨x, hx1, hx2, hx3⟩ := hM.2.2.2.1 n s m hn8 hs hm
          have hval : vD v (vTr v n) n s m = vGd4 v p n s m (zbd (vOk v n s) (fun t => vEw v p (vGd4 v p n s m t % 128))) := by
            rw [vD_1 hn8 h0, if_pos (by rfl), htp]
          rw [hx1, show (11 : Int32) = nI 11 from rfl, zushr_n (by have := hM.2.1; omega) (by omega), hM.1, zifi (nI_eq (by have := hM.2.1; omega) (by have := hM.2.1; omega))]
          by_cases hage : x / 2 ^ 11 = a
          · refine ⟨A, ?_, zFm.rf A, hM⟩
            rw [if_pos hage, zD_dreamFrom_4_q, zck_n hsp (by decide), nI_clamp (by omega), hx1, zE_low, hx3 hage]
            show some (some (Value.int (nI (vD v (vTr v n) n s m))), A, L) = _
            rw [hval]
          · rw [if_neg hage]
            obtain ⟨A1, e1, hF1, hM1⟩ := cBestDeed (D := D + 3) (L := L) (A0 := A) (x := nI (zsp n s m)) (y := nI p) (z := 4) (val := fun t => vEw v p (vGd4 v p n s m t % 128)) ho hs h0 (fun t A1 ht hok hF1 hM1 => by
              obtain ⟨A2, e2, hF2, hM2⟩ := cWeigh4 (D := D + 3) ho ih hn8 hs hm ht hp (hF1.zv hv) hM1 (by omega)
              exact ⟨A2, e2, hF1.tr hF2, hM2⟩) hM
            rw [e1, zbi_s]
            have hbd := zbd_in (ok := vOk v n s) (val := fun t => vEw v p (vGd4 v p n s m t % 128)) ⟨_, by have := vLow_lt ho hs h0; omega, vLow_ok ho hs h0⟩
            obtain ⟨A2, e2, hF2, hM2⟩ := cDreamAfter (D := D + 4) ho ih hn8 hs hm hbd.1 hp (hF1.zv hv) hM1 (by omega)
            have hlt := vGd4_lt (p := p) ho hn8 hs hm hbd.1
            have hF3 : zFm A (zput A2 53 (zsp n s m) (nI (a * 2048 + vD v (vTr v n) n s m))) := fun c h1 h2 => by
              rw [zput_o h2]; exact (hF1.tr hF2) c h1 h2
            refine ⟨_, ?_, hF3, ?_⟩
            · rw [e2, zbi_s, zck_n hsp (by decide), hM2.1, zE_mask2 (by omega) hM.2.1, zD_dreamFrom_4_q, zck_n hsp (by decide), nI_clamp (by omega), zput_s, upd_s, zE_low, ← hval, show (a * 2048 + vD v (vTr v n) n s m) % 2048 = vD v (vTr v n) n s m by rw [hval]; omega]
            · refine ⟨by rw [zput_o (by decide)]; exact hM2.1, hM.2.1, by rw [zput_o (by decide)]; exact hM2.2.2.1, ?_, ?_⟩
              · rw [zput_s]
                exact zMem_put (f := fun n s m => vD v (vTr v n) n s m) hM2.2.2.2.1 hn8 hs hm hM.2.1 (by have := vD_lt (p := vTr v n) ho (by omega : n ≤ 8) hs hm; omega)
              · have := hM2.2.2.2.2
                unfold zWt at *
                rw [zput_o (by decide)]
                exact this
        · rw [if_neg htp, if_neg htp]
          have hlow := vLow_lt ho hs h0
          obtain ⟨A', e, h⟩ := (ih (vTo v s (vLow v n s)) (m ^^^ vMk v s (vLow v n s)) A (ho.to hs hlow).2 (Ok.xor hm (ho.mk hs hlow)) hv hM).1 p (D + 4) hp (by omega)
          refine ⟨A', ?_, h⟩
          rw [cLeast ho hs h0, zbi_s, cAfter ho hv (by omega) hs hm hlow, zbi_s, e, zbi_s]
          unfold vGd4
          rw [if_neg (by omega)]
    · obtain ⟨D, rfl⟩ : ∃ D', D = D' + 5 := ⟨D - 5, by omega⟩
      rw [zD_endFrom_q, if_neg hpos, if_pos (nI_l4096 hsp), zD_endFrom_2_q, zck_n hsp (by decide), nI_clamp (by omega)]
      obtain ⟨x, hx1, hx2, hx3⟩ := hM.2.2.1 n s m hn8 hs hm
      have hElt := vE_lt ho (by omega : n ≤ 8) hs hm
      rw [hx1, show (11 : Int32) = nI 11 from rfl, zushr_n (by have := hM.2.1; omega) (by omega), hM.1, zifi (nI_eq (by have := hM.2.1; omega) (by have := hM.2.1; omega))]
      by_cases hage : x / 2 ^ 11 = a
      · refine ⟨A, ?_, zFm.rf A, hM⟩
        rw [if_pos hage, zD_endFrom_5_q, zck_n hsp (by decide), nI_clamp (by omega), hx1, zE_low, hx3 hage]
      · rw [if_neg hage]
        obtain ⟨A1, e1, hF1, hM1⟩ := cDeedAt (D := D + 4) ho (fun _ => ih) (by omega) hs hm hv hM (by omega)
        rw [e1, zbi_s]
        have hstore : ∀ A2, zFm A A2 → zMi A2 v a → zD_endFrom_4 (D + 5) (nI (zsp n s m)) (nI (vE v n s m)) A2 L = some (some (.int (nI (vE v n s m))), zput A2 52 (zsp n s m) (nI (a * 2048 + vE v n s m)), L) ∧ zFm A (zput A2 52 (zsp n s m) (nI (a * 2048 + vE v n s m))) ∧ zMi (zput A2 52 (zsp n s m) (nI (a * 2048 + vE v n s m))) v a := by
          intro A2 hF2 hM2
          refine ⟨?_, fun c h1 h2 => by rw [zput_o h1]; exact hF2 c h1 h2, ?_⟩
          · rw [zD_endFrom_4_q, zck_n hsp (by decide), nI_clamp (by omega), hM2.1, zE_mask (by omega) hM.2.1, zD_endFrom_5_q, zck_n hsp (by decide), nI_clamp (by omega), zput_s, upd_s, zE_low, show (a * 2048 + vE v n s m) % 2048 = vE v n s m by omega]
          · refine ⟨by rw [zput_o (by decide)]; exact hM2.1, hM.2.1, ?_, by rw [zput_o (by decide)]; exact hM2.2.2.2.1, ?_⟩
            · rw [zput_s]
              exact zMem_put hM2.2.2.1 hn8 hs hm hM.2.1 (by omega)
            · have := hM2.2.2.2.2
              unfold zWt at *
              rw [zput_o (by decide)]
              exact this
        by_cases h0 : vMay v n s = 0
        · obtain ⟨q1, q2, q3⟩ := hstore A1 hF1 hM1
          refine ⟨_, ?_, q2, q3⟩
          rw [if_pos h0, if_pos (by rfl), cEndByItself ho (hF1.zv hv) (by omega) hs hm, zbi_s]
          have : 128 * n + (if vEn v s then m else 64 + m) = vE v n s m := (vE_0 h0).symm
          rw [this]
          exact q1
        · have hde := vDe_ok ho hs h0 (vGo v n s m) (vGd4 v (vTr v n) n s m) (m := m)
          have hde : vDeed v n s m < 9 := hde.1
          obtain ⟨A2, e2, hF2, hM2⟩ := cEndAfter (D := D + 4) ho ih hn8 hs hm hde (hF1.zv hv) hM1 (by omega)
          obtain ⟨q1, q2, q3⟩ := hstore A2 (hF1.tr hF2) hM2
          refine ⟨_, ?_, q2, q3⟩
          rw [if_neg h0, if_neg (nI_ne9 (by omega)), zD_endFrom_3_q, e2, zbi_s, ← vE_1 hn8 h0]
          exact q1
end CR
