/-! ===== the talk: class and model alike ===== -/
section P5
variable {a d n s m t : Nat} {A A' B v w : zA} {L M : zL} {x y : Int32}
def vOn (v : zA) : Nat := if v 14 3 = 0 then vOpt v (vSz v) (vSt v) else 0
theorem cOptionsNow (ho : Ok v) (hv : zv A = v) : zW_optionsNow (d + 4) A L = some (some (.int (nI (vOn v))), A, L) := by
  have h9 := ho.sz.2
  obtain ⟨e1, e2, e3⟩ := vSp_eq ho
  rw [zW_optionsNow_q, zv_c hv 14 (by decide)]
  unfold vOn
  rcases ho.stop with h | h
  · rw [h, if_pos rfl, if_pos rfl, zW_optionsNow_1_q, cSpot ho hv, zbi_s, e1, cOptions ho hv (by omega) e2 e3, zbi_s, zW_optionsNow_2_q]
  · rw [h, if_neg (by decide), if_neg (by decide), zW_optionsNow_2_q]; rfl
theorem vOpt_bit (ho : Ok v) (hs : s < 8) (ht : t < 8) : (vOpt v n s).testBit t = (vMay v n s).testBit t := by
  unfold vOpt
  by_cases h0 : vMay v n s = 0
  · rw [if_pos h0, h0]
  · rw [if_neg h0]
    cases vEn v s
    · rw [ite_ft]
    · rw [ite_tt, Nat.testBit_or, show (256 : Nat) = 2 ^ 8 from rfl, Nat.testBit_two_pow, decide_eq_false (by omega), Bool.or_false]
theorem vOpt_8 (ho : Ok v) (hs : s < 8) : (vOpt v n s).testBit 8 = (!decide (vMay v n s = 0) && vEn v s) := by
  have hm := ho.may (n := n) hs
  have hb : (vMay v n s).testBit 8 = false := Nat.testBit_lt_two_pow (show vMay v n s < 2 ^ 8 by omega)
  unfold vOpt
  by_cases h0 : vMay v n s = 0
  · rw [if_pos h0, h0]; rfl
  · rw [if_neg h0, decide_eq_false h0]
    cases vEn v s
    · rw [ite_ft, hb]; rfl
    · rw [ite_tt, Nat.testBit_or, hb]; rfl
theorem vOpt_255 (ho : Ok v) (hs : s < 8) : vOpt v n s % 256 = vMay v n s := by
  have hm := ho.may (n := n) hs
  unfold vOpt
  by_cases h0 : vMay v n s = 0
  · rw [if_pos h0, h0]
  · rw [if_neg h0]
    cases vEn v s
    · rw [ite_ft]; omega
    · rw [ite_tt, Nat.or_comm, show (256 : Nat) = 2 ^ 8 * 1 from rfl, zor_add (k := 8) (by omega)]; omega
theorem vSt_sp (hz : vSz w = n) (h : w 16 n = nI (zsp n s m)) (hn : n < 65536) (hs : s < 8) (hm : m < 64) : vSt w = s ∧ vMe w = m := by
  have hsp := zsp_lt (b := 65536) hn hs hm
  have e : vSp w = zsp n s m := by unfold vSp; rw [hz, h, nI_clamp (by omega)]
  unfold vSt vMe
  rw [e]
  exact ⟨zsp_s hs hm, by unfold zsp; omega⟩
theorem zmw_talk (hw : zmw A v) (h : ∀ c, c ≤ 13 → w c = v c) (hc : ∀ c, 65 ≤ c → c ≤ 72 → A' c = A c) (h73 : A' 73 = w 15) (h63 : ∀ i, 10 ≤ i → i ≤ 14 → A' 63 i = A 63 i) (h15 : A' 63 15 = w 14 2) (h18 : A' 63 18 = w 14 3) (h16 : A' 63 16 = nI (vSt w)) (h17 : A' 63 17 = nI (vMe w)) : zmw A' w := by
  obtain ⟨w65, w66, w67, w68, w69, w70, w71, w72, -, w10, w11, w12, w13, w14, -⟩ := hw
  exact ⟨by rw [hc 65 (by omega) (by omega), h 3 (by omega), w65], by rw [hc 66 (by omega) (by omega), h 4 (by omega), w66], by rw [hc 67 (by omega) (by omega), h 5 (by omega), w67], by rw [hc 68 (by omega) (by omega), h 6 (by omega), w68], by rw [hc 69 (by omega) (by omega), h 10 (by omega), w69], by rw [hc 70 (by omega) (by omega), h 11 (by omega), w70], by rw [hc 71 (by omega) (by omega), h 12 (by omega), w71], by rw [hc 72 (by omega) (by omega), h 13 (by omega), w72], h73, by rw [h63 10 (by omega) (by omega), h 2 (by omega), w10], by rw [h63 11 (by omega) (by omega), h 2 (by omega), w11], by rw [h63 12 (by omega) (by omega), h 9 (by omega), w12], by rw [h63 13 (by omega) (by omega), h 1 (by omega), w13], by rw [h63 14 (by omega) (by omega), h 1 (by omega), w14], h15, h18, h16, h17⟩
/-- a refusal behind the model's tables -/
theorem zNoT {k : Nat} (h : RR a A) (hx0 : ¬ (0 : Int32) ≤ x) (hx7 : ¬ x ≤ -(nI 7)) (hk : k < 7) (hx : -x = nI k) : ∃ A1, (∀ d L, zX_refused d x A L = some (some (.int x), A1, L)) ∧ (∀ c, c ≠ 62 → A1 c = A c) ∧ ∀ B, (∀ c, (c < 82 ∨ 91 < c) → B c = A1 c) → ∃ A2, (∀ d L, zM_no d x B L = some (some (.int x), A2, L)) ∧ RR a A2 := by
  refine ⟨zput A 62 k (A 62 k + 1), fun d L => ?_, fun c hc => zput_o hc, fun B hB => ⟨zput B 64 k (A 64 k + 1), fun d L => ?_, ?_⟩⟩
  · rw [zX_refused_q, if_neg hx0, if_neg hx7, hx, zck_n hk (by decide), zck_n hk (by decide), nI_clamp (by omega), zX_refused_1_q]
  · rw [zM_no_q, hx, zck_n hk (by decide), zck_n hk (by decide), nI_clamp (by omega), hB 64 (by omega), zput_o (show 64 ≠ 62 by decide)]
  · have hc : ∀ c, c ≠ 62 → c ≠ 64 → (c < 82 ∨ 91 < c) → zput B 64 k (A 64 k + 1) c = A c := fun c h1 h2 h3 => by rw [zput_o h2, hB c h3, zput_o h1]
    have hv : zv (zput B 64 k (A 64 k + 1)) = zv A := zv_of (fun c hc' => hc c (by omega) (by omega) (by omega))
    have e62 : zput B 64 k (A 64 k + 1) 62 = upd (A 62) k (A 62 k + 1) := by rw [zput_o (by decide), hB 62 (by omega), zput_s]
    have e64 : zput B 64 k (A 64 k + 1) 64 = upd (A 64) k (A 64 k + 1) := by rw [zput_s, hB 64 (by omega), zput_o (by decide)]
    refine ⟨by rw [hv]; exact h.ok, by rw [hv]; exact zmw_at h.mw (fun i _ _ => by rw [hc 63 (by decide) (by decide) (by omega)]) (fun c h1 h2 => hc c (by omega) (by omega) (by omega)), by rw [hc 63 (by decide) (by decide) (by omega)]; exact h.gone, by rw [e62, e64, h.ref], by rw [hc 33 (by decide) (by decide) (by omega), hc 63 (by decide) (by decide) (by omega)]; exact h.tape, by rw [hc 34 (by decide) (by decide) (by omega), hc 74 (by decide) (by decide) (by omega)]; exact h.lett, by rw [hc 0 (by decide) (by decide) (by omega), hc 63 (by decide) (by decide) (by omega), hc 61 (by decide) (by decide) (by omega)]; exact h.rown, by rw [hc 61 (by decide) (by decide) (by omega), hc 92 (by decide) (by decide) (by omega)]; exact h.rows, ?_, ?_⟩
    · rw [hc 0 (by decide) (by decide) (by omega), hc 63 (by decide) (by decide) (by omega), hc 81 (by decide) (by decide) (by omega), zvi_of (fun c hc' => hc c (by omega) (by omega) (by omega))]; exact h.img
    · obtain ⟨b, h1, h2⟩ := h.old
      exact ⟨b, h1, zOld_of h2 (by rw [hc 51 (by decide) (by decide) (by omega)]) (hc 52 (by decide) (by decide) (by omega)) (hc 53 (by decide) (by decide) (by omega))⟩
theorem zNoT3 (h : RR a A) : ∃ A1, (∀ d L, zX_refused d (-3) A L = some (some (.int (-3)), A1, L)) ∧ (∀ c, c ≠ 62 → A1 c = A c) ∧ ∀ B, (∀ c, (c < 82 ∨ 91 < c) → B c = A1 c) → ∃ A2, (∀ d L, zM_no d (-3) B L = some (some (.int (-3)), A2, L)) ∧ RR a A2 := zNoT (k := 3) h (by decide) (by decide) (by decide) (by decide)
theorem zNoT2 (h : RR a A) : ∃ A1, (∀ d L, zX_refused d (-2) A L = some (some (.int (-2)), A1, L)) ∧ (∀ c, c ≠ 62 → A1 c = A c) ∧ ∀ B, (∀ c, (c < 82 ∨ 91 < c) → B c = A1 c) → ∃ A2, (∀ d L, zM_no d (-2) B L = some (some (.int (-2)), A2, L)) ∧ RR a A2 := zNoT (k := 2) h (by decide) (by decide) (by decide) (by decide)
/-- what the talk's cells alone do to the relation -/
theorem RR_talk {a' : Nat} (h : RR a A) (hc : ∀ c, (c ≤ 13 ∨ (17 ≤ c ∧ c ≤ 34) ∨ c = 61 ∨ c = 62 ∨ c = 64 ∨ (65 ≤ c ∧ c ≤ 72) ∨ c = 74 ∨ c = 81 ∨ c = 92) → A' c = A c) (h63 : ∀ i, ((10 ≤ i ∧ i ≤ 14) ∨ i = 26 ∨ i = 30 ∨ i = 33 ∨ i = 45) → A' 63 i = A 63 i)
    (ho : Ok (zv A')) (h73 : A' 73 = A' 15) (h15 : A' 63 15 = A' 14 2) (h18 : A' 63 18 = A' 14 3) (h16 : A' 63 16 = nI (vSt (zv A'))) (h17 : A' 63 17 = nI (vMe (zv A'))) (hO : ∃ b, b ≤ a' ∧ zOld A' b) : RR a' A' :=
  RR_w h (zPo_of (fun c hc' => hc c (by omega)) (fun i hi => h63 i (by omega))) ho (zmw_talk h.mw (fun c hc' => by rw [zv_at (by omega), zv_at (by omega), hc c (by omega)]) (fun c a b => hc c (by omega)) (by rw [h73, zv_at (by decide)]) (fun i a b => h63 i (by omega)) (by rw [h15, zv_at (by decide)]) (by rw [h18, zv_at (by decide)]) h16 h17) hO
/-- the world with so many of its words alone -/
def vBk (v : zA) (k : Nat) : zA := fun c => if c = 14 then upd (v 14) 2 (nI k) else v c
theorem vBk_c (k : Nat) {c : Nat} (h : c ≠ 14) : vBk v k c = v c := if_neg h
theorem vBk_14 (k : Nat) : vBk v k 14 = upd (v 14) 2 (nI k) := if_pos rfl
theorem vBk_sz {k : Nat} (hk : k < 9) : vSz (vBk v k) = k := by unfold vSz; rw [vBk_14, upd_s, nI_clamp (by omega)]
theorem Ok_bk {k : Nat} (ho : Ok v) (hk : k ≤ vSz v) : Ok (vBk v k) := by
  have h9 := ho.sz.2
  refine Ok_talk (v := v) (fun c hc => vBk_c k (by omega)) ?_ ?_ ?_ ?_ ho
  · rw [vBk_14, upd_s]; exact zIs_n (by omega)
  · rw [vBk_14, upd_o (by decide)]; exact ho.stop
  · rw [vBk_c k (by decide)]; exact ho.sp0
  · intro i hi
    rw [vBk_sz (by omega)] at hi
    rw [vBk_c k (by decide), vBk_c k (by decide)]
    exact ho.sd i (by omega)
theorem zv_put14 {i : Nat} (hv : zv A = v) : zv (zput A 14 i x) = fun c => if c = 14 then upd (v 14) i x else v c := by
  funext c
  by_cases h : c = 14
  · subst h; rw [if_pos rfl, zv_at (by decide), zput_s, zv_c hv 14 (by decide)]
  · rw [if_neg h, ← hv]
    unfold zv
    split
    · rw [zput_o h]
    · rfl
/-- the model says words anew -/
theorem mReplays {k : Nat} (ho : Ok v) (hk : k ≤ vSz v) : ∀ q j B, j + q = k → zmw B (vBk v j) → ∃ B', zM_replays_1 (d + 1) (nI k) (nI j) B M = some (none, B', M) ∧ (∀ c, c ≠ 63 → B' c = B c) ∧ (∀ i, (i < 15 ∨ 17 < i) → B' 63 i = B 63 i) ∧ zmw B' (vBk v k) := by
  have h9 := ho.sz.2
  intro q
  induction q with
  | zero =>
    intro j B hj hw
    have e : j = k := by omega
    subst e
    refine ⟨B, ?_, fun _ _ => rfl, fun _ _ => rfl, hw⟩
    rw [zM_replays_1_q, if_pos (nI_le (by omega) (by omega)), zM_replays_7_q]
  | succ q ih =>
    intro j B hj hw
    have hoj : Ok (vBk v j) := Ok_bk ho (by omega)
    obtain ⟨s, m, t, hs, hm, ht, s1, s2, s3, s4⟩ := ho.said (i := j) (by omega)
    obtain ⟨e1, e2⟩ := vSt_sp (w := vBk v j) (vBk_sz (by omega)) (by rw [vBk_c j (by decide)]; exact s1) (by omega) hs hm
    have hto := (ho.to hs ht)
    have hmk := ho.mk hs ht
    obtain ⟨f1, f2⟩ := vSt_sp (w := vBk v (j + 1)) (vBk_sz (by omega)) (by rw [vBk_c (j + 1) (by decide)]; exact s4) (by omega) hto.2 (Ok.xor hm hmk)
    have hru := (ho.ru hs ht)
    have hw' := hw
    obtain ⟨w65, w66, w67, w68, w69, w70, w71, w72, w73, w10, w11, w12, w13, w14, w15, w18, w16, w17⟩ := hw'
    have hr : zM_ruleAt d (nI s) (nI t) B M = some (some (.int (nI (vRu v s t))), B, M) := by
      rw [mRuleAt hoj hw hs ht]
      have eW : vWf (vBk v j) s = vWf v s := by unfold vWf; rw [vBk_c j (by decide)]
      have eU : vRu (vBk v j) s t = vRu v s t := by unfold vRu; rw [vBk_c j (by decide)]
      rw [eW, s3, ite_tt, eU]
    have e15 : B 63 15 = nI j := by rw [w15, vBk_14, upd_s]
    have e16 : B 63 16 = nI s := by rw [w16, e1]
    have e17 : B 63 17 = nI m := by rw [w17, e2]
    have e73 : B 73 j = nI t := by rw [w73, vBk_c j (by decide)]; exact s2
    have e68 : B 68 = v 6 := by rw [w68, vBk_c j (by decide)]
    have e67 : B 67 = v 5 := by rw [w67, vBk_c j (by decide)]
    obtain ⟨B', g1, g2, g3, g4⟩ := ih (j + 1) (zput (zput (zput B 63 15 (nI (j + 1))) 63 17 (nI (m ^^^ vMk v s t))) 63 16 (nI (vTo v s t))) (by omega) (by
      refine zmw_talk hw (fun c hc => by rw [vBk_c _ (by omega), vBk_c _ (by omega)]) (fun c a b => by rw [zput_o (by omega), zput_o (by omega), zput_o (by omega)]) ?_ (fun i a b => ?_) ?_ ?_ ?_ ?_
      · rw [zput_o (by decide), zput_o (by decide), zput_o (by decide), w73, vBk_c _ (by decide), vBk_c _ (by decide)]
      · rw [zput_s, upd_o (by omega), zput_s, upd_o (by omega), zput_s, upd_o (by omega)]
      · rw [zput_s, upd_o (by decide), zput_s, upd_o (by decide), zput_s, upd_s, vBk_14, upd_s]
      · rw [zput_s, upd_o (by decide), zput_s, upd_o (by decide), zput_s, upd_o (by decide), w18, vBk_14, upd_o (by decide), vBk_14, upd_o (by decide)]
      · rw [zput_s, upd_s, f1]
      · rw [zput_s, upd_o (by decide), zput_s, upd_s, f2])
    refine ⟨B', ?_, fun c hc => by rw [g2 c hc, zput_o hc, zput_o hc, zput_o hc], fun i hi => by rw [g3 i hi, zput_s, upd_o (by omega), zput_s, upd_o (by omega), zput_s, upd_o (by omega)], g4⟩
    have h4 : ∀ z, z = nI (vMk v s t) → zM_replays_4 (d + 1) (nI k) (nI j) (nI (vRu v s t)) (nI m) z (zput B 63 15 (nI (j + 1))) M = some (none, B', M) := by
      intro z hz
      have e67' : zput (zput B 63 15 (nI (j + 1))) 63 17 (nI (m ^^^ vMk v s t)) 67 = v 5 := by rw [zput_o (by decide), zput_o (by decide), e67]
      rw [zM_replays_4_q, hz, if_pos (nI_pos' (by omega)), nI_xor, zM_replays_5_q, zck_n hru.2 (by decide), nI_clamp (by omega), e67', hto.1, zM_replays_6_q, nI_1]
      exact g1
    have e17' : zput B 63 15 (nI (j + 1)) 63 17 = nI m := by rw [zput_s, upd_o (by decide), e17]
    have e68' : zput B 63 15 (nI (j + 1)) 68 = v 6 := by rw [zput_o (by decide), e68]
    rw [zM_replays_1_q, if_neg (nI_ge (by omega) (by omega)), zck_n (by omega) (by decide), nI_clamp (by omega), e16, e73, hr, zbi_s, if_neg (nI_pos (by omega)), zck_n hru.2 (by decide), nI_clamp (by omega), e15, nI_1, e68', e17']
    rcases (ho.rule hru.2).2.2.2 with h6 | ⟨q', hq', h6⟩
    · rw [h6, if_neg (by decide), zM_replays_2_q]
      exact h4 0 (by unfold vMk; rw [h6]; decide)
    · rw [h6, if_pos (nI_pos' (by omega)), zM_replays_3_q, zck_n hru.2 (by decide), nI_clamp (by omega), e68', h6, zpow (by omega)]
      exact h4 _ (by unfold vMk vBit; rw [h6, if_neg (nI_pos (by omega)), nI_clamp (by omega)])
end P5
