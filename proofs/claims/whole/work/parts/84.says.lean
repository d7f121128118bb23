/-! ===== class and model answer alike: say, talk ===== -/
section P7
variable {a d n s m t : Nat} {A A' B v w : zA} {L M : zL} {x y : Int32}
theorem mSays (ho : Ok v) (hs : s < 8) (ht : t < 8) (hn : n < 8) (e15 : B 63 15 = nI n) (e16 : B 63 16 = nI s) (e17 : B 63 17 = nI m) (hT : zTab B v 0) (hb : (vWg v 0 s).testBit t = true) :
    ∃ B', zM_says d (nI t) B M = some (none, B', M) ∧ (∀ c, c ≠ 63 → c ≠ 73 → B' c = B c) ∧ B' 73 = upd (B 73) n (nI t) ∧ B' 63 = upd (upd (upd (B 63) 15 (nI (n + 1))) 17 (nI (m ^^^ vMk v s t))) 16 (nI (vTo v s t)) := by
  obtain ⟨t1, t2⟩ := (hT.1 s hs).1 t ht hb
  obtain ⟨X, hX⟩ : ∃ X, X = zput (zput B 73 n (nI t)) 63 15 (nI (n + 1)) := ⟨_, rfl⟩
  have x16 : X 63 16 = nI s := by rw [hX, zput_s, upd_o (by decide), zput_o (by decide), e16]
  have x17 : X 63 17 = nI m := by rw [hX, zput_s, upd_o (by decide), zput_o (by decide), e17]
  have x84 : X 84 (8 * s + t) = nI (vMk v s t) := by rw [hX, zput_o (by decide), zput_o (by decide), t2]
  obtain ⟨Y, hY⟩ : ∃ Y, Y = zput X 63 17 (nI (m ^^^ vMk v s t)) := ⟨_, rfl⟩
  have y16 : Y 63 16 = nI s := by rw [hY, zput_s, upd_o (by decide), x16]
  have y83 : Y 83 (8 * s + t) = nI (vTo v s t) := by rw [hY, zput_o (by decide), hX, zput_o (by decide), zput_o (by decide), t1]
  have z15 : (zput B 73 n (nI t)) 63 15 = nI n := by rw [zput_o (by decide), e15]
  have z8 : (8 : Int32) * nI s + nI t = nI (8 * s + t) := by rw [show (8 : Int32) = nI 8 from rfl, pk_mul, nI_add]
  refine ⟨zput Y 63 16 (nI (vTo v s t)), ?_, fun c c1 c2 => by rw [zput_o c1, hY, zput_o c1, hX, zput_o c1, zput_o c2], by rw [zput_o (by decide), hY, zput_o (by decide), hX, zput_o (by decide), zput_s], by rw [zput_s, hY, zput_s, hX, zput_s, zput_o (show 63 ≠ 73 by decide)]⟩
  rw [zM_says_q, e15, zck_n hn (by decide), nI_clamp (by omega), z15, nI_1, ← hX, x16, z8, zck_n (by omega) (by decide), nI_clamp (by omega), x17, x84, nI_xor, ← hY, y16, z8, zck_n (by omega) (by decide), nI_clamp (by omega), y83]
theorem cSayNow (ho : Ok v) (hv : zv A = v) (hn : vSz v < 8) (ht : t < 8) : ∃ A', zX_sayNow (d + 6) (nI t) A L = some (some (.int (nI (vTo v (vSt v) t))), A', L) ∧ (∀ c, c ≠ 14 → c ≠ 15 → c ≠ 16 → A' c = A c) ∧ A' 14 = upd (A 14) 2 (nI (vSz v + 1)) ∧ A' 15 = upd (A 15) (vSz v) (nI t) ∧ A' 16 = upd (A 16) (vSz v + 1) (nI (zsp (vSz v + 1) (vTo v (vSt v) t) (vMe v ^^^ vMk v (vSt v) t))) := by
  have h9 := ho.sz
  obtain ⟨p1, p2, p3⟩ := vSp_eq ho
  have hto := (ho.to p2 ht).2
  have hmk := Ok.xor p3 (ho.mk p2 ht)
  obtain ⟨X, hX⟩ : ∃ X, X = zput (zput A 15 (vSz v) (nI t)) 14 2 (nI (vSz v + 1)) := ⟨_, rfl⟩
  have e142 : A 14 2 = nI (vSz v) := by rw [zv_c hv 14 (by decide), h9.1]
  have z14 : (zput A 15 (vSz v) (nI t)) 14 2 = nI (vSz v) := by rw [zput_o (by decide), e142]
  have x14 : X 14 2 = nI (vSz v + 1) := by rw [hX, zput_s, upd_s]
  refine ⟨zput X 16 (vSz v + 1) (nI (zsp (vSz v + 1) (vTo v (vSt v) t) (vMe v ^^^ vMk v (vSt v) t))), ?_, fun c c1 c2 c3 => by rw [zput_o c3, hX, zput_o c1, zput_o c2], by rw [zput_o (by decide), hX, zput_s, zput_o (show 14 ≠ 15 by decide)], by rw [zput_o (by decide), hX, zput_o (by decide), zput_s], by rw [zput_s, hX, zput_o (show 16 ≠ 14 by decide), zput_o (show 16 ≠ 15 by decide)]⟩
  rw [zX_sayNow_q, cSpot ho hv, zbi_s, p1, cAfter ho hv (by omega) p2 p3 ht, zbi_s, zT_add_q, e142, if_neg (nI_pos (by omega)), if_neg (nI_g8 hn), zck_n hn (by decide), nI_clamp (by omega), z14, nI_1, ← hX, x14, zck_n (by omega) (by decide), nI_clamp (by omega), zT_add_1_q, zbv_s, cState (by omega) hto hmk, zbi_s]
/-- a word is said, in both -/
theorem RR_say {a' : Nat} (h : RR a A) (hv : zv A = v) (hn : vSz v < 8) (ht : t < 8) (hb : (vWf v (vSt v)).testBit t = true) (hc : ∀ c, c ≠ 14 → c ≠ 15 → c ≠ 16 → c ≠ 63 → c ≠ 73 → (c < 51 ∨ (54 < c ∧ c < 82) ∨ 91 < c) → A' c = A c)
    (e14 : A' 14 = upd (A 14) 2 (nI (vSz v + 1))) (e15 : A' 15 = upd (A 15) (vSz v) (nI t)) (e16 : A' 16 = upd (A 16) (vSz v + 1) (nI (zsp (vSz v + 1) (vTo v (vSt v) t) (vMe v ^^^ vMk v (vSt v) t))))
    (e73 : A' 73 = upd (A 73) (vSz v) (nI t)) (e63 : A' 63 = upd (upd (upd (A 63) 15 (nI (vSz v + 1))) 17 (nI (vMe v ^^^ vMk v (vSt v) t))) 16 (nI (vTo v (vSt v) t))) (hO : ∃ b, b ≤ a' ∧ zOld A' b) : RR a' A' := by
  have ho := h.ok
  have hw := h.mw
  rw [hv] at ho hw
  obtain ⟨w65, w66, w67, w68, w69, w70, w71, w72, w73, w10, w11, w12, w13, w14, w15, w18, w16, w17⟩ := hw
  have h9 := ho.sz
  obtain ⟨p1, p2, p3⟩ := vSp_eq ho
  have hto := (ho.to p2 ht).2
  have hmk := Ok.xor p3 (ho.mk p2 ht)
  have f14 : zv A' 14 = upd (v 14) 2 (nI (vSz v + 1)) := by rw [zv_at (by decide), e14, zv_c hv 14 (by decide)]
  have f15 : zv A' 15 = upd (v 15) (vSz v) (nI t) := by rw [zv_at (by decide), e15, zv_c hv 15 (by decide)]
  have f16 : zv A' 16 = upd (v 16) (vSz v + 1) (nI (zsp (vSz v + 1) (vTo v (vSt v) t) (vMe v ^^^ vMk v (vSt v) t))) := by rw [zv_at (by decide), e16, zv_c hv 16 (by decide)]
  have hz : vSz (zv A') = vSz v + 1 := by unfold vSz; rw [f14, upd_s]; exact nI_clamp (by have := h9.2; unfold vSz at this; omega)
  obtain ⟨t1, t2⟩ := vSt_sp (w := zv A') hz (by rw [f16, upd_s]) (by omega) hto hmk
  refine RR_talk h (fun c hc' => hc c (by omega) (by omega) (by omega) (by omega) (by omega) (by omega)) (fun i hi => by rw [e63, upd_o (by omega), upd_o (by omega), upd_o (by omega)]) ?_ ?_ ?_ ?_ ?_ ?_ hO
  · refine Ok_talk (v := v) (fun c hc' => by rw [zv_at (by omega), hc c (by omega) (by omega) (by omega) (by omega) (by omega) (by omega), zv_c hv c (by omega)]) ?_ ?_ ?_ ?_ ho
    · rw [f14, upd_s]; exact zIs_n (by omega)
    · rw [f14, upd_o (by decide)]; exact ho.stop
    · rw [f16, upd_o (by omega)]; exact ho.sp0
    · intro i hi
      rw [hz] at hi
      by_cases e : i = vSz v
      · subst e
        refine ⟨vSt v, vMe v, t, p2, p3, ht, by rw [f16, upd_o (by omega)]; exact p1, by rw [f15, upd_s], hb, by rw [f16, upd_s]⟩
      · obtain ⟨s, m, u, a1, a2, a3, a4, a5, a6, a7⟩ := ho.sd i (by omega)
        exact ⟨s, m, u, a1, a2, a3, by rw [f16, upd_o (by omega)]; exact a4, by rw [f15, upd_o e]; exact a5, a6, by rw [f16, upd_o (by omega)]; exact a7⟩
  · rw [e73, e15, w73, zv_c hv 15 (by decide)]
  · rw [e63, upd_o (by decide), upd_o (by decide), upd_s, e14, upd_s]
  · rw [e63, upd_o (by decide), upd_o (by decide), upd_o (by decide), w18, e14, upd_o (by decide), zv_c hv 14 (by decide)]
  · rw [e63, upd_s, t1]
  · rw [e63, upd_o (by decide), upd_s, t2]
theorem vMay_sz (ho : Ok v) (hs : s < 8) (hb : (vMay v n s).testBit t = true) : n < 8 ∧ (vWf v s).testBit t = true ∧ (vWg v 0 s).testBit t = true := by
  have hl := ho.len.2
  rw [vWg_0 ho hs]
  unfold vMay at hb
  split at hb
  · rw [Nat.zero_testBit] at hb; cases hb
  · rw [Nat.testBit_and, Bool.and_eq_true] at hb
    exact ⟨by omega, hb.2, hb.2⟩
theorem zP_say (x : Int32) : zPr (zX_say (d + 70) x) (zM_say (d + 70) x) := by
  intro a A L h ha
  obtain ⟨v, hv⟩ : ∃ v, zv A = v := ⟨_, rfl⟩
  have ho := h.ok
  have hw := h.mw
  have hg := h.gone
  rw [hv] at ho hw
  have hlt := vOn_lt ho
  have h9 := ho.sz
  obtain ⟨p1, p2, p3⟩ := vSp_eq ho
  rcases zIn 8 (by omega) x with hx | ⟨t, ht, rfl⟩
  · exact zPr_no (zNo1 h) (fun A1 n1 => by rw [zX_say_q, cNoWord1 hx, zbi_s, if_neg (by decide), n1, zbi_s]) (fun A1 A2 n2 n4 => by rw [zM_say_q, mIn0 (c := 7) (b := 7) rfl (by omega) hx, zbi_s, if_pos rfl, n2, zbi_s])
  have hX : zX_say (d + 70) (nI t) A L = if (vOn v).testBit t = false then zbi (zX_refused (d + 69) (-3) A L) (fun r2 A2 L2 => some (some (.int r2), A2, L2)) else zX_say_2 (d + 70) (nI t) A L := by
    rw [zX_say_q, cNoWord0 ht, zbi_s, if_pos rfl, zX_say_1_q, cOptionsNow ho hv, zbi_s, zifc (zbit0 (by omega) (by omega))]
  have hmay := ho.may (n := vSz v) p2
  have hM : ∀ A1, zmw A1 v → A1 63 33 = 0 → ∃ B, (∀ c, (c < 82 ∨ 85 < c) → B c = A1 c) ∧ zTab B v 0 ∧ zM_say (d + 70) (nI t) A1 L = if (vOn v).testBit t = false then zM_say_2 (d + 70) B L else zM_say_3 (d + 70) (nI t) B L := by
    intro A1 hw1 hg1
    obtain ⟨B, b1, b2, b3⟩ := mTables (d := d + 67) (L := L) (g := 0) ho hw1 hg1 (by decide)
    have hwB : zmw B v := zmw_of hw1 (fun c h1 h2 => b2 c (by omega))
    have hwB0 := hwB
    obtain ⟨-, -, -, -, -, -, -, -, -, -, -, -, -, -, w15, w18, w16, w17⟩ := hwB0
    refine ⟨B, b2, b3, ?_⟩
    have hbit := vOn_bit ho ht
    rw [zM_say_q, mIn1 (c := 7) (b := 7) rfl (by omega) ht, zbi_s, if_neg (by decide), zM_say_1_q, b1, zbv_s, w18]
    rcases ho.stop with hs | hs
    · rw [hs, if_neg (by decide), w15, w16, h9.1, mMayAt ho hwB b3 (by omega) p2, zbi_s, vMg_0 ho p2, zifc (zbit0 (by omega) (by omega))]
      have e : (vOn v).testBit t = (vMay v (vSz v) (vSt v)).testBit t := by
        rw [Bool.eq_iff_iff, hbit]; exact ⟨fun h => h.2, fun h => ⟨hs, h⟩⟩
      rw [e]
    · have e : (vOn v).testBit t = false := by
        cases hb : (vOn v).testBit t with
        | false => rfl
        | true => have := (hbit.mp hb).1; rw [hs] at this; exact absurd this (by decide)
      rw [hs, if_pos (by rfl), e, if_pos rfl]
  cases hb : (vOn v).testBit t with
  | false =>
    obtain ⟨A1, n1, n2, n3⟩ := zNoT3 h
    obtain ⟨B, b1, b2, b3⟩ := hM A1 (zmw62 hw n2) (by rw [n2 63 (by decide)]; exact hg)
    obtain ⟨A2, m1, m2⟩ := n3 B (fun c hc => b1 c (by omega))
    exact ⟨-3, A1, L, A2, L, by rw [hX, hb, if_pos rfl, n1, zbi_s], by rw [b3, hb, if_pos rfl, zM_say_2_q, m1, zbi_s], m2.up (by omega)⟩
  | true =>
    obtain ⟨hs0, hbm⟩ := (vOn_bit ho ht).mp hb
    obtain ⟨hn8, hwf, hwg⟩ := vMay_sz ho p2 hbm
    obtain ⟨A1, c1, c2, c14, c15, c16⟩ := cSayNow (d := d + 63) (L := L) ho hv hn8 ht
    have hw1 : zmw A1 v := zmw_of hw (fun c a b => c2 c (by omega) (by omega) (by omega))
    obtain ⟨B, b1, b2, b3⟩ := hM A1 hw1 (by rw [c2 63 (by decide) (by decide) (by decide)]; exact hg)
    have hwB : zmw B v := zmw_of hw1 (fun c h1 h2 => b1 c (by omega))
    obtain ⟨-, -, -, -, -, -, -, -, w73, -, -, -, -, -, w15, w18, w16, w17⟩ := hwB
    obtain ⟨A2, m1, m2, m73, m63⟩ := mSays (d := d + 69) (M := L) (m := vMe v) ho p2 ht hn8 (by rw [w15, h9.1]) w16 w17 b2 hwg
    have hc : ∀ c, c ≠ 14 → c ≠ 15 → c ≠ 16 → c ≠ 63 → c ≠ 73 → (c < 82 ∨ 91 < c) → A2 c = A c := fun c a1 a2 a3 a4 a5 a6 => by rw [m2 c a4 a5, b1 c (by omega), c2 c a1 a2 a3]
    refine ⟨_, A1, L, A2, L, by rw [hX, hb, if_neg (by decide), zX_say_2_q, c1, zbi_s], ?_, ?_⟩
    · rw [b3, hb, if_neg (by decide), zM_say_3_q, m1, zbv_s, m63, upd_s]
    · refine RR_say h hv hn8 ht hwf (fun c a1 a2 a3 a4 a5 a6 => hc c a1 a2 a3 a4 a5 (by omega)) (by rw [m2 14 (by decide) (by decide), b1 14 (by omega), c14]) (by rw [m2 15 (by decide) (by decide), b1 15 (by omega), c15]) (by rw [m2 16 (by decide) (by decide), b1 16 (by omega), c16]) (by rw [m73, b1 73 (by omega), c2 73 (by decide) (by decide) (by decide)]) (by rw [m63, b1 63 (by omega), c2 63 (by decide) (by decide) (by decide)]) ?_
      obtain ⟨b, x1, x2⟩ := h.old
      exact ⟨b, by omega, zOld_of x2 (by rw [hc 51 (by decide) (by decide) (by decide) (by decide) (by decide) (by omega)]) (hc 52 (by decide) (by decide) (by decide) (by decide) (by decide) (by omega)) (hc 53 (by decide) (by decide) (by decide) (by decide) (by decide) (by omega))⟩
/-- how the talk stands -/
def vHow (v : zA) : Nat := if vOn v ≠ 0 then 0 else if v 14 3 = 1 ∨ vEn v (vSt v) = true then 1 else 2
theorem vOn_0 (ho : Ok v) : vOn v = 0 ↔ (v 14 3 = 1 ∨ vMay v (vSz v) (vSt v) = 0) := by
  unfold vOn
  rcases ho.stop with h | h
  · rw [h, if_pos rfl]
    unfold vOpt
    by_cases h0 : vMay v (vSz v) (vSt v) = 0
    · rw [if_pos h0]; simp [h0]
    · rw [if_neg h0]
      have : (if vEn v (vSt v) = true then vMay v (vSz v) (vSt v) ||| 256 else vMay v (vSz v) (vSt v)) ≠ 0 := by
        split
        · intro e
          have := Nat.or_eq_zero_iff.mp e
          omega
        · exact h0
      constructor
      · intro e; exact absurd e this
      · rintro (e | e)
        · exact absurd e (by decide)
        · exact absurd e h0
  · rw [h, if_neg (by decide)]; simp
theorem cHow (ho : Ok v) (hv : zv A = v) : zX_howTheTalkStands (d + 5) A L = some (some (.int (nI (vHow v))), A, L) := by
  have hlt := vOn_lt ho
  have h9 := ho.sz.2
  obtain ⟨p1, p2, p3⟩ := vSp_eq ho
  unfold vHow
  rw [zX_howTheTalkStands_q, cOptionsNow ho hv, zbi_s, show (0 : Int32) = nI 0 from rfl, zifi (nI_eq (by omega) (by omega))]
  by_cases h0 : vOn v = 0
  · rw [if_pos h0, if_neg (by omega), zX_howTheTalkStands_1_q, zv_c hv 14 (by decide)]
    rcases ho.stop with h | h
    · rw [h, if_pos rfl, cSpot ho hv, zbi_s, p1, cState (by omega) p2 p3, zbi_s, cIsEnd ho hv p2, zbi_s]
      cases vEn v (vSt v)
      · rw [ite_ft, if_pos rfl, if_neg (by rintro (h | h) <;> exact absurd h (by decide)), zX_howTheTalkStands_3_q, zX_howTheTalkStands_4_q]; rfl
      · rw [ite_tt, if_neg (by decide), if_pos (Or.inr rfl), zX_howTheTalkStands_2_q, zX_howTheTalkStands_4_q]; rfl
    · rw [h, if_neg (by decide), if_pos (Or.inl rfl), zX_howTheTalkStands_2_q, zX_howTheTalkStands_4_q]; rfl
  · rw [if_neg h0, if_pos h0]
theorem mHow (ho : Ok v) (hw : zmw B v) (hT : zTab B v 0) : zM_howIs (d + 3) B M = some (some (.int (nI (vHow v))), B, M) := by
  have h9 := ho.sz
  obtain ⟨-, p2, -⟩ := vSp_eq ho
  have hw0 := hw
  obtain ⟨-, -, -, -, -, -, -, -, -, -, -, -, -, -, w15, w18, w16, w17⟩ := hw0
  have hmay := ho.may (n := vSz v) p2
  have h00 := vOn_0 ho
  unfold vHow
  rw [zM_howIs_q, w18]
  rcases ho.stop with h | h
  · rw [h, if_neg (by decide), zM_howIs_1_q, w15, w16, h9.1, mMayAt ho hw hT (by omega) p2, zbi_s, vMg_0 ho p2, show (0 : Int32) = nI 0 from rfl, zifi (nI_eq (by omega) (by omega))]
    by_cases h0 : vMay v (vSz v) (vSt v) = 0
    · have e0 : vOn v = 0 := h00.mpr (Or.inr h0)
      rw [if_pos h0, if_neg (by omega), zM_howIs_2_q, w16, mIsEnd ho hw p2, zbi_s]
      cases vEn v (vSt v)
      · rw [ite_ft, if_pos rfl, if_neg (by rintro (h | h) <;> exact absurd h (by decide)), zM_howIs_3_q, zM_howIs_4_q]; rfl
      · rw [ite_tt, if_neg (by decide), if_pos (Or.inr rfl), zM_howIs_4_q]; rfl
    · have e0 : vOn v ≠ 0 := fun e => by
        rcases h00.mp e with e | e
        · rw [h] at e; exact absurd e (by decide)
        · exact h0 e
      rw [if_neg h0, if_pos e0]
  · have e0 : vOn v = 0 := h00.mpr (Or.inl h)
    rw [h, if_pos (by rfl), if_neg (by omega), if_pos (Or.inl rfl)]; rfl
theorem zP_talk (x : Int32) : zPr (zX_talk (d + 70) x) (zM_talk (d + 70) x) := by
  intro a A L h ha
  obtain ⟨v, hv⟩ : ∃ v, zv A = v := ⟨_, rfl⟩
  have ho := h.ok
  have hw := h.mw
  have hg := h.gone
  rw [hv] at ho hw
  have hlt := vOn_lt ho
  have h9 := ho.sz
  have h5 := ho.P
  obtain ⟨p1, p2, p3⟩ := vSp_eq ho
  have hmay := ho.may (n := vSz v) p2
  have hM : ∀ A1, zmw A1 v → A1 63 33 = 0 → ∃ B, (∀ c, (c < 82 ∨ 85 < c) → B c = A1 c) ∧ zTab B v 0 ∧ zmw B v ∧ zM_talk (d + 70) x A1 L = if x = 0 then zM_talk_1 (d + 70) B L else if x = 1 then zM_talk_2 (d + 70) B L else if x = 2 then zM_talk_3 (d + 70) B L else if x = 3 then zM_talk_4 (d + 70) B L else if x = 4 then zM_talk_5 (d + 70) B L else if x = 5 then zM_talk_9 (d + 70) B L else if x = 6 then zM_talk_12 (d + 70) B L else zM_talk_15 (d + 70) B L := by
    intro A1 hw1 hg1
    obtain ⟨B, b1, b2, b3⟩ := mTables (d := d + 67) (L := L) (g := 0) ho hw1 hg1 (by decide)
    exact ⟨B, b2, b3, zmw_of hw1 (fun c h1 h2 => b2 c (by omega)), by rw [zM_talk_q, b1, zbv_s]⟩
  have hX : zX_talk (d + 70) x A L = if x = 0 then zX_talk_1 (d + 70) (nI (zsp (vSz v) (vSt v) (vMe v))) A L else if x = 1 then zX_talk_2 (d + 70) (nI (zsp (vSz v) (vSt v) (vMe v))) A L else if x = 2 then zX_talk_3 (d + 70) (nI (zsp (vSz v) (vSt v) (vMe v))) A L else if x = 3 then zX_talk_4 (d + 70) A L else if x = 4 then zX_talk_5 (d + 70) A L else if x = 5 then zX_talk_6 (d + 70) A L else if x = 6 then zX_talk_7 (d + 70) A L else zX_talk_8 (d + 70) A L := by
    rw [zX_talk_q, cSpot ho hv, zbi_s, p1]
  obtain ⟨B, b1, b2, hwB, b3⟩ := hM A hw hg
  have hend : ∀ w, zX_talk (d + 70) x A L = some (some (.int w), A, L) → zM_talk (d + 70) x A L = some (some (.int w), B, L) → ∃ w A1 L1 A2 L2, zX_talk (d + 70) x A L = some (some (.int w), A1, L1) ∧ zM_talk (d + 70) x A1 L1 = some (some (.int w), A2, L2) ∧ RR (a + 30) A2 := fun w e1 e2 =>
    ⟨w, A, L, B, L, e1, e2, RR_q h (fun _ _ => rfl) (fun c hc => b1 c (by omega)) (by obtain ⟨b, x1, x2⟩ := h.old; exact ⟨b, by omega, x2⟩)⟩
  have hwB0 := hwB
  obtain ⟨-, -, -, -, -, -, -, -, -, -, -, w12, -, -, w15, w18, w16, w17⟩ := hwB0
  by_cases h0 : x = 0
  · exact hend (nI (vSt v)) (by rw [hX, if_pos h0, zX_talk_1_q, cState (by omega) p2 p3, zbi_s]) (by rw [b3, if_pos h0, zM_talk_1_q, w16])
  by_cases h1 : x = 1
  · exact hend (nI (vMe v)) (by rw [hX, if_neg h0, if_pos h1, zX_talk_2_q, cMean p3, zbi_s]) (by rw [b3, if_neg h0, if_pos h1, zM_talk_2_q, w17])
  by_cases h2 : x = 2
  · exact hend (nI (vSz v)) (by rw [hX, if_neg h0, if_neg h1, if_pos h2, zX_talk_3_q, cCount (by omega) p2 p3, zbi_s]) (by rw [b3, if_neg h0, if_neg h1, if_pos h2, zM_talk_3_q, w15, h9.1])
  by_cases h3 : x = 3
  · exact hend (nI (vHow v)) (by rw [hX, if_neg h0, if_neg h1, if_neg h2, if_pos h3, zX_talk_4_q, cHow ho hv, zbi_s]) (by rw [b3, if_neg h0, if_neg h1, if_neg h2, if_pos h3, zM_talk_4_q, mHow ho hwB b2, zbi_s])
  by_cases h4 : x = 4
  · refine hend (if vOn v = 0 then -9 else nI (vTr v (vSz v))) ?_ ?_
    · rw [hX, if_neg h0, if_neg h1, if_neg h2, if_neg h3, if_pos h4, zX_talk_5_q, zW_sayerNow_q, cOptionsNow ho hv, zbi_s, show (0 : Int32) = nI 0 from rfl, zifi (nI_eq (by omega) (by omega))]
      by_cases hz : vOn v = 0
      · rw [if_pos hz, if_pos hz, zW_sayerNow_2_q, zbi_s]
      · have hpp : 0 < vP v := by
          rcases Nat.eq_zero_or_pos (vP v) with e | e
          · refine absurd ((vOn_0 ho).mpr (Or.inr ?_)) hz
            unfold vMay; rw [if_pos (Or.inl e)]
          · exact e
        rw [if_neg hz, if_neg hz, zW_sayerNow_1_q, cSpot ho hv, zbi_s, p1, cSayer ho hv (by omega) p2 p3 hpp, zbi_s, zW_sayerNow_2_q, zbi_s]
    · rw [b3, if_neg h0, if_neg h1, if_neg h2, if_neg h3, if_pos h4, zM_talk_5_q, w12, h5.1]
      have hhow : vHow v = 0 ↔ vOn v ≠ 0 := by
        unfold vHow
        by_cases hz : vOn v = 0
        · rw [if_neg (by omega)]; split <;> simp [hz]
        · rw [if_pos hz]; simp [hz]
      have hh3 : vHow v < 3 := by unfold vHow; repeat' split
                                  all_goals omega
      by_cases hp0 : vP v = 0
      · have hz : vOn v = 0 := (vOn_0 ho).mpr (Or.inr (by unfold vMay; rw [if_pos (Or.inl hp0)]))
        rw [hp0, if_pos (by decide), zM_talk_6_q, zM_talk_8_q, if_pos hz]
      · rw [if_neg (nI_ne0 (by omega) (by omega)), mHow ho hwB b2, zbi_s, show (0 : Int32) = nI 0 from rfl, zifi (nI_eq (by omega) (by omega))]
        by_cases hz : vOn v = 0
        · rw [if_neg (by rw [hhow]; omega), zM_talk_6_q, zM_talk_8_q, if_pos hz]
        · rw [if_pos (hhow.mpr hz), zM_talk_7_q, w15, h9.1, mTurnAt ho hwB (by omega) (by omega), zbi_s, zM_talk_8_q, if_neg hz]
  by_cases h5' : x = 5
  · refine hend (nI (vOn v % 256)) ?_ ?_
    · rw [hX, if_neg h0, if_neg h1, if_neg h2, if_neg h3, if_neg h4, if_pos h5', zX_talk_6_q, cOptionsNow ho hv, zbi_s, nI_and255]
    · rw [b3, if_neg h0, if_neg h1, if_neg h2, if_neg h3, if_neg h4, if_pos h5', zM_talk_9_q, w18]
      rcases ho.stop with hs | hs
      · have e : vOn v % 256 = vMay v (vSz v) (vSt v) := by
          unfold vOn; rw [if_pos hs, vOpt_255 ho p2]
        rw [hs, if_neg (by decide), zM_talk_10_q, w15, w16, h9.1, mMayAt ho hwB b2 (by omega) p2, zbi_s, zM_talk_11_q, vMg_0 ho p2, e]
      · have e : vOn v = 0 := (vOn_0 ho).mpr (Or.inl hs)
        rw [hs, if_pos (by rfl), zM_talk_11_q, e]; rfl
  by_cases h6 : x = 6
  · refine hend (if (vOn v).testBit 8 then 1 else 0) ?_ ?_
    · rw [hX, if_neg h0, if_neg h1, if_neg h2, if_neg h3, if_neg h4, if_neg h5', if_pos h6, zX_talk_7_q, cOptionsNow ho hv, zbi_s, show (8 : Int32) = nI 8 from rfl, zbit (by omega) (by omega)]
    · rw [b3, if_neg h0, if_neg h1, if_neg h2, if_neg h3, if_neg h4, if_neg h5', if_pos h6, zM_talk_12_q, mMayStop ho hwB b2, zbi_s]
      cases (vOn v).testBit 8
      · rw [ite_ft, if_pos rfl, zM_talk_13_q, zM_talk_14_q]
      · rw [ite_tt, if_neg (by decide), zM_talk_14_q]
  obtain ⟨A1, n1, n2, n3⟩ := zNoT2 h
  obtain ⟨C, c1, c2, hwC, c3⟩ := hM A1 (zmw62 hw n2) (by rw [n2 63 (by decide)]; exact hg)
  obtain ⟨A2, m1, m2⟩ := n3 C (fun c hc => c1 c (by omega))
  exact ⟨-2, A1, L, A2, L, by rw [hX, if_neg h0, if_neg h1, if_neg h2, if_neg h3, if_neg h4, if_neg h5', if_neg h6, zX_talk_8_q, n1, zbi_s], by rw [c3, if_neg h0, if_neg h1, if_neg h2, if_neg h3, if_neg h4, if_neg h5', if_neg h6, zM_talk_15_q, m1, zbi_s], m2.up (by omega)⟩
end P7
