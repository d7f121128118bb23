/-! ===== a word more, a word less: price, lacks, buys ===== -/
section T2
variable {a b d n p t : Nat} {A A' B v w : zA} {L M : zL} {x y : Int32} {c : Bool}
def vNw (pw t : Nat) (c : Bool) : Nat := if pw.testBit t = c then pw else pw ^^^ 2 ^ t
theorem vNw_lt {pw : Nat} (h : pw < 256) (ht : t < 8) : vNw pw t c < 256 := by
  unfold vNw
  split
  · exact h
  · exact Nat.xor_lt_two_pow (n := 8) h (Nat.pow_lt_pow_right (by omega) ht)
theorem vNw_or : ∀ pw, pw < 256 → ∀ t, t < 8 → nI pw ||| nI (2 ^ t) = nI (vNw pw t true) := by decide +kernel
theorem vNw_and : ∀ pw, pw < 256 → ∀ t, t < 8 → nI pw &&& (nI (2 ^ t) ^^^ (-1)) = nI (vNw pw t false) := by decide +kernel
theorem vPut_id {r : Nat} (h : v r n = x) : vPut v r n x = v := by
  funext c
  unfold vPut
  split
  · rename_i e; subst e; exact upd_id h
  · rfl
theorem vPw_put {pw : Nat} (hpw : pw < 256) : vPw (vPut v 11 p (nI pw)) p = pw := by
  unfold vPw
  rw [vPut_r, upd_s, nI_clamp (by omega)]
theorem zflip {pw : Nat} : (pw ^^^ 2 ^ t).testBit t = !(pw.testBit t) := by
  rw [Nat.testBit_xor, Nat.testBit_two_pow, decide_eq_true rfl]
  cases pw.testBit t <;> rfl
/-- a word is put, the beginning weighed, the word put back -/
theorem cWordTry (ho : Ok v) (hv : zv A = v) (hp : p < vP v) (ht : t < 8) (hc : (vPw v p).testBit t ≠ c) (hO : zOld A b) (hb : b + 1 < 1048576) :
    ∃ A1 A2, zP_putWord (d + 61) (nI p) (nI t) (if c then 1 else 0) A L = some (some (.int 1), A1, L) ∧ zD_worthFromBeginning (d + 61) (nI p) A1 L = some (some (.int (vF (vPut v 11 p (nI (vPw v p ^^^ 2 ^ t))) p)), A2, L) ∧
      zP_putWord (d + 61) (nI p) (nI t) (if !c then 1 else 0) A2 L = some (some (.int 1), zput A2 11 p (nI (vPw v p)), L) ∧ (∀ c, (c < 51 ∨ 54 < c) → zput A2 11 p (nI (vPw v p)) c = A c) ∧ zOld (zput A2 11 p (nI (vPw v p))) (b + 1) := by
  have h5 := ho.P.2
  have hpw := (ho.pw (p := p) (by omega))
  have hx : vPw v p ^^^ 2 ^ t < 256 := Nat.xor_lt_two_pow (n := 8) hpw.2 (Nat.pow_lt_pow_right (by omega) ht)
  have hX : (11 = 10 → zIs 7 (nI (vPw v p ^^^ 2 ^ t))) ∧ (11 = 11 → zIs 256 (nI (vPw v p ^^^ 2 ^ t))) := ⟨fun h => by omega, fun _ => zIs_n hx⟩
  have hT := (zTr.rf A 11 p).put (nI (vPw v p ^^^ 2 ^ t))
  obtain ⟨A2, e1, e2, e3, e4⟩ := cTry (d := d + 1) (L := L) ho hv (Or.inr rfl) (by omega) hX hp hT (by rw [zput_s, upd_s]) (zOld_of hO (by rw [zput_o (by decide)]) (zput_o (by decide)) (zput_o (by decide))) hb
  have ho' := Ok_put (n := p) ho (Or.inr rfl) (by omega) hX
  have hv2 := e2.zv (by decide) hv e3
  have hpP : p < vP (vPut v 11 p (nI (vPw v p ^^^ 2 ^ t))) := by rw [vP_put (Or.inr rfl)]; exact hp
  have hput := cPutWord (d := d + 60) (L := L) (b := !c) ho' hv2 hpP ht
  rw [vPw_put hx, zflip, if_neg (show ¬ ((!((vPw v p).testBit t)) = !c) from fun e => hc (by revert e; cases (vPw v p).testBit t <;> cases c <;> decide))] at hput
  rw [Nat.xor_assoc, Nat.xor_self, Nat.xor_zero] at hput
  refine ⟨_, A2, by rw [cPutWord ho hv hp ht, if_neg hc], e1, hput, (e2.put _).back (by rw [zput_s, upd_s, zv_c hv 11 (by decide), hpw.1]), zOld_of e4 (by rw [zput_o (by decide)]) (zput_o (by decide)) (zput_o (by decide))⟩
theorem mWorthWith (ho : Ok v) (hw : zmw B v) (hg : B 63 33 = 0) (hp : p < vP v) (ht : t < 8) : ∃ B', zM_worthWith (d + 10) (nI p) (nI t) (if c then 1 else 0) B M = some (some (.int (vF (vPut v 11 p (nI (vNw (vPw v p) t c))) p)), B', M) ∧ ∀ c, (c < 82 ∨ 88 < c) → B' c = B c := by
  have h5 := ho.P.2
  have hpw := (ho.pw (p := p) (by omega))
  have w70 : B 70 = v 11 := hw.2.2.2.2.2.1
  have hx := vNw_lt (c := c) hpw.2 ht
  obtain ⟨B1, e1, e2, e3⟩ := mTry (d := d) (M := M) (x := nI (vNw (vPw v p) t c)) ho (Or.inr ⟨rfl, rfl⟩) (n := p) (by omega) ⟨fun h => by omega, fun _ => zIs_n hx⟩ hp hw hg ((zTm2.rf B 70 p).put (nI (vNw (vPw v p) t c))) (by rw [zput_s, upd_s])
  refine ⟨zput B1 70 p (B 70 p), ?_, (e2.put (B 70 p)).back (by rw [zput_s, upd_s])⟩
  have h2 : zM_worthWith_2 (d + 10) (nI p) (B 70 p) (nI p) (nI (vNw (vPw v p) t c)) B M = some (some (.int (vF (vPut v 11 p (nI (vNw (vPw v p) t c))) p)), zput B1 70 p (B 70 p), M) := by
    rw [zM_worthWith_2_q, zck_n (by omega) (by decide), nI_clamp (by omega), e1, zbi_s, zck_n (by omega) (by decide)]
  have e70 : B 70 p = nI (vPw v p) := by rw [w70, hpw.1]
  rw [zM_worthWith_q, zck_n (by omega) (by decide), nI_clamp (by omega)]
  cases c with
  | false =>
    rw [ite_ft, if_pos rfl, zM_worthWith_1_q, zpow (by omega)]
    rw [show B 70 p &&& (nI (2 ^ t) ^^^ -1) = nI (vNw (vPw v p) t false) by rw [e70]; exact vNw_and _ hpw.2 _ ht]
    exact h2
  | true =>
    rw [ite_tt, if_neg (by decide), zpow (by omega)]
    rw [show B 70 p ||| nI (2 ^ t) = nI (vNw (vPw v p) t true) by rw [e70]; exact vNw_or _ hpw.2 _ ht]
    exact h2
def vGain (v : zA) (p t : Nat) (c : Bool) : Int32 := vF (vPut v 11 p (nI (vNw (vPw v p) t c))) p - vF v p
theorem cGain (ho : Ok v) (hv : zv A = v) (hp : p < vP v) (ht : t < 8) (hO : zOld A b) (hb : b + 2 < 1048576) : ∃ A', zB_gain (d + 62) (nI p) (nI t) (if c then 1 else 0) A L = some (some (.int (vGain v p t c)), A', L) ∧ (∀ c, (c < 51 ∨ 54 < c) → A' c = A c) ∧ ∃ b', b' ≤ b + 2 ∧ zOld A' b' := by
  have h5 := ho.P.2
  have hpw := (ho.pw (p := p) (by omega))
  unfold vGain vNw
  by_cases hc : (vPw v p).testBit t = c
  · refine ⟨A, ?_, fun _ _ => rfl, b, by omega, hO⟩
    rw [if_pos hc, vPut_id hpw.1, Int32.sub_self, zB_gain_q, cPutWord ho hv hp ht, if_pos hc, zbi_s, if_pos rfl]
  · obtain ⟨A1, A2, e1, e2, e3, e4, e5⟩ := cWordTry (d := d) (L := L) ho hv hp ht hc hO (by omega)
    have hv3 : zv (zput A2 11 p (nI (vPw v p))) = v := (zv_of (fun c hc => e4 c (by omega))).trans hv
    obtain ⟨A3, f1, f2, -, f4⟩ := cWorthFromBeginning (d := d + 1) (L := L) (p := p) ho hv3 e5 (by omega) hp
    refine ⟨A3, ?_, fun c hc => by rw [f2 c hc, e4 c hc], b + 1 + 1, by omega, f4.old⟩
    have f1' : zD_worthFromBeginning (d + 61) (nI p) (zput A2 11 p (nI (vPw v p))) L = some (some (.int (vF v p)), A3, L) := f1
    rw [if_neg hc, zB_gain_q, e1, zbi_s, if_neg (by decide), zB_gain_1_q, e2, zbi_s]
    cases c with
    | false =>
      rw [ite_ft, if_pos rfl, zB_gain_3_q]
      rw [show (if (!false) = true then (1 : Int32) else 0) = 1 from rfl] at e3
      rw [e3, zbi_s, f1', zbi_s]
    | true =>
      rw [ite_tt, if_neg (by decide), zB_gain_2_q, zB_gain_3_q]
      rw [show (if (!true) = true then (1 : Int32) else 0) = 0 from rfl] at e3
      rw [e3, zbi_s, f1', zbi_s]
theorem mGain (ho : Ok v) (hw : zmw B v) (hg : B 63 33 = 0) (hp : p < vP v) (ht : t < 8) : ∃ B1 B2 r1 r2, zM_worthWith (d + 10) (nI p) (nI t) (if c then 1 else 0) B M = some (some (.int r1), B1, M) ∧ zM_fromStart (d + 10) (nI p) B1 M = some (some (.int r2), B2, M) ∧ r1 - r2 = vGain v p t c ∧ ∀ c, (c < 82 ∨ 88 < c) → B2 c = B c := by
  obtain ⟨B1, e1, e2⟩ := mWorthWith (d := d) (M := M) (c := c) ho hw hg hp ht
  obtain ⟨B2, f1, f2⟩ := mFromStart (d := d + 1) (M := M) (B := B1) ho (zmw_of hw (fun c h1 h2 => e2 c (by omega))) (by rw [e2 63 (by omega)]; exact hg) hp
  exact ⟨B1, B2, _, _, e1, f1, rfl, fun c hc => by rw [f2 c hc, e2 c hc]⟩
theorem zP_price (x y : Int32) : zPr (zX_price (d + 70) x y) (zM_price (d + 70) x y) := by
  intro a A L h ha
  obtain ⟨v, hv⟩ : ∃ v, zv A = v := ⟨_, rfl⟩
  have ho := h.ok
  have hw := h.mw
  have hg := h.gone
  rw [hv] at ho hw
  rcases zOne ho x with hx | ⟨p, hp, rfl⟩
  · exact zPr_low (zNo1 h) (fun A1 n1 => by rw [zX_price_q, cNobody1 hv hx, zbi_s, if_neg (by decide), zX_price_1_q, cWorthRef n1, zbi_s]) (fun A1 A2 n3 n4 => by rw [zM_price_q, mOne0 (zmw62 hw n4) hx, zbi_s, if_pos rfl, zM_price_1_q, n3, zbi_s])
  rcases zIn 8 (by omega) y with hy | ⟨t, ht, rfl⟩
  · exact zPr_low (zNo1 h) (fun A1 n1 => by rw [zX_price_q, cNobody0 ho hv hp, zbi_s, if_pos rfl, cNoWord1 hy, zbi_s, if_neg (by decide), zX_price_1_q, cWorthRef n1, zbi_s]) (fun A1 A2 n3 n4 => by rw [zM_price_q, mOne1 ho (zmw62 hw n4) hp, zbi_s, if_neg (by decide), mIn0 (c := 7) (b := 7) rfl (by omega) hy, zbi_s, if_pos rfl, zM_price_1_q, n3, zbi_s])
  obtain ⟨b, x1, x2⟩ := h.old
  obtain ⟨A1, c1, c2, b', c3, c4⟩ := cGain (d := d + 7) (L := L) (c := true) ho hv hp ht x2 (by omega)
  have hw1 : zmw A1 v := zmw_of hw (fun c h1 h2 => c2 c (by omega))
  obtain ⟨B1, B2, r1, r2, m1, m2, m3, m4⟩ := mGain (d := d + 59) (M := L) (c := true) ho hw1 (by rw [c2 63 (by omega)]; exact hg) hp ht
  rw [ite_tt] at c1 m1
  refine ⟨vGain v p t true, A1, L, B2, L, ?_, ?_, RR_q h (fun c hc => c2 c (by omega)) (fun c hc => m4 c (by omega)) ⟨b', by omega, c4⟩⟩
  · rw [zX_price_q, cNobody0 ho hv hp, zbi_s, if_pos rfl, cNoWord0 ht, zbi_s, if_pos rfl, zX_price_2_q, c1, zbi_s]
  · rw [zM_price_q, mOne1 ho hw1 hp, zbi_s, if_neg (by decide), mIn1 (c := 7) (b := 7) rfl (by omega) ht, zbi_s, if_neg (by decide), zM_price_2_q, m1, zbi_s, m2, zbi_s, m3]
theorem zP_lacks (x y : Int32) : zPr (zX_lacks (d + 70) x y) (zM_lacks (d + 70) x y) := by
  intro a A L h ha
  obtain ⟨v, hv⟩ : ∃ v, zv A = v := ⟨_, rfl⟩
  have ho := h.ok
  have hw := h.mw
  have hg := h.gone
  rw [hv] at ho hw
  rcases zOne ho x with hx | ⟨p, hp, rfl⟩
  · exact zPr_low (zNo1 h) (fun A1 n1 => by rw [zX_lacks_q, cNobody1 hv hx, zbi_s, if_neg (by decide), zX_lacks_1_q, cWorthRef n1, zbi_s]) (fun A1 A2 n3 n4 => by rw [zM_lacks_q, mOne0 (zmw62 hw n4) hx, zbi_s, if_pos rfl, zM_lacks_1_q, n3, zbi_s])
  rcases zIn 8 (by omega) y with hy | ⟨t, ht, rfl⟩
  · exact zPr_low (zNo1 h) (fun A1 n1 => by rw [zX_lacks_q, cNobody0 ho hv hp, zbi_s, if_pos rfl, cNoWord1 hy, zbi_s, if_neg (by decide), zX_lacks_1_q, cWorthRef n1, zbi_s]) (fun A1 A2 n3 n4 => by rw [zM_lacks_q, mOne1 ho (zmw62 hw n4) hp, zbi_s, if_neg (by decide), mIn0 (c := 7) (b := 7) rfl (by omega) hy, zbi_s, if_pos rfl, zM_lacks_1_q, n3, zbi_s])
  obtain ⟨b, x1, x2⟩ := h.old
  obtain ⟨A1, c1, c2, b', c3, c4⟩ := cGain (d := d + 7) (L := L) (c := false) ho hv hp ht x2 (by omega)
  have hw1 : zmw A1 v := zmw_of hw (fun c h1 h2 => c2 c (by omega))
  obtain ⟨B1, B2, r1, r2, m1, m2, m3, m4⟩ := mGain (d := d + 59) (M := L) (c := false) ho hw1 (by rw [c2 63 (by omega)]; exact hg) hp ht
  rw [ite_ft] at c1 m1
  refine ⟨vGain v p t false, A1, L, B2, L, ?_, ?_, RR_q h (fun c hc => c2 c (by omega)) (fun c hc => m4 c (by omega)) ⟨b', by omega, c4⟩⟩
  · rw [zX_lacks_q, cNobody0 ho hv hp, zbi_s, if_pos rfl, cNoWord0 ht, zbi_s, if_pos rfl, zX_lacks_2_q, c1, zbi_s]
  · rw [zM_lacks_q, mOne1 ho hw1 hp, zbi_s, if_neg (by decide), mIn1 (c := 7) (b := 7) rfl (by omega) ht, zbi_s, if_neg (by decide), zM_lacks_2_q, m1, zbi_s, m2, zbi_s, m3]
def vByF (v : zA) (p : Nat) (w : Nat) : Int32 := vF (vPut v 11 p (nI (vPw v p ^^^ 2 ^ w))) p
theorem cBestWord1 (ho : Ok v) (hp : p < vP v) : ∀ q k A st b, k + q = 8 → zv A = v → zOld A b → b + q < 1048576 →
    ∃ A', zB_bestWord_1 (d + 62) (nI p) st.1 st.2 (nI k) A L = some (some (.int (zbf (fun w => !((vPw v p).testBit w)) (vByF v p) q k st).1), A', L) ∧ (∀ c, (c < 51 ∨ 54 < c) → A' c = A c) ∧ ∃ b', b' ≤ b + q ∧ zOld A' b' := by
  intro q
  induction q with
  | zero =>
    intro k A st b hk hv hO hb
    have e : k = 8 := by omega
    subst e
    refine ⟨A, ?_, fun _ _ => rfl, b, by omega, hO⟩
    rw [zB_bestWord_1_q, if_pos (by decide), zB_bestWord_3_q]; rfl
  | succ q ih =>
    intro k A st b hk hv hO hb
    have hk8 : k < 8 := by omega
    rw [zB_bestWord_1_q, if_neg (nI_g8 hk8), zbf_s]
    by_cases hc : (vPw v p).testBit k = true
    · obtain ⟨A2, f1, f2, b', f3, f4⟩ := ih (k + 1) A st b (by omega) hv hO (by omega)
      have hpw := cPutWord (d := d + 60) (L := L) (b := true) ho hv hp hk8
      rw [ite_tt, if_pos hc] at hpw
      refine ⟨A2, ?_, f2, b', by omega, f4⟩
      rw [hpw, zbi_s, if_pos rfl, zB_bestWord_2_q, nI_1, hc, Bool.not_true, ite_ft]
      exact f1
    · obtain ⟨A1, A2, e1, e2, e3, e4, e5⟩ := cWordTry (d := d) (L := L) (c := true) ho hv hp hk8 hc hO (by omega)
      have hv3 : zv (zput A2 11 p (nI (vPw v p))) = v := (zv_of (fun c hc => e4 c (by omega))).trans hv
      rw [ite_tt] at e1
      rw [show (if (!true) = true then (1 : Int32) else 0) = 0 from rfl] at e3
      have e2' : zD_worthFromBeginning (d + 61) (nI p) A1 L = some (some (.int (vByF v p k)), A2, L) := e2
      rw [e1, zbi_s, if_neg (by decide), e2', zbi_s, e3, zbi_s, show (!((vPw v p).testBit k)) = true by simp [hc], ite_tt]
      by_cases hlt : st.2 < vByF v p k
      · obtain ⟨A4, f1, f2, b', f3, f4⟩ := ih (k + 1) _ (nI k, vByF v p k) (b + 1) (by omega) hv3 e5 (by omega)
        refine ⟨A4, ?_, fun c hc => by rw [f2 c hc, e4 c hc], b', by omega, f4⟩
        rw [if_neg (Int32.not_le.mpr hlt), zB_bestWord_2_q, nI_1, if_pos hlt]
        exact f1
      · obtain ⟨A4, f1, f2, b', f3, f4⟩ := ih (k + 1) _ st (b + 1) (by omega) hv3 e5 (by omega)
        refine ⟨A4, ?_, fun c hc => by rw [f2 c hc, e4 c hc], b', by omega, f4⟩
        rw [if_pos (Int32.not_lt.mp hlt), zB_bestWord_2_q, nI_1, if_neg hlt]
        exact f1
theorem mBuys2 (ho : Ok v) (hp : p < vP v) : ∀ q k B st, k + q = 8 → zmw B v → B 63 33 = 0 →
    ∃ B', zM_buys_2 (d + 11) (nI p) st.1 st.2 (nI k) B M = some (some (.int (zbf (fun w => !((vPw v p).testBit w)) (vByF v p) q k st).1), B', M) ∧ ∀ c, (c < 82 ∨ 88 < c) → B' c = B c := by
  have h5 := ho.P.2
  have hpw := (ho.pw (p := p) (by omega))
  intro q
  induction q with
  | zero =>
    intro k B st hk hw hg
    have e : k = 8 := by omega
    subst e
    refine ⟨B, ?_, fun _ _ => rfl⟩
    rw [zM_buys_2_q, if_pos (by decide), zM_buys_6_q]; rfl
  | succ q ih =>
    intro k B st hk hw hg
    have hk8 : k < 8 := by omega
    have w70 : B 70 = v 11 := hw.2.2.2.2.2.1
    rw [zM_buys_2_q, if_neg (nI_g8 hk8), zck_n (by omega) (by decide), nI_clamp (by omega), w70, hpw.1, zifc (zbit1 (by omega) (by omega)), zbf_s]
    by_cases hc : (vPw v p).testBit k = true
    · obtain ⟨B2, f1, f2⟩ := ih (k + 1) B st (by omega) hw hg
      refine ⟨B2, ?_, f2⟩
      rw [if_pos hc, zM_buys_5_q, nI_1, hc, Bool.not_true, ite_ft]
      exact f1
    · obtain ⟨B1, e1, e2⟩ := mWorthWith (d := d) (M := M) (c := true) ho hw hg hp hk8
      have hw1 : zmw B1 v := zmw_of hw (fun c h1 h2 => e2 c (by omega))
      have hF : vF (vPut v 11 p (nI (vNw (vPw v p) k true))) p = vByF v p k := by
        unfold vByF vNw
        rw [if_neg hc]
      rw [ite_tt, hF] at e1
      rw [if_neg hc, zM_buys_3_q, e1, zbi_s, show (!((vPw v p).testBit k)) = true by simp [hc], ite_tt]
      by_cases hlt : st.2 < vByF v p k
      · obtain ⟨B2, f1, f2⟩ := ih (k + 1) B1 (nI k, vByF v p k) (by omega) hw1 (by rw [e2 63 (by omega)]; exact hg)
        refine ⟨B2, ?_, fun c hc => by rw [f2 c hc, e2 c hc]⟩
        rw [if_pos hlt, zM_buys_4_q, zM_buys_5_q, nI_1, if_pos hlt]
        exact f1
      · obtain ⟨B2, f1, f2⟩ := ih (k + 1) B1 st (by omega) hw1 (by rw [e2 63 (by omega)]; exact hg)
        refine ⟨B2, ?_, fun c hc => by rw [f2 c hc, e2 c hc]⟩
        rw [if_neg hlt, zM_buys_5_q, nI_1, if_neg hlt]
        exact f1
theorem zP_buys (x : Int32) : zPr (zX_buys (d + 70) x) (zM_buys (d + 70) x) := by
  intro a A L h ha
  obtain ⟨v, hv⟩ : ∃ v, zv A = v := ⟨_, rfl⟩
  have ho := h.ok
  have hw := h.mw
  have hg := h.gone
  rw [hv] at ho hw
  rcases zOne ho x with hx | ⟨p, hp, rfl⟩
  · exact zPr_no (zNo1 h) (fun A1 n1 => by rw [zX_buys_q, cNobody1 hv hx, zbi_s, if_neg (by decide), n1, zbi_s, zX_buys_2_q]) (fun A1 A2 n2 n4 => by rw [zM_buys_q, mOne0 (zmw62 hw n4) hx, zbi_s, if_pos rfl, n2, zbi_s])
  obtain ⟨b, x1, x2⟩ := h.old
  obtain ⟨A0, e1, e2, -, e4⟩ := cWorthFromBeginning (d := d + 8) (L := L) (p := p) ho hv x2 (by omega) hp
  have hv0 : zv A0 = v := (zv_of (fun c hc => e2 c (by omega))).trans hv
  obtain ⟨A1, c1, c2, b', c3, c4⟩ := cBestWord1 (d := d + 7) (L := L) ho hp 8 0 A0 (-9, vF v p) (b + 1) (by omega) hv0 e4.old (by omega)
  have hc : ∀ c, (c < 51 ∨ 54 < c) → A1 c = A c := fun c hc => by rw [c2 c hc, e2 c hc]
  have hw1 : zmw A1 v := zmw_of hw (fun c h1 h2 => hc c (by omega))
  obtain ⟨B0, m1, m2⟩ := mFromStart (d := d + 60) (M := L) (B := A1) ho hw1 (by rw [hc 63 (by omega)]; exact hg) hp
  obtain ⟨B, n1, n2⟩ := mBuys2 (d := d + 59) (M := L) ho hp 8 0 B0 (-9, vF v p) (by omega) (zmw_of hw1 (fun c h1 h2 => m2 c (by omega))) (by rw [m2 63 (by omega), hc 63 (by omega)]; exact hg)
  refine ⟨(zbf (fun w => !((vPw v p).testBit w)) (vByF v p) 8 0 (-9, vF v p)).1, A1, L, B, L, ?_, ?_, RR_q h (fun c hc' => hc c (by omega)) (fun c hc' => by rw [n2 c (by omega), m2 c (by omega)]) ⟨b', by omega, c4⟩⟩
  · have e1' : zD_worthFromBeginning (d + 68) (nI p) A L = some (some (.int (vF v p)), A0, L) := e1
    rw [zX_buys_q, cNobody0 ho hv hp, zbi_s, if_pos rfl, zX_buys_1_q, zB_bestWord_q, e1', zbi_s, show (0 : Int32) = nI 0 from rfl]
    rw [show zB_bestWord_1 (d + 68 + 1) (nI p) (-9) (vF v p) (nI 0) A0 L = _ from c1, zbi_s, zX_buys_2_q]
  · rw [zM_buys_q, mOne1 ho hw1 hp, zbi_s, if_neg (by decide), zM_buys_1_q, m1, zbi_s, show (0 : Int32) = nI 0 from rfl]
    exact n1
end T2
