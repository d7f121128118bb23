/-! ===== class and model answer alike: kinds ===== -/
section KF
variable {a b d n p s m t : Nat} {A A' B v w : zA} {L M : zL} {x y : Int32}
/-- what is done at a place -/
def vDa (v : zA) (n s m : Nat) : Int32 := if vMay v n s = 0 then -9 else nI (vDeed v n s m)
/-- whether all that one did from a place on is what its kind does -/
def vFt (v : zA) (p : Nat) : Nat → Nat → Nat → Nat → Bool
  | 0, i, s, m => if v 14 3 = 0 then true else if vTr v i = p then decide (vDa v i s m = 8) else true
  | q + 1, i, s, m => if vTr v i = p ∧ ¬ vDa v i s m = v 15 i then false else vFt v p q (i + 1) (vTo v s (v 15 i).toNatClampNeg) (m ^^^ vMk v s (v 15 i).toNatClampNeg)
theorem vFt_0 {i : Nat} : vFt v p 0 i s m = if v 14 3 = 0 then true else if vTr v i = p then decide (vDa v i s m = 8) else true := rfl
theorem vFt_s {q i : Nat} : vFt v p (q + 1) i s m = if vTr v i = p ∧ ¬ vDa v i s m = v 15 i then false else vFt v p q (i + 1) (vTo v s (v 15 i).toNatClampNeg) (m ^^^ vMk v s (v 15 i).toNatClampNeg) := rfl
theorem cWordSaid (hv : zv A = v) (hn : n < 8) : zT_wordAt d (nI n) A L = some (some (.int (v 15 n)), A, L) := by
  rw [zT_wordAt_q, if_neg (nI_pos (by omega)), if_neg (nI_g8 hn), zck_n (by omega) (by decide), nI_clamp (by omega), zT_wordAt_2_q, zv_c hv 15 (by decide)]
theorem cFits1 (ho : Ok v) (hp : p < vP v) : ∀ q i s m A, i + q = vSz v → s < 8 → m < 64 → v 16 i = nI (zsp i s m) → zv A = v → zMi A v a →
    ∃ A', zD_fits_1 (d + 56) (nI p) (nI i) A L = some (some (.int (if vFt v p q i s m then 1 else 0)), A', L) ∧ zFm A A' ∧ zMi A' v a := by
  have h9 := ho.sz
  have h5 := ho.P
  intro q
  induction q with
  | zero =>
    intro i s m A hi hs hm h16 hv hM
    have e : i = vSz v := by omega
    subst e
    have htr := ho.tr (by omega) (vSz v)
    rw [zD_fits_1_q, zv_c hv 14 (by decide), h9.1, if_pos (nI_le (by omega) (by omega)), zD_fits_3_q, cSpot ho hv, zbi_s, h16, zv_c hv 14 (by decide), vFt_0]
    by_cases h0 : v 14 3 = 0
    · exact ⟨A, by rw [if_pos h0, if_pos h0, ite_tt, zD_fits_4_q, zD_fits_6_q, zcb_1], zFm.rf A, hM⟩
    · rw [if_neg h0, if_neg h0, cSayer ho hv (by omega) hs hm (by omega), zbi_s]
      by_cases ht : vTr v (vSz v) = p
      · obtain ⟨A', e1, e2, e3⟩ := cDeed (L := L) (D := d + 55) ho hv hM (n := vSz v) (s := s) (m := m) (by omega) hs hm (by omega)
        refine ⟨A', ?_, e2, e3⟩
        rw [if_pos (by rw [ht]), if_pos ht, e1, zbi_s]
        by_cases h8 : vDa v (vSz v) s m = 8
        · rw [decide_eq_true h8, ite_tt, if_pos (show (if vMay v (vSz v) s = 0 then (-9 : Int32) else nI (vDeed v (vSz v) s m)) = 8 from h8), zD_fits_4_q, zD_fits_6_q, zcb_1]
        · rw [decide_eq_false h8, ite_ft, if_neg (show ¬ (if vMay v (vSz v) s = 0 then (-9 : Int32) else nI (vDeed v (vSz v) s m)) = 8 from h8), zD_fits_5_q, zD_fits_6_q, zcb_0]
      · exact ⟨A, by rw [if_neg (nI_ne ht (by omega) (by omega)), if_neg ht, ite_tt, zD_fits_4_q, zD_fits_6_q, zcb_1], zFm.rf A, hM⟩
  | succ q ih =>
    intro i s m A hi hs hm h16 hv hM
    have htr := ho.tr (by omega) i
    obtain ⟨s', m', t, k1, k2, k3, k4, k5, k6, k7⟩ := ho.said (i := i) (by omega)
    have hinj : s' = s ∧ m' = m := by
      have h1 := zsp_lt (b := 9) (n := i) (by omega) k1 k2
      have h2 := zsp_lt (b := 9) (n := i) (by omega) hs hm
      have h3 : nI (zsp i s' m') = nI (zsp i s m) := by rw [← k4, h16]
      have h4 := (nI_eq (by omega) (by omega)).mp h3
      obtain ⟨-, z1, z2⟩ := zsp_inj k1 k2 hs hm h4
      exact ⟨z1, z2⟩
    obtain ⟨rfl, rfl⟩ := hinj
    have ht : (v 15 i).toNatClampNeg = t := by rw [k5, nI_clamp (by omega)]
    have hgo : ∀ A1, zv A1 = v → zMi A1 v a → ∃ A', zD_fits_2 (d + 56) (nI p) (nI i) A1 L = some (some (.int (if vFt v p q (i + 1) (vTo v s' t) (m' ^^^ vMk v s' t) then 1 else 0)), A', L) ∧ zFm A1 A' ∧ zMi A' v a := by
      intro A1 hv1 hM1
      obtain ⟨A', e1, e2, e3⟩ := ih (i + 1) (vTo v s' t) (m' ^^^ vMk v s' t) A1 (by omega) (ho.to k1 k3).2 (Ok.xor k2 (ho.mk k1 k3)) k7 hv1 hM1
      exact ⟨A', by rw [zD_fits_2_q, nI_1]; exact e1, e2, e3⟩
    rw [zD_fits_1_q, zv_c hv 14 (by decide), h9.1, if_neg (nI_ge (by omega) (by omega)), cAtTurn ho hv (by omega) (by omega), zbi_s, vFt_s, ht]
    by_cases htp : vTr v i = p
    · obtain ⟨A1, e1, e2, e3⟩ := cDeed (L := L) (D := d + 55) ho hv hM (n := i) (s := s') (m := m') (by omega) hs hm (by omega)
      have hv1 := e2.zv hv
      rw [if_pos (by rw [htp]), cSpotBefore ho hv (by omega), zbi_s, h16, e1, zbi_s, cWordSaid hv1 (by omega), zbi_s]
      by_cases hd : vDa v i s' m' = v 15 i
      · obtain ⟨A', g1, g2, g3⟩ := hgo A1 hv1 e3
        refine ⟨A', ?_, e2.tr g2, g3⟩
        rw [if_pos (show (if vMay v i s' = 0 then (-9 : Int32) else nI (vDeed v i s' m')) = v 15 i from hd), if_neg (show ¬ (vTr v i = p ∧ ¬ vDa v i s' m' = v 15 i) from fun hh => hh.2 hd), g1]
      · refine ⟨A1, ?_, e2, e3⟩
        rw [if_neg (show ¬ (if vMay v i s' = 0 then (-9 : Int32) else nI (vDeed v i s' m')) = v 15 i from hd), if_pos (show (vTr v i = p ∧ ¬ vDa v i s' m' = v 15 i) from ⟨htp, hd⟩), zcb_0, ite_ft]
    · obtain ⟨A', g1, g2, g3⟩ := hgo A hv hM
      refine ⟨A', ?_, g2, g3⟩
      rw [if_neg (nI_ne htp (by omega) (by omega)), if_neg (show ¬ (vTr v i = p ∧ ¬ vDa v i s' m' = v 15 i) from fun hh => htp hh.1), g1]
/-- the model looks so too -/
theorem mDidAs1 (ho : Ok v) (hw : zmw B v) (hT : zTab B v 0) (hE : zEo B v (fun _ _ _ => True)) (hM : ∀ p, p < vP v → vKd v p = 4 → zMo B v p (fun _ _ _ => True)) (hp : p < vP v) : ∀ q i s m, i + q = vSz v → s < 8 → m < 64 → v 16 i = nI (zsp i s m) →
    zM_didAs_1 (d + 7) (nI p) (nI s) (nI m) (nI i) B M = some (some (.int (if vFt v p q i s m then 1 else 0)), B, M) := by
  have h9 := ho.sz
  have h5 := ho.P
  have hw' := hw
  obtain ⟨-, -, w67, w68, -, -, -, -, w73, -, -, -, -, -, w15, w18, -, -⟩ := hw'
  intro q
  induction q with
  | zero =>
    intro i s m hi hs hm h16
    have e : i = vSz v := by omega
    subst e
    have htr := ho.tr (by omega) (vSz v)
    have hch := mChoice (d := d) (L := M) (n := vSz v) (s := s) (m := m) ho hw hT (by omega) hs hm hE (fun _ _ => trivial) hM
    rw [zM_didAs_1_q, w15, h9.1, if_pos (nI_le (by omega) (by omega)), zM_didAs_8_q, w18, w15, h9.1, vFt_0]
    by_cases h0 : v 14 3 = 0
    · rw [if_pos h0, if_pos h0, ite_tt, zM_didAs_9_q, zM_didAs_11_q, zcb_1]
    · rw [if_neg h0, if_neg h0, mTurnAt ho hw (by omega) (by omega), zbi_s]
      by_cases ht : vTr v (vSz v) = p
      · rw [if_pos (by rw [ht]), if_pos ht, w15, h9.1, hch, zbi_s]
        by_cases h8 : vDa v (vSz v) s m = 8
        · rw [decide_eq_true h8, ite_tt, if_pos (show (if vMay v (vSz v) s = 0 then (-9 : Int32) else nI (vDeed v (vSz v) s m)) = 8 from h8), zM_didAs_9_q, zM_didAs_11_q, zcb_1]
        · rw [decide_eq_false h8, ite_ft, if_neg (show ¬ (if vMay v (vSz v) s = 0 then (-9 : Int32) else nI (vDeed v (vSz v) s m)) = 8 from h8), zM_didAs_10_q, zM_didAs_11_q, zcb_0]
      · rw [if_neg (nI_ne ht (by omega) (by omega)), if_neg ht, ite_tt, zM_didAs_9_q, zM_didAs_11_q, zcb_1]
  | succ q ih =>
    intro i s m hi hs hm h16
    have htr := ho.tr (by omega) i
    obtain ⟨s', m', t, k1, k2, k3, k4, k5, k6, k7⟩ := ho.said (i := i) (by omega)
    have hinj : s' = s ∧ m' = m := by
      have h1 := zsp_lt (b := 9) (n := i) (by omega) k1 k2
      have h2 := zsp_lt (b := 9) (n := i) (by omega) hs hm
      have h3 : nI (zsp i s' m') = nI (zsp i s m) := by rw [← k4, h16]
      have h4 := (nI_eq (by omega) (by omega)).mp h3
      obtain ⟨-, z1, z2⟩ := zsp_inj k1 k2 hs hm h4
      exact ⟨z1, z2⟩
    obtain ⟨rfl, rfl⟩ := hinj
    have ht : (v 15 i).toNatClampNeg = t := by rw [k5, nI_clamp (by omega)]
    have hru := (ho.ru k1 k3).2
    have hch := mChoice (d := d) (L := M) (n := i) (s := s') (m := m') ho hw hT (by omega) hs hm hE (fun _ _ => trivial) hM
    have hgo : zM_didAs_2 (d + 7) (nI p) (nI s') (nI m') (nI i) B M = some (some (.int (if vFt v p q (i + 1) (vTo v s' t) (m' ^^^ vMk v s' t) then 1 else 0)), B, M) := by
      have e1 := ih (i + 1) (vTo v s' t) (m' ^^^ vMk v s' t) (by omega) (ho.to k1 k3).2 (Ok.xor k2 (ho.mk k1 k3)) k7
      have h5' : zM_didAs_5 (d + 7) (nI p) (nI s') (nI i) (nI (vRu v s' t)) (nI m') (nI (vMk v s' t)) B M = some (some (.int (if vFt v p q (i + 1) (vTo v s' t) (m' ^^^ vMk v s' t) then 1 else 0)), B, M) := by
        rw [zM_didAs_5_q, if_pos (nI_pos' (by omega)), nI_xor, zM_didAs_6_q, zck_n hru (by decide), nI_clamp (by omega), w67, (ho.to k1 k3).1, zM_didAs_7_q, nI_1]
        exact e1
      rw [zM_didAs_2_q, zck_n (by omega) (by decide), w73, nI_clamp (by omega), k5, mRuleAt ho hw k1 k3, zbi_s, k6, ite_tt, if_neg (nI_pos (by omega)), zck_n hru (by decide), nI_clamp (by omega), w68]
      rcases (ho.rule hru).2.2.2 with h6 | ⟨k, hk, h6⟩
      · rw [h6, if_neg (by decide), zM_didAs_3_q]
        have hm0 : vMk v s' t = 0 := by unfold vMk vBit; rw [h6]; decide
        rw [hm0] at h5' ⊢
        exact h5'
      · have hm0 : vMk v s' t = 2 ^ k := by unfold vMk vBit; rw [h6, if_neg (nI_pos (by omega)), nI_clamp (by omega)]
        rw [h6, if_pos (nI_pos' (by omega)), zM_didAs_4_q, zck_n hru (by decide), nI_clamp (by omega), w68, h6, zpow (by omega), ← hm0]
        exact h5'
    rw [zM_didAs_1_q, w15, h9.1, if_neg (nI_ge (by omega) (by omega)), mTurnAt ho hw (by omega) (by omega), zbi_s, vFt_s, ht]
    by_cases htp : vTr v i = p
    · rw [if_pos (by rw [htp]), hch, zbi_s, zck_n (by omega) (by decide), w73, nI_clamp (by omega)]
      by_cases hd : vDa v i s' m' = v 15 i
      · rw [if_pos (show (if vMay v i s' = 0 then (-9 : Int32) else nI (vDeed v i s' m')) = v 15 i from hd), if_neg (show ¬ (vTr v i = p ∧ ¬ vDa v i s' m' = v 15 i) from fun hh => hh.2 hd), hgo]
      · rw [if_neg (show ¬ (if vMay v i s' = 0 then (-9 : Int32) else nI (vDeed v i s' m')) = v 15 i from hd), if_pos (show (vTr v i = p ∧ ¬ vDa v i s' m' = v 15 i) from ⟨htp, hd⟩), zcb_0, ite_ft]
    · rw [if_neg (nI_ne htp (by omega) (by omega)), if_neg (show ¬ (vTr v i = p ∧ ¬ vDa v i s' m' = v 15 i) from fun hh => htp hh.1), hgo]
/-- the kinds that one may be -/
def vKf (v : zA) (p k : Nat) : Bool := vFt (vPut v 10 p (nI k)) p (vSz v) 0 0 0
theorem vSz_put {r : Nat} (hr : r = 10 ∨ r = 11) : vSz (vPut v r n x) = vSz v := by unfold vSz; rw [vPut_o (by omega)]
theorem cKinds1 {A0 : zA} {was : Int32} (ho : Ok v) (hv : zv A0 = v) (hp : p < vP v) : ∀ q k A b, k + q = 7 → zTr A0 A 10 p → zOld A b → b + q < 1048576 →
    ∃ A', zD_kindsFitting_1 (d + 60) (nI p) was (nI (zmsk (vKf v p) k)) (nI k) A L = zD_kindsFitting_4 (d + 60) (nI p) was (nI (zmsk (vKf v p) 7)) A' L ∧ zTr A0 A' 10 p ∧ zOld A' (b + q) := by
  have h5 := ho.P.2
  intro q
  induction q with
  | zero =>
    intro k A b hk hT hO hb
    have e : k = 7 := by omega
    subst e
    refine ⟨A, ?_, hT, hO⟩
    rw [zD_kindsFitting_1_q, if_pos (by decide)]
  | succ q ih =>
    intro k A b hk hT hO hb
    have hk7 : k < 7 := by omega
    have hT1 := hT.put (nI k)
    have hA1 : zput A 10 p (nI k) 10 p = nI k := by rw [zput_s, upd_s]
    have hO1 : zOld (zput A 10 p (nI k)) b := zOld_of hO (by rw [zput_o (by decide)]) (zput_o (by decide)) (zput_o (by decide))
    have hok := Ok_put ho (Or.inl rfl) (n := p) (x := nI k) (by omega) ⟨fun _ => zIs_n hk7, fun h => by omega⟩
    have hv1 : zv (zput A 10 p (nI k)) = vPut v 10 p (nI k) := hT1.zv (by decide) hv hA1
    obtain ⟨A1, r1, r2, r3, r4⟩ := cRenew' (d := d + 55) (L := L) hok hv1 hO1 (by omega)
    obtain ⟨A2, f1, f2, f3⟩ := cFits1 (d := d + 3) (L := L) (p := p) hok (by rw [vP_put (Or.inl rfl)]; exact hp) (vSz v) 0 0 0 A1 (by rw [vSz_put (Or.inl rfl)]; omega) (by omega) (by omega) (by rw [hok.sp0]; rfl) r4 r3
    have hT2 : zTr A0 A2 10 p := hT1.mind (by decide) (fun c hc => by rw [f2 c (by omega) (by omega), r2 c hc])
    obtain ⟨A', e1, e2, e3⟩ := ih (k + 1) A2 (b + 1) (by omega) hT2 f3.old (by omega)
    refine ⟨A', ?_, e2, by rw [show b + (q + 1) = b + 1 + q by omega]; exact e3⟩
    have hm : zmsk (vKf v p) (k + 1) = zmsk (vKf v p) k ||| (if vKf v p k then 2 ^ k else 0) := rfl
    have f1' : zD_fits (d + 59) (nI p) A1 L = some (some (.int (if vKf v p k then 1 else 0)), A2, L) := by
      rw [zD_fits_q]; exact f1
    rw [zD_kindsFitting_1_q, if_neg (nI_g7 hk7), cPutKind' (k := k) ho hv hp hT, zbv_s, r1, zbv_s, f1', zbi_s]
    rw [hm] at e1
    cases hb : vKf v p k
    · rw [hb, ite_ft, Nat.or_zero] at e1
      rw [ite_ft, if_pos rfl, zD_kindsFitting_2_q, zD_kindsFitting_3_q, nI_1, show (0 : Int32) = nI 0 from rfl, nI_or, Nat.or_zero]
      exact e1
    · rw [hb, ite_tt] at e1
      rw [ite_tt, if_neg (by decide), zD_kindsFitting_3_q, nI_1, zpow (by omega), nI_or]
      exact e1
theorem cKinds (ho : Ok v) (hv : zv A = v) (hp : p < vP v) (hO : zOld A b) (hb : b + 7 < 1048576) : ∃ A', zD_kindsFitting (d + 60) (nI p) A L = some (some (.int (nI (zmsk (vKf v p) 7))), A', L) ∧ (∀ c, (c < 51 ∨ 54 < c) → A' c = A c) ∧ zOld A' (b + 7) := by
  have h5 := ho.P.2
  obtain ⟨A2, f1, f2, f3⟩ := cKinds1 (d := d) (L := L) (was := nI (vKd v p)) ho hv hp 7 0 A b (by omega) (zTr.rf A 10 p) hO (by omega)
  refine ⟨zput A2 10 p (nI (vKd v p)), ?_, (f2.put (nI (vKd v p))).back (by rw [zput_s, upd_s, zv_c hv 10 (by decide), (ho.kd (by omega)).1]), zOld_of f3 (by rw [zput_o (by decide)]) (zput_o (by decide)) (zput_o (by decide))⟩
  rw [zD_kindsFitting_q, cKindOf ho hv hp, zbi_s]
  have f1' : zD_kindsFitting_1 (d + 60) (nI p) (nI (vKd v p)) 0 0 A L = zD_kindsFitting_4 (d + 60) (nI p) (nI (vKd v p)) (nI (zmsk (vKf v p) 7)) A2 L := f1
  rw [f1', zD_kindsFitting_4_q, cPutKind' (k := 0) ho hv hp f2, zbv_s]
theorem mKinds2 {B0 : zA} {was : Int32} (ho : Ok v) (hp : p < vP v) (hw : zmw B0 v) (hg : B0 63 33 = 0) : ∀ q k B, k + q = 7 → zTm2 B0 B 69 p →
    ∃ B', zM_kinds_2 (d + 10) (nI p) was (nI (zmsk (vKf v p) k)) (nI k) B M = zM_kinds_5 (d + 10) (nI p) was (nI (zmsk (vKf v p) 7)) B' M ∧ zTm2 B0 B' 69 p := by
  have h5 := ho.P.2
  intro q
  induction q with
  | zero =>
    intro k B hk hT
    have e : k = 7 := by omega
    subst e
    refine ⟨B, ?_, hT⟩
    rw [zM_kinds_2_q, if_pos (by decide)]
  | succ q ih =>
    intro k B hk hT
    have hk7 : k < 7 := by omega
    have hT1 := hT.put (nI k)
    have hok := Ok_put ho (Or.inl rfl) (n := p) (x := nI k) (by omega) ⟨fun _ => zIs_n hk7, fun h => by omega⟩
    have hw1 : zmw (zput B 69 p (nI k)) (vPut v 10 p (nI k)) := hT1.mw (Or.inl ⟨rfl, rfl⟩) hw (by rw [zput_s, upd_s])
    obtain ⟨B1, b1, b2, b3, b4, b5⟩ := mFillAll (d := d + 1) (L := M) hok hw1 (by rw [hT1.1 63 (by omega) (by omega)]; exact hg)
    have hwB : zmw B1 (vPut v 10 p (nI k)) := zmw_of hw1 (fun c h1 h2 => b2 c (by omega))
    have f1 := mDidAs1 (d := d + 2) (M := M) (p := p) hok hwB b3 b4 b5 (by rw [vP_put (Or.inl rfl)]; exact hp) (vSz v) 0 0 0 (by rw [vSz_put (Or.inl rfl)]; omega) (by omega) (by omega) (by rw [hok.sp0]; rfl)
    obtain ⟨B', e1, e2⟩ := ih (k + 1) B1 (by omega) (hT1.mind (by decide) b2)
    refine ⟨B', ?_, e2⟩
    have hm : zmsk (vKf v p) (k + 1) = zmsk (vKf v p) k ||| (if vKf v p k then 2 ^ k else 0) := rfl
    have f1' : zM_didAs (d + 9) (nI p) (zput B 69 p (nI k)) M = some (some (.int (if vKf v p k then 1 else 0)), B1, M) := by
      rw [zM_didAs_q, b1, zbv_s]; exact f1
    rw [zM_kinds_2_q, if_neg (nI_g7 hk7), zck_n (by omega) (by decide), nI_clamp (by omega), f1', zbi_s]
    rw [hm] at e1
    cases hb : vKf v p k
    · rw [hb, ite_ft, Nat.or_zero] at e1
      rw [ite_ft, if_pos rfl, zM_kinds_3_q, zM_kinds_4_q, nI_1, show (0 : Int32) = nI 0 from rfl, nI_or, Nat.or_zero]
      exact e1
    · rw [hb, ite_tt] at e1
      rw [ite_tt, if_neg (by decide), zM_kinds_4_q, nI_1, zpow (by omega), nI_or]
      exact e1
theorem mKinds {B : zA} (ho : Ok v) (hp : p < vP v) (hw : zmw B v) (hg : B 63 33 = 0) : ∃ B', zM_kinds_1 (d + 10) (nI p) B M = some (some (.int (nI (zmsk (vKf v p) 7))), B', M) ∧ ∀ c, (c < 82 ∨ 88 < c) → B' c = B c := by
  have h5 := ho.P.2
  obtain ⟨B2, f1, f2⟩ := mKinds2 (d := d) (M := M) (was := B 69 p) ho hp hw hg 7 0 B (by omega) (zTm2.rf B 69 p)
  refine ⟨zput B2 69 p (B 69 p), ?_, (f2.put (B 69 p)).back (by rw [zput_s, upd_s])⟩
  have f1' : zM_kinds_2 (d + 10) (nI p) (B 69 p) 0 0 B M = zM_kinds_5 (d + 10) (nI p) (B 69 p) (nI (zmsk (vKf v p) 7)) B2 M := f1
  rw [zM_kinds_1_q, zck_n (by omega) (by decide), nI_clamp (by omega), f1', zM_kinds_5_q, zck_n (by omega) (by decide), nI_clamp (by omega)]
theorem zP_kinds (x : Int32) : zPr (zX_kinds (d + 70) x) (zM_kinds (d + 70) x) := by
  intro a A L h ha
  obtain ⟨v, hv⟩ : ∃ v, zv A = v := ⟨_, rfl⟩
  have ho := h.ok
  have hw := h.mw
  have hg := h.gone
  rw [hv] at ho hw
  rcases zOne ho x with hx | ⟨p, hp, rfl⟩
  · exact zPr_no (zNo1 h) (fun A1 n1 => by rw [zX_kinds_q, cNobody1 hv hx, zbi_s, if_neg (by decide), n1, zbi_s, zX_kinds_2_q]) (fun A1 A2 n2 n4 => by rw [zM_kinds_q, mOne0 (zmw62 hw n4) hx, zbi_s, if_pos rfl, n2, zbi_s])
  obtain ⟨b, x1, x2⟩ := h.old
  obtain ⟨A1, c1, c2, c3⟩ := cKinds (d := d + 9) (L := L) ho hv hp x2 (by omega)
  have hw1 : zmw A1 v := zmw_of hw (fun c h1 h2 => c2 c (by omega))
  obtain ⟨B, m1, m2⟩ := mKinds (d := d + 60) (M := L) ho hp hw1 (by rw [c2 63 (by omega)]; exact hg)
  refine ⟨nI (zmsk (vKf v p) 7), A1, L, B, L, ?_, ?_, RR_q h (fun c hc => c2 c (by omega)) (fun c hc => m2 c (by omega)) ⟨b + 7, by omega, c3⟩⟩
  · rw [zX_kinds_q, cNobody0 ho hv hp, zbi_s, if_pos rfl, zX_kinds_1_q, c1, zbi_s, zX_kinds_2_q]
  · rw [zM_kinds_q, mOne1 ho hw1 hp, zbi_s, if_neg (by decide), m1]
end KF
