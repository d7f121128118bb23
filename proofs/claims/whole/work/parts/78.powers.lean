/-! ===== class and model answer alike: power, reach, counts ===== -/
section P2
variable {a d : Nat} {A v : zA} {L : zL} {x y : Int32}
theorem zP_forces (x y : Int32) : zPr (zX_forces (d + 70) x y) (zM_forces (d + 70) x y) := by
  intro a A L h ha
  obtain ⟨v, hv⟩ : ∃ v, zv A = v := ⟨_, rfl⟩
  have ho := h.ok
  have hw := h.mw
  have hg := h.gone
  rw [hv] at ho hw
  rcases zOne ho x with hx | ⟨p, hp, rfl⟩
  · exact zPr_no (zNo1 h) (fun A1 n1 => by rw [zX_forces_q, cNobody1 hv hx, zbi_s, if_neg (by decide), zX_forces_1_q, n1, zbi_s]) (fun A1 A2 n2 n4 => by rw [zM_forces_q, mOne0 (zmw62 hw n4) hx, zbi_s, if_pos rfl, zM_forces_1_q, n2, zbi_s, zM_forces_2_q])
  · rcases zIn 6 (by omega) y with hy | ⟨k, hk, rfl⟩
    · exact zPr_no (zNo1 h) (fun A1 n1 => by rw [zX_forces_q, cNobody0 ho hv hp, zbi_s, if_pos rfl, cNoMark1 hy, zbi_s, if_neg (by decide), zX_forces_1_q, n1, zbi_s]) (fun A1 A2 n2 n4 => by rw [zM_forces_q, mOne1 ho (zmw62 hw n4) hp, zbi_s, if_neg (by decide), mIn0 (c := 5) (b := 5) rfl (by omega) hy, zbi_s, if_pos rfl, zM_forces_1_q, n2, zbi_s, zM_forces_2_q])
    · obtain ⟨z, z1, z2⟩ := cMeaningsWith (d := d + 68) (A := A) (L := L) hk
      obtain ⟨A1, L1, e1, e2, e3⟩ := cEnsuresNow (d := d + 62) (L := L) (stuck := false) (good := fun m => m.testBit k) ho hv hp z2
      have hw1 : zmw A1 v := zmw_of hw (fun c h1 h2 => e2 c (by omega))
      obtain ⟨A2, f1, f2⟩ := mSureNow (d := d + 64) (L := L1) (x := nI k) (aim := 0) ho hw1 (by rw [e2 63 (by decide)]; exact hg) hp
      refine ⟨if vSn v p (fun m => m.testBit k) false then 1 else 0, A1, L1, A2, L1, ?_, ?_, RR_q h (fun c hc => e2 c (by omega)) (fun c hc => f2 c (by omega) (by omega)) ?_⟩
      · rw [ite_ft] at e1
        rw [zX_forces_q, cNobody0 ho hv hp, zbi_s, if_pos rfl, cNoMark0 hk, zbi_s, if_pos rfl, zX_forces_2_q, z1, zbl_s, e1, zbi_s]
        cases vSn v p (fun m => m.testBit k) false
        · rw [ite_ft, if_pos rfl, zX_forces_3_q, zX_forces_4_q]
        · rw [ite_tt, if_neg (by decide), zX_forces_4_q]
      · rw [zM_forces_q, mOne1 ho hw1 hp, zbi_s, if_neg (by decide), mIn1 (c := 5) (b := 5) rfl (by omega) hk, zbi_s, if_neg (by decide), f1, zbi_s, zM_forces_2_q, vGn_forces ho hk]
      · obtain ⟨b, b1, b2⟩ := h.old
        exact ⟨b, by omega, zOld_of b2 (by rw [e2 51 (by decide)]) (e2 52 (by decide)) (e2 53 (by decide))⟩
theorem zP_keeps (x y : Int32) : zPr (zX_keeps (d + 70) x y) (zM_keeps (d + 70) x y) := by
  intro a A L h ha
  obtain ⟨v, hv⟩ : ∃ v, zv A = v := ⟨_, rfl⟩
  have ho := h.ok
  have hw := h.mw
  have hg := h.gone
  rw [hv] at ho hw
  rcases zOne ho x with hx | ⟨p, hp, rfl⟩
  · exact zPr_no (zNo1 h) (fun A1 n1 => by rw [zX_keeps_q, cNobody1 hv hx, zbi_s, if_neg (by decide), zX_keeps_1_q, n1, zbi_s]) (fun A1 A2 n2 n4 => by rw [zM_keeps_q, mOne0 (zmw62 hw n4) hx, zbi_s, if_pos rfl, zM_keeps_1_q, n2, zbi_s, zM_keeps_2_q])
  · rcases zIn 6 (by omega) y with hy | ⟨k, hk, rfl⟩
    · exact zPr_no (zNo1 h) (fun A1 n1 => by rw [zX_keeps_q, cNobody0 ho hv hp, zbi_s, if_pos rfl, cNoMark1 hy, zbi_s, if_neg (by decide), zX_keeps_1_q, n1, zbi_s]) (fun A1 A2 n2 n4 => by rw [zM_keeps_q, mOne1 ho (zmw62 hw n4) hp, zbi_s, if_neg (by decide), mIn0 (c := 5) (b := 5) rfl (by omega) hy, zbi_s, if_pos rfl, zM_keeps_1_q, n2, zbi_s, zM_keeps_2_q])
    · obtain ⟨z, z1, z2⟩ := cMeaningsWith (d := d + 68) (A := A) (L := L) hk
      obtain ⟨A1, L1, e1, e2, e3⟩ := cEnsuresNow (d := d + 62) (L := L) (stuck := true) (good := fun m => !(m.testBit k)) (x := z ^^^ (-1)) ho hv hp (fun m hm => by rw [lb_inv z hm, z2 m hm])
      have hw1 : zmw A1 v := zmw_of hw (fun c h1 h2 => e2 c (by omega))
      obtain ⟨A2, f1, f2⟩ := mSureNow (d := d + 64) (L := L1) (x := nI k) (aim := 1) ho hw1 (by rw [e2 63 (by decide)]; exact hg) hp
      refine ⟨if vSn v p (fun m => !(m.testBit k)) true then 1 else 0, A1, L1, A2, L1, ?_, ?_, RR_q h (fun c hc => e2 c (by omega)) (fun c hc => f2 c (by omega) (by omega)) ?_⟩
      · rw [ite_tt] at e1
        rw [zX_keeps_q, cNobody0 ho hv hp, zbi_s, if_pos rfl, cNoMark0 hk, zbi_s, if_pos rfl, zX_keeps_2_q, z1, zbl_s, e1, zbi_s]
        cases vSn v p (fun m => !(m.testBit k)) true
        · rw [ite_ft, if_pos rfl, zX_keeps_3_q, zX_keeps_4_q]
        · rw [ite_tt, if_neg (by decide), zX_keeps_4_q]
      · rw [zM_keeps_q, mOne1 ho hw1 hp, zbi_s, if_neg (by decide), mIn1 (c := 5) (b := 5) rfl (by omega) hk, zbi_s, if_neg (by decide), f1, zbi_s, zM_keeps_2_q, vGn_keeps ho hk]
      · obtain ⟨b, b1, b2⟩ := h.old
        exact ⟨b, by omega, zOld_of b2 (by rw [e2 51 (by decide)]) (e2 52 (by decide)) (e2 53 (by decide))⟩
theorem zP_sticks (x : Int32) : zPr (zX_sticks (d + 70) x) (zM_sticks (d + 70) x) := by
  intro a A L h ha
  obtain ⟨v, hv⟩ : ∃ v, zv A = v := ⟨_, rfl⟩
  have ho := h.ok
  have hw := h.mw
  have hg := h.gone
  rw [hv] at ho hw
  rcases zOne ho x with hx | ⟨p, hp, rfl⟩
  · exact zPr_no (zNo1 h) (fun A1 n1 => by rw [zX_sticks_q, cNobody1 hv hx, zbi_s, if_neg (by decide), n1, zbi_s]) (fun A1 A2 n2 n4 => by rw [zM_sticks_q, mOne0 (zmw62 hw n4) hx, zbi_s, if_pos rfl, zM_sticks_1_q, n2, zbi_s, zM_sticks_2_q])
  · obtain ⟨A1, L1, e1, e2, e3⟩ := cEnsuresNow (d := d + 62) (L := L) (stuck := true) (good := fun _ => false) (x := 0) ho hv hp (fun m hm => lb_0 m)
    have hw1 : zmw A1 v := zmw_of hw (fun c h1 h2 => e2 c (by omega))
    obtain ⟨A2, f1, f2⟩ := mSureNow (d := d + 64) (L := L1) (x := -9) (aim := 2) ho hw1 (by rw [e2 63 (by decide)]; exact hg) hp
    refine ⟨if vSn v p (fun _ => false) true then 1 else 0, A1, L1, A2, L1, ?_, ?_, RR_q h (fun c hc => e2 c (by omega)) (fun c hc => f2 c (by omega) (by omega)) ?_⟩
    · rw [ite_tt] at e1
      rw [zX_sticks_q, cNobody0 ho hv hp, zbi_s, if_pos rfl, zX_sticks_1_q, e1, zbi_s]
      cases vSn v p (fun _ => false) true
      · rw [ite_ft, if_pos rfl, zX_sticks_2_q, zX_sticks_3_q]
      · rw [ite_tt, if_neg (by decide), zX_sticks_3_q]
    · rw [zM_sticks_q, mOne1 ho hw1 hp, zbi_s, if_neg (by decide), f1, zbi_s, zM_sticks_2_q, vGn_sticks ho]
    · obtain ⟨b, b1, b2⟩ := h.old
      exact ⟨b, by omega, zOld_of b2 (by rw [e2 51 (by decide)]) (e2 52 (by decide)) (e2 53 (by decide))⟩
theorem zP_holds (x : Int32) : zPr (zX_holds (d + 70) x) (zM_holds (d + 70) x) := by
  intro a A L h ha
  obtain ⟨v, hv⟩ : ∃ v, zv A = v := ⟨_, rfl⟩
  have ho := h.ok
  have hw := h.mw
  have hg := h.gone
  rw [hv] at ho hw
  rcases zOne ho x with hx | ⟨p, hp, rfl⟩
  · exact zPr_no (zNo1 h) (fun A1 n1 => by rw [zX_holds_q, cNobody1 hv hx, zbi_s, if_neg (by decide), n1, zbi_s, zX_holds_2_q]) (fun A1 A2 n2 n4 => by rw [zM_holds_q, mOne0 (zmw62 hw n4) hx, zbi_s, if_pos rfl, zM_holds_1_q, n2, zbi_s, zM_holds_2_q])
  · obtain ⟨A1, L1, e1, e2, e3⟩ := cMostWords (d := d + 64) (L := L) (x := -9) ho hv hp
    have hw1 : zmw A1 v := zmw_of hw (fun c h1 h2 => e2 c (by omega) (by omega))
    obtain ⟨A2, f1, f2⟩ := mSureNow (d := d + 64) (L := L1) (x := -9) (aim := 3) ho hw1 (by rw [e2 63 (by decide) (by decide)]; exact hg) hp
    refine ⟨vGn v p (-9) 3, A1, L1, A2, L1, ?_, ?_, RR_q h (fun c hc => e2 c (by omega) (by omega)) (fun c hc => f2 c (by omega) (by omega)) ?_⟩
    · rw [zX_holds_q, cNobody0 ho hv hp, zbi_s, if_pos rfl, zX_holds_1_q, e1, zbi_s, zX_holds_2_q]
    · rw [zM_holds_q, mOne1 ho hw1 hp, zbi_s, if_neg (by decide), f1, zbi_s, zM_holds_2_q]
    · obtain ⟨b, b1, b2⟩ := h.old
      exact ⟨b, by omega, zOld_of b2 (by rw [e2 51 (by decide) (by decide)]) (e2 52 (by decide) (by decide)) (e2 53 (by decide) (by decide))⟩
theorem zP_sure (x : Int32) : zPr (zX_sure (d + 70) x) (zM_sure (d + 70) x) := by
  intro a A L h ha
  obtain ⟨v, hv⟩ : ∃ v, zv A = v := ⟨_, rfl⟩
  have ho := h.ok
  have hw := h.mw
  have hg := h.gone
  rw [hv] at ho hw
  rcases zOne ho x with hx | ⟨p, hp, rfl⟩
  · exact zPr_low (zNo1 h) (fun A1 n1 => by rw [zX_sure_q, cNobody1 hv hx, zbi_s, if_neg (by decide), cWorthRef n1, zbi_s, zX_sure_2_q]) (fun A1 A2 n3 n4 => by rw [zM_sure_q, mOne0 (zmw62 hw n4) hx, zbi_s, if_pos rfl, zM_sure_1_q, n3, zbi_s, zM_sure_2_q])
  · obtain ⟨b, b1, b2⟩ := h.old
    obtain ⟨A1, L1, e1, e2, e3, e4, e5⟩ := cSurestWorth (d := d + 61) (L := L) (x := -9) ho hv b2 (by omega) hp
    have hw1 : zmw A1 v := zmw_of hw (fun c h1 h2 => e2 c (by omega) (by omega) (by omega))
    obtain ⟨A2, f1, f2⟩ := mSureNow (d := d + 64) (L := L1) (x := -9) (aim := 4) ho hw1 (by rw [e2 63 (by decide) (by decide) (by decide)]; exact hg) hp
    refine ⟨vGn v p (-9) 4, A1, L1, A2, L1, ?_, ?_, RR_q h (fun c hc => e2 c (by omega) (by omega) (by omega)) (fun c hc => f2 c (by omega) (by omega)) ⟨b + 1, by omega, e4.old⟩⟩
    · rw [zX_sure_q, cNobody0 ho hv hp, zbi_s, if_pos rfl, zX_sure_1_q, e1, zbi_s, zX_sure_2_q]
    · rw [zM_sure_q, mOne1 ho hw1 hp, zbi_s, if_neg (by decide), f1, zbi_s, zM_sure_2_q]
theorem zP_least (x y : Int32) : zPr (zX_least (d + 70) x y) (zM_least (d + 70) x y) := by
  intro a A L h ha
  obtain ⟨v, hv⟩ : ∃ v, zv A = v := ⟨_, rfl⟩
  have ho := h.ok
  have hw := h.mw
  have hg := h.gone
  rw [hv] at ho hw
  rcases zOne ho x with hx | ⟨p, hp, rfl⟩
  · exact zPr_no (zNo1 h) (fun A1 n1 => by rw [zX_least_q, cNobody1 hv hx, zbi_s, if_neg (by decide), zX_least_1_q, n1, zbi_s]) (fun A1 A2 n2 n4 => by rw [zM_least_q, mOne0 (zmw62 hw n4) hx, zbi_s, if_pos rfl, zM_least_1_q, n2, zbi_s])
  · rcases zIn 6 (by omega) y with hy | ⟨k, hk, rfl⟩
    · exact zPr_no (zNo1 h) (fun A1 n1 => by rw [zX_least_q, cNobody0 ho hv hp, zbi_s, if_pos rfl, cNoMark1 hy, zbi_s, if_neg (by decide), zX_least_1_q, n1, zbi_s]) (fun A1 A2 n2 n4 => by rw [zM_least_q, mOne1 ho (zmw62 hw n4) hp, zbi_s, if_neg (by decide), mIn0 (c := 5) (b := 5) rfl (by omega) hy, zbi_s, if_pos rfl, zM_least_1_q, n2, zbi_s])
    · obtain ⟨w, A1, L1, -, e1, -, e2, e3, -⟩ := zLeast (d := d + 61) (dm := d + 64) (A := A) (L := L) (B := A) (M := L) ho hv hw hg hp hk
      have hw1 : zmw A1 v := zmw_of hw (fun c h1 h2 => e2 c (by omega))
      obtain ⟨w', A1', L1', A2, e1', f1, -, -, f2⟩ := zLeast (d := d + 61) (dm := d + 64) (A := A) (L := L) (B := A1) (M := L1) ho hv hw1 (by rw [e2 63 (by decide)]; exact hg) hp hk
      cases e1.symm.trans e1'
      refine ⟨w, A1, L1, A2, L1, ?_, ?_, RR_q h (fun c hc => e2 c (by omega)) (fun c hc => f2 c (by omega) (by omega)) ?_⟩
      · rw [zX_least_q, cNobody0 ho hv hp, zbi_s, if_pos rfl, cNoMark0 hk, zbi_s, if_pos rfl, zX_least_2_q, e1, zbi_s]
      · rw [zM_least_q, mOne1 ho hw1 hp, zbi_s, if_neg (by decide), mIn1 (c := 5) (b := 5) rfl (by omega) hk, zbi_s, if_neg (by decide), f1]
      · obtain ⟨b, b1, b2⟩ := h.old
        exact ⟨b, by omega, zOld_of b2 (by rw [e2 51 (by decide)]) (e2 52 (by decide)) (e2 53 (by decide))⟩
theorem zP_meanings (x : Int32) : zPr (zX_meanings (d + 70) x) (zM_meanings (d + 70) x) := by
  intro a A L h ha
  obtain ⟨v, hv⟩ : ∃ v, zv A = v := ⟨_, rfl⟩
  have ho := h.ok
  have hw := h.mw
  have hg := h.gone
  rw [hv] at ho hw
  have h5 := ho.P
  have hw' := hw
  obtain ⟨-, -, -, -, -, -, -, -, -, -, -, w12, -⟩ := hw'
  by_cases hx : (-1 : Int32) ≤ x
  · by_cases hp : vP v = 0
    · exact zPr_no (zNo3 h) (fun A1 n1 => by rw [zX_meanings_q, if_pos hx, zX_meanings_1_q, zv_c hv 9 (by decide), h5.1, hp, if_pos (by decide), n1, zbi_s]) (fun A1 A2 n2 n4 => by rw [zM_meanings_q, if_pos hx, zM_meanings_1_q, n4 63 (by decide), w12, h5.1, hp, if_pos (by decide), n2, zbi_s])
    · have hp9 : ¬ v 9 4 = 0 := by rw [h5.1]; exact nI_ne0 (by omega) (by omega)
      obtain ⟨A1, L1, z, e1, e2, e3⟩ := cMeanings (d := d + 64) (L := L) (i := x) ho hv
      have hw1 : zmw A1 v := zmw_of hw (fun c h1 h2 => e2 c (by omega))
      obtain ⟨A2, L2, z', f1, f2, f3⟩ := mMeanings (d := d + 66) (L := L1) (i := x) ho hw1 (by rw [e2 63 (by decide)]; exact hg)
      have hz : z = z' := lb_ext (fun m hm => by rw [e3 m hm, f3 m hm])
      subst hz
      refine ⟨zmn (lb z) x, A1, L1, A2, L2, ?_, ?_, RR_q h (fun c hc => e2 c (by omega)) (fun c hc => f2 c (by omega) (by omega)) ?_⟩
      · rw [zX_meanings_q, if_pos hx, zX_meanings_1_q, zv_c hv 9 (by decide), if_neg hp9, e1]
      · rw [zM_meanings_q, if_pos hx, zM_meanings_1_q, e2 63 (by decide), w12, if_neg hp9, f1]
      · obtain ⟨b, b1, b2⟩ := h.old
        exact ⟨b, by omega, zOld_of b2 (by rw [e2 51 (by decide)]) (e2 52 (by decide)) (e2 53 (by decide))⟩
  · exact zPr_no (zNo4 h) (fun A1 n1 => by rw [zX_meanings_q, if_neg hx, n1, zbi_s]) (fun A1 A2 n2 n4 => by rw [zM_meanings_q, if_neg hx, n2, zbi_s])
theorem zP_canStick : zPr (zX_canStick (d + 70)) (zM_canStick (d + 70)) := by
  intro a A L h ha
  obtain ⟨v, hv⟩ : ∃ v, zv A = v := ⟨_, rfl⟩
  have ho := h.ok
  have hw := h.mw
  have hg := h.gone
  rw [hv] at ho hw
  have h5 := ho.P
  have hw' := hw
  obtain ⟨-, -, -, -, -, -, -, -, -, -, -, w12, -⟩ := hw'
  by_cases hp : vP v = 0
  · exact zPr_no (zNo3 h) (fun A1 n1 => by rw [zX_canStick_q, zv_c hv 9 (by decide), h5.1, hp, if_pos (by decide), n1, zbi_s]) (fun A1 A2 n2 n4 => by rw [zM_canStick_q, n4 63 (by decide), w12, h5.1, hp, if_pos (by decide), n2, zbi_s])
  · have hp9 : ¬ v 9 4 = 0 := by rw [h5.1]; exact nI_ne0 (by omega) (by omega)
    obtain ⟨A1, L1, e1, e2⟩ := cCanStick (d := d + 64) (L := L) ho hv
    have hw1 : zmw A1 v := zmw_of hw (fun c h1 h2 => e2 c (by omega))
    obtain ⟨A2, L2, f1, f2⟩ := mCanStick (d := d + 66) (L := L1) ho hw1 (by rw [e2 63 (by decide)]; exact hg)
    refine ⟨if vRsn v then 1 else 0, A1, L1, A2, L2, ?_, ?_, RR_q h (fun c hc => e2 c (by omega)) (fun c hc => f2 c (by omega) (by omega)) ?_⟩
    · rw [zX_canStick_q, zv_c hv 9 (by decide), if_neg hp9, e1]
    · rw [zM_canStick_q, e2 63 (by decide), w12, if_neg hp9, f1]
    · obtain ⟨b, b1, b2⟩ := h.old
      exact ⟨b, by omega, zOld_of b2 (by rw [e2 51 (by decide)]) (e2 52 (by decide)) (e2 53 (by decide))⟩
end P2
/-! ===== counts ===== -/
theorem zpc_0 {f : Nat → Bool} : ∀ k, (∀ i, i < k → f i = false) → zpc f k = 0
  | 0, _ => rfl
  | k + 1, h => by rw [zpc_s, zpc_0 k (fun i hi => h i (by omega)), h k (by omega), ite_ft]
theorem zpc_pad {a : Nat} (h : a < 512) : zpc a.testBit 31 = zpc a.testBit 9 := by
  rw [show 31 = 9 + 22 by rfl, zpc_add, zpc_0 22 (fun i _ => Nat.testBit_lt_two_pow (Nat.lt_of_lt_of_le (show a < 2 ^ 9 from h) (Nat.pow_le_pow_right (by omega) (by omega)))), Nat.add_zero]
theorem mBits {d n : Nat} {A : zA} {L : zL} (hn : n < 2 ^ 31) : ∀ q k, k + q = 31 → zM_bits_1 d (nI n) (nI (zpc n.testBit k)) (nI k) A L = some (some (.int (nI (zpc n.testBit 31))), A, L) := by
  intro q
  induction q with
  | zero =>
    intro k hk
    have e : k = 31 := by omega
    subst e
    rw [zM_bits_1_q, if_pos (by decide), zM_bits_2_q]
  | succ q ih =>
    intro k hk
    have hih := ih (k + 1) (by omega)
    rw [zpc_s] at hih
    rw [zM_bits_1_q, show (31 : Int32) = nI 31 from rfl, if_neg (nI_ge (by omega) (by omega)), zbit hn (by omega), nI_1]
    cases hb : n.testBit k with
    | false =>
      rw [hb, ite_ft] at hih
      rw [ite_ft, show (0 : Int32) = nI 0 from rfl, nI_add]
      exact hih
    | true =>
      rw [hb, ite_tt] at hih
      rw [ite_tt, nI_1]
      exact hih
theorem zP_count {d : Nat} (x : Int32) : zPr (zX_count (d + 70) x) (zM_count (d + 70) x) := by
  intro a A L h ha
  obtain ⟨v, hv⟩ : ∃ v, zv A = v := ⟨_, rfl⟩
  have ho := h.ok
  have hw := h.mw
  rw [hv] at ho hw
  have hw' := hw
  obtain ⟨-, -, -, -, -, -, -, -, -, w10, w11, w12, w13, w14, -⟩ := hw'
  obtain ⟨t, t1, t2, t3⟩ := h.tape
  obtain ⟨r, r1, r2, r3, -⟩ := h.rown
  have hen := ho.ends
  by_cases hin : x < 11 ∨ (16 : Int32) < x
  · have hM : zM_count (d + 70) x A L = zM_count_1 (d + 70) x A L := by rw [zM_count_q, mIsIn, if_pos hin, zbi_s, if_pos rfl]
    by_cases h0 : x = 0
    · exact zPr_same (w := v 2 6) h (by rw [zX_count_q, if_pos h0, zX_count_1_q, zv_c hv 2 (by decide)]) (by rw [hM, zM_count_1_q, if_pos h0, zM_count_2_q, w10])
    by_cases h1 : x = 1
    · exact zPr_same (w := nI (zpc (v 2 7).toNatClampNeg.testBit 9)) h (by rw [zX_count_q, if_neg h0, if_pos h1, zX_count_2_q, zv_c hv 2 (by decide), hen.1, zBitCount9 _ _ _ _ (by omega), zbi_s, ← hen.1]) (by rw [hM, zM_count_1_q, if_neg h0, if_pos h1, zM_count_3_q, w11, hen.1, zM_bits_q]; rw [show zM_bits_1 (d + 69) (nI (v 2 7).toNatClampNeg) 0 0 A L = _ from mBits (by omega) 31 0 (by omega), zbi_s, zpc_pad (by omega), ← hen.1])
    by_cases h2 : x = 2
    · exact zPr_same (w := v 9 4) h (by rw [zX_count_q, if_neg h0, if_neg h1, if_pos h2, zX_count_3_q, zv_c hv 9 (by decide)]) (by rw [hM, zM_count_1_q, if_neg h0, if_neg h1, if_pos h2, zM_count_4_q, w12])
    by_cases h3 : x = 3
    · exact zPr_same (w := v 1 3) h (by rw [zX_count_q, if_neg h0, if_neg h1, if_neg h2, if_pos h3, zX_count_4_q, zv_c hv 1 (by decide)]) (by rw [hM, zM_count_1_q, if_neg h0, if_neg h1, if_neg h2, if_pos h3, zM_count_5_q, w13])
    by_cases h4 : x = 4
    · exact zPr_same (w := v 1 4) h (by rw [zX_count_q, if_neg h0, if_neg h1, if_neg h2, if_neg h3, if_pos h4, zX_count_5_q, zv_c hv 1 (by decide)]) (by rw [hM, zM_count_1_q, if_neg h0, if_neg h1, if_neg h2, if_neg h3, if_pos h4, zM_count_6_q, w14])
    by_cases h5 : x = 5
    · exact zPr_same (w := nI t) h (by rw [zX_count_q, if_neg h0, if_neg h1, if_neg h2, if_neg h3, if_neg h4, if_pos h5, zX_count_6_q, t2]) (by rw [hM, zM_count_1_q, if_neg h0, if_neg h1, if_neg h2, if_neg h3, if_neg h4, if_pos h5, zM_count_7_q, t3])
    by_cases h6 : x = 6
    · exact zPr_same (w := nI r) h (by rw [zX_count_q, if_neg h0, if_neg h1, if_neg h2, if_neg h3, if_neg h4, if_neg h5, if_pos h6, zX_count_7_q, r2]) (by rw [hM, zM_count_1_q, if_neg h0, if_neg h1, if_neg h2, if_neg h3, if_neg h4, if_neg h5, if_pos h6, zM_count_8_q, r3])
    refine zPr_same (w := -9) h ?_ (by rw [hM, zM_count_1_q, if_neg h0, if_neg h1, if_neg h2, if_neg h3, if_neg h4, if_neg h5, if_neg h6, zM_count_9_q])
    rw [zX_count_q, if_neg h0, if_neg h1, if_neg h2, if_neg h3, if_neg h4, if_neg h5, if_neg h6, zX_count_8_q]
    by_cases h11 : x < 11
    · rw [if_pos h11, zX_count_9_q, zX_count_10_q]
    · rw [if_neg h11, if_pos (hin.resolve_left h11), zX_count_9_q, zX_count_10_q]
  · have hr : ∃ k, 11 ≤ k ∧ k < 17 ∧ x = nI k := by
      rcases zIn 17 (by omega) x with hx | ⟨k, hk, rfl⟩
      · exfalso
        rcases hx with hx | hx
        · exact hin (Or.inl (Int32.lt_trans hx (by decide)))
        · exact hin (Or.inr ((zlt_up (b := 16) (by omega) x).mpr hx))
      · refine ⟨k, ?_, hk, rfl⟩
        rcases Nat.lt_or_ge k 11 with h | h
        · exact absurd (Or.inl (nI_lt h (by omega))) hin
        · exact h
    obtain ⟨k, k1, k2, rfl⟩ := hr
    have hs : nI k - 10 = nI (k - 10) := by
      have hk6 : k = 11 ∨ k = 12 ∨ k = 13 ∨ k = 14 ∨ k = 15 ∨ k = 16 := by omega
      rcases hk6 with rfl | rfl | rfl | rfl | rfl | rfl <;> decide
    have hne : ∀ j, j < 7 → ¬ nI k = nI j := fun j hj => nI_ne (by omega) (by omega) (by omega)
    refine zPr_same (w := A 62 (k - 10)) h ?_ ?_
    · rw [zX_count_q, if_neg (show ¬ _ = (0 : Int32) from hne 0 (by omega)), if_neg (show ¬ _ = (1 : Int32) from hne 1 (by omega)), if_neg (show ¬ _ = (2 : Int32) from hne 2 (by omega)), if_neg (show ¬ _ = (3 : Int32) from hne 3 (by omega)), if_neg (show ¬ _ = (4 : Int32) from hne 4 (by omega)), if_neg (show ¬ _ = (5 : Int32) from hne 5 (by omega)), if_neg (show ¬ _ = (6 : Int32) from hne 6 (by omega)), zX_count_8_q, if_neg (fun h => hin (Or.inl h)), if_neg (fun h => hin (Or.inr h)), hs, zck_n (by omega) (by decide), nI_clamp (by omega), zX_count_10_q]
    · rw [zM_count_q, mIsIn, if_neg hin, zbi_s, if_neg (by decide), hs, zck_n (by omega) (by decide), nI_clamp (by omega), h.ref]
