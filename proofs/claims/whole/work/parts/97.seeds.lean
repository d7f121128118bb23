/-! ===== class and model answer alike: seeds ===== -/
theorem zpc_up {f : Nat → Bool} {a : Nat} : ∀ b, a ≤ b → zpc f a ≤ zpc f b
  | 0, h => by rw [Nat.le_zero.mp h]; exact Nat.le_refl _
  | b + 1, h => by
    by_cases e : a = b + 1
    · rw [e]; exact Nat.le_refl _
    · have h1 := zpc_up (f := f) b (show a ≤ b by omega)
      rw [zpc_s]
      omega
/-- the place of the bit of which so many are before it -/
def zjb (o j : Nat) : Nat := (zfd o.testBit (nI j) 64 0).toNatClampNeg
theorem zjb_in : ∀ o, o < 512 → ∀ j, j < 9 → j < zpc o.testBit 9 → zfd o.testBit (nI j) 64 0 = nI (zjb o j) ∧ zjb o j < 9 ∧ o.testBit (zjb o j) = true ∧ zpc o.testBit (zjb o j) = j := by decide +kernel
theorem tN_up : ∀ o, o < 512 → tN (nI o).toInt64 = o := by decide +kernel
theorem zor_8 : ∀ a, a < 256 → ∀ t, t < 8 → (a ||| 256).testBit t = a.testBit t := by decide +kernel
theorem zor_88 : ∀ a, a < 256 → (a ||| 256).testBit 8 = true ∧ a.testBit 8 = false := by decide +kernel
/-- the seed behind a seed, and what is drawn by it -/
def zlg (u : Int32) : Int32 := u * 1103515245 + 12345
def zlv (u : Int32) : Nat := u.toBitVec.toNat % 2 ^ 31 / 65536
theorem zlv_and (u : Int32) : u &&& 2147483647 = nI (u.toBitVec.toNat % 2 ^ 31) := by
  have h : u = nI u.toBitVec.toNat := Int32.toBitVec_inj.1 (show u.toBitVec = BitVec.ofNat 32 u.toBitVec.toNat by simp)
  obtain ⟨k, hk⟩ : ∃ k, u.toBitVec.toNat = k := ⟨_, rfl⟩
  rw [hk] at h ⊢
  rw [h, show (2147483647 : Int32) = nI 2147483647 from rfl, nI_and]
  exact congrArg nI (nI_mask k 31)
theorem zlv_c (u : Int32) : zshr (u &&& 2147483647) 16 = nI (zlv u) := by
  rw [zlv_and, show (16 : Int32) = nI 16 from rfl, zshr_n (Nat.mod_lt _ (by omega)) (by omega)]
  rfl
theorem zlv_m (u : Int32) : (u &&& 2147483647) / 65536 = nI (zlv u) := by
  rw [zlv_and]
  exact pk_div (d := 65536) (Nat.mod_lt _ (by omega)) (by omega) (by omega)
theorem zlv_lt (u : Int32) : zlv u < 2 ^ 31 := by
  have h := Nat.mod_lt u.toBitVec.toNat (show 0 < 2 ^ 31 by omega)
  unfold zlv
  omega
/-- the word that is drawn -/
def vTw (v : zA) (u : Int32) (n s : Nat) : Nat := zjb (vOpt v n s) (zlv (zlg u) % zpc (vOpt v n s).testBit 9)
/-- a talk by draws: how it ends, and the seed behind it -/
def vSd (v : zA) : Nat → Int32 → Nat → Nat → Nat → Nat × Int32
  | 0, u, n, s, m => (vEa v n s m, u)
  | f + 1, u, n, s, m => if vMay v n s = 0 then (vEa v n s m, u) else if vTw v u n s = 8 then (128 * n + m, zlg u) else vSd v f (zlg u) (n + 1) (vTo v s (vTw v u n s)) (m ^^^ vMk v s (vTw v u n s))
section SE
variable {a b d n p s m t : Nat} {A A1 A' B v w : zA} {L M : zL} {x y u : Int32}
theorem vSd_0 : vSd v 0 u n s m = (vEa v n s m, u) := rfl
theorem vSd_s {f : Nat} : vSd v (f + 1) u n s m = if vMay v n s = 0 then (vEa v n s m, u) else if vTw v u n s = 8 then (128 * n + m, zlg u) else vSd v f (zlg u) (n + 1) (vTo v s (vTw v u n s)) (m ^^^ vMk v s (vTw v u n s)) := rfl
/-- what is known of the drawn word -/
theorem vTw_in (ho : Ok v) (hs : s < 8) (h0 : vMay v n s ≠ 0) : 0 < zpc (vOpt v n s).testBit 9 ∧ zpc (vOpt v n s).testBit 9 = zpc (vMay v n s).testBit 8 + (if vEn v s then 1 else 0) ∧ zpc (vMay v n s).testBit 8 ≤ 8 ∧
    zfd (vOpt v n s).testBit (nI (zlv (zlg u) % zpc (vOpt v n s).testBit 9)) 64 0 = nI (vTw v u n s) ∧ vTw v u n s < 9 ∧ (vTw v u n s = 8 ↔ zlv (zlg u) % zpc (vOpt v n s).testBit 9 = zpc (vMay v n s).testBit 8) ∧
    (vTw v u n s ≠ 8 → (vMay v n s).testBit (vTw v u n s) = true ∧ zpc (vMay v n s).testBit (vTw v u n s) = zlv (zlg u) % zpc (vOpt v n s).testBit 9) := by
  have hmay := ho.may (n := n) hs
  have hopt := ho.opt (n := n) hs
  have h8 := zpc_le (f := (vMay v n s).testBit) 8
  have hbit : ∀ t, t < 8 → (vOpt v n s).testBit t = (vMay v n s).testBit t := fun t ht => vOpt_bit ho hs ht
  have hbit8 : (vOpt v n s).testBit 8 = vEn v s := by rw [vOpt_8 ho hs, decide_eq_false h0]; rfl
  have hpc : ∀ k, k ≤ 8 → zpc (vOpt v n s).testBit k = zpc (vMay v n s).testBit k := fun k hk => zpc_eq k (fun i hi => hbit i (by omega))
  have hcnt : zpc (vOpt v n s).testBit 9 = zpc (vMay v n s).testBit 8 + (if vEn v s then 1 else 0) := by
    rw [zpc_s, hpc 8 (by omega), hbit8]
  have hl := vLow_lt ho hs h0
  have hlo := vLow_ok ho hs h0
  have hpos : 0 < zpc (vOpt v n s).testBit 9 := by
    have h1 := zpc_up (f := (vOpt v n s).testBit) (a := vLow v n s + 1) 9 (by omega)
    have h2 : zpc (vOpt v n s).testBit (vLow v n s + 1) = zpc (vOpt v n s).testBit (vLow v n s) + 1 := by
      rw [zpc_s]
      unfold vOk at hlo
      rw [hlo, ite_tt]
    omega
  have h9 := zpc_le (f := (vOpt v n s).testBit) 9
  have hj := Nat.mod_lt (zlv (zlg u)) hpos
  obtain ⟨z1, z2, z3, z4⟩ := zjb_in (vOpt v n s) hopt (zlv (zlg u) % zpc (vOpt v n s).testBit 9) (by omega) hj
  have hW : vTw v u n s = zjb (vOpt v n s) (zlv (zlg u) % zpc (vOpt v n s).testBit 9) := rfl
  rw [← hW] at z1 z2 z3 z4
  refine ⟨hpos, hcnt, h8, z1, z2, ⟨fun e => ?_, fun e => ?_⟩, fun hne => ?_⟩
  · rw [e, hpc 8 (by omega)] at z4
    exact z4.symm
  · rcases Nat.lt_or_ge (vTw v u n s) 8 with hlt | hge
    · exfalso
      rw [e, hpc _ (by omega)] at z4
      have h1 := zpc_up (f := (vMay v n s).testBit) (a := vTw v u n s + 1) 8 (by omega)
      rw [zpc_s, ← hbit _ hlt, z3, ite_tt] at h1
      omega
    · omega
  · rw [hpc _ (by omega)] at z4
    rw [← hbit _ (by omega)]
    exact ⟨z3, z4⟩
theorem cDraw {c : Nat} (hc : 0 < c) (hc2 : c < 2 ^ 31) : zB_draw d (nI c) A L = some (some (.int (nI (zlv (zlg (A 55 2)) % c))), zput A 55 2 (zlg (A 55 2)), L) := by
  have e : (zput A 55 2 (zlg (A 55 2))) 55 2 = zlg (A 55 2) := by rw [zput_s, upd_s]
  rw [zB_draw_q, show A 55 2 * 1103515245 + 12345 = zlg (A 55 2) from rfl, e, if_neg (show ¬ nI c ≤ 0 from nI_nle hc hc2), zcd_n hc hc2, zlv_c, zrem_n (zlv_lt _) hc hc2, zB_draw_2_q]
theorem mDraw {c : Nat} (hc : 0 < c) (hc2 : c < 2 ^ 31) : zM_draw d (nI c) B M = some (some (.int (nI (zlv (zlg (B 63 46)) % c))), zput B 63 46 (zlg (B 63 46)), M) := by
  have e : (zput B 63 46 (zlg (B 63 46))) 63 46 = zlg (B 63 46) := by rw [zput_s, upd_s]
  rw [zM_draw_q, show B 63 46 * 1103515245 + 12345 = zlg (B 63 46) from rfl, e, show (65536 : Int32) = nI 65536 from rfl, zcd_n (by omega) (by omega), zcd_n hc hc2, show nI 65536 = (65536 : Int32) from rfl, zlv_m, zrem_n (zlv_lt _) hc hc2]
theorem cBySeed (ho : Ok v) : ∀ f n s m A, n + f = 8 → s < 8 → m < 64 → zv A = v → ∃ A', zB_endBySeed_1 (d + 4) (nI (zsp n s m)) (nI n) A L = some (some (.int (nI (vSd v f (A 55 2) n s m).1)), A', L) ∧ (∀ c, c ≠ 55 → A' c = A c) ∧ A' 55 2 = (vSd v f (A 55 2) n s m).2 := by
  intro f
  induction f with
  | zero =>
    intro n s m A hn hs hm hv
    refine ⟨A, ?_, fun _ _ => rfl, rfl⟩
    rw [zB_endBySeed_1_q, if_pos (show (8 : Int32) ≤ nI n from by rw [show (8 : Int32) = nI 8 from rfl]; exact nI_le (by omega) (by omega)), zB_endBySeed_4_q, cEndByItself ho hv (by omega) hs hm, zbi_s]
    rfl
  | succ f ih =>
    intro n s m A hn hs hm hv
    have hmay := ho.may (n := n) hs
    have hopt := ho.opt (n := n) hs
    rw [zB_endBySeed_1_q, if_neg (nI_g8 (by omega)), cOptions ho hv (by omega) hs hm, zbi_s, show (0 : Int32) = nI 0 from rfl, zifi (nI_eq (by omega) (by omega)), vSd_s]
    by_cases h0 : vMay v n s = 0
    · refine ⟨A, ?_, fun _ _ => rfl, by rw [if_pos h0]⟩
      rw [if_pos ((vOpt_0 ho hs).mpr h0), if_pos h0, zB_endBySeed_4_q, cEndByItself ho hv (by omega) hs hm, zbi_s]
      rfl
    · obtain ⟨k1, k2, k3, k4, k5, k6, k7⟩ := vTw_in (u := A 55 2) ho hs h0
      have hle := zpc_le (f := (vOpt v n s).testBit) 9
      have hlb : lb (nI (vOpt v n s)).toInt64 = (vOpt v n s).testBit := by
        funext i
        rw [tN_bit, tN_up _ hopt]
      have hv2 : zv (zput A 55 2 (zlg (A 55 2))) = v := by rw [zv_put (by decide), hv]
      rw [if_neg (fun e => h0 ((vOpt_0 ho hs).mp e)), if_neg h0, zB_endBySeed_2_q, zBitCount9 _ _ _ _ hopt, zbi_s, cDraw k1 (by omega), zbi_s, cBitInRow, zbi_s, hlb, k4]
      by_cases h8 : vTw v (A 55 2) n s = 8
      · refine ⟨zput A 55 2 (zlg (A 55 2)), ?_, fun c hc => zput_o hc, by rw [if_pos h8, zput_s, upd_s]⟩
        rw [h8, if_pos (by rfl), if_pos rfl, cEndByStop (by omega) hs hm, zbi_s]
      · have ht : vTw v (A 55 2) n s < 8 := by omega
        obtain ⟨A', e1, e2, e3⟩ := ih (n + 1) (vTo v s (vTw v (A 55 2) n s)) (m ^^^ vMk v s (vTw v (A 55 2) n s)) (zput A 55 2 (zlg (A 55 2))) (by omega) (ho.to hs ht).2 (Ok.xor hm (ho.mk hs ht)) hv2
        rw [show (zput A 55 2 (zlg (A 55 2))) 55 2 = zlg (A 55 2) by rw [zput_s, upd_s]] at e1 e3
        refine ⟨A', ?_, fun c hc => by rw [e2 c hc, zput_o hc], by rw [if_neg h8]; exact e3⟩
        rw [if_neg (show ¬ nI (vTw v (A 55 2) n s) = 8 from nI_ne h8 (by omega) (by decide)), if_neg h8, zB_endBySeed_3_q, cAfter ho hv2 (by omega) hs hm ht, zbi_s, nI_1]
        exact e1
theorem mBits8 {k : Nat} (hk : k < 256) : zM_bits d (nI k) B M = some (some (.int (nI (zpc k.testBit 8))), B, M) := by
  have h := mBits (A := B) (L := M) (d := d) (n := k) (by omega) 31 0 (by omega)
  rw [zpc_pad (by omega), zpc_s, Nat.testBit_lt_two_pow (show k < 2 ^ 8 from hk), ite_ft, Nat.add_zero] at h
  rw [zM_bits_q]
  exact h
/-- the model looks for the drawn word -/
theorem mDrawn5 {may W j : Nat} {x1 x2 x3 : Int32} (hmay : may < 256) (hW : W < 8) (hb : may.testBit W = true) (hj : zpc may.testBit W = j) : ∀ q k, k + q = W → zM_drawnEnd_5 d x1 x2 x3 (nI may) (nI (j - zpc may.testBit k)) (nI k) B M = zM_drawnEnd_7 d x1 x2 x3 (nI W) B M := by
  have hle := zpc_le (f := may.testBit) W
  intro q
  induction q with
  | zero =>
    intro k hk
    have e : k = W := by omega
    subst e
    rw [zM_drawnEnd_5_q, zifc (zbit0 (by omega) (by omega)), if_neg (by rw [hb]; decide), hj, Nat.sub_self, if_pos (by decide)]
  | succ q ih =>
    intro k hk
    have h1 := ih (k + 1) (by omega)
    have h2 := zpc_up (f := may.testBit) (a := k + 1) W (by omega)
    have h6 : zM_drawnEnd_6 d x1 x2 x3 (nI may) (nI (j - zpc may.testBit k)) (nI k) B M = zM_drawnEnd_7 d x1 x2 x3 (nI W) B M := by
      rw [zM_drawnEnd_6_q, nI_1, zbit (by omega) (by omega), ← h1]
      rw [zpc_s] at h2 ⊢
      cases hk2 : may.testBit k
      · rw [ite_ft, ite_ft, Int32.sub_zero]; rfl
      · rw [hk2, ite_tt] at h2
        rw [ite_tt, ite_tt, show (1 : Int32) = nI 1 from rfl, pk_sub (by omega), show j - zpc may.testBit k - 1 = j - (zpc may.testBit k + 1) by omega]
    rw [zM_drawnEnd_5_q, zifc (zbit0 (by omega) (by omega)), h6]
    by_cases hk2 : may.testBit k = false
    · rw [if_pos hk2]
    · have hk3 : may.testBit k = true := by simpa using hk2
      rw [zpc_s, hk3, ite_tt] at h2
      rw [if_neg hk2, if_neg (show ¬ nI (j - zpc may.testBit k) ≤ 0 from nI_nle (by omega) (by omega))]
theorem vEa_mod (hm : m < 64) : vEa v n s m % 128 = if vEn v s then m else 64 + m := by
  unfold vEa
  split <;> omega
theorem mDrawn (ho : Ok v) : ∀ f n s m B, n + f = 8 → s < 8 → m < 64 → zmw B v → zTab B v 0 → ∃ B', zM_drawnEnd_1 (d + 3) (nI s) (nI m) (nI n) B M = some (some (.int (nI ((vSd v f (B 63 46) n s m).1 % 128))), B', M) ∧ (∀ c, c ≠ 63 → B' c = B c) ∧ (∀ i, i ≠ 46 → B' 63 i = B 63 i) ∧ B' 63 46 = (vSd v f (B 63 46) n s m).2 := by
  intro f
  induction f with
  | zero =>
    intro n s m B hn hs hm hw hT
    refine ⟨B, ?_, fun _ _ => rfl, fun _ _ => rfl, rfl⟩
    have h0 : vMay v n s = 0 := vMay_8 ho (by omega)
    rw [zM_drawnEnd_1_q, mMayAt ho hw hT (by omega) hs, zbi_s, vMg_0 ho hs, h0, if_pos (by rfl), zM_drawnEnd_8_q, mEndAt ho hw hs, zbi_s, vSd_0]
    show _ = some (some (Value.int (nI (vEa v n s m % 128))), B, M)
    rw [vEa_mod hm]
  | succ f ih =>
    intro n s m B hn hs hm hw hT
    have hmay := ho.may (n := n) hs
    rw [zM_drawnEnd_1_q, mMayAt ho hw hT (by omega) hs, zbi_s, vMg_0 ho hs, show (0 : Int32) = nI 0 from rfl, zifi (nI_eq (by omega) (by omega)), vSd_s]
    by_cases h0 : vMay v n s = 0
    · refine ⟨B, ?_, fun _ _ => rfl, fun _ _ => rfl, by rw [if_pos h0]⟩
      rw [if_pos h0, if_pos h0, zM_drawnEnd_8_q, mEndAt ho hw hs, zbi_s]
      show _ = some (some (Value.int (nI (vEa v n s m % 128))), B, M)
      rw [vEa_mod hm]
    · obtain ⟨k1, k2, k3, k4, k5, k6, k7⟩ := vTw_in (u := B 63 46) ho hs h0
      obtain ⟨B2, hB2⟩ : ∃ B2, B2 = zput B 63 46 (zlg (B 63 46)) := ⟨_, rfl⟩
      have hc : ∀ c, c ≠ 63 → B2 c = B c := fun c hc => by rw [hB2, zput_o hc]
      have h63 : ∀ i, i ≠ 46 → B2 63 i = B 63 i := fun i hi => by rw [hB2, zput_s, upd_o hi]
      have h46 : B2 63 46 = zlg (B 63 46) := by rw [hB2, zput_s, upd_s]
      have hw2 : zmw B2 v := zmw_at hw (fun i a b => h63 i (by omega)) (fun c a b => hc c (by omega))
      have hT2 : zTab B2 v 0 := zTab_of hT (fun c a b => hc c (by omega))
      have hX : zM_drawnEnd_3 (d + 3) (nI s) (nI m) (nI n) (nI (vMay v n s)) (nI (zpc (vMay v n s).testBit 8)) (nI (if vEn v s then 1 else 0)) B M = if vTw v (B 63 46) n s = 8 then some (some (.int (nI m)), B2, M) else zM_drawnEnd_4 (d + 3) (nI s) (nI m) (nI n) (nI (vMay v n s)) (nI (zlv (zlg (B 63 46)) % zpc (vOpt v n s).testBit 9)) B2 M := by
        have hlt := Nat.mod_lt (zlv (zlg (B 63 46))) k1
        have hle := zpc_le (f := (vOpt v n s).testBit) 9
        rw [zM_drawnEnd_3_q, nI_add, ← k2, mDraw k1 (by omega), zbi_s, ← hB2, mBits8 hmay, zbi_s, zifi (nI_eq (by omega) (by omega)), zifi k6]
      have hX2 : zbi (zM_isEnd (d + 2) (nI s) B M) (fun r4 A4 L4 => if r4 = nI 0 then zM_drawnEnd_2 (d + 3) (nI s) (nI m) (nI n) (nI (vMay v n s)) (nI (zpc (vMay v n s).testBit 8)) A4 L4 else zM_drawnEnd_3 (d + 3) (nI s) (nI m) (nI n) (nI (vMay v n s)) (nI (zpc (vMay v n s).testBit 8)) 1 A4 L4) = zM_drawnEnd_3 (d + 3) (nI s) (nI m) (nI n) (nI (vMay v n s)) (nI (zpc (vMay v n s).testBit 8)) (nI (if vEn v s then 1 else 0)) B M := by
        rw [mIsEnd ho hw hs, zbi_s]
        cases vEn v s
        · rw [ite_ft, ite_ft, if_pos (by rfl), zM_drawnEnd_2_q]; rfl
        · rw [ite_tt, ite_tt, if_neg (by decide)]; rfl
      rw [if_neg h0, if_neg h0, mMayAt ho hw hT (by omega) hs, zbi_s, vMg_0 ho hs, mBits8 hmay, zbi_s, hX2, hX]
      by_cases h8 : vTw v (B 63 46) n s = 8
      · refine ⟨B2, ?_, hc, h63, by rw [if_pos h8, h46]⟩
        rw [if_pos h8, if_pos h8, show (128 * n + m) % 128 = m by omega]
      · have ht : vTw v (B 63 46) n s < 8 := by omega
        obtain ⟨t1, t2⟩ := k7 h8
        have hg : (vWg v 0 s).testBit (vTw v (B 63 46) n s) = true := by
          rw [vWg_0 ho hs]
          have hb' := t1
          obtain ⟨T, hT'⟩ : ∃ T, vTw v (B 63 46) n s = T := ⟨_, rfl⟩
          rw [hT'] at hb' ⊢
          unfold vMay at hb'
          split at hb'
          · simp at hb'
          · rw [Nat.testBit_and, Bool.and_eq_true] at hb'
            exact hb'.2
        obtain ⟨q1, q2⟩ := (hT2.1 s hs).1 _ ht hg
        obtain ⟨B', e1, e2, e3, e4⟩ := ih (n + 1) (vTo v s (vTw v (B 63 46) n s)) (m ^^^ vMk v s (vTw v (B 63 46) n s)) B2 (by omega) (ho.to hs ht).2 (Ok.xor hm (ho.mk hs ht)) hw2 hT2
        rw [h46] at e1 e4
        refine ⟨B', ?_, fun c hc' => by rw [e2 c hc', hc c hc'], fun i hi => by rw [e3 i hi, h63 i hi], by rw [if_neg h8]; exact e4⟩
        have h5 := mDrawn5 (B := B2) (M := M) (d := d + 3) (x1 := nI s) (x2 := nI m) (x3 := nI n) hmay ht t1 t2 (vTw v (B 63 46) n s) 0 (by omega)
        rw [if_neg h8, if_neg h8, zM_drawnEnd_4_q, show (0 : Int32) = nI 0 from rfl]
        rw [show zpc (vMay v n s).testBit 0 = 0 from rfl, Nat.sub_zero] at h5
        rw [h5, zM_drawnEnd_7_q, show (8 : Int32) * nI s + nI (vTw v (B 63 46) n s) = nI (8 * s + vTw v (B 63 46) n s) by rw [show (8 : Int32) = nI 8 from rfl, pk_mul, nI_add], zck_n (by omega) (by decide), zck_n (by omega) (by decide), nI_clamp (by omega), q1, q2, nI_xor, nI_1]
        exact e1
/-- the sum of the ends' worths -/
def vSu (v : zA) (p : Nat) : Nat → Int32 → Int32 → Int32
  | 0, x, _ => x
  | q + 1, x, u => vSu v p q (x + vEw v p ((vSd v 8 u 0 0 0).1 % 128)) (vSd v 8 u 0 0 0).2
theorem vSu_s {q : Nat} : vSu v p (q + 1) x u = vSu v p q (x + vEw v p ((vSd v 8 u 0 0 0).1 % 128)) (vSd v 8 u 0 0 0).2 := rfl
theorem vSd_lt (ho : Ok v) : ∀ f u n s m, n + f = 8 → s < 8 → m < 64 → (vSd v f u n s m).1 < 1152 := by
  intro f
  induction f with
  | zero =>
    intro u n s m hn hs hm
    exact (vEa_lt (by omega) hm).1
  | succ f ih =>
    intro u n s m hn hs hm
    rw [vSd_s]
    by_cases h0 : vMay v n s = 0
    · rw [if_pos h0]; exact (vEa_lt (by omega) hm).1
    · rw [if_neg h0]
      obtain ⟨-, -, -, -, k5, -⟩ := vTw_in (u := u) ho hs h0
      by_cases h8 : vTw v u n s = 8
      · rw [if_pos h8]
        show 128 * n + m < 1152
        omega
      · rw [if_neg h8]
        exact ih _ _ _ _ (by omega) (ho.to hs (by omega)).2 (Ok.xor hm (ho.mk hs (by omega)))
theorem cSum (ho : Ok v) (hp : p < vP v) (hn : n < 100) : ∀ q i x A, i + q = n → zv A = v → zWt A v → ∃ A', zB_sumOfTalks_1 (d + 5) (nI p) (nI n) x (nI i) A L = some (some (.int (vSu v p q x (A 55 2))), A', L) ∧ ∀ c, c ≠ 55 → A' c = A c := by
  intro q
  induction q with
  | zero =>
    intro i x A hi hv hW
    exact ⟨A, by rw [zB_sumOfTalks_1_q, if_pos (nI_le (by omega) (by omega)), zB_sumOfTalks_2_q]; rfl, fun _ _ => rfl⟩
  | succ q ih =>
    intro i x A hi hv hW
    obtain ⟨A1, e1, e2, e3⟩ := cBySeed (d := d) (L := L) ho 8 0 0 0 A (by omega) (by omega) (by omega) hv
    have hv1 : zv A1 = v := (zv_of (fun c hc => e2 c (by omega))).trans hv
    have hW1 : zWt A1 v := by
      unfold zWt at *
      rw [e2 54 (by decide)]
      exact hW
    have hlt := vSd_lt ho 8 (A 55 2) 0 0 0 (by omega) (by omega) (by omega)
    obtain ⟨A', f1, f2⟩ := ih (i + 1) (x + vEw v p ((vSd v 8 (A 55 2) 0 0 0).1 % 128)) A1 (by omega) hv1 hW1
    refine ⟨A', ?_, fun c hc => by rw [f2 c hc, e2 c hc]⟩
    have e1' : zB_endBySeed (d + 4) A L = some (some (.int (nI (vSd v 8 (A 55 2) 0 0 0).1)), A1, L) := by
      rw [zB_endBySeed_q]; exact e1
    rw [zB_sumOfTalks_1_q, if_neg (nI_ge (by omega) (by omega)), e1', zbi_s, cWorthOfEnd ho hW1 hp (by omega), zbi_s, nI_1, f1, e3, vSu_s]
theorem mSum (ho : Ok v) (hp : p < vP v) (hn : n < 100) : ∀ q i x B, i + q = n → zmw B v → zTab B v 0 → ∃ B', zM_seeds_3 (d + 4) (nI p) (nI n) x (nI i) B M = some (some (.int (vSu v p q x (B 63 46))), B', M) ∧ (∀ c, c ≠ 63 → B' c = B c) ∧ ∀ i, i ≠ 46 → B' 63 i = B 63 i := by
  intro q
  induction q with
  | zero =>
    intro i x B hi hw hT
    exact ⟨B, by rw [zM_seeds_3_q, if_pos (nI_le (by omega) (by omega)), zM_seeds_4_q]; rfl, fun _ _ => rfl, fun _ _ => rfl⟩
  | succ q ih =>
    intro i x B hi hw hT
    obtain ⟨B1, e1, e2, e3, e4⟩ := mDrawn (d := d) (M := M) ho 8 0 0 0 B (by omega) (by omega) (by omega) hw hT
    have hw1 : zmw B1 v := zmw_at hw (fun i a b => e3 i (by omega)) (fun c a b => e2 c (by omega))
    have hT1 : zTab B1 v 0 := zTab_of hT (fun c a b => e2 c (by omega))
    obtain ⟨B', f1, f2, f3⟩ := ih (i + 1) (x + vEw v p ((vSd v 8 (B 63 46) 0 0 0).1 % 128)) B1 (by omega) hw1 hT1
    refine ⟨B', ?_, fun c hc => by rw [f2 c hc, e2 c hc], fun j hj => by rw [f3 j hj, e3 j hj]⟩
    have e1' : zM_drawnEnd (d + 3) B M = some (some (.int (nI ((vSd v 8 (B 63 46) 0 0 0).1 % 128))), B1, M) := by
      rw [zM_drawnEnd_q]; exact e1
    rw [zM_seeds_3_q, if_neg (nI_ge (by omega) (by omega)), e1', zbi_s, mEndWorth hw1 hT1 ho.P.2 hp (Nat.mod_lt _ (by omega)), zbi_s, nI_1, f1, e4, vSu_s]
theorem zP_seeds (x y z : Int32) : zPr (zX_seeds (d + 70) x y z) (zM_seeds (d + 70) x y z) := by
  intro a A L h ha
  obtain ⟨v, hv⟩ : ∃ v, zv A = v := ⟨_, rfl⟩
  have ho := h.ok
  have hw := h.mw
  have hg := h.gone
  rw [hv] at ho hw
  rcases zOne ho x with hx | ⟨p, hp, rfl⟩
  · exact zPr_low (zNo1 h) (fun A1 n1 => by rw [zX_seeds_q, cNobody1 hv hx, zbi_s, if_neg (by decide), cWorthRef n1, zbi_s]) (fun A1 A2 n3 n4 => by rw [zM_seeds_q, mOne0 (zmw62 hw n4) hx, zbi_s, if_pos rfl, n3, zbi_s])
  have hX : zX_seeds (d + 70) (nI p) y z A L = zX_seeds_1 (d + 70) (nI p) y z A L := by
    rw [zX_seeds_q, cNobody0 ho hv hp, zbi_s, if_pos rfl]
  have hM : ∀ B, zmw B v → zM_seeds (d + 70) (nI p) y z B L = if (if y < 1 then -4 else if 20 < y then (-6 : Int32) else 0) = 0 then zM_seeds_2 (d + 70) (nI p) y z B L else zbi (zM_lower (d + 69) (if y < 1 then -4 else if 20 < y then (-6 : Int32) else 0) B L) (fun r2 A2 L2 => some (some (.int r2), A2, L2)) := fun B hwB => by
    rw [zM_seeds_q, mOne1 ho hwB hp, zbi_s, if_neg (by decide), zM_seeds_1_q, mBound, zbi_s]
  by_cases h1 : y < 1
  · exact zPr_low (zNo4 h) (fun A1 n1 => by rw [hX, zX_seeds_1_q, if_neg (Int32.not_le.mpr h1), cWorthRef n1, zbi_s]) (fun A1 A2 n3 n4 => by rw [hM A1 (zmw62 hw n4), if_pos h1, if_neg zi_nz4, n3, zbi_s])
  by_cases h20 : (20 : Int32) < y
  · exact zPr_low (zNo6 h) (fun A1 n1 => by rw [hX, zX_seeds_1_q, if_pos (Int32.not_lt.mp h1), zX_seeds_2_q, if_neg (Int32.not_le.mpr h20), cWorthRef n1, zbi_s]) (fun A1 A2 n3 n4 => by rw [hM A1 (zmw62 hw n4), if_neg h1, if_pos h20, if_neg zi_nz6, n3, zbi_s])
  obtain ⟨n, hn, rfl⟩ : ∃ n, n < 21 ∧ y = nI n := by
    rcases zIs_or y (b := 21) (by omega) with hh | hh | ⟨k, hk, e⟩
    · exfalso
      apply h1
      rw [Int32.lt_iff_toInt_lt] at hh ⊢
      rw [show (0 : Int32).toInt = 0 by decide] at hh
      rw [show (1 : Int32).toInt = 1 by decide]
      omega
    · exfalso
      apply h20
      rw [show (20 : Int32) = nI 20 from rfl, zlt_up (by omega)]
      exact hh
    · exact ⟨k, hk, e⟩
  obtain ⟨b, x1, x2⟩ := h.old
  obtain ⟨A0, r1, r2, r3, r4⟩ := cRenew' (d := d + 64) (L := L) ho hv x2 (by omega)
  obtain ⟨A1, hA1⟩ : ∃ A1, A1 = zput A0 55 2 z := ⟨_, rfl⟩
  have hv1 : zv A1 = v := by rw [hA1, zv_put (by decide), r4]
  have hW1 : zWt A1 v := by
    have hh := r3.2.2.2.2
    unfold zWt at *
    rw [hA1, zput_o (by decide)]
    exact hh
  obtain ⟨A2, c1, c2⟩ := cSum (d := d + 64) (L := L) (p := p) (n := n) ho hp (by omega) n 0 0 A1 (by omega) hv1 hW1
  have hcA : ∀ c, (c < 51 ∨ 55 < c) → A2 c = A c := fun c hc => by rw [c2 c (by omega), hA1, zput_o (by omega), r2 c (by omega)]
  have hw2 : zmw A2 v := zmw_of hw (fun c h1 h2 => hcA c (by omega))
  obtain ⟨B, m1, m2, m3⟩ := mTables (d := d + 67) (L := L) ho hw2 (g := 0) (by rw [hcA 63 (by omega)]; exact hg) (by decide)
  obtain ⟨B1, hB1⟩ : ∃ B1, B1 = zput B 63 46 z := ⟨_, rfl⟩
  have hT1 : zTab B1 v 0 := zTab_of m3 (fun c a b => by rw [hB1, zput_o (by omega)])
  have hwB : zmw B1 v := zmw_at hw2 (fun i a b => by rw [hB1, zput_s, upd_o (by omega), m2 63 (by omega)]) (fun c a b => by rw [hB1, zput_o (by omega), m2 c (by omega)])
  obtain ⟨B2, k1, k2, k3⟩ := mSum (d := d + 66) (M := L) (p := p) (n := n) ho hp (by omega) n 0 0 B1 (by omega) hwB hT1
  have hcB : ∀ c, c ≠ 63 → (c < 51 ∨ (55 < c ∧ c < 82) ∨ 85 < c) → B2 c = A c := fun c h1 h2 => by rw [k2 c h1, hB1, zput_o h1, m2 c (by omega), hcA c (by omega)]
  have h55 : A1 55 2 = z := by rw [hA1, zput_s, upd_s]
  have h46 : B1 63 46 = z := by rw [hB1, zput_s, upd_s]
  rw [h55] at c1
  rw [h46] at k1
  refine ⟨vSu v p n 0 z, A2, L, B2, L, ?_, ?_, RR_ps h ⟨fun c hc => hcB c (by omega) (by omega), fun c c1 c2 c3 => hcB c c3 (by omega), fun i hi => by rw [k3 i (by omega), hB1, zput_s, upd_o (by omega), m2 63 (by omega), hcA 63 (by omega)], fun j _ => by rw [hcB 81 (by decide) (by omega)], hcB 92 (by decide) (by omega)⟩ ⟨b + 1, by omega, ?_⟩⟩
  · have c1' : zB_sumOfTalks_1 (d + 69) (nI p) (nI n) 0 0 A1 L = some (some (.int (vSu v p n 0 z)), A2, L) := c1
    rw [hX, zX_seeds_1_q, if_pos (Int32.not_lt.mp h1), zX_seeds_2_q, if_pos (Int32.not_lt.mp h20), zX_seeds_3_q, zB_sumOfTalks_q, r1, zbv_s, ← hA1, c1', zbi_s]
  · have k1' : zM_seeds_3 (d + 70) (nI p) (nI n) 0 0 B1 L = some (some (.int (vSu v p n 0 z)), B2, L) := k1
    rw [hM A2 hw2, if_neg h1, if_neg h20, if_pos rfl, zM_seeds_2_q, m1, zbv_s, ← hB1, k1']
  · have e : ∀ c, c ≠ 55 → c ≠ 63 → (c < 82 ∨ 85 < c) → B2 c = A0 c := fun c h1 h2 h3 => by rw [k2 c h2, hB1, zput_o h2, m2 c (by omega), c2 c h1, hA1, zput_o h1]
    exact zOld_of r3.old (by rw [e 51 (by decide) (by decide) (by decide)]) (e 52 (by decide) (by decide) (by decide)) (e 53 (by decide) (by decide) (by decide))
end SE
