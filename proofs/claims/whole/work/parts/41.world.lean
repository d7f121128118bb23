/-! ===== the class's world as numbers ===== -/
/-- the cells of the world alone -/
def zv (A : zA) : zA := fun i => if i ≤ 16 then A i else fun _ => 0
theorem zv_c {A v : zA} (h : zv A = v) : ∀ c, c ≤ 16 → A c = v c := by
  intro c hc
  rw [← h]
  simp [zv, hc]
theorem zv_put {A : zA} {c k : Nat} {x : Int32} (h : 16 < c) : zv (zput A c k x) = zv A := by
  funext i
  unfold zv
  split
  · rw [zput_o (by omega)]
  · rfl
theorem zv_set {A : zA} {c : Nat} {f : Nat → Int32} (h : 16 < c) : zv (zset A c f) = zv A := by
  funext i
  unfold zv
  split
  · rw [zset_n (by omega)]
  · rfl
theorem zv_of {A B : zA} (h : ∀ c, c ≤ 16 → A c = B c) : zv A = zv B := by
  funext i
  unfold zv
  split
  · exact h i (by assumption)
  · rfl
def vR (v : zA) : Nat := (v 2 6).toNatClampNeg
def vEn (v : zA) (s : Nat) : Bool := (v 2 7).toNatClampNeg.testBit s
def vWf (v : zA) (s : Nat) : Nat := (v 8 s).toNatClampNeg
def vP (v : zA) : Nat := (v 9 4).toNatClampNeg
def vKd (v : zA) (p : Nat) : Nat := (v 10 p).toNatClampNeg
def vPw (v : zA) (p : Nat) : Nat := (v 11 p).toNatClampNeg
def vWo (v : zA) (p k : Nat) : Int32 := v 12 (6 * p + k)
def vLen (v : zA) : Nat := (v 1 3).toNatClampNeg
def vLoss (v : zA) : Int32 := v 1 4
def vTr (v : zA) (n : Nat) : Nat := (v 13 (n % vP v)).toNatClampNeg
def vMay (v : zA) (n s : Nat) : Nat := if vP v = 0 ∨ vLen v ≤ n then 0 else vPw v (vTr v n) &&& vWf v s
def vRu (v : zA) (s t : Nat) : Nat := (v 7 (8 * s + t)).toNatClampNeg
def vTo (v : zA) (s t : Nat) : Nat := (v 5 (vRu v s t)).toNatClampNeg
def vBit (x : Int32) : Nat := if x < 0 then 0 else 2 ^ x.toNatClampNeg
def vMk (v : zA) (s t : Nat) : Nat := vBit (v 6 (vRu v s t))
def vOpt (v : zA) (n s : Nat) : Nat := if vMay v n s = 0 then 0 else if vEn v s then vMay v n s ||| 256 else vMay v n s
/-- how many words were said, whether it was stopped, where the talk stands -/
def vSz (v : zA) : Nat := (v 14 2).toNatClampNeg
def vSp (v : zA) : Nat := (v 16 (vSz v)).toNatClampNeg
/-- a world that is as it can be -/
def Ok (v : zA) : Prop :=
  zIs 25 (v 2 6) ∧ zIs 256 (v 2 7) ∧
  (∀ r, r < 24 → zIs 8 (v 3 r) ∧ zIs 8 (v 4 r) ∧ zIs 8 (v 5 r) ∧ (v 6 r = -9 ∨ zIs 6 (v 6 r))) ∧
  (∀ r q, r < vR v → q < vR v → v 3 r = v 3 q → v 4 r = v 4 q → r = q) ∧
  (∀ i, i < 64 → zIs 24 (v 7 i)) ∧ (∀ s, s < 8 → zIs 256 (v 8 s)) ∧
  (∀ s t, s < 8 → t < 8 → ((vWf v s).testBit t = true ↔ vRu v s t < vR v ∧ v 3 (vRu v s t) = nI s ∧ v 4 (vRu v s t) = nI t)) ∧
  (∀ r, r < vR v → v 7 (8 * (v 3 r).toNatClampNeg + (v 4 r).toNatClampNeg) = nI r) ∧
  zIs 5 (v 9 4) ∧ (∀ p, p < 4 → zIs 7 (v 10 p) ∧ zIs 256 (v 11 p)) ∧ (∀ i, i < 24 → -9 ≤ (v 12 i).toInt ∧ (v 12 i).toInt ≤ 9) ∧
  (∀ i, i < 4 → zIs 4 (v 13 i)) ∧ (∀ i, i < vP v → zIs (vP v) (v 13 i)) ∧ (∀ i j, i < vP v → j < vP v → v 13 i = v 13 j → i = j) ∧
  zIs 9 (v 1 3) ∧ 0 < vLen v ∧ zIs 100 (v 1 4) ∧
  zIs 9 (v 14 2) ∧ (v 14 3 = 0 ∨ v 14 3 = 1) ∧ v 16 0 = 0 ∧
  (∀ i, i < vSz v → ∃ s m t, s < 8 ∧ m < 64 ∧ t < 8 ∧ v 16 i = nI (zsp i s m) ∧ v 15 i = nI t ∧ (vWf v s).testBit t = true ∧ v 16 (i + 1) = nI (zsp (i + 1) (vTo v s t) (m ^^^ vMk v s t)))
section OK
variable {v : zA} (ho : Ok v)
theorem Ok.R (ho : Ok v) : v 2 6 = nI (vR v) ∧ vR v < 25 := ho.1.clamp (by decide)
theorem Ok.ends (ho : Ok v) : v 2 7 = nI (v 2 7).toNatClampNeg ∧ (v 2 7).toNatClampNeg < 256 := ho.2.1.clamp (by decide)
theorem Ok.rule (ho : Ok v) {r : Nat} (h : r < 24) : zIs 8 (v 3 r) ∧ zIs 8 (v 4 r) ∧ zIs 8 (v 5 r) ∧ (v 6 r = -9 ∨ zIs 6 (v 6 r)) := ho.2.2.1 r h
theorem Ok.one (ho : Ok v) {r q : Nat} (h1 : r < vR v) (h2 : q < vR v) (h3 : v 3 r = v 3 q) (h4 : v 4 r = v 4 q) : r = q := ho.2.2.2.1 r q h1 h2 h3 h4
theorem Ok.ru (ho : Ok v) {s t : Nat} (hs : s < 8) (ht : t < 8) : v 7 (8 * s + t) = nI (vRu v s t) ∧ vRu v s t < 24 := (ho.2.2.2.2.1 (8 * s + t) (by omega)).clamp (by decide)
theorem Ok.wf (ho : Ok v) {s : Nat} (hs : s < 8) : v 8 s = nI (vWf v s) ∧ vWf v s < 256 := (ho.2.2.2.2.2.1 s hs).clamp (by decide)
theorem Ok.has (ho : Ok v) {s t : Nat} (hs : s < 8) (ht : t < 8) : (vWf v s).testBit t = true ↔ vRu v s t < vR v ∧ v 3 (vRu v s t) = nI s ∧ v 4 (vRu v s t) = nI t := ho.2.2.2.2.2.2.1 s t hs ht
theorem Ok.at (ho : Ok v) {r : Nat} (hr : r < vR v) : v 7 (8 * (v 3 r).toNatClampNeg + (v 4 r).toNatClampNeg) = nI r := ho.2.2.2.2.2.2.2.1 r hr
theorem Ok.P (ho : Ok v) : v 9 4 = nI (vP v) ∧ vP v < 5 := ho.2.2.2.2.2.2.2.2.1.clamp (by decide)
theorem Ok.kd (ho : Ok v) {p : Nat} (hp : p < 4) : v 10 p = nI (vKd v p) ∧ vKd v p < 7 := (ho.2.2.2.2.2.2.2.2.2.1 p hp).1.clamp (by decide)
theorem Ok.pw (ho : Ok v) {p : Nat} (hp : p < 4) : v 11 p = nI (vPw v p) ∧ vPw v p < 256 := (ho.2.2.2.2.2.2.2.2.2.1 p hp).2.clamp (by decide)
theorem Ok.wo (ho : Ok v) {i : Nat} (hi : i < 24) : -9 ≤ (v 12 i).toInt ∧ (v 12 i).toInt ≤ 9 := ho.2.2.2.2.2.2.2.2.2.2.1 i hi
theorem Ok.tu4 (ho : Ok v) {i : Nat} (hi : i < 4) : zIs 4 (v 13 i) := ho.2.2.2.2.2.2.2.2.2.2.2.1 i hi
theorem Ok.tu (ho : Ok v) {i : Nat} (hi : i < vP v) : zIs (vP v) (v 13 i) := ho.2.2.2.2.2.2.2.2.2.2.2.2.1 i hi
theorem Ok.tuinj (ho : Ok v) {i j : Nat} (hi : i < vP v) (hj : j < vP v) (h : v 13 i = v 13 j) : i = j := ho.2.2.2.2.2.2.2.2.2.2.2.2.2.1 i j hi hj h
theorem Ok.len (ho : Ok v) : v 1 3 = nI (vLen v) ∧ vLen v < 9 := ho.2.2.2.2.2.2.2.2.2.2.2.2.2.2.1.clamp (by decide)
theorem Ok.len0 (ho : Ok v) : 0 < vLen v := ho.2.2.2.2.2.2.2.2.2.2.2.2.2.2.2.1
theorem Ok.loss (ho : Ok v) : zIs 100 (v 1 4) := ho.2.2.2.2.2.2.2.2.2.2.2.2.2.2.2.2.1
theorem Ok.sz (ho : Ok v) : v 14 2 = nI (vSz v) ∧ vSz v < 9 := ho.2.2.2.2.2.2.2.2.2.2.2.2.2.2.2.2.2.1.clamp (by decide)
theorem Ok.stop (ho : Ok v) : v 14 3 = 0 ∨ v 14 3 = 1 := ho.2.2.2.2.2.2.2.2.2.2.2.2.2.2.2.2.2.2.1
theorem Ok.sp0 (ho : Ok v) : v 16 0 = 0 := ho.2.2.2.2.2.2.2.2.2.2.2.2.2.2.2.2.2.2.2.1
theorem Ok.said (ho : Ok v) {i : Nat} (hi : i < vSz v) : ∃ s m t, s < 8 ∧ m < 64 ∧ t < 8 ∧ v 16 i = nI (zsp i s m) ∧ v 15 i = nI t ∧ (vWf v s).testBit t = true ∧ v 16 (i + 1) = nI (zsp (i + 1) (vTo v s t) (m ^^^ vMk v s t)) := ho.2.2.2.2.2.2.2.2.2.2.2.2.2.2.2.2.2.2.2.2 i hi
theorem Ok.tr (ho : Ok v) (hp : 0 < vP v) (n : Nat) : v 13 (n % vP v) = nI (vTr v n) ∧ vTr v n < vP v := (ho.tu (Nat.mod_lt n hp)).clamp (by have := ho.P.2; omega)
theorem Ok.to (ho : Ok v) {s t : Nat} (hs : s < 8) (ht : t < 8) : v 5 (vRu v s t) = nI (vTo v s t) ∧ vTo v s t < 8 := (ho.rule (ho.ru hs ht).2).2.2.1.clamp (by decide)
theorem vBit_lt {x : Int32} (h : x = -9 ∨ zIs 6 x) : vBit x < 64 := by
  rcases h with rfl | ⟨n, hn, rfl⟩
  · decide
  · unfold vBit
    rw [if_neg (nI_pos (by omega)), nI_clamp (by omega)]
    have : n = 0 ∨ n = 1 ∨ n = 2 ∨ n = 3 ∨ n = 4 ∨ n = 5 := by omega
    rcases this with rfl | rfl | rfl | rfl | rfl | rfl <;> decide
theorem Ok.mk (ho : Ok v) {s t : Nat} (hs : s < 8) (ht : t < 8) : vMk v s t < 64 := vBit_lt (ho.rule (ho.ru hs ht).2).2.2.2
theorem Ok.xor {a b : Nat} (ha : a < 64) (hb : b < 64) : a ^^^ b < 64 := Nat.xor_lt_two_pow (n := 6) ha hb
theorem Ok.may (ho : Ok v) {n s : Nat} (hs : s < 8) : vMay v n s < 256 := by
  unfold vMay
  split
  · omega
  · exact Nat.and_lt_two_pow (n := 8) _ (ho.wf hs).2
theorem Ok.opt (ho : Ok v) {n s : Nat} (hs : s < 8) : vOpt v n s < 512 := by
  have h := ho.may (n := n) hs
  unfold vOpt
  split
  · omega
  · split
    · exact Nat.or_lt_two_pow (n := 9) (by omega) (by omega)
    · omega
/-- where the talk stands -/
theorem Ok.spot (ho : Ok v) : ∃ s m, s < 8 ∧ m < 64 ∧ v 16 (vSz v) = nI (zsp (vSz v) s m) := by
  rcases Nat.eq_zero_or_pos (vSz v) with h | h
  · exact ⟨0, 0, by omega, by omega, by rw [h, ho.sp0]; rfl⟩
  · obtain ⟨s, m, t, hs, hm, ht, -, -, -, h2⟩ := ho.said (i := vSz v - 1) (by omega)
    rw [show vSz v - 1 + 1 = vSz v by omega] at h2
    exact ⟨_, _, (ho.to hs ht).2, Ok.xor hm (ho.mk hs ht), h2⟩
end OK
section CW
variable {A v : zA} {L : zL} {d n s m t p : Nat}
theorem cState (hn : n < 65536) (hs : s < 8) (hm : m < 64) : zX_stateAt d (nI (zsp n s m)) A L = some (some (.int (nI s)), A, L) := by
  rw [zX_stateAt_q, show (6 : Int32) = nI 6 from rfl, zshr_n (by have := zsp_lt hn hs hm; omega) (by omega), nI_and7, show (2 : Nat) ^ 6 = 64 from rfl, zsp_s hs hm]
theorem cCount (hn : n < 65536) (hs : s < 8) (hm : m < 64) : zX_countAt d (nI (zsp n s m)) A L = some (some (.int (nI n)), A, L) := by
  rw [zX_countAt_q, show (9 : Int32) = nI 9 from rfl, zshr_n (by have := zsp_lt hn hs hm; omega) (by omega), show (2 : Nat) ^ 9 = 512 from rfl, zsp_n hs hm]
theorem cMean (hm : m < 64) : zX_meaningAt d (nI (zsp n s m)) A L = some (some (.int (nI m)), A, L) := by
  rw [zX_meaningAt_q, nI_and63, zsp_m hm]
theorem cSpotOf (hn : n < 65536) (hs : s < 8) (hm : m < 64) : zX_spotOf d (nI n) (nI s) (nI m) A L = some (some (.int (nI (zsp n s m))), A, L) := by
  rw [zX_spotOf_q, show (9 : Int32) = nI 9 from rfl, show (6 : Int32) = nI 6 from rfl, zshl_n (by omega) (by omega), zshl_n (by omega) (by omega), nI_or, nI_or, show n * 2 ^ 9 = 512 * n by omega, show s * 2 ^ 6 = 64 * s by omega, zsp_or hs hm]
theorem cEndOf {f : Int32} (hn : n < 65536) (hm : m < 64) : zX_endOf d (nI n) f (nI m) A L = some (some (.int (nI (128 * n + (if f = 0 then m else 64 + m)))), A, L) := by
  have h7 : zshl (nI n) 7 = nI (128 * n) := by
    rw [show (7 : Int32) = nI 7 from rfl, zshl_n (by omega) (by omega), show n * 2 ^ 7 = 128 * n by omega]
  rw [zX_endOf_q]
  split
  · rw [zX_endOf_1_q, zX_endOf_2_q, h7, show (0 : Int32) = nI 0 from rfl, nI_or, nI_or, Nat.or_zero, show 128 * n = 2 ^ 7 * n by omega, zor_add (k := 7) (by omega)]
  · rw [zX_endOf_2_q, h7, show (64 : Int32) = nI 64 from rfl, nI_or, nI_or, show 128 * n = 2 ^ 7 * n by omega, zor_add (k := 7) (by omega), show 2 ^ 7 * n + 64 = 2 ^ 6 * (2 * n + 1) by omega, zor_add (k := 6) hm]
    rw [show 2 ^ 6 * (2 * n + 1) + m = 2 ^ 7 * n + (64 + m) by omega]
theorem cIsState (hs : s < 8) : zG_isState d (nI s) A L = some (some (.int 1), A, L) := by
  rw [zG_isState_q, if_neg (nI_pos (by omega)), if_neg (nI_g8 hs), zG_isState_2_q, zcb_1]
theorem cIsEnd (ho : Ok v) (hv : zv A = v) (hs : s < 8) : zG_isEnd (d + 1) (nI s) A L = some (some (.int (if vEn v s then 1 else 0)), A, L) := by
  rw [zG_isEnd_q, cIsState hs, zbi_s, if_neg (by decide), zv_c hv 2 (by decide), ho.ends.1, zifc (zbit0 (by have := ho.ends.2; omega) (by omega))]
  unfold vEn
  cases (v 2 7).toNatClampNeg.testBit s
  · simp only [zG_isEnd_1_q, zG_isEnd_2_q, zcb_0, if_true]; rfl
  · simp only [zG_isEnd_2_q, zcb_1]; rfl
theorem cWordsFrom (ho : Ok v) (hv : zv A = v) (hs : s < 8) : zG_wordsFrom (d + 1) (nI s) A L = some (some (.int (nI (vWf v s))), A, L) := by
  rw [zG_wordsFrom_q, cIsState hs, zbi_s, if_neg (by decide), zck_n hs (by decide), zG_wordsFrom_2_q, nI_clamp (by omega), zv_c hv 8 (by decide), (ho.wf hs).1]
theorem cHas (ho : Ok v) (hv : zv A = v) (hp : p < vP v) : zP_has d (nI p) A L = some (some (.int 1), A, L) := by
  have h5 := ho.P.2
  rw [zP_has_q, if_neg (nI_pos (by omega)), zv_c hv 9 (by decide), ho.P.1, if_neg (nI_ge hp (by omega)), if_neg (nI_g4 (by omega)), zP_has_2_q, zcb_1]
theorem cKindOf (ho : Ok v) (hv : zv A = v) (hp : p < vP v) : zP_kindOf (d + 1) (nI p) A L = some (some (.int (nI (vKd v p))), A, L) := by
  have h5 := ho.P.2
  rw [zP_kindOf_q, cHas ho hv hp, zbi_s, if_neg (by decide), zck_n (by omega) (by decide), zP_kindOf_2_q, nI_clamp (by omega), zv_c hv 10 (by decide), (ho.kd (by omega)).1]
theorem cWordsOf (ho : Ok v) (hv : zv A = v) (hp : p < 4) : zP_wordsOf d (nI p) A L = some (some (.int (nI (vPw v p))), A, L) := by
  rw [zP_wordsOf_q, if_neg (nI_pos (by omega)), if_neg (nI_g4 (by omega)), zck_n (by omega) (by decide), zP_wordsOf_2_q, nI_clamp (by omega), zv_c hv 11 (by decide), (ho.pw hp).1]
theorem cAtTurn (ho : Ok v) (hv : zv A = v) (hn : n < 65536) (hp : 0 < vP v) : zP_atTurn d (nI n) A L = some (some (.int (nI (vTr v n))), A, L) := by
  have h5 := ho.P.2
  have hm : n % vP v < 4 := by have := Nat.mod_lt n hp; omega
  rw [zP_atTurn_q, zv_c hv 9 (by decide), ho.P.1, if_neg (nI_nle hp (by omega)), if_pos (nI_pos' (by omega)), zP_atTurn_2_q, zv_c hv 9 (by decide), ho.P.1, zcd_n hp (by omega), zrem_n (by omega) hp (by omega), if_neg (nI_g4 hm), zck_n hm (by decide), zP_atTurn_4_q, nI_clamp (by omega), zv_c hv 13 (by decide), (ho.tr hp n).1]
theorem cAtTurn0 (ho : Ok v) (hv : zv A = v) (hp : vP v = 0) (x : Int32) : zP_atTurn d x A L = some (some (.int (-9)), A, L) := by
  rw [zP_atTurn_q, zv_c hv 9 (by decide), ho.P.1, hp, if_pos (by decide), zP_atTurn_1_q]
theorem cWordsOf9 : zP_wordsOf d (-9) A L = some (some (.int 0), A, L) := by
  rw [zP_wordsOf_q, if_pos (by decide), zP_wordsOf_1_q, zP_wordsOf_2_q]
theorem cWordsAt (ho : Ok v) (hv : zv A = v) (hn : n < 65536) : zW_wordsAt (d + 1) (nI n) A L = some (some (.int (nI (if vP v = 0 ∨ vLen v ≤ n then 0 else vPw v (vTr v n)))), A, L) := by
  have h5 := ho.P.2
  have h9 := ho.len.2
  rw [zW_wordsAt_q, zv_c hv 1 (by decide), ho.len.1, zifi (nI_leI (by omega) (by omega))]
  by_cases h : vLen v ≤ n
  · rw [if_pos h, zW_wordsAt_1_q, zW_wordsAt_2_q, if_pos (Or.inr h)]; rfl
  · rw [if_neg h]
    rcases Nat.eq_zero_or_pos (vP v) with hp | hp
    · rw [cAtTurn0 ho hv hp, zbi_s, cWordsOf9, zbi_s, zW_wordsAt_2_q, if_pos (Or.inl hp)]; rfl
    · rw [cAtTurn ho hv hn hp, zbi_s, cWordsOf ho hv (by have := (ho.tr hp n).2; omega), zbi_s, zW_wordsAt_2_q, if_neg (by omega)]
theorem cOptions (ho : Ok v) (hv : zv A = v) (hn : n < 65536) (hs : s < 8) (hm : m < 64) : zW_options (d + 2) (nI (zsp n s m)) A L = some (some (.int (nI (vOpt v n s))), A, L) := by
  have he : (if vP v = 0 ∨ vLen v ≤ n then 0 else vPw v (vTr v n)) &&& vWf v s = vMay v n s := by
    unfold vMay
    split <;> simp
  have hb := ho.may (n := n) hs
  rw [zW_options_q, cState hn hs hm, zbi_s, cCount hn hs hm, zbi_s, cWordsAt ho hv hn, zbi_s, cWordsFrom ho hv hs, zbi_s, nI_and, he, show (0 : Int32) = nI 0 from rfl, zifi (nI_eq (by omega) (by omega))]
  unfold vOpt
  by_cases h0 : vMay v n s = 0
  · rw [if_pos h0, if_pos h0, zW_options_1_q, zW_options_2_q, h0]
  · rw [if_neg h0, if_neg h0, cIsEnd ho hv hs, zbi_s]
    cases vEn v s
    · rw [if_pos (by decide), zW_options_1_q, zW_options_2_q, if_neg (by decide)]
    · rw [if_neg (by decide), zW_options_2_q, show (256 : Int32) = nI 256 from rfl, nI_or, if_pos rfl]
theorem cSayer (ho : Ok v) (hv : zv A = v) (hn : n < 65536) (hs : s < 8) (hm : m < 64) (hp : 0 < vP v) : zW_sayer (d + 1) (nI (zsp n s m)) A L = some (some (.int (nI (vTr v n))), A, L) := by
  rw [zW_sayer_q, cCount hn hs hm, zbi_s, cAtTurn ho hv hn hp, zbi_s]
theorem cSpotBehind (ho : Ok v) (hv : zv A = v) (hn : n < 65535) (hs : s < 8) (hm : m < 64) (ht : t < 8) : zG_spotBehind (d + 1) (nI (zsp n s m)) (nI t) A L = some (some (.int (nI (zsp (n + 1) (vTo v s t) (m ^^^ vMk v s t)))), A, L) := by
  have hr := ho.ru hs ht
  have hix : nI s * 8 + nI t = nI (8 * s + t) := by rw [show (8 : Int32) = nI 8 from rfl, pk_mul, nI_add, Nat.mul_comm]
  rw [zG_spotBehind_q, cState (by omega) hs hm, zbi_s, if_neg (nI_pos (by omega)), if_neg (nI_g8 ht), hix, zck_n (by omega) (by decide), nI_clamp (by omega), zv_c hv 7 (by decide), hr.1, zG_spotBehind_2_q, if_neg (nI_pos (by omega)), if_pos (nI_l24 hr.2), zG_spotBehind_4_q, zck_n hr.2 (by decide), nI_clamp (by omega), zv_c hv 6 (by decide)]
  have hfin : ∀ b : Nat, b < 64 → b = vMk v s t → zG_spotBehind_6 (d + 1) (nI (zsp n s m)) (nI (vRu v s t)) (nI b) A L = some (some (.int (nI (zsp (n + 1) (vTo v s t) (m ^^^ vMk v s t)))), A, L) := by
    intro b hb hbe
    rw [zG_spotBehind_6_q, cCount (by omega) hs hm, zbi_s, zck_n hr.2 (by decide), cMean hm, zbi_s, nI_clamp (by omega), zv_c hv 5 (by decide), (ho.to hs ht).1, nI_xor, nI_1, hbe, cSpotOf (by omega) (ho.to hs ht).2 (Ok.xor hm (ho.mk hs ht)), zbi_s]
  rcases (ho.rule hr.2).2.2.2 with h6 | ⟨k, hk, h6⟩
  · rw [h6, if_neg (by decide)]
    exact hfin 0 (by omega) (by unfold vMk; rw [h6]; decide)
  · rw [h6, if_pos (nI_pos' (by omega)), zG_spotBehind_5_q, zck_n hr.2 (by decide), nI_clamp (by omega), zv_c hv 6 (by decide), h6, zpow (by omega)]
    have e : 2 ^ k = vMk v s t := by
      unfold vMk vBit
      rw [h6, if_neg (nI_pos (by omega)), nI_clamp (by omega)]
    exact hfin _ (by rw [e]; exact ho.mk hs ht) e
theorem cAfter (ho : Ok v) (hv : zv A = v) (hn : n < 65535) (hs : s < 8) (hm : m < 64) (ht : t < 8) : zW_after (d + 2) (nI (zsp n s m)) (nI t) A L = some (some (.int (nI (zsp (n + 1) (vTo v s t) (m ^^^ vMk v s t)))), A, L) := by
  rw [zW_after_q, cSpotBehind ho hv hn hs hm ht, zbi_s]
theorem cEndByStop (hn : n < 65536) (hs : s < 8) (hm : m < 64) : zW_endByStop (d + 1) (nI (zsp n s m)) A L = some (some (.int (nI (128 * n + m))), A, L) := by
  rw [zW_endByStop_q, cCount hn hs hm, zbi_s, cMean hm, zbi_s, cEndOf hn hm, zbi_s, if_pos rfl]
theorem cEndByItself (ho : Ok v) (hv : zv A = v) (hn : n < 65536) (hs : s < 8) (hm : m < 64) : zW_endByItself (d + 2) (nI (zsp n s m)) A L = some (some (.int (nI (128 * n + (if vEn v s then m else 64 + m)))), A, L) := by
  rw [zW_endByItself_q, cCount hn hs hm, zbi_s, cState hn hs hm, zbi_s, cIsEnd ho hv hs, zbi_s]
  cases vEn v s
  · rw [if_pos (by decide), zW_endByItself_2_q, cMean hm, zbi_s, cEndOf hn hm, zbi_s, if_neg (by decide), if_neg (by decide)]
  · rw [if_neg (by decide), zW_endByItself_1_q, zW_endByItself_2_q, cMean hm, zbi_s, cEndOf hn hm, zbi_s, if_pos rfl, if_pos rfl]
theorem cSpot (ho : Ok v) (hv : zv A = v) : zT_spot (d + 1) A L = some (some (.int (v 16 (vSz v))), A, L) := by
  have h9 := ho.sz.2
  rw [zT_spot_q, zv_c hv 14 (by decide), ho.sz.1, zT_spotBefore_q, if_neg (nI_pos (by omega)), if_neg (nI_n8 (by omega)), zck_n (by omega) (by decide), zT_spotBefore_2_q, zbi_s, nI_clamp (by omega), zv_c hv 16 (by decide)]
theorem cSpotBefore (ho : Ok v) (hv : zv A = v) {i : Nat} (hi : i < 9) : zT_spotBefore d (nI i) A L = some (some (.int (v 16 i)), A, L) := by
  rw [zT_spotBefore_q, if_neg (nI_pos (by omega)), if_neg (nI_n8 (by omega)), zck_n (by omega) (by decide), zT_spotBefore_2_q, nI_clamp (by omega), zv_c hv 16 (by decide)]
end CW
