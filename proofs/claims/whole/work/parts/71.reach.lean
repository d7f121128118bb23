/-! ===== all that can be meant: the spec, the model's table ===== -/
def vRm (v : zA) (x : Nat) : Nat → Nat → Nat → Nat → Bool
  | 0, _, s, m => vEn v s && decide (x = m)
  | f + 1, n, s, m => (vEn v s && decide (x = m)) || (List.range 8).any (fun t => (vMg v 0 n s).testBit t && vRm v x f (n + 1) (vTo v s t) (m ^^^ vMk v s t))
theorem vRm_s {v : zA} {x f n s m : Nat} : vRm v x (f + 1) n s m = ((vEn v s && decide (x = m)) || (List.range 8).any (fun t => (vMg v 0 n s).testBit t && vRm v x f (n + 1) (vTo v s t) (m ^^^ vMk v s t))) := rfl
def vRs (v : zA) : Nat → Nat → Nat → Bool
  | 0, _, s => !vEn v s
  | f + 1, n, s => (decide (vMg v 0 n s = 0) && !vEn v s) || (List.range 8).any (fun t => (vMg v 0 n s).testBit t && vRs v f (n + 1) (vTo v s t))
theorem vRs_s {v : zA} {f n s : Nat} : vRs v (f + 1) n s = ((decide (vMg v 0 n s = 0) && !vEn v s) || (List.range 8).any (fun t => (vMg v 0 n s).testBit t && vRs v f (n + 1) (vTo v s t))) := rfl
theorem zany_s {f : Nat → Bool} {t : Nat} : (List.range (t + 1)).any f = ((List.range t).any f || f t) := by
  rw [List.range_succ, List.any_append, List.any_cons, List.any_nil, Bool.or_false]
/-- one place of the model's table -/
def zMe (v A : zA) (L : zL) (n s m : Nat) : Prop := (∀ x, x < 64 → lb (L 90 (zsp n s m)) x = vRm v x (9 - n) n s m) ∧ A 91 (zsp n s m) = if vRs v (9 - n) n s then 1 else 0
section RM
variable {v : zA} {d n s m : Nat}
/-- the words of one place -/
theorem mMeant8 {X : Nat → Nat → Bool} {Y : Nat → Bool} {b1 : Nat → Bool} {b2 : Bool} (ho : Ok v) (hn : n < 8) (hs : s < 8) (hm : m < 64) : ∀ k t A L, t + k = 8 → zTab A v 0 →
    (∀ t, t < 8 → (vMg v 0 n s).testBit t = true → (∀ x, x < 64 → lb (L 90 (zsp (n + 1) (vTo v s t) (m ^^^ vMk v s t))) x = X t x) ∧ A 91 (zsp (n + 1) (vTo v s t) (m ^^^ vMk v s t)) = if Y t then 1 else 0) →
    (∀ x, x < 64 → lb (L 90 (zsp n s m)) x = (b1 x || (List.range t).any (fun t => (vMg v 0 n s).testBit t && X t x))) → A 91 (zsp n s m) = (if b2 || (List.range t).any (fun t => (vMg v 0 n s).testBit t && Y t) then 1 else 0) →
    ∃ A' L', zM_fillMeant_8 (d + 2) (nI n) (nI s) (nI m) (nI (zsp n s m)) (nI (vMg v 0 n s)) (nI t) A L = zM_fillMeant_3 (d + 2) (nI n) (nI s) (nI (m + 1)) A' L' ∧ (∀ c, c ≠ 91 → A' c = A c) ∧ (∀ c, c ≠ 90 → L' c = L c) ∧ (∀ i, i ≠ zsp n s m → A' 91 i = A 91 i ∧ L' 90 i = L 90 i) ∧
      (∀ x, x < 64 → lb (L' 90 (zsp n s m)) x = (b1 x || (List.range 8).any (fun t => (vMg v 0 n s).testBit t && X t x))) ∧ A' 91 (zsp n s m) = (if b2 || (List.range 8).any (fun t => (vMg v 0 n s).testBit t && Y t) then 1 else 0) := by
  have hmay := vMg_lt v 0 n s
  have hsp : zsp n s m < 4608 := zsp_lt (b := 9) (by omega) hs hm
  intro k
  induction k with
  | zero =>
    intro t A L ht hT hX h1 h2
    have et : t = 8 := by omega
    subst et
    refine ⟨A, L, ?_, fun _ _ => rfl, fun _ _ => rfl, fun _ _ => ⟨rfl, rfl⟩, h1, h2⟩
    rw [zM_fillMeant_8_q, if_pos (by decide), zM_fillMeant_14_q, nI_1]
  | succ k ih =>
    intro t A L ht hT hX h1 h2
    have ht8 : t < 8 := by omega
    cases hb : (vMg v 0 n s).testBit t with
    | false =>
      obtain ⟨A', L', e1, e2, e3, e4, e5, e6⟩ := ih (t + 1) A L (by omega) hT hX (fun x hx => by rw [zany_s, hb, Bool.false_and, Bool.or_false]; exact h1 x hx) (by rw [zany_s, hb, Bool.false_and, Bool.or_false]; exact h2)
      refine ⟨A', L', ?_, e2, e3, e4, e5, e6⟩
      rw [zM_fillMeant_8_q, if_neg (nI_g8 ht8), zifc (zbit0 (by omega) (by omega)), if_pos hb, zM_fillMeant_13_q, nI_1]
      exact e1
    | true =>
      obtain ⟨x1, x2⟩ := hX t ht8 hb
      have hto := (ho.to hs ht8).2
      have hmk := Ok.xor hm (ho.mk hs ht8)
      have hsp2 : zsp (n + 1) (vTo v s t) (m ^^^ vMk v s t) < 4608 := zsp_lt (b := 9) (by omega) hto hmk
      have hne : ∀ s' m', s' < 8 → m' < 64 → zsp (n + 1) s' m' ≠ zsp n s m := fun s' m' a b e => by
        obtain ⟨e1, -⟩ := zsp_inj a b hs hm e
        omega
      have key : ∀ y : Int64, (∀ x, x < 64 → lb y x = (lb (L 90 (zsp n s m)) x || X t x)) → ∀ z : Bool, z = (b2 || (List.range (t + 1)).any (fun t => (vMg v 0 n s).testBit t && Y t)) → ∃ A' L', zM_fillMeant_12 (d + 2) (nI n) (nI s) (nI m) (nI (zsp n s m)) (nI (vMg v 0 n s)) (nI t) (nI (zsp n s m)) (if z then 1 else 0) A (zputL L 90 (zsp n s m) y) = zM_fillMeant_3 (d + 2) (nI n) (nI s) (nI (m + 1)) A' L' ∧ (∀ c, c ≠ 91 → A' c = A c) ∧ (∀ c, c ≠ 90 → L' c = L c) ∧ (∀ i, i ≠ zsp n s m → A' 91 i = A 91 i ∧ L' 90 i = L 90 i) ∧
      (∀ x, x < 64 → lb (L' 90 (zsp n s m)) x = (b1 x || (List.range 8).any (fun t => (vMg v 0 n s).testBit t && X t x))) ∧ A' 91 (zsp n s m) = (if b2 || (List.range 8).any (fun t => (vMg v 0 n s).testBit t && Y t) then 1 else 0) := by
        intro y hy z hz
        obtain ⟨A', L', e1, e2, e3, e4, e5, e6⟩ := ih (t + 1) (zput A 91 (zsp n s m) (if z then 1 else 0)) (zputL L 90 (zsp n s m) y) (by omega) (zTab_of hT (fun c h1 h2 => zput_o (by omega))) (fun t' ht' hb' => by
          obtain ⟨a1, a2⟩ := hX t' ht' hb'
          have hne' := hne _ _ (ho.to hs ht').2 (Ok.xor hm (ho.mk hs ht'))
          rw [zputL_s, updL_o hne', zput_s, upd_o hne']
          exact ⟨a1, a2⟩) (fun x hx => by rw [zputL_s, updL_s, hy x hx, h1 x hx, zany_s, hb, Bool.true_and, Bool.or_assoc]) (by rw [zput_s, upd_s, hz])
        refine ⟨A', L', ?_, fun c hc => by rw [e2 c hc, zput_o hc], fun c hc => by rw [e3 c hc, zputL_o hc], fun i hi => by rw [(e4 i hi).1, (e4 i hi).2, zput_s, upd_o hi, zputL_s, updL_o hi]; exact ⟨rfl, rfl⟩, e5, e6⟩
        rw [zM_fillMeant_12_q, zck_n (by omega) (by decide), nI_clamp (by omega), zM_fillMeant_13_q, nI_1]
        cases z
        · rw [ite_ft] at e1 ⊢; rw [zcb_0]; exact e1
        · rw [ite_tt] at e1 ⊢; rw [zcb_1]; exact e1
      have ha := fun A L (hT : zTab A v 0) => mAfterWord (A := A) (L := L) (d := d) (n := n) (m := m) ho hT hs ht8 (vMg_g hb)
      rw [zM_fillMeant_8_q, if_neg (nI_g8 ht8), zifc (zbit0 (by omega) (by omega)), hb, if_neg (by decide), zM_fillMeant_9_q, zck_n (by omega) (by decide), ha A L hT, zbi_s, zck_n (by omega) (by decide), zck_n (by omega) (by decide), zck_n (by omega) (by decide), nI_clamp (by omega), nI_clamp (by omega)]
      have key' := key (L 90 (zsp n s m) ||| L 90 (zsp (n + 1) (vTo v s t) (m ^^^ vMk v s t))) (fun x hx => by rw [lb_or, x1 x hx])
      have hz2 : A 91 (zsp n s m) = 0 → (b2 || (List.range t).any (fun t => (vMg v 0 n s).testBit t && Y t)) = false := fun h => by
        rw [h2] at h
        cases hc : (b2 || (List.range t).any (fun t => (vMg v 0 n s).testBit t && Y t)) with
        | false => rfl
        | true => rw [hc, ite_tt] at h; exact absurd h (by decide)
      have hz3 : ¬ A 91 (zsp n s m) = 0 → (b2 || (List.range t).any (fun t => (vMg v 0 n s).testBit t && Y t)) = true := fun h => by
        rw [h2] at h
        cases hc : (b2 || (List.range t).any (fun t => (vMg v 0 n s).testBit t && Y t)) with
        | true => rfl
        | false => rw [hc, ite_ft] at h; exact absurd rfl h
      have hzz : (b2 || (List.range (t + 1)).any (fun t => (vMg v 0 n s).testBit t && Y t)) = ((b2 || (List.range t).any (fun t => (vMg v 0 n s).testBit t && Y t)) || Y t) := by
        rw [zany_s, hb, Bool.true_and, Bool.or_assoc]
      by_cases h91 : A 91 (zsp n s m) = 0
      · rw [if_pos h91, ha _ _ hT, zbi_s, zck_n (by omega) (by decide), nI_clamp (by omega), x2]
        cases hY : Y t with
        | false =>
          rw [ite_ft, if_pos rfl, zM_fillMeant_11_q]
          have := key' false (by rw [hzz, hz2 h91, hY]; rfl)
          rw [ite_ft] at this; exact this
        | true =>
          rw [ite_tt, if_neg (by decide), zM_fillMeant_10_q]
          have := key' true (by rw [hzz, hz2 h91, hY]; rfl)
          rw [ite_tt] at this; exact this
      · rw [if_neg h91, zM_fillMeant_10_q]
        have := key' true (by rw [hzz, hz3 h91]; rfl)
        rw [ite_tt] at this; exact this
/-- one place is filled -/
theorem mMeant3 {A : zA} {L : zL} (ho : Ok v) (hw : zmw A v) (hT : zTab A v 0) (hn : n ≤ 8) (hs : s < 8) (hm : m < 64) (hX : ∀ s m, s < 8 → m < 64 → n < 8 → zMe v A L (n + 1) s m) :
    ∃ A' L', zM_fillMeant_3 (d + 2) (nI n) (nI s) (nI m) A L = zM_fillMeant_3 (d + 2) (nI n) (nI s) (nI (m + 1)) A' L' ∧ (∀ c, c ≠ 91 → A' c = A c) ∧ (∀ c, c ≠ 90 → L' c = L c) ∧ (∀ i, i ≠ zsp n s m → A' 91 i = A 91 i ∧ L' 90 i = L 90 i) ∧ zMe v A' L' n s m := by
  have hsp : zsp n s m < 4608 := zsp_lt (b := 9) (by omega) hs hm
  have hmay := vMg_lt v 0 n s
  have h9 := ho.len.2
  have hne : ∀ s' m', s' < 8 → m' < 64 → zsp (n + 1) s' m' ≠ zsp n s m := fun s' m' a b e => by
    obtain ⟨e1, -⟩ := zsp_inj a b hs hm e
    omega
  -- what the words do
  have h8 : ∀ (A1 : zA) (L1 : zL), (∀ c, c ≠ 91 → A1 c = A c) → (∀ c, c ≠ 90 → L1 c = L c) → (∀ i, i ≠ zsp n s m → A1 91 i = A 91 i ∧ L1 90 i = L 90 i) → (∀ x, x < 64 → lb (L1 90 (zsp n s m)) x = (vEn v s && decide (x = m))) → A1 91 (zsp n s m) = (if decide (vMg v 0 n s = 0) && !vEn v s then 1 else 0) →
      ∃ A' L', zM_fillMeant_8 (d + 2) (nI n) (nI s) (nI m) (nI (zsp n s m)) (nI (vMg v 0 n s)) (nI 0) A1 L1 = zM_fillMeant_3 (d + 2) (nI n) (nI s) (nI (m + 1)) A' L' ∧ (∀ c, c ≠ 91 → A' c = A c) ∧ (∀ c, c ≠ 90 → L' c = L c) ∧ (∀ i, i ≠ zsp n s m → A' 91 i = A 91 i ∧ L' 90 i = L 90 i) ∧ zMe v A' L' n s m := by
    intro A1 L1 g1 g2 g3 g4 g5
    by_cases hn8 : n < 8
    · obtain ⟨A', L', e1, e2, e3, e4, e5, e6⟩ := mMeant8 (d := d) (X := fun t x => vRm v x (8 - n) (n + 1) (vTo v s t) (m ^^^ vMk v s t)) (Y := fun t => vRs v (8 - n) (n + 1) (vTo v s t)) (b1 := fun x => vEn v s && decide (x = m)) (b2 := decide (vMg v 0 n s = 0) && !vEn v s) ho hn8 hs hm 8 0 A1 L1 (by omega) (zTab_of hT (fun c h1 h2 => g1 c (by omega))) (fun t ht hb => by
        have hto := (ho.to hs ht).2
        have hmk := Ok.xor hm (ho.mk hs ht)
        obtain ⟨a1, a2⟩ := hX _ _ hto hmk hn8
        rw [show 9 - (n + 1) = 8 - n by omega] at a1 a2
        obtain ⟨b1, b2⟩ := g3 _ (hne _ _ hto hmk)
        rw [b1, b2]
        exact ⟨a1, a2⟩) (fun x hx => by rw [g4 x hx]; simp) (by rw [g5]; simp)
      refine ⟨A', L', e1, fun c hc => by rw [e2 c hc, g1 c hc], fun c hc => by rw [e3 c hc, g2 c hc], fun i hi => by rw [(e4 i hi).1, (e4 i hi).2]; exact g3 i hi, fun x hx => ?_, ?_⟩
      · rw [e5 x hx, show 9 - n = (8 - n) + 1 by omega, vRm_s]
      · rw [e6, show 9 - n = (8 - n) + 1 by omega, vRs_s]
    · have h0 : vMg v 0 n s = 0 := by
        unfold vMg
        rw [if_pos (Or.inr (by omega))]
      have hl : ∀ k t, t + k = 8 → zM_fillMeant_8 (d + 2) (nI n) (nI s) (nI m) (nI (zsp n s m)) (nI 0) (nI t) A1 L1 = zM_fillMeant_3 (d + 2) (nI n) (nI s) (nI (m + 1)) A1 L1 := by
        intro k
        induction k with
        | zero =>
          intro t ht
          have et : t = 8 := by omega
          subst et
          rw [zM_fillMeant_8_q, if_pos (by decide), zM_fillMeant_14_q, nI_1]
        | succ k ih =>
          intro t ht
          rw [zM_fillMeant_8_q, if_neg (nI_g8 (by omega)), zifc (zbit0 (by omega) (by omega)), if_pos (Nat.zero_testBit t), zM_fillMeant_13_q, nI_1]
          exact ih (t + 1) (by omega)
      rw [h0]
      have e9 : 9 - n = 0 + 1 := by omega
      refine ⟨A1, L1, hl 8 0 (by omega), g1, g2, g3, fun x hx => ?_, ?_⟩
      · rw [g4 x hx, e9, vRm_s, h0]; simp
      · rw [g5, e9, vRs_s, h0]; simp
  -- the beginning of a place
  have h7 : ∀ (L1 : zL), (∀ c, c ≠ 90 → L1 c = L c) → (∀ i, i ≠ zsp n s m → L1 90 i = L 90 i) → (∀ x, x < 64 → lb (L1 90 (zsp n s m)) x = (vEn v s && decide (x = m))) → ∀ z : Bool, z = (decide (vMg v 0 n s = 0) && !vEn v s) →
      ∃ A' L', zM_fillMeant_7 (d + 2) (nI n) (nI s) (nI m) (nI (zsp n s m)) (nI (vMg v 0 n s)) (nI (zsp n s m)) (if z then 1 else 0) A L1 = zM_fillMeant_3 (d + 2) (nI n) (nI s) (nI (m + 1)) A' L' ∧ (∀ c, c ≠ 91 → A' c = A c) ∧ (∀ c, c ≠ 90 → L' c = L c) ∧ (∀ i, i ≠ zsp n s m → A' 91 i = A 91 i ∧ L' 90 i = L 90 i) ∧ zMe v A' L' n s m := by
    intro L1 g1 g2 g3 z hz
    have h := h8 (zput A 91 (zsp n s m) (if z then 1 else 0)) L1 (fun c hc => zput_o hc) g1 (fun i hi => ⟨by rw [zput_s, upd_o hi], g2 i hi⟩) g3 (by rw [zput_s, upd_s, hz])
    rw [zM_fillMeant_7_q, zck_n (by omega) (by decide), nI_clamp (by omega), show (0 : Int32) = nI 0 from rfl]
    cases z
    · rw [ite_ft] at h ⊢; rw [show nI 0 = (0 : Int32) from rfl, zcb_0]; exact h
    · rw [ite_tt] at h ⊢; rw [zcb_1]; exact h
  have h5 : ∀ y : Int64, (∀ x, x < 64 → lb y x = (vEn v s && decide (x = m))) → ∃ A' L', zM_fillMeant_5 (d + 2) (nI n) (nI s) (nI m) (nI (zsp n s m)) (nI (vMg v 0 n s)) (nI (zsp n s m)) y A L = zM_fillMeant_3 (d + 2) (nI n) (nI s) (nI (m + 1)) A' L' ∧ (∀ c, c ≠ 91 → A' c = A c) ∧ (∀ c, c ≠ 90 → L' c = L c) ∧ (∀ i, i ≠ zsp n s m → A' 91 i = A 91 i ∧ L' 90 i = L 90 i) ∧ zMe v A' L' n s m := by
    intro y hy
    have h := h7 (zputL L 90 (zsp n s m) y) (fun c hc => zputL_o hc) (fun i hi => by rw [zputL_s, updL_o hi]) (fun x hx => by rw [zputL_s, updL_s]; exact hy x hx)
    rw [zM_fillMeant_5_q, zck_n (by omega) (by decide), nI_clamp (by omega), show (0 : Int32) = nI 0 from rfl, zifi (nI_eq (by omega) (by omega)), show nI 0 = (0 : Int32) from rfl, mIsEnd ho hw hs, zbi_s]
    by_cases h0 : vMg v 0 n s = 0
    · rw [if_pos h0]
      cases he : vEn v s with
      | false =>
        rw [ite_ft, if_pos rfl]
        have := h true (by rw [he, decide_eq_true h0]; rfl)
        rw [ite_tt] at this
        exact this
      | true =>
        rw [ite_tt, if_neg (by decide), zM_fillMeant_6_q]
        have := h false (by rw [he]; simp)
        rw [ite_ft] at this
        exact this
    · rw [if_neg h0, zM_fillMeant_6_q]
      have := h false (by rw [decide_eq_false h0]; rfl)
      rw [ite_ft] at this
      exact this
  rw [zM_fillMeant_3_q, if_neg (nI_g64 hm), mPlaceAt, zbi_s, mMayAt ho hw hT (by omega) hs, zbi_s, mIsEnd ho hw hs, zbi_s]
  cases he : vEn v s with
  | false =>
    rw [ite_ft, if_pos rfl, zM_fillMeant_4_q]
    exact h5 0 (fun x hx => by rw [lb_0, he]; rfl)
  | true =>
    rw [ite_tt, if_neg (by decide)]
    exact h5 _ (fun x hx => by rw [lb_pow hm hx, he]; rfl)
theorem mFillMeant {A0 : zA} {L0 : zL} (ho : Ok v) (hw : zmw A0 v) (hg : A0 63 33 = 0) : ∃ A' L', zM_fillMeant (d + 3) A0 L0 = some (none, A', L') ∧ (∀ c, (c < 82 ∨ 85 < c) → c ≠ 91 → A' c = A0 c) ∧ (∀ c, c ≠ 90 → L' c = L0 c) ∧ ∀ n s m, n ≤ 8 → s < 8 → m < 64 → zMe v A' L' n s m := by
  obtain ⟨B, b1, b2, b3⟩ := mTables (d := d) (L := L0) (g := 0) ho hw hg (by decide)
  have hwB : zmw B v := zmw_of hw (fun c h1 h2 => b2 c (by omega))
  have key := zLoop3 (σ := zA × zL) (fun y x => zM_fillMeant_1 (d + 3) y x.1 x.2) (fun y z x => zM_fillMeant_2 (d + 3) y z x.1 x.2) (fun y z w x => zM_fillMeant_3 (d + 3) y z w x.1 x.2) (fun x => some (none, x.1, x.2))
    (fun P x => (∀ c, c ≠ 91 → x.1 c = B c) ∧ (∀ c, c ≠ 90 → x.2 c = L0 c) ∧ ∀ n s m, n ≤ 8 → s < 8 → m < 64 → P n s m → zMe v x.1 x.2 n s m)
    (fun P Q A hPQ h => ⟨h.1, h.2.1, fun n s m hn hs hm hq => h.2.2 n s m hn hs hm (hPQ n s m hn hs hm hq)⟩)
    (fun n A hn => by
      show zM_fillMeant_1 _ _ _ _ = zM_fillMeant_2 _ _ _ _ _
      rw [zM_fillMeant_1_q, if_neg (nI_pos (by omega))]; rfl)
    (fun A => by
      show zM_fillMeant_1 _ _ _ _ = _
      rw [zM_fillMeant_1_q, if_pos (by decide), zM_fillMeant_17_q])
    (fun n s A hs => by
      show zM_fillMeant_2 _ _ _ _ _ = zM_fillMeant_3 _ _ _ _ _ _
      rw [zM_fillMeant_2_q, if_neg (nI_g8 hs)]; rfl)
    (fun n A => by
      show zM_fillMeant_2 _ _ _ _ _ = zM_fillMeant_1 _ _ _ _
      rw [zM_fillMeant_2_q, if_pos (by decide), zM_fillMeant_16_q])
    (fun n s A => by
      show zM_fillMeant_3 _ _ _ _ _ _ = zM_fillMeant_2 _ _ _ _ _
      rw [zM_fillMeant_3_q, if_pos (by decide), zM_fillMeant_15_q, nI_1])
    (fun n s m A hn hs hm hI => by
      show ∃ y : zA × zL, zM_fillMeant_3 _ _ _ _ _ _ = zM_fillMeant_3 _ _ _ _ _ _ ∧ _
      obtain ⟨hF, hH, hG⟩ := hI
      obtain ⟨A', L', e1, e2, e3, e4, e5⟩ := mMeant3 (d := d + 1) (A := A.1) (L := A.2) ho (zmw_of hwB (fun c h1 h2 => hF c (by omega))) (zTab_of b3 (fun c h1 h2 => hF c (by omega))) hn hs hm (fun s' m' hs' hm' hn8 => hG _ _ _ (by omega) hs' hm' (Or.inl (Nat.lt_succ_self n)))
      refine ⟨(A', L'), e1, fun c hc => (e2 c hc).trans (hF c hc), fun c hc => (e3 c hc).trans (hH c hc), fun n' s' m' hn' hs' hm' hP => ?_⟩
      by_cases e : zsp n' s' m' = zsp n s m
      · obtain ⟨x1, x2, x3⟩ := zsp_inj hs' hm' hs hm e
        subst x1; subst x2; subst x3
        exact e5
      · obtain ⟨f1, f2⟩ := e4 _ e
        unfold zMe
        show (∀ x, x < 64 → lb (L' 90 (zsp n' s' m')) x = _) ∧ A' 91 (zsp n' s' m') = _
        rw [f1, f2]
        refine hG n' s' m' hn' hs' hm' ?_
        rcases hP with hP | ⟨x1, x2, x3⟩
        · exact hP
        · subst x1; subst x2; subst x3; exact absurd rfl e)
    (B, L0) ⟨fun _ _ => rfl, fun _ _ => rfl, fun _ _ _ _ _ _ h => h.elim⟩
  obtain ⟨⟨A', L'⟩, e, h1, h2, h3⟩ := key
  refine ⟨A', L', ?_, fun c hc hc' => (h1 c hc').trans (b2 c hc), h2, fun n s m hn hs hm => h3 n s m hn hs hm trivial⟩
  rw [zM_fillMeant_q, b1, zbv_s, show (8 : Int32) = nI 8 from rfl]
  exact e
end RM
