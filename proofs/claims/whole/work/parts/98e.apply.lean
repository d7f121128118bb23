/-! ===== statements applied: a rule ===== -/
/-- the reader's trial world as a world -/
def zvt (A : zA) : zA := fun i => if i ≤ 16 then A (i + 34) else fun _ => 0
theorem zvt_c {A : zA} {c : Nat} (h : c ≤ 16) : zvt A c = A (c + 34) := if_pos h
/-- behind their places the rows are as before -/
def zTl (v w : zA) : Prop := (∀ c i, (c = 3 ∨ c = 4 ∨ c = 5 ∨ c = 6 ∨ c = 12) → 24 ≤ i → w c i = v c i) ∧ (∀ c i, (c = 10 ∨ c = 11 ∨ c = 13) → 4 ≤ i → w c i = v c i) ∧ ∀ c, 14 ≤ c → c ≤ 16 → w c = v c
theorem zTl.rf (v : zA) : zTl v v := ⟨fun _ _ _ _ => rfl, fun _ _ _ _ => rfl, fun _ _ _ => rfl⟩
theorem zTl.tr {u v w : zA} (h1 : zTl u v) (h2 : zTl v w) : zTl u w := ⟨fun c i a b => by rw [h2.1 c i a b, h1.1 c i a b], fun c i a b => by rw [h2.2.1 c i a b, h1.2.1 c i a b], fun c a b => by rw [h2.2.2 c a b, h1.2.2 c a b]⟩
theorem upd_c {f g : Nat → Int32} {k j : Nat} {x : Int32} (h : f j = g j) : upd f k x j = upd g k x j := by
  unfold upd
  split
  · rfl
  · exact h
/-- a world with a rule more -/
def vAr (w : zA) (s t u : Nat) (m : Int32) : zA := fun c => if c = 2 then upd (w 2) 6 (nI (vR w + 1)) else if c = 3 then upd (w 3) (vR w) (nI s) else if c = 4 then upd (w 4) (vR w) (nI t) else if c = 5 then upd (w 5) (vR w) (nI u) else if c = 6 then upd (w 6) (vR w) m else if c = 7 then upd (w 7) (8 * s + t) (nI (vR w)) else if c = 8 then upd (w 8) s (nI (vWf w s ||| 2 ^ t)) else w c
section AR
variable {d n a b k s t u p : Nat} {A A' A0 B v w : zA} {L M : zL} {T : Nat → Int32} {x m : Int32}
theorem vAr_2 : vAr w s t u m 2 = upd (w 2) 6 (nI (vR w + 1)) := rfl
theorem vAr_3 : vAr w s t u m 3 = upd (w 3) (vR w) (nI s) := rfl
theorem vAr_4 : vAr w s t u m 4 = upd (w 4) (vR w) (nI t) := rfl
theorem vAr_5 : vAr w s t u m 5 = upd (w 5) (vR w) (nI u) := rfl
theorem vAr_6 : vAr w s t u m 6 = upd (w 6) (vR w) m := rfl
theorem vAr_7 : vAr w s t u m 7 = upd (w 7) (8 * s + t) (nI (vR w)) := rfl
theorem vAr_8 : vAr w s t u m 8 = upd (w 8) s (nI (vWf w s ||| 2 ^ t)) := rfl
theorem vAr_o {c : Nat} (h : c < 2 ∨ 8 < c) : vAr w s t u m c = w c := by
  unfold vAr
  rw [if_neg (by omega), if_neg (by omega), if_neg (by omega), if_neg (by omega), if_neg (by omega), if_neg (by omega), if_neg (by omega)]
theorem vWf_of {c : Nat} (h : w 8 s = nI c) (hc : c < 2 ^ 31) : vWf w s = c := by unfold vWf; rw [h, nI_clamp hc]
theorem Ok_ar (ho : Ok w) (h0 : vSz w = 0) (hs : s < 8) (ht : t < 8) (hu : u < 8) (hm : m = -9 ∨ zIs 6 m) (hR : vR w < 24) (hb : (vWf w s).testBit t = false) : Ok (vAr w s t u m) := by
  have ho' := ho
  obtain ⟨o1, o2, o3, o4, o5, o6, o7, o8, o9, o10, o11, o12, o13, o14, o15, o16, o17, o18, o19, o20, o21⟩ := ho'
  have hwf := ho.wf hs
  have hR' : vR (vAr w s t u m) = vR w + 1 := by
    unfold vR
    rw [vAr_2, upd_s, nI_clamp (by have := hR; unfold vR at this ⊢; omega)]; rfl
  have hP : vP (vAr w s t u m) = vP w := by unfold vP; rw [vAr_o (by omega)]
  have hnew : ∀ q, q < vR w → w 3 q = nI s → w 4 q = nI t → False := fun q hq h3 h4 => by
    have hat := ho.at hq
    rw [h3, h4, nI_clamp (by omega), nI_clamp (by omega)] at hat
    have e : vRu w s t = q := by unfold vRu; rw [hat, nI_clamp (by omega)]
    have := (ho.has hs ht).mpr ⟨by omega, by rw [e]; exact h3, by rw [e]; exact h4⟩
    rw [hb] at this; cases this
  refine ⟨?_, ?_, fun r hr => ⟨?_, ?_, ?_, ?_⟩, fun r q hr hq e3 e4 => ?_, fun i hi => ?_, fun s' hs' => ?_, fun s' t' hs' ht' => ?_, fun r hr => ?_, by rw [vAr_o (by omega)]; exact o9, by rw [vAr_o (by omega), vAr_o (by omega)]; exact o10, by rw [vAr_o (by omega)]; exact o11, by rw [vAr_o (by omega)]; exact o12, by rw [hP, vAr_o (by omega)]; exact o13, by rw [hP, vAr_o (by omega)]; exact o14, by rw [vAr_o (by omega)]; exact o15, by unfold vLen; rw [vAr_o (by omega)]; exact o16, by rw [vAr_o (by omega)]; exact o17, by rw [vAr_o (by omega)]; exact o18, by rw [vAr_o (by omega)]; exact o19, by rw [vAr_o (by omega)]; exact o20, fun i hi => ?_⟩
  · rw [vAr_2, upd_s]; exact zIs_n (by omega)
  · rw [vAr_2, upd_o (by decide)]; exact o2
  · rw [vAr_3]
    by_cases e : r = vR w
    · rw [e, upd_s]; exact zIs_n hs
    · rw [upd_o e]; exact (o3 r hr).1
  · rw [vAr_4]
    by_cases e : r = vR w
    · rw [e, upd_s]; exact zIs_n ht
    · rw [upd_o e]; exact (o3 r hr).2.1
  · rw [vAr_5]
    by_cases e : r = vR w
    · rw [e, upd_s]; exact zIs_n hu
    · rw [upd_o e]; exact (o3 r hr).2.2.1
  · rw [vAr_6]
    by_cases e : r = vR w
    · rw [e, upd_s]; exact hm
    · rw [upd_o e]; exact (o3 r hr).2.2.2
  · rw [hR'] at hr hq
    rw [vAr_3] at e3
    rw [vAr_4] at e4
    by_cases e : r = vR w
    · by_cases e' : q = vR w
      · rw [e, e']
      · rw [e, upd_s, upd_o e'] at e3 e4
        exact absurd e4.symm (fun h => hnew q (by omega) e3.symm h)
    · by_cases e' : q = vR w
      · rw [e', upd_s, upd_o e] at e3 e4
        exact absurd e4 (fun h => hnew r (by omega) e3 h)
      · rw [upd_o e, upd_o e'] at e3 e4
        exact o4 r q (by omega) (by omega) e3 e4
  · rw [vAr_7]
    by_cases e : i = 8 * s + t
    · rw [e, upd_s]; exact zIs_n hR
    · rw [upd_o e]; exact o5 i hi
  · rw [vAr_8]
    by_cases e : s' = s
    · rw [e, upd_s]
      exact zIs_n (Nat.or_lt_two_pow (n := 8) hwf.2 (Nat.pow_lt_pow_right (by omega) ht))
    · rw [upd_o e]; exact o6 s' hs'
  · rw [hR', vAr_3, vAr_4]
    by_cases e : s' = s ∧ t' = t
    · obtain ⟨rfl, rfl⟩ := e
      have e1 : vRu (vAr w s' t' u m) s' t' = vR w := by unfold vRu; rw [vAr_7, upd_s, nI_clamp (by omega)]
      have e2 : vWf (vAr w s' t' u m) s' = vWf w s' ||| 2 ^ t' := by
        unfold vWf
        rw [vAr_8, upd_s]
        have h8 : vWf w s' ||| 2 ^ t' < 2 ^ 8 := Nat.or_lt_two_pow (n := 8) hwf.2 (Nat.pow_lt_pow_right (by omega) ht)
        rw [nI_clamp (by omega)]; rfl
      rw [e1, e2, upd_s, upd_s, Nat.testBit_or, Nat.testBit_two_pow]
      simp
    · have e1 : vRu (vAr w s t u m) s' t' = vRu w s' t' := by unfold vRu; rw [vAr_7, upd_o (by omega)]
      have e2 : (vWf (vAr w s t u m) s').testBit t' = (vWf w s').testBit t' := by
        by_cases es : s' = s
        · have h8 : vWf w s ||| 2 ^ t < 2 ^ 8 := Nat.or_lt_two_pow (n := 8) hwf.2 (Nat.pow_lt_pow_right (by omega) ht)
          have e3 : vWf (vAr w s t u m) s' = vWf w s ||| 2 ^ t := vWf_of (by rw [vAr_8, es, upd_s]) (by omega)
          rw [e3, es, Nat.testBit_or, Nat.testBit_two_pow, decide_eq_false (by omega), Bool.or_false]
        · unfold vWf
          rw [vAr_8, upd_o es]
      rw [e1, e2, ho.has hs' ht']
      by_cases er : vRu w s' t' = vR w
      · rw [er, upd_s, upd_s]
        constructor
        · rintro ⟨h, -⟩; omega
        · rintro ⟨-, h3, h4⟩
          exfalso
          apply e
          exact ⟨((nI_eq (by omega) (by omega)).mp h3).symm, ((nI_eq (by omega) (by omega)).mp h4).symm⟩
      · rw [upd_o er, upd_o er]
        constructor
        · rintro ⟨h, h3, h4⟩; exact ⟨by omega, h3, h4⟩
        · rintro ⟨h, h3, h4⟩; exact ⟨by omega, h3, h4⟩
  · rw [hR'] at hr
    rw [vAr_3, vAr_4, vAr_7]
    by_cases e : r = vR w
    · rw [e, upd_s, upd_s, nI_clamp (by omega), nI_clamp (by omega), upd_s]
    · rw [upd_o e, upd_o e]
      have hr' : r < vR w := by omega
      obtain ⟨q1, q2, -⟩ := o3 r (by omega)
      have c1 := q1.clamp (by decide)
      have c2 := q2.clamp (by decide)
      rw [upd_o]
      · exact o8 r hr'
      · intro e2
        exact hnew r hr' (by rw [c1.1]; exact congrArg nI (by omega)) (by rw [c2.1]; exact congrArg nI (by omega))
  · have e : vSz (vAr w s t u m) = vSz w := by unfold vSz; rw [vAr_o (by omega)]
    omega
/-- the class puts it -/
theorem cAddRule (ho : Ok w) (hC : zSm w (zvt A)) (hs : s < 10) (ht : t < 8) (hu : u < 10) : (s < 8 ∧ u < 8 ∧ vR w < 24 ∧ (vWf w s).testBit t = false → ∃ A', zGt_addRule (d + 1) (nI s) (nI t) (nI u) m A L = some (some (.int 1), A', L) ∧ zSm (vAr w s t u m) (zvt A') ∧ (∀ c, (c < 35 ∨ 50 < c) → A' c = A c)) ∧
    (¬ (s < 8 ∧ u < 8 ∧ vR w < 24 ∧ (vWf w s).testBit t = false) → zGt_addRule (d + 1) (nI s) (nI t) (nI u) m A L = some (some (.int 0), A, L)) := by
  have hR := ho.R
  have hC' := hC
  obtain ⟨h3, h7, h8, h10, h16, e26, e27, e94, e13, e14, e142, e143⟩ := hC'
  have r36 : A 36 6 = nI (vR w) := e26.trans hR.1
  have hst : ∀ s, s < 10 → zG_isState d (nI s) A L = some (some (.int (if s < 8 then 1 else 0)), A, L) := fun s hs => by
    by_cases h : s < 8
    · rw [cIsState h, if_pos h]
    · rw [zG_isState_q, if_neg (nI_pos (by omega)), if_pos (show (8 : Int32) ≤ nI s from by rw [show (8 : Int32) = nI 8 from rfl]; exact nI_le (by omega) (by omega)), zG_isState_1_q, zG_isState_2_q, zcb_0, if_neg h]
  have hno : zGt_addRule_2 (d + 1) (nI s) (nI t) (nI u) m 0 A L = some (some (.int 0), A, L) := by rw [zGt_addRule_2_q, if_pos rfl, zGt_addRule_3_q, zcb_0]
  have hgo : s < 8 → u < 8 → zGt_addRule (d + 1) (nI s) (nI t) (nI u) m A L = if 24 ≤ vR w then some (some (.int 0), A, L) else if (vWf w s).testBit t = false then zGt_addRule_4 (d + 1) (nI s) (nI t) (nI u) m A L else some (some (.int 0), A, L) := fun c1 c2 => by
    have hwf := ho.wf c1
    have r42 : A 42 s = nI (vWf w s) := ((h8 s c1).1).trans hwf.1
    rw [zGt_addRule_q, hst s hs, if_pos c1, zbi_s, if_neg (by decide), hst u hu, if_pos c2, zbi_s, if_neg (by decide), if_neg (nI_pos (by omega)), if_neg (nI_g8 ht), zGt_addRule_2_q, if_neg (by decide), r36, if_neg (nI_pos (by omega)), show (24 : Int32) = nI 24 from rfl, zifi (nI_leI (by omega) (by omega)), zGt_addRule_3_q, zcb_0, zck_n c1 (by decide), nI_clamp (by omega), r42, zifc (zbit0 (by omega) (by omega))]
  refine ⟨fun ⟨c1, c2, c3, c4⟩ => ?_, fun h => ?_⟩
  · have hwf := ho.wf c1
    have r42 : A 42 s = nI (vWf w s) := ((h8 s c1).1).trans hwf.1
    have hcl : (nI (vR w)).toNatClampNeg = vR w := nI_clamp (by omega)
    have hcs : (nI s).toNatClampNeg = s := nI_clamp (by omega)
    have hix : nI s * 8 + nI t = nI (8 * s + t) := by rw [show (8 : Int32) = nI 8 from rfl, pk_mul, nI_add, Nat.mul_comm]
    have hci : (nI (8 * s + t)).toNatClampNeg = 8 * s + t := nI_clamp (by omega)
    obtain ⟨X, hX⟩ : ∃ X, X = zput (zput (zput (zput (zput (zput (zput A 37 (vR w) (nI s)) 38 (vR w) (nI t)) 39 (vR w) (nI u)) 40 (vR w) m) 41 (8 * s + t) (nI (vR w))) 42 s (nI (vWf w s ||| 2 ^ t))) 36 6 (nI (vR w + 1)) := ⟨_, rfl⟩
    have x37 : X 37 = upd (A 37) (vR w) (nI s) := by rw [hX, zput_o (by decide), zput_o (by decide), zput_o (by decide), zput_o (by decide), zput_o (by decide), zput_o (by decide), zput_s]
    have x38 : X 38 = upd (A 38) (vR w) (nI t) := by rw [hX, zput_o (by decide), zput_o (by decide), zput_o (by decide), zput_o (by decide), zput_o (by decide), zput_s, zput_o (by decide)]
    have x39 : X 39 = upd (A 39) (vR w) (nI u) := by rw [hX, zput_o (by decide), zput_o (by decide), zput_o (by decide), zput_o (by decide), zput_s, zput_o (by decide), zput_o (by decide)]
    have x40 : X 40 = upd (A 40) (vR w) m := by rw [hX, zput_o (by decide), zput_o (by decide), zput_o (by decide), zput_s, zput_o (by decide), zput_o (by decide), zput_o (by decide)]
    have x41 : X 41 = upd (A 41) (8 * s + t) (nI (vR w)) := by rw [hX, zput_o (by decide), zput_o (by decide), zput_s, zput_o (by decide), zput_o (by decide), zput_o (by decide), zput_o (by decide)]
    have x42 : X 42 = upd (A 42) s (nI (vWf w s ||| 2 ^ t)) := by rw [hX, zput_o (by decide), zput_s, zput_o (by decide), zput_o (by decide), zput_o (by decide), zput_o (by decide), zput_o (by decide)]
    have x36 : X 36 = upd (A 36) 6 (nI (vR w + 1)) := by rw [hX, zput_s, zput_o (by decide), zput_o (by decide), zput_o (by decide), zput_o (by decide), zput_o (by decide), zput_o (by decide)]
    have xo : ∀ c, (c < 36 ∨ 42 < c) → X c = A c := fun c hc => by rw [hX, zput_o (by omega), zput_o (by omega), zput_o (by omega), zput_o (by omega), zput_o (by omega), zput_o (by omega), zput_o (by omega)]
    have g : ∀ c, c ≤ 16 → (c < 2 ∨ 8 < c) → zvt X c = zvt A c := fun c h1 h2 => by rw [zvt_c h1, zvt_c h1, xo _ (by omega)]
    refine ⟨X, ?_, ⟨fun j hj => ⟨?_, ?_, ?_, ?_, ?_⟩, fun j hj => ?_, fun j hj => ⟨?_, ?_⟩, fun j hj => ⟨?_, ?_, ?_⟩, fun j hj => ?_, ?_, ?_, ?_, ?_, ?_, ?_, ?_⟩, fun c hc => xo c (by omega)⟩
    · rw [hgo c1 c2, if_neg (by omega), if_pos c4, zGt_addRule_4_q]
      simp only [zput_o (show (36 : Nat) ≠ 37 by decide), zput_o (show (36 : Nat) ≠ 38 by decide), zput_o (show (36 : Nat) ≠ 39 by decide), zput_o (show (36 : Nat) ≠ 40 by decide), zput_o (show (36 : Nat) ≠ 41 by decide), zput_o (show (36 : Nat) ≠ 42 by decide), zput_o (show (42 : Nat) ≠ 41 by decide), zput_o (show (42 : Nat) ≠ 40 by decide), zput_o (show (42 : Nat) ≠ 39 by decide), zput_o (show (42 : Nat) ≠ 38 by decide), zput_o (show (42 : Nat) ≠ 37 by decide), r36, hcl, hcs, hix, hci, r42, zpow (show t < 31 by omega), nI_or, nI_1, ← hX, zck_n c3 (show 24 ≤ 65536 by decide), zck_n (show 8 * s + t < 64 by omega) (show 64 ≤ 65536 by decide), zck_n c1 (show 8 ≤ 65536 by decide), zcb_1]
    · show X 37 j = upd (w 3) (vR w) (nI s) j
      rw [x37]; exact upd_c (h3 j hj).1
    · show X 38 j = upd (w 4) (vR w) (nI t) j
      rw [x38]; exact upd_c (h3 j hj).2.1
    · show X 39 j = upd (w 5) (vR w) (nI u) j
      rw [x39]; exact upd_c (h3 j hj).2.2.1
    · show X 40 j = upd (w 6) (vR w) m j
      rw [x40]; exact upd_c (h3 j hj).2.2.2.1
    · rw [g 12 (by decide) (by decide), vAr_o (by decide)]; exact (h3 j hj).2.2.2.2
    · show X 41 j = upd (w 7) (8 * s + t) (nI (vR w)) j
      rw [x41]; exact upd_c (h7 j hj)
    · show X 42 j = upd (w 8) s (nI (vWf w s ||| 2 ^ t)) j
      rw [x42]; exact upd_c (h8 j hj).1
    · rw [g 15 (by decide) (by decide), vAr_o (by decide)]; exact (h8 j hj).2
    · rw [g 10 (by decide) (by decide), vAr_o (by decide)]; exact (h10 j hj).1
    · rw [g 11 (by decide) (by decide), vAr_o (by decide)]; exact (h10 j hj).2.1
    · rw [g 13 (by decide) (by decide), vAr_o (by decide)]; exact (h10 j hj).2.2
    · rw [g 16 (by decide) (by decide), vAr_o (by decide)]; exact h16 j hj
    · show X 36 6 = upd (w 2) 6 (nI (vR w + 1)) 6
      rw [x36, upd_s, upd_s]
    · show X 36 7 = upd (w 2) 6 (nI (vR w + 1)) 7
      rw [x36, upd_o (by decide), upd_o (by decide)]; exact e27
    · rw [g 9 (by decide) (by decide), vAr_o (by decide)]; exact e94
    · rw [g 1 (by decide) (by decide), vAr_o (by decide)]; exact e13
    · rw [g 1 (by decide) (by decide), vAr_o (by decide)]; exact e14
    · rw [g 14 (by decide) (by decide), vAr_o (by decide)]; exact e142
    · rw [g 14 (by decide) (by decide), vAr_o (by decide)]; exact e143
  · by_cases c1 : s < 8
    · by_cases c2 : u < 8
      · rw [hgo c1 c2]
        by_cases c3 : 24 ≤ vR w
        · rw [if_pos c3]
        · rw [if_neg c3, if_neg (fun c4 => h ⟨c1, c2, by omega, c4⟩)]
      · rw [zGt_addRule_q, hst s hs, if_pos c1, zbi_s, if_neg (by decide), hst u hu, if_neg c2, zbi_s, if_pos rfl, zGt_addRule_1_q, hno]
    · rw [zGt_addRule_q, hst s hs, if_neg c1, zbi_s, if_pos rfl, zGt_addRule_1_q, hno]
/-- the model puts it -/
theorem mAddRule (ho : Ok w) (h0 : vSz w = 0) (hw : zmw B w) (hk : k < 32) (hs : s < 10) (ht : t < 8) (hu : u < 10) (b78 : B 78 k = nI t) (b79 : B 79 k = nI u) (b80 : (B 80 k = -1 ∧ m = -9) ∨ ∃ q, q < 6 ∧ B 80 k = nI q ∧ m = nI q) : (s < 8 ∧ u < 8 ∧ vR w < 24 ∧ (vWf w s).testBit t = false → ∃ B', zM_comes_1 (d + 1) (nI k) (nI s) B M = some (some (.int 1), B', M) ∧ zmw B' (vAr w s t u m) ∧ (∀ c, c ≠ 63 → (c < 65 ∨ 72 < c) → B' c = B c) ∧ (∀ i, (i < 10 ∨ 13 < i) → B' 63 i = B 63 i)) ∧
    (¬ (s < 8 ∧ u < 8 ∧ vR w < 24 ∧ (vWf w s).testBit t = false) → zM_comes_1 (d + 1) (nI k) (nI s) B M = some (some (.int 0), B, M)) := by
  have hR := ho.R
  have hw' := hw
  obtain ⟨w65, w66, w67, w68, w69, w70, w71, w72, w73, w10, w11, w12, w13, w14, w15, w18, w16, w17⟩ := hw'
  have r10 : B 63 10 = nI (vR w) := w10.trans hR.1
  have h7 : ∀ x, (7 < x ↔ (7 : Int32) < nI x) ∨ 2 ^ 31 ≤ x := fun x => by
    by_cases h : x < 2 ^ 31
    · left; rw [show (7 : Int32) = nI 7 from rfl, nI_ltI (by omega) h]
    · right; omega
  have hgo : zM_comes_1 (d + 1) (nI k) (nI s) B M = if 7 < s then some (some (.int 0), B, M) else if 7 < u then some (some (.int 0), B, M) else if vR w = 24 then some (some (.int 0), B, M) else zbi (zM_ruleAt d (nI s) (nI t) B M) (fun r1 A1 L1 => if r1 < 0 then zM_comes_3 (d + 1) (nI k) (nI s) A1 L1 else zM_comes_2 (d + 1) A1 L1) := by
    rw [zM_comes_1_q, show (7 : Int32) = nI 7 from rfl, zifi (nI_ltI (by omega) (by omega)), zck_n hk (by decide), nI_clamp (by omega), b79, zifi (nI_ltI (by omega) (by omega)), r10, show (24 : Int32) = nI 24 from rfl, zifi (nI_eq (by omega) (by omega)), zck_n hk (by decide), b78, zM_comes_2_q, zcb_0]
  refine ⟨fun ⟨c1, c2, c3, c4⟩ => ?_, fun h => ?_⟩
  · have hck : (nI k).toNatClampNeg = k := nI_clamp (by omega)
    have hcl : (nI (vR w)).toNatClampNeg = vR w := nI_clamp (by omega)
    have hz : ∀ n, n ≤ 65536 → ∀ j, j < n → ∀ o : Option zR, zck (nI j) n o = o := fun n hn j hj o => zck_n hj hn
    have hvS : vSt (vAr w s t u m) = vSt w ∧ vMe (vAr w s t u m) = vMe w := vSt_of (vAr_o (by decide)) (vAr_o (by decide))
    obtain ⟨X, hX⟩ : ∃ X, X = zput (zput (zput (zput (zput B 65 (vR w) (nI s)) 66 (vR w) (nI t)) 67 (vR w) (nI u)) 68 (vR w) m) 63 10 (nI (vR w + 1)) := ⟨_, rfl⟩
    have xo : ∀ c, c ≠ 63 → (c < 65 ∨ 68 < c) → X c = B c := fun c h1 h2 => by rw [hX, zput_o h1, zput_o (by omega), zput_o (by omega), zput_o (by omega), zput_o (by omega)]
    have x63 : X 63 = upd (B 63) 10 (nI (vR w + 1)) := by rw [hX, zput_s, zput_o (by decide), zput_o (by decide), zput_o (by decide), zput_o (by decide)]
    have h5 : zM_comes_5 (d + 1) (nI (vR w)) m (zput (zput (zput B 65 (vR w) (nI s)) 66 (vR w) (nI t)) 67 (vR w) (nI u)) M = some (some (.int 1), X, M) := by
      rw [zM_comes_5_q, zck_n c3 (by decide), hcl, zput_o (show (63 : Nat) ≠ 68 by decide), zput_o (show (63 : Nat) ≠ 67 by decide), zput_o (show (63 : Nat) ≠ 66 by decide), zput_o (show (63 : Nat) ≠ 65 by decide), r10, nI_1, ← hX, zcb_1]
    refine ⟨X, ?_, ⟨?_, ?_, ?_, ?_, by rw [xo 69 (by decide) (by decide), vAr_o (by decide), w69], by rw [xo 70 (by decide) (by decide), vAr_o (by decide), w70], by rw [xo 71 (by decide) (by decide), vAr_o (by decide), w71], by rw [xo 72 (by decide) (by decide), vAr_o (by decide), w72], by rw [xo 73 (by decide) (by decide), vAr_o (by decide), w73], by rw [x63, upd_s, vAr_2, upd_s], by rw [x63, upd_o (by decide), vAr_2, upd_o (by decide), w11], by rw [x63, upd_o (by decide), vAr_o (by decide), w12], by rw [x63, upd_o (by decide), vAr_o (by decide), w13], by rw [x63, upd_o (by decide), vAr_o (by decide), w14], by rw [x63, upd_o (by decide), vAr_o (by decide), w15], by rw [x63, upd_o (by decide), vAr_o (by decide), w18], by rw [x63, upd_o (by decide), hvS.1, w16], by rw [x63, upd_o (by decide), hvS.2, w17]⟩, fun c h1 h2 => xo c h1 (by omega), fun i hi => by rw [x63, upd_o (by omega)]⟩
    · rw [hgo, if_neg (by omega), if_neg (by omega), if_neg (by omega), mRuleAt ho hw c1 ht, c4, ite_ft, zbi_s, if_pos (by decide), zM_comes_3_q]
      simp only [zput_o (show (63 : Nat) ≠ 65 by decide), zput_o (show (63 : Nat) ≠ 66 by decide), zput_o (show (63 : Nat) ≠ 67 by decide), zput_o (show (78 : Nat) ≠ 65 by decide), zput_o (show (79 : Nat) ≠ 65 by decide), zput_o (show (79 : Nat) ≠ 66 by decide), zput_o (show (80 : Nat) ≠ 65 by decide), zput_o (show (80 : Nat) ≠ 66 by decide), zput_o (show (80 : Nat) ≠ 67 by decide), r10, hck, hcl, b78, b79, hz 24 (by decide) (vR w) c3, hz 32 (by decide) k hk]
      rcases b80 with ⟨q1, q2⟩ | ⟨q, q1, q2, q3⟩
      · rw [q1, if_neg (by decide), ← q2]
        exact h5
      · rw [q2, if_pos (nI_pos' (by omega)), zM_comes_4_q, zck_n hk (by decide), hck, zput_o (show (80 : Nat) ≠ 67 by decide), zput_o (show (80 : Nat) ≠ 66 by decide), zput_o (show (80 : Nat) ≠ 65 by decide), q2, ← q3]
        exact h5
    · rw [vAr_3, ← w65, hX, zput_o (by decide), zput_o (by decide), zput_o (by decide), zput_o (by decide), zput_s]
    · rw [vAr_4, ← w66, hX, zput_o (by decide), zput_o (by decide), zput_o (by decide), zput_s, zput_o (by decide)]
    · rw [vAr_5, ← w67, hX, zput_o (by decide), zput_o (by decide), zput_s, zput_o (by decide), zput_o (by decide)]
    · rw [vAr_6, ← w68, hX, zput_o (by decide), zput_s, zput_o (by decide), zput_o (by decide), zput_o (by decide)]
  · rw [hgo]
    by_cases c1 : 7 < s
    · rw [if_pos c1]
    · by_cases c2 : 7 < u
      · rw [if_neg c1, if_pos c2]
      · by_cases c3 : vR w = 24
        · rw [if_neg c1, if_neg c2, if_pos c3]
        · have c4 : (vWf w s).testBit t = true := by
            cases hb : (vWf w s).testBit t
            · exact absurd ⟨by omega, by omega, by omega, hb⟩ h
            · rfl
          rw [if_neg c1, if_neg c2, if_neg c3, mRuleAt ho hw (by omega) ht, c4, ite_tt, zbi_s, if_neg (nI_pos (by have := (ho.ru (s := s) (t := t) (by omega) ht).2; omega)), zM_comes_2_q, zcb_0]
end AR
