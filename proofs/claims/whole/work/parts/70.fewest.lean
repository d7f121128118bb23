/-! ===== the fewest rules without which one can no more force a mark ===== -/
section LE
variable {v A : zA} {L : zL} {d g p k dm : Nat}
/-- whether one can force a mark from the beginning without the rules of g -/
def vFb (v : zA) (p k g : Nat) : Bool := vS v g p (fun m => m.testBit k) false 9 0 0 0
theorem vGm_force {g : Nat} (ho : Ok v) (hk : k < 6) : vGm v g (vCt v p (nI k) 0) p 9 0 0 0 = if vFb v p k g then 1 else 0 := by
  have h3 : (0 : Int32) ≠ 3 := by decide
  have hin : vGm v g (vCt v p (nI k) 0) p 9 0 0 0 = 0 ∨ vGm v g (vCt v p (nI k) 0) p 9 0 0 0 = 1 := vGm_in (Q := fun z => z = 0 ∨ z = 1) (fun e n => vCt_01 (Or.inl rfl) e n) _ _ _ _
  have key := vGm_vS (v := v) (g := g) (p := p) (c := vCt v p (nI k) 0) (y := 1) (fun e n n' => vCt_flat h3 e n n') (fun m n => vCt_stuck h3 m n) 9 0 0 0
  have e1 : decide ((1 : Int32) ≤ vCt v p (nI k) 0 64 0) = false := by
    unfold vCt
    rw [if_pos rfl, show vB (nI k) 64 = false from vB_64 0]; rfl
  rw [e1, vS_eq ho (good' := fun m => m.testBit k) (fun m hm => by
    show decide ((1 : Int32) ≤ vCt v p (nI k) 0 m 0) = _
    unfold vCt
    rw [if_pos rfl, vB_bit hk hm]
    cases m.testBit k <;> rfl) _ _ _ _ (by omega) (by omega)] at key
  unfold vFb
  cases hv : vS v g p (fun m => m.testBit k) false 9 0 0 0 with
  | true =>
    rw [ite_tt]
    have := key.mpr hv
    rcases hin with h | h
    · rw [h] at this; exact absurd this (by decide)
    · exact h
  | false =>
    rw [ite_ft]
    rcases hin with h | h
    · exact h
    · rw [h] at key
      have := key.mp (by decide)
      rw [this] at hv; cases hv
theorem mCanForce (ho : Ok v) (hw : zmw A v) (hg : A 63 33 = 0) (hp : p < vP v) (hk : k < 6) (hg2 : g < 2 ^ 24) : ∃ A', zM_canForce (d + 5) (nI p) (nI k) (nI g) A L = some (some (.int (if vFb v p k g then 1 else 0)), A', L) ∧ (∀ c, (c < 82 ∨ 85 < c) → c ≠ 89 → A' c = A c) := by
  have hw1 : zmw (zput A 63 33 (nI g)) v := by
    unfold zmw at *
    rw [zput_s, upd_o (by decide), upd_o (by decide), upd_o (by decide), upd_o (by decide), upd_o (by decide), upd_o (by decide), upd_o (by decide), upd_o (by decide), upd_o (by decide), zput_o (by decide), zput_o (by decide), zput_o (by decide), zput_o (by decide), zput_o (by decide), zput_o (by decide), zput_o (by decide), zput_o (by decide), zput_o (by decide)]
    exact hw
  obtain ⟨B, b1, b2, b3, b4⟩ := mFillGame (d := d) (L := L) (x := nI k) (aim := 0) ho hw1 (g := g) (by rw [zput_s, upd_s]) hg2 hp
  have h0 := b4 0 0 0 (by omega) (by omega) (by omega) trivial
  have hval : (zput B 63 33 0) 89 (Int32.toNatClampNeg 0) = if vFb v p k g then 1 else 0 := by
    rw [zput_o (by decide)]
    show B 89 (zsp 0 0 0) = _
    rw [h0, vGm_force ho hk]
  refine ⟨zput B 63 33 0, ?_, fun c h2 h3 => ?_⟩
  · rw [zM_canForce_q, b1, zbv_s, show (0 : Int32) = nI 0 from rfl, zck_n (by omega) (by decide), show nI 0 = (0 : Int32) from rfl, hval]
    cases vFb v p k g
    · rw [ite_ft, if_neg (by decide), zM_canForce_1_q, zM_canForce_2_q, zcb_0]
    · rw [ite_tt, if_pos rfl, zM_canForce_2_q, zcb_1]
  · by_cases e : c = 63
    · subst e
      rw [zput_s, b2 63 (by decide) (by decide), zput_s, upd_uu, upd_id hg]
    · rw [zput_o e, b2 c h2 h3, zput_o e]
/-- the class asks who can force a mark -/
def zAs (A : zA) (L : zL) (p k : Nat) : Prop := A 56 4 = nI p ∧ A 56 6 = 0 ∧ ∀ m, m < 64 → lb (L 56 5) m = m.testBit k
theorem cEnsuresWithout (ho : Ok v) (hv : zv A = v) (hp : p < vP v) (hg2 : g < 2 ^ 24) (hq : zAs A L p k) : ∃ A' L', zO_ensuresWithout (d + 7) (nI g) A L = some (some (.int (if vFb v p k g then 1 else 0)), A', L') ∧ (∀ c, c ≠ 56 → A' c = A c) ∧ (∀ c, c ≠ 57 → L' c = L c) ∧ zAs A' L' p k := by
  obtain ⟨q1, q2, q3⟩ := hq
  have hask : zAsk (zput A 56 7 (nI g)) L p (fun m => m.testBit k) false g := by
    refine ⟨?_, ?_, ?_, q3⟩
    · rw [zput_s, upd_o (by decide)]; exact q1
    · rw [zput_s, upd_o (by decide)]; exact q2
    · rw [zput_s, upd_s]
  obtain ⟨L', e1, e2⟩ := cEnsuresFrom (d := d) (L := L) ho ((zv_put (by decide)).trans hv) hp hg2 (n := 0) (s := 0) (m := 0) (by omega) (by omega) (by omega) hask
  have e1' : zO_ensuresFrom (d + 6) 0 (zput A 56 7 (nI g)) L = some (some (.int (if vFb v p k g then 1 else 0)), zput A 56 7 (nI g), L') := e1
  refine ⟨zput A 56 7 (nI g), L', ?_, fun c hc => zput_o hc, e2, ?_⟩
  · rw [zO_ensuresWithout_q, e1', zbi_s]
    cases vFb v p k g
    · rw [ite_ft, zcb_0]
    · rw [ite_tt, zcb_1]
  · refine ⟨?_, ?_, fun m hm => by rw [e2 _ (by decide)]; exact q3 m hm⟩
    · rw [zput_s, upd_o (by decide)]; exact q1
    · rw [zput_s, upd_o (by decide)]; exact q2
/-- class and model come to the same -/
def zLc (X Y : Option zR) (A : zA) (L : zL) (B : zA) (M : zL) : Prop := ∃ w A' L' B', X = some (some (.int w), A', L') ∧ Y = some (some (.int w), B', M) ∧ (∀ c, c ≠ 56 → A' c = A c) ∧ (∀ c, c ≠ 56 → c ≠ 57 → L' c = L c) ∧ (∀ c, (c < 82 ∨ 85 < c) → c ≠ 89 → B' c = B c)
theorem zLc_of {X Y : Option zR} {A A1 B B1 : zA} {L L1 M : zL} (h : zLc X Y A1 L1 B1 M) (h1 : ∀ c, c ≠ 56 → A1 c = A c) (h2 : ∀ c, c ≠ 56 → c ≠ 57 → L1 c = L c) (h3 : ∀ c, (c < 82 ∨ 85 < c) → c ≠ 89 → B1 c = B c) : zLc X Y A L B M := by
  obtain ⟨w, A', L', B', a, b, c, e, f⟩ := h
  exact ⟨w, A', L', B', a, b, fun i hi => by rw [c i hi, h1 i hi], fun i hi hj => by rw [e i hi hj, h2 i hi hj], fun i hi hj => by rw [f i hi hj, h3 i hi hj]⟩
/-- what both begin with -/
def zLb (v A : zA) (L : zL) (B : zA) (p k : Nat) : Prop := zv A = v ∧ zAs A L p k ∧ zmw B v ∧ B 63 33 = 0
theorem zLb_of {B A1 B1 : zA} {L1 : zL} (hb : zLb v A L B p k) (h1 : ∀ c, c ≠ 56 → A1 c = A c) (h2 : zAs A1 L1 p k) (h3 : ∀ c, (c < 82 ∨ 85 < c) → c ≠ 89 → B1 c = B c) : zLb v A1 L1 B1 p k := by
  obtain ⟨a, b, c, e⟩ := hb
  exact ⟨(zv_of (fun c hc => h1 c (by omega))).trans a, h2, zmw_of c (fun i h1 h2 => h3 i (by omega) (by omega)), by rw [h3 63 (by decide) (by decide)]; exact e⟩
/-- one try of rules away, in both -/
theorem zTry {B : zA} {M : zL} (ho : Ok v) (hp : p < vP v) (hk : k < 6) (hg2 : g < 2 ^ 24) (hb : zLb v A L B p k) {F G : zA → zL → Option zR} {r : Int32} (hF : vFb v p k g = true → ∀ A1 L1 B1, zLb v A1 L1 B1 p k → zLc (F A1 L1) (G B1 M) A1 L1 B1 M) :
    zLc (zbi (zO_ensuresWithout (d + 7) (nI g) A L) (fun r1 A1 L1 => if r1 = 0 then some (some (.int r), A1, L1) else F A1 L1)) (zbi (zM_canForce (dm + 5) (nI p) (nI k) (nI g) B M) (fun r1 A1 L1 => if r1 = 0 then some (some (.int r), A1, L1) else G A1 L1)) A L B M := by
  obtain ⟨b1, b2, b3, b4⟩ := hb
  obtain ⟨A1, L1, e1, e2, e3, e4⟩ := cEnsuresWithout (d := d) ho b1 hp hg2 b2
  obtain ⟨B1, f1, f2⟩ := mCanForce (d := dm) (L := M) ho b3 b4 hp hk hg2
  rw [e1, f1, zbi_s, zbi_s]
  cases hv : vFb v p k g with
  | false =>
    rw [ite_ft, if_pos rfl, if_pos rfl]
    exact ⟨r, A1, L1, B1, rfl, rfl, e2, fun c h1 h2 => e3 c h2, f2⟩
  | true =>
    rw [ite_tt, if_neg (by decide), if_neg (by decide)]
    exact zLc_of (hF hv A1 L1 B1 (zLb_of ⟨b1, b2, b3, b4⟩ e2 e4 f2)) e2 (fun c h1 h2 => e3 c h2) f2
theorem zLeast6 {M : zL} {i : Nat} (ho : Ok v) (hp : p < vP v) (hk : k < 6) (hi : i < vR v) (hF : ∀ A1 L1 B1, zLb v A1 L1 B1 p k → zLc (zO_fewestRules_5 (d + 8) (nI (i + 1)) A1 L1) (zM_least_7 (dm + 6) (nI p) (nI k) (nI (i + 1)) B1 M) A1 L1 B1 M) :
    ∀ q j A L B, j + q = i → zLb v A L B p k → zLc (zO_fewestRules_6 (d + 8) (nI i) (nI j) A L) (zM_least_8 (dm + 6) (nI p) (nI k) (nI i) (nI j) B M) A L B M := by
  have hR := ho.R.2
  intro q
  induction q with
  | zero =>
    intro j A L B hj hb
    have e : j = i := by omega
    subst e
    rw [zO_fewestRules_6_q, zM_least_8_q, if_pos (nI_le (by omega) (by omega)), if_pos (nI_le (by omega) (by omega)), zO_fewestRules_8_q, zM_least_10_q, nI_1]
    exact hF A L B hb
  | succ q ih =>
    intro j A L B hj hb
    have h2 : 2 ^ i ||| 2 ^ j < 2 ^ 24 := Nat.or_lt_two_pow (Nat.pow_lt_pow_right (by omega) (by omega)) (Nat.pow_lt_pow_right (by omega) (by omega))
    rw [zO_fewestRules_6_q, zM_least_8_q, if_neg (nI_ge (by omega) (by omega)), if_neg (nI_ge (by omega) (by omega)), zpow (by omega), zpow (by omega), nI_or]
    refine zTry ho hp hk h2 hb (fun _ A1 L1 B1 hb1 => ?_)
    rw [zO_fewestRules_7_q, zM_least_9_q, nI_1]
    exact ih (j + 1) A1 L1 B1 (by omega) hb1
theorem zLeast5 {M : zL} (ho : Ok v) (hp : p < vP v) (hk : k < 6) : ∀ q i A L B, vR v - i = q → i < 30 → zLb v A L B p k → zLc (zO_fewestRules_5 (d + 8) (nI i) A L) (zM_least_7 (dm + 6) (nI p) (nI k) (nI i) B M) A L B M := by
  have hR := ho.R
  intro q
  induction q with
  | zero =>
    intro i A L B hi hi3 hb
    have hw := hb.2.2.1
    obtain ⟨-, -, -, -, -, -, -, -, -, w10, -⟩ := hw
    rw [zO_fewestRules_5_q, zM_least_7_q, zv_c hb.1 2 (by decide), w10, hR.1, if_pos (nI_le (by omega) (by omega)), if_pos (nI_le (by omega) (by omega)), zO_fewestRules_9_q, zM_least_11_q]
    exact ⟨-9, A, L, B, rfl, rfl, fun _ _ => rfl, fun _ _ _ => rfl, fun _ _ _ => rfl⟩
  | succ q ih =>
    intro i A L B hi hi3 hb
    have hw := hb.2.2.1
    obtain ⟨-, -, -, -, -, -, -, -, -, w10, -⟩ := hw
    rw [zO_fewestRules_5_q, zM_least_7_q, zv_c hb.1 2 (by decide), w10, hR.1, if_neg (nI_ge (by omega) (by omega)), if_neg (nI_ge (by omega) (by omega))]
    exact zLeast6 ho hp hk (by omega) (fun A1 L1 B1 hb1 => ih (i + 1) A1 L1 B1 (by omega) (by omega) hb1) i 0 A L B (by omega) hb
theorem zLeast2 {M : zL} (ho : Ok v) (hp : p < vP v) (hk : k < 6) : ∀ q i A L B, i + q = vR v → zLb v A L B p k → zLc (zO_fewestRules_2 (d + 8) (nI i) A L) (zM_least_4 (dm + 6) (nI p) (nI k) (nI i) B M) A L B M := by
  have hR := ho.R
  intro q
  induction q with
  | zero =>
    intro i A L B hi hb
    have hw := hb.2.2.1
    obtain ⟨-, -, -, -, -, -, -, -, -, w10, -⟩ := hw
    rw [zO_fewestRules_2_q, zM_least_4_q, zv_c hb.1 2 (by decide), w10, hR.1, if_pos (nI_le (by omega) (by omega)), if_pos (nI_le (by omega) (by omega)), zO_fewestRules_4_q, zM_least_6_q]
    exact zLeast5 ho hp hk (vR v - 1) 1 A L B rfl (by omega) hb
  | succ q ih =>
    intro i A L B hi hb
    have hw := hb.2.2.1
    obtain ⟨-, -, -, -, -, -, -, -, -, w10, -⟩ := hw
    rw [zO_fewestRules_2_q, zM_least_4_q, zv_c hb.1 2 (by decide), w10, hR.1, if_neg (nI_ge (by omega) (by omega)), if_neg (nI_ge (by omega) (by omega)), zpow (by omega)]
    refine zTry ho hp hk (Nat.pow_lt_pow_right (by omega) (by omega)) hb (fun _ A1 L1 B1 hb1 => ?_)
    rw [zO_fewestRules_3_q, zM_least_5_q, nI_1]
    exact ih (i + 1) A1 L1 B1 (by omega) hb1
theorem zLeast {B : zA} {M : zL} (ho : Ok v) (hv : zv A = v) (hw : zmw B v) (hg : B 63 33 = 0) (hp : p < vP v) (hk : k < 6) : zLc (zO_fewestRules (d + 8) (nI p) (nI k) A L) (zM_least_2 (dm + 6) (nI p) (nI k) B M) A L B M := by
  obtain ⟨y, y1, y2⟩ := cMeaningsWith (d := d + 6) (A := A) (L := L) hk
  have hask : ∃ A1 L1, zO_ask (d + 7) (nI p) y 0 A L = some (none, A1, L1) ∧ zAs A1 L1 p k ∧ (∀ c, c ≠ 56 → A1 c = A c) ∧ (∀ c, c ≠ 56 → L1 c = L c) := by
    refine ⟨zput (zput (zput A 56 4 (nI p)) 56 6 0) 56 7 0, zputL L 56 5 y, ?_, ⟨?_, ?_, ?_⟩, fun c hc => ?_, fun c hc => zputL_o hc⟩
    · rw [zO_ask_q]; rfl
    · rw [zput_s, upd_o (by decide), zput_s, upd_o (by decide), zput_s, upd_s]
    · rw [zput_s, upd_o (by decide), zput_s, upd_s]
    · intro m hm; rw [zputL_s, updL_s]; exact y2 m hm
    · rw [zput_o hc, zput_o hc, zput_o hc]
  obtain ⟨A1, L1, a1, a2, a3, a4⟩ := hask
  have hb : zLb v A1 L1 B p k := ⟨(zv_of (fun c hc => a3 c (by omega))).trans hv, a2, hw, hg⟩
  refine zLc_of (A1 := A1) (L1 := L1) (B1 := B) ?_ a3 (fun c h1 h2 => a4 c h1) (fun _ _ _ => rfl)
  rw [zO_fewestRules_q, y1, zbl_s, a1, zbv_s, zM_least_2_q, show (0 : Int32) = nI 0 from rfl]
  have := zTry (d := d) (dm := dm) (g := 0) (M := M) (r := 0) (F := fun A3 L3 => zO_fewestRules_1 (d + 8) A3 L3) (G := fun A3 L3 => zM_least_3 (dm + 6) (nI p) (nI k) A3 L3) ho hp hk (by decide) hb (fun _ A1 L1 B1 hb1 => by
    show zLc (zO_fewestRules_1 (d + 8) A1 L1) (zM_least_3 (dm + 6) (nI p) (nI k) B1 M) A1 L1 B1 M
    rw [zO_fewestRules_1_q, zM_least_3_q]
    exact zLeast2 ho hp hk (vR v) 0 A1 L1 B1 (by omega) hb1)
  exact this
end LE
