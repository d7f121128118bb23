/-! ===== what the class answers of one's power ===== -/
theorem cMax {a b d : Nat} {A : zA} {L : zL} (ha : a < 2 ^ 31) (hb : b < 2 ^ 31) : zJM_max d (nI a) (nI b) A L = some (some (.int (nI (max a b))), A, L) := by
  rw [zJM_max_q, zifi (nI_ltI ha hb)]
  by_cases h : a < b
  · rw [if_pos h, zJM_max_1_q, zJM_max_2_q, Nat.max_eq_right (by omega)]
  · rw [if_neg h, zJM_max_2_q, Nat.max_eq_left (by omega)]
section EF
variable {v A : zA} {d g n s m p : Nat} {good : Nat → Bool} {stuck : Bool}
theorem vS_0 {f : Nat} (h0 : vMg v g n s = 0) : vS v g p good stuck f n s m = if vEn v s then good m else stuck := by
  cases f with
  | zero => rfl
  | succ f => unfold vS; rw [if_pos h0]
theorem vS_s {f : Nat} : vS v g p good stuck (f + 1) n s m = if vMg v g n s = 0 then (if vEn v s then good m else stuck)
    else if vTr v n = p then (vEn v s && good m) || (List.range 8).any (fun t => (vMg v g n s).testBit t && vS v g p good stuck f (n + 1) (vTo v s t) (m ^^^ vMk v s t))
    else (!vEn v s || good m) && (List.range 8).all (fun t => !(vMg v g n s).testBit t || vS v g p good stuck f (n + 1) (vTo v s t) (m ^^^ vMk v s t)) := rfl
theorem zfi_0 {own : Bool} {x : Bool} (ho : Ok v) (hs : s < 8) (h0 : vMg v g n s = 0) : zfi own ((zmv (vRk v g n) (vFr v) (vR v)).testBit s) (vEn v s) (good m) stuck x = if vEn v s then good m else stuck := by
  have hb : (zmv (vRk v g n) (vFr v) (vR v)).testBit s = false := by
    cases h : (zmv (vRk v g n) (vFr v) (vR v)).testBit s
    · rfl
    · exact absurd h0 ((zmv_Mg ho hs).mp h)
  unfold zfi
  rw [hb, ite_ft]
theorem zfi_S {f : Nat} (ho : Ok v) (hs : s < 8) : zfi (decide (vTr v n = p)) ((zmv (vRk v g n) (vFr v) (vR v)).testBit s) (vEn v s) (good m) stuck (zfr (decide (vTr v n = p)) (vRk v g n) (vFr v) (vTt v) (vMm v) (fun s m => vS v g p good stuck f (n + 1) s m) (vR v) s m) = vS v g p good stuck (f + 1) n s m := by
  by_cases h0 : vMg v g n s = 0
  · rw [zfi_0 ho hs h0, vS_0 h0]
  · rw [vS_s, if_neg h0]
    unfold zfi
    rw [(zmv_Mg ho hs).mpr h0, ite_tt]
    by_cases hp : vTr v n = p
    · rw [if_pos hp, decide_eq_true hp, zfr_any ho hs]
      generalize (List.range 8).any _ = y
      cases vEn v s <;> cases good m <;> cases y <;> rfl
    · rw [if_neg hp, decide_eq_false hp, zfr_all ho hs]
      generalize (List.range 8).all _ = y
      cases vEn v s <;> cases good m <;> cases y <;> rfl
theorem vMg_len (h : vLen v ≤ n) : vMg v g n s = 0 := by
  unfold vMg
  rw [if_pos (Or.inr h)]
/-- the row of a count holds the spec's answers -/
def zRow (v : zA) (L : zL) (g p : Nat) (good : Nat → Bool) (stuck : Bool) (n : Nat) : Prop := ∀ s, s < 8 → ∀ m, m < 64 → lb (L 57 (n % 2 * 8 + s)) m = vS v g p good stuck (9 - n) n s m
theorem cFillAt {L : zL} (ho : Ok v) (hv : zv A = v) (hp : p < vP v) (hn : n ≤ 8) (hg2 : g < 2 ^ 24) (hq : zAsk A L p good stuck g) (hX : vLen v ≤ n ∨ zRow v L g p good stuck (n + 1)) :
    ∃ L', zO_fillSets (d + 4) (nI n) A L = some (none, A, L') ∧ (∀ c, c ≠ 57 → L' c = L c) ∧ zRow v L' g p good stuck n := by
  rcases hX with hl | hX
  · obtain ⟨L', e1, e2, e3⟩ := cFillSets (d := d) (n := n) ho hv hp (by omega) hg2 hq (X := fun s m => lb (L 57 ((n + 1) % 2 * 8 + s)) m) (fun _ _ _ _ => rfl)
    refine ⟨L', e1, e2, fun s hs m hm => ?_⟩
    rw [e3 s hs m hm, zfi_0 ho hs (vMg_len hl), vS_0 (vMg_len hl)]
  · obtain ⟨L', e1, e2, e3⟩ := cFillSets (d := d) (n := n) ho hv hp (by omega) hg2 hq (X := fun s m => vS v g p good stuck (8 - n) (n + 1) s m) (fun s hs m hm => by rw [hX s hs m hm, show 9 - (n + 1) = 8 - n by omega])
    refine ⟨L', e1, e2, fun s hs m hm => ?_⟩
    rw [e3 s hs m hm, zfi_S ho hs, show 8 - n + 1 = 9 - n by omega]
theorem cEnsLoop {sp : Int32} (ho : Ok v) (hv : zv A = v) (hp : p < vP v) (hg2 : g < 2 ^ 24) : ∀ k L, n + k ≤ 8 → zAsk A L p good stuck g → zRow v L g p good stuck (n + k) → ∃ L', zO_ensuresFrom_1 (d + 5) sp (nI n) (nI (n + k) + (-1)) A L = zO_ensuresFrom_2 (d + 5) sp (nI n) A L' ∧ (∀ c, c ≠ 57 → L' c = L c) ∧ zRow v L' g p good stuck n := by
  intro k
  induction k with
  | zero =>
    intro L hn hq hr
    refine ⟨L, ?_, fun _ _ => rfl, hr⟩
    have hlt : nI (n + 0) + (-1) < nI n := by
      rw [Nat.add_zero]
      cases n with
      | zero => decide
      | succ n => rw [pk_m1]; exact nI_lt (by omega) (by omega)
    rw [zO_ensuresFrom_1_q, if_pos hlt]
  | succ k ih =>
    intro L hn hq hr
    obtain ⟨B, b1, b2, b3⟩ := cFillAt (d := d) (L := L) ho hv hp (n := n + k) (by omega) hg2 hq (Or.inr hr)
    obtain ⟨L', e1, e2, e3⟩ := ih B (by omega) (zAsk_of hq (b2 _ (by decide))) b3
    refine ⟨L', ?_, fun c hc => by rw [e2 c hc, b2 c hc], e3⟩
    rw [← Nat.add_assoc, pk_m1, zO_ensuresFrom_1_q, zifi (nI_ltI (by omega) (by omega)), if_neg (by omega), b1, zbv_s]
    exact e1
theorem cEnsuresFrom {L : zL} (ho : Ok v) (hv : zv A = v) (hp : p < vP v) (hg2 : g < 2 ^ 24) (hn : n ≤ 8) (hs : s < 8) (hm : m < 64) (hq : zAsk A L p good stuck g) : ∃ L', zO_ensuresFrom (d + 6) (nI (zsp n s m)) A L = some (some (.int (if vS v g p good stuck (9 - n) n s m then 1 else 0)), A, L') ∧ (∀ c, c ≠ 57 → L' c = L c) := by
  have hl := ho.len
  have hmax : n ≤ max n (vLen v) ∧ vLen v ≤ max n (vLen v) ∧ max n (vLen v) ≤ 8 := by omega
  obtain ⟨k, hk⟩ : ∃ k, max n (vLen v) = n + k := ⟨max n (vLen v) - n, by omega⟩
  obtain ⟨B, b1, b2, b3⟩ := cFillAt (d := d + 1) (L := L) ho hv hp (n := n + k) (by omega) hg2 hq (Or.inl (by omega))
  obtain ⟨L', e1, e2, e3⟩ := cEnsLoop (d := d + 1) (n := n) (sp := nI (zsp n s m)) ho hv hp hg2 k B (by omega) (zAsk_of hq (b2 _ (by decide))) b3
  refine ⟨L', ?_, fun c hc => by rw [e2 c hc, b2 c hc]⟩
  have hz := e3 s hs m hm
  rw [zO_ensuresFrom_q, cCount (by omega) hs hm, zbi_s, zv_c hv 1 (by decide), hl.1, cMax (by omega) (by omega), zbi_s, hk, zO_ensuresFrom_1_q, zifi (nI_ltI (by omega) (by omega)), if_neg (by omega), b1, zbv_s]
  have e1' : zO_ensuresFrom_1 (d + 6) (nI (zsp n s m)) (nI n) (nI (n + k) + (-1)) A B = zO_ensuresFrom_2 (d + 6) (nI (zsp n s m)) (nI n) A L' := e1
  rw [e1', zO_ensuresFrom_2_q, cRowOf, zbi_s, cState (by omega) hs hm, zbi_s, nI_add, zck_n (by omega) (by decide), cMean hm, zbi_s, nI_clamp (by omega), zifi (lb_test _ hm), hz]
  cases vS v g p good stuck (9 - n) n s m with
  | false => rw [ite_ft, if_pos rfl, zO_ensuresFrom_3_q, zO_ensuresFrom_4_q]; rfl
  | true => rw [ite_tt, if_neg (by decide), zO_ensuresFrom_4_q]; rfl
/-- what one can be sure of now -/
def vSn (v : zA) (p : Nat) (good : Nat → Bool) (stuck : Bool) : Bool := if v 14 3 = 0 then vS v 0 p good stuck (9 - vSz v) (vSz v) (vSt v) (vMe v) else good (vMe v)
end EF
