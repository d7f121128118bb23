/-! ===== the class's sets: the rules, the ends ===== -/
def zfi (own mov en gd st x : Bool) : Bool := if mov then (if en then (if own then x || gd else x && gd) else x) else if en then gd else st
theorem zfr_s {own : Bool} {ok : Nat → Bool} {fr tt mm : Nat → Nat} {X : Nat → Nat → Bool} {r s m : Nat} : zfr own ok fr tt mm X (r + 1) s m = if ok r && decide (fr r = s) then (if own then zfr own ok fr tt mm X r s m || X (tt r) (m ^^^ mm r) else zfr own ok fr tt mm X r s m && X (tt r) (m ^^^ mm r)) else zfr own ok fr tt mm X r s m := rfl
theorem zmv_s {ok : Nat → Bool} {fr : Nat → Nat} {r : Nat} : zmv ok fr (r + 1) = if ok r then zmv ok fr r ||| 2 ^ (fr r) else zmv ok fr r := rfl
section FS2
variable {v A : zA} {d g n s m p : Nat} {good : Nat → Bool} {stuck : Bool}
theorem vMm_lt (ho : Ok v) {r : Nat} (hr : r < 24) : vMm v r < 64 := by
  obtain ⟨-, -, -, h4⟩ := ho.rule hr
  unfold vMm vBit
  rcases h4 with h4 | h4
  · rw [h4, if_pos (by decide)]; omega
  · obtain ⟨e1, e2⟩ := h4.clamp (by decide)
    generalize hj : (v 6 r).toNatClampNeg = j at e1 e2
    rw [e1, if_neg (nI_pos (by omega))]
    have := Nat.pow_lt_pow_right (a := 2) (by omega) e2
    omega
theorem cFill7 {row nx w : Nat} {own : Bool} {X : Nat → Nat → Bool} (ho : Ok v) (hv : zv A = v) (hwa : w = vWa v n) (hw : w < 256) (hg : A 56 7 = nI g) (hg2 : g < 2 ^ 24) (hrn : (row = 0 ∧ nx = 8) ∨ (row = 8 ∧ nx = 0)) :
    ∀ k r L, r + k = vR v → (∀ s, s < 8 → ∀ m, m < 64 → lb (L 57 (nx + s)) m = X s m) → (∀ s, s < 8 → ∀ m, m < 64 → lb (L 57 (row + s)) m = zfr own (vRk v g n) (vFr v) (vTt v) (vMm v) X r s m) →
    ∃ L', zO_fillSets_7 (d + 2) (nI row) (nI nx) (if own then 1 else 0) (nI w) (nI (zmv (vRk v g n) (vFr v) r)) (nI r) A L = zO_fillSets_11 (d + 2) (nI row) (if own then 1 else 0) (nI (zmv (vRk v g n) (vFr v) (vR v))) A L' ∧ (∀ c, c ≠ 57 → L' c = L c) ∧ (∀ i, (i < row ∨ row + 8 ≤ i) → L' 57 i = L 57 i) ∧ ∀ s, s < 8 → ∀ m, m < 64 → lb (L' 57 (row + s)) m = zfr own (vRk v g n) (vFr v) (vTt v) (vMm v) X (vR v) s m := by
  have hR := ho.R
  intro k
  induction k with
  | zero =>
    intro r L hr hX hS
    have e : r = vR v := by omega
    subst e
    refine ⟨L, ?_, fun _ _ => rfl, fun _ _ => rfl, hS⟩
    rw [zO_fillSets_7_q, zv_c hv 2 (by decide), hR.1, if_pos (nI_le (by omega) (by omega))]
  | succ k ih =>
    intro r L hr hX hS
    have hr24 : r < 24 := by omega
    obtain ⟨h1, h2, h3, -⟩ := ho.rule hr24
    obtain ⟨a1, a2⟩ := h1.clamp (by decide)
    obtain ⟨b1, b2⟩ := h2.clamp (by decide)
    obtain ⟨c1, c2⟩ := h3.clamp (by decide)
    have fa : (v 3 r).toNatClampNeg = vFr v r := rfl
    have fb : (v 4 r).toNatClampNeg = vBy v r := rfl
    have fc : (v 5 r).toNatClampNeg = vTt v r := rfl
    rw [fa] at a1 a2; rw [fb] at b1 b2; rw [fc] at c1 c2
    have hskip : vRk v g n r = false → zO_fillSets_7 (d + 2) (nI row) (nI nx) (if own then 1 else 0) (nI w) (nI (zmv (vRk v g n) (vFr v) r)) (nI r) A L = zO_fillSets_10 (d + 2) (nI row) (nI nx) (if own then 1 else 0) (nI w) (nI (zmv (vRk v g n) (vFr v) r)) (nI r) A L → _ := fun hk he => (by
      obtain ⟨L', e1, e2⟩ := ih (r + 1) L (by omega) hX (fun s hs m hm => by rw [zfr_s, hk, Bool.false_and, ite_ft]; exact hS s hs m hm)
      rw [zmv_s, hk, ite_ft] at e1
      refine ⟨L', ?_, e2⟩
      rw [he, zO_fillSets_10_q, nI_1]
      exact e1 : ∃ L', zO_fillSets_7 (d + 2) (nI row) (nI nx) (if own then 1 else 0) (nI w) (nI (zmv (vRk v g n) (vFr v) r)) (nI r) A L = zO_fillSets_11 (d + 2) (nI row) (if own then 1 else 0) (nI (zmv (vRk v g n) (vFr v) (vR v))) A L' ∧ (∀ c, c ≠ 57 → L' c = L c) ∧ (∀ i, (i < row ∨ row + 8 ≤ i) → L' 57 i = L 57 i) ∧ ∀ s, s < 8 → ∀ m, m < 64 → lb (L' 57 (row + s)) m = zfr own (vRk v g n) (vFr v) (vTt v) (vMm v) X (vR v) s m)
    have hhead : zO_fillSets_7 (d + 2) (nI row) (nI nx) (if own then 1 else 0) (nI w) (nI (zmv (vRk v g n) (vFr v) r)) (nI r) A L = if (w.testBit (vBy v r)) = false then zO_fillSets_10 (d + 2) (nI row) (nI nx) (if own then 1 else 0) (nI w) (nI (zmv (vRk v g n) (vFr v) r)) (nI r) A L else if g.testBit r = false then zck (nI nx + nI (vTt v r)) 16 (zbl (zG_acrossRule (d + 1) (nI r) (L 57 ((nI nx + nI (vTt v r))).toNatClampNeg) A L) (fun r1 A1 L1 => if (if own then (1 : Int32) else 0) = 0 then zO_fillSets_8 (d + 2) (nI row) (nI nx) (if own then 1 else 0) (nI w) (nI (zmv (vRk v g n) (vFr v) r)) (nI r) (nI (vFr v r)) r1 (nI row + nI (vFr v r)) A1 L1 else zck (nI row + nI (vFr v r)) 16 (zO_fillSets_9 (d + 2) (nI row) (nI nx) (if own then 1 else 0) (nI w) (nI (zmv (vRk v g n) (vFr v) r)) (nI r) (nI (vFr v r)) (nI row + nI (vFr v r)) ((L1 57 ((nI row + nI (vFr v r))).toNatClampNeg) ||| r1) A1 L1))) else zO_fillSets_10 (d + 2) (nI row) (nI nx) (if own then 1 else 0) (nI w) (nI (zmv (vRk v g n) (vFr v) r)) (nI r) A L := by
      rw [zO_fillSets_7_q, zv_c hv 2 (by decide), zv_c hv 4 (by decide), hR.1, if_neg (nI_ge (by omega) (by omega)), if_neg (nI_g24 hr24), zck_n hr24 (by decide), nI_clamp (by omega), b1, cStateFrom ho hv hr24, zbi_s, cStateTo ho hv hr24, zbi_s, hg, zifc (zbit0 (by omega) (by omega)), zifc (zbit0 (by omega) (by omega))]
    cases hb : w.testBit (vBy v r) with
    | false =>
      refine hskip ?_ ?_
      · unfold vRk; rw [← hwa, hb]; rfl
      · rw [hhead, hb, if_pos rfl]
    | true =>
      cases hgr : g.testBit r with
      | true =>
        refine hskip ?_ ?_
        · unfold vRk; rw [hgr]; simp
        · rw [hhead, hb, hgr, if_neg (by decide), if_neg (by decide)]
      | false =>
        have hk : vRk v g n r = true := by unfold vRk; rw [← hwa, hb, hgr]; rfl
        obtain ⟨y, y1, y2⟩ := cAcross (d := d + 1) (L := L) (x := L 57 (nx + vTt v r)) ho hv hr24
        have h10 : ∀ z : Int64, (∀ m, m < 64 → lb z m = zfr own (vRk v g n) (vFr v) (vTt v) (vMm v) X (r + 1) (vFr v r) m) → ∃ L', zO_fillSets_9 (d + 2) (nI row) (nI nx) (if own then 1 else 0) (nI w) (nI (zmv (vRk v g n) (vFr v) r)) (nI r) (nI (vFr v r)) (nI (row + vFr v r)) z A L = zO_fillSets_11 (d + 2) (nI row) (if own then 1 else 0) (nI (zmv (vRk v g n) (vFr v) (vR v))) A L' ∧ (∀ c, c ≠ 57 → L' c = L c) ∧ (∀ i, (i < row ∨ row + 8 ≤ i) → L' 57 i = L 57 i) ∧ ∀ s, s < 8 → ∀ m, m < 64 → lb (L' 57 (row + s)) m = zfr own (vRk v g n) (vFr v) (vTt v) (vMm v) X (vR v) s m := by
          intro z hz
          obtain ⟨L', e1, e2, e3, e4⟩ := ih (r + 1) (zputL L 57 (row + vFr v r) z) (by omega) (fun s hs m hm => by rw [zputL_s, updL_o (by omega)]; exact hX s hs m hm) (fun s hs m hm => by
            rw [zputL_s]
            by_cases e : s = vFr v r
            · rw [e, updL_s]; exact hz m hm
            · rw [updL_o (by omega), zfr_s, hk, show decide (vFr v r = s) = false from decide_eq_false (fun h => e h.symm), Bool.and_false, ite_ft]
              exact hS s hs m hm)
          rw [zmv_s, hk, ite_tt] at e1
          refine ⟨L', ?_, fun c hc => by rw [e2 c hc, zputL_o hc], fun i hi => by rw [e3 i hi, zputL_s, updL_o (by omega)], e4⟩
          rw [zO_fillSets_9_q, zck_n (by omega) (by decide), nI_clamp (by omega), zpow (by omega), nI_or, zO_fillSets_10_q, nI_1]
          exact e1
        have hy : ∀ m, m < 64 → lb y m = X (vTt v r) (m ^^^ vMm v r) := fun m hm => by
          rw [y2 m hm]
          exact hX _ c2 _ (Nat.xor_lt_two_pow (n := 6) hm (vMm_lt ho hr24))
        rw [hhead, hb, hgr, if_neg (by decide), if_pos rfl, nI_add, nI_add, zck_n (by omega) (by decide), nI_clamp (by omega), y1, zbl_s]
        cases own with
        | false =>
          rw [ite_ft] at h10 ⊢
          rw [if_pos (by rfl), zO_fillSets_8_q, nI_add, zck_n (by omega) (by decide), nI_clamp (by omega)]
          refine h10 _ (fun m hm => ?_)
          rw [lb_and, hy m hm, hS _ a2 m hm, zfr_s, hk, show decide (vFr v r = vFr v r) = true from decide_eq_true rfl, Bool.and_true, ite_tt, ite_ft]
        | true =>
          rw [ite_tt] at h10 ⊢
          rw [if_neg (by decide), zck_n (by omega) (by decide), nI_clamp (by omega)]
          refine h10 _ (fun m hm => ?_)
          rw [lb_or, hy m hm, hS _ a2 m hm, zfr_s, hk, show decide (vFr v r = vFr v r) = true from decide_eq_true rfl, Bool.and_true, ite_tt, ite_tt]
end FS2
