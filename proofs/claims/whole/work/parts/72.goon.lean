/-! ===== all that can be meant: the class goes on ===== -/
theorem lg_cmp0 (x : Int64) : (lg_cmp x 0 = 0) ↔ x = 0 := lg_cmp_eq x 0
theorem lb_any (x : Int64) : (¬ x = 0) ↔ ∃ m, m < 64 ∧ lb x m = true := by
  constructor
  · intro h
    by_cases hx : ∃ m, m < 64 ∧ lb x m = true
    · exact hx
    · refine absurd (lb_ext (fun m hm => ?_)) h
      rw [lb_0]
      cases hb : lb x m with
      | false => rfl
      | true => exact absurd ⟨m, hm, hb⟩ hx
  · rintro ⟨m, hm, hb⟩ h
    rw [h, lb_0] at hb
    cases hb
def zfw (ok : Nat → Bool) (fr tt mm : Nat → Nat) (F : Nat → Nat → Bool) : Nat → Nat → Nat → Bool
  | 0, _, _ => false
  | r + 1, s, m => zfw ok fr tt mm F r s m || (ok r && (decide (tt r = s) && F (fr r) (m ^^^ mm r)))
theorem zfw_s {ok : Nat → Bool} {fr tt mm : Nat → Nat} {F : Nat → Nat → Bool} {r s m : Nat} : zfw ok fr tt mm F (r + 1) s m = (zfw ok fr tt mm F r s m || (ok r && (decide (tt r = s) && F (fr r) (m ^^^ mm r)))) := rfl
theorem zfw_iff {ok : Nat → Bool} {fr tt mm : Nat → Nat} {F : Nat → Nat → Bool} {s m : Nat} : ∀ k, zfw ok fr tt mm F k s m = true ↔ ∃ r, r < k ∧ ok r = true ∧ tt r = s ∧ F (fr r) (m ^^^ mm r) = true
  | 0 => by
    show (false = true) ↔ _
    simp
  | k + 1 => by
    have ih := zfw_iff (ok := ok) (fr := fr) (tt := tt) (mm := mm) (F := F) (s := s) (m := m) k
    rw [zfw_s, Bool.or_eq_true, ih, Bool.and_eq_true, Bool.and_eq_true, decide_eq_true_eq]
    constructor
    · rintro (⟨r, h1, h2⟩ | h2)
      · exact ⟨r, by omega, h2⟩
      · exact ⟨k, by omega, h2⟩
    · rintro ⟨r, h1, h2⟩
      rcases Nat.lt_or_ge r k with h | h
      · exact Or.inl ⟨r, h, h2⟩
      · have : r = k := by omega
        subst this; exact Or.inr h2
section GO
variable {v A : zA} {L : zL} {d n s m p : Nat}
theorem cGo1 {row nx : Int32} {n0 : Nat} (hnx : nx = nI n0) (hn0 : n0 < 9) {x : Int32} : ∀ k s L, s + k = 8 → (∀ t, t < s → ∀ m, lb (L 60 (n0 + t)) m = false) → ∃ L', zH_goOn_1 d x row nx (nI s) A L = zH_goOn_2 d x row nx A L' ∧ (∀ c, c ≠ 60 → L' c = L c) ∧ (∀ i, (i < n0 ∨ n0 + 8 ≤ i) → L' 60 i = L 60 i) ∧ ∀ t, t < 8 → ∀ m, lb (L' 60 (n0 + t)) m = false := by
  subst hnx
  intro k
  induction k with
  | zero =>
    intro s L hs h
    have e : s = 8 := by omega
    subst e
    refine ⟨L, ?_, fun _ _ => rfl, fun _ _ => rfl, h⟩
    rw [zH_goOn_1_q, if_pos (by decide)]
  | succ k ih =>
    intro s L hs h
    obtain ⟨L', e1, e2, e3, e4⟩ := ih (s + 1) (zputL L 60 (n0 + s) 0) (by omega) (fun t ht m => by
      rw [zputL_s]
      by_cases e : t = s
      · rw [e, updL_s, lb_0]
      · rw [updL_o (by omega)]; exact h t (by omega) m)
    refine ⟨L', ?_, fun c hc => by rw [e2 c hc, zputL_o hc], fun i hi => by rw [e3 i hi, zputL_s, updL_o (by omega)], e4⟩
    rw [zH_goOn_1_q, if_neg (nI_g8 (by omega)), nI_add, zck_n (by omega) (by decide), nI_clamp (by omega), nI_1]
    exact e1
theorem cGo3 {row nx w : Nat} {F : Nat → Nat → Bool} (ho : Ok v) (hv : zv A = v) (hwa : w = vWa v n) (hw : w < 256) (hrn : (row = 0 ∧ nx = 8) ∨ (row = 8 ∧ nx = 0)) :
    ∀ k r L, r + k = vR v → (∀ s, s < 8 → ∀ m, m < 64 → lb (L 60 (row + s)) m = F s m) → (∀ s, s < 8 → ∀ m, m < 64 → lb (L 60 (nx + s)) m = zfw (vRk v 0 n) (vFr v) (vTt v) (vMm v) F r s m) →
    ∃ L', zH_goOn_3 (d + 2) (nI row) (nI nx) (nI w) (nI r) A L = zH_goOn_5 (d + 2) (nI row) (nI w) A L' ∧ (∀ c, c ≠ 60 → L' c = L c) ∧ (∀ i, (i < nx ∨ nx + 8 ≤ i) → L' 60 i = L 60 i) ∧ ∀ s, s < 8 → ∀ m, m < 64 → lb (L' 60 (nx + s)) m = zfw (vRk v 0 n) (vFr v) (vTt v) (vMm v) F (vR v) s m := by
  have hR := ho.R
  intro k
  induction k with
  | zero =>
    intro r L hr hF hS
    have e : r = vR v := by omega
    subst e
    refine ⟨L, ?_, fun _ _ => rfl, fun _ _ => rfl, hS⟩
    rw [zH_goOn_3_q, zv_c hv 2 (by decide), hR.1, if_pos (nI_le (by omega) (by omega))]
  | succ k ih =>
    intro r L hr hF hS
    have hr24 : r < 24 := by omega
    obtain ⟨h1, h2, h3, -⟩ := ho.rule hr24
    obtain ⟨a1, a2⟩ := h1.clamp (by decide)
    obtain ⟨b1, b2⟩ := h2.clamp (by decide)
    obtain ⟨c1, c2⟩ := h3.clamp (by decide)
    have fa : (v 3 r).toNatClampNeg = vFr v r := rfl
    have fb : (v 4 r).toNatClampNeg = vBy v r := rfl
    have fc : (v 5 r).toNatClampNeg = vTt v r := rfl
    rw [fa] at a1 a2; rw [fb] at b1 b2; rw [fc] at c1 c2
    cases hb : w.testBit (vBy v r) with
    | false =>
      have hk : vRk v 0 n r = false := by unfold vRk; rw [← hwa, hb]; rfl
      obtain ⟨L', e1, e2⟩ := ih (r + 1) L (by omega) hF (fun s hs m hm => by rw [zfw_s, hk, Bool.false_and, Bool.or_false]; exact hS s hs m hm)
      refine ⟨L', ?_, e2⟩
      rw [zH_goOn_3_q, zv_c hv 2 (by decide), zv_c hv 4 (by decide), hR.1, if_neg (nI_ge (by omega) (by omega)), if_neg (nI_g24 hr24), zck_n hr24 (by decide), nI_clamp (by omega), b1, zifc (zbit0 (by omega) (by omega)), hb, if_pos rfl, zH_goOn_4_q, nI_1]
      exact e1
    | true =>
      have hk : vRk v 0 n r = true := by unfold vRk; rw [← hwa, hb]; simp
      obtain ⟨y, y1, y2⟩ := cAcross (d := d + 1) (L := L) (x := L 60 (row + vFr v r)) ho hv hr24
      obtain ⟨L', e1, e2, e3, e4⟩ := ih (r + 1) (zputL L 60 (nx + vTt v r) (L 60 (nx + vTt v r) ||| y)) (by omega) (fun s hs m hm => by rw [zputL_s, updL_o (by omega)]; exact hF s hs m hm) (fun s hs m hm => by
        rw [zputL_s, zfw_s, hk, Bool.true_and]
        by_cases e : s = vTt v r
        · rw [e, updL_s, lb_or, hS _ c2 m hm, y2 m hm, hF _ a2 _ (Nat.xor_lt_two_pow (n := 6) hm (vMm_lt ho hr24)), decide_eq_true rfl, Bool.true_and]
        · rw [updL_o (by omega), decide_eq_false (fun h => e h.symm), Bool.false_and, Bool.or_false]; exact hS s hs m hm)
      refine ⟨L', ?_, fun c hc => by rw [e2 c hc, zputL_o hc], fun i hi => by rw [e3 i hi, zputL_s, updL_o (by omega)], e4⟩
      rw [zH_goOn_3_q, zv_c hv 2 (by decide), zv_c hv 4 (by decide), hR.1, if_neg (nI_ge (by omega) (by omega)), if_neg (nI_g24 hr24), zck_n hr24 (by decide), nI_clamp (by omega), b1, zifc (zbit0 (by omega) (by omega)), hb, if_neg (by decide), cStateTo ho hv hr24, zbi_s, cStateFrom ho hv hr24, zbi_s, nI_add, nI_add, zck_n (by omega) (by decide), zck_n (by omega) (by decide), nI_clamp (by omega), nI_clamp (by omega), y1, zbl_s, zck_n (by omega) (by decide), zH_goOn_4_q, nI_1]
      exact e1
theorem cGo6 {row w : Nat} {F : Nat → Nat → Bool} (ho : Ok v) (hw : w < 256) (hrow : row < 9) :
    ∀ k s A L, s + k = 8 → zv A = v → (A 59 3 = 0 ∨ A 59 3 = 1) → (∀ s, s < 8 → ∀ m, m < 64 → lb (L 60 (row + s)) m = F s m) →
    ∃ A' L', zH_goOn_6 (d + 2) (nI row) (nI w) (nI s) A L = some (none, A', L') ∧ (∀ c, c ≠ 59 → A' c = A c) ∧ (∀ c, c ≠ 59 → L' c = L c) ∧ (A' 59 3 = 0 ∨ A' 59 3 = 1) ∧
      (∀ x, x < 64 → (lb (L' 59 2) x = true ↔ lb (L 59 2) x = true ∨ ∃ t, s ≤ t ∧ t < 8 ∧ vEn v t = true ∧ F t x = true)) ∧ (A' 59 3 = 1 ↔ A 59 3 = 1 ∨ ∃ t m, s ≤ t ∧ t < 8 ∧ m < 64 ∧ vEn v t = false ∧ w &&& vWf v t = 0 ∧ F t m = true) := by
  intro k
  induction k with
  | zero =>
    intro s A L hs hv h01 hF
    have e : s = 8 := by omega
    subst e
    refine ⟨A, L, ?_, fun _ _ => rfl, fun _ _ => rfl, h01, fun x hx => ⟨Or.inl, fun h => h.elim id (fun ⟨t, h1, h2, _⟩ => by omega)⟩, ⟨Or.inl, fun h => h.elim id (fun ⟨t, m, h1, h2, _⟩ => by omega)⟩⟩
    rw [zH_goOn_6_q, if_pos (by decide), zH_goOn_9_q]
  | succ k ih =>
    intro s A L hs hv h01 hF
    have hs8 : s < 8 := by omega
    have hwf := (ho.wf hs8).2
    have hww : w &&& vWf v s < 256 := Nat.and_lt_two_pow (n := 8) _ hwf
    -- what comes behind
    have h8 : ∀ A1 L1, (∀ c, c ≠ 59 → A1 c = A c) → (∀ c, c ≠ 59 → L1 c = L c) → (A1 59 3 = 0 ∨ A1 59 3 = 1) → (∀ x, x < 64 → (lb (L1 59 2) x = true ↔ lb (L 59 2) x = true ∨ (vEn v s = true ∧ F s x = true))) → (A1 59 3 = 1 ↔ A 59 3 = 1 ∨ ∃ m, m < 64 ∧ vEn v s = false ∧ w &&& vWf v s = 0 ∧ F s m = true) →
        ∃ A' L', zH_goOn_8 (d + 2) (nI row) (nI w) (nI s) A1 L1 = some (none, A', L') ∧ (∀ c, c ≠ 59 → A' c = A c) ∧ (∀ c, c ≠ 59 → L' c = L c) ∧ (A' 59 3 = 0 ∨ A' 59 3 = 1) ∧
      (∀ x, x < 64 → (lb (L' 59 2) x = true ↔ lb (L 59 2) x = true ∨ ∃ t, s ≤ t ∧ t < 8 ∧ vEn v t = true ∧ F t x = true)) ∧ (A' 59 3 = 1 ↔ A 59 3 = 1 ∨ ∃ t m, s ≤ t ∧ t < 8 ∧ m < 64 ∧ vEn v t = false ∧ w &&& vWf v t = 0 ∧ F t m = true) := by
      intro A1 L1 g1 g2 g3 g4 g5
      obtain ⟨A', L', e1, e2, e3, e4, e5, e6⟩ := ih (s + 1) A1 L1 (by omega) ((zv_of (fun c hc => g1 c (by omega))).trans hv) g3 (fun s hs m hm => by rw [g2 60 (by decide)]; exact hF s hs m hm)
      refine ⟨A', L', ?_, fun c hc => by rw [e2 c hc, g1 c hc], fun c hc => by rw [e3 c hc, g2 c hc], e4, fun x hx => ?_, ?_⟩
      · rw [zH_goOn_8_q, nI_1]; exact e1
      · rw [e5 x hx, g4 x hx]
        constructor
        · rintro ((h | h) | ⟨t, a, b, c⟩)
          · exact Or.inl h
          · exact Or.inr ⟨s, Nat.le_refl s, hs8, h⟩
          · exact Or.inr ⟨t, by omega, b, c⟩
        · rintro (h | ⟨t, a, b, c⟩)
          · exact Or.inl (Or.inl h)
          · by_cases e : t = s
            · subst e; exact Or.inl (Or.inr c)
            · exact Or.inr ⟨t, by omega, b, c⟩
      · rw [e6, g5]
        constructor
        · rintro ((h | ⟨m, h1, h2⟩) | ⟨t, m, a, b, c⟩)
          · exact Or.inl h
          · exact Or.inr ⟨s, m, Nat.le_refl s, hs8, h1, h2⟩
          · exact Or.inr ⟨t, m, by omega, b, c⟩
        · rintro (h | ⟨t, m, a, b, c, e⟩)
          · exact Or.inl (Or.inl h)
          · by_cases e0 : t = s
            · subst e0; exact Or.inl (Or.inr ⟨m, c, e⟩)
            · exact Or.inr ⟨t, m, by omega, b, c, e⟩
    rw [zH_goOn_6_q, if_neg (nI_g8 hs8), cIsEnd ho hv hs8, zbi_s]
    cases he : vEn v s with
    | true =>
      rw [ite_tt, if_neg (by decide), nI_add, zck_n (by omega) (by decide), nI_clamp (by omega)]
      refine h8 _ _ (fun _ _ => rfl) (fun c hc => zputL_o hc) h01 (fun x hx => ?_) ?_
      · rw [zputL_s, updL_s, lb_or, hF s hs8 x hx, Bool.or_eq_true, he]
        simp
      · rw [he]; simp
    | false =>
      rw [ite_ft, if_pos rfl, zH_goOn_7_q, nI_add, zck_n (by omega) (by decide), nI_clamp (by omega), zifi (lg_cmp0 _)]
      have hsame : ∀ x, x < 64 → (lb (L 59 2) x = true ↔ lb (L 59 2) x = true ∨ (vEn v s = true ∧ F s x = true)) := fun x hx => by rw [he]; simp
      by_cases h0 : L 60 (row + s) = 0
      · rw [if_pos h0]
        refine h8 _ _ (fun _ _ => rfl) (fun _ _ => rfl) h01 hsame ⟨Or.inl, fun h => h.elim id (fun ⟨m, h1, h2, h3, h4⟩ => ?_)⟩
        rw [← hF s hs8 m h1, h0, lb_0] at h4; cases h4
      · rw [if_neg h0, cWordsFrom ho hv hs8, zbi_s, nI_and, show (0 : Int32) = nI 0 from rfl, zifi (nI_eq (by omega) (by omega)), show nI 0 = (0 : Int32) from rfl]
        obtain ⟨m0, hm0, hb0⟩ := (lb_any _).mp h0
        rw [hF s hs8 m0 hm0] at hb0
        by_cases hz : w &&& vWf v s = 0
        · rw [if_pos hz, zcb_1]
          refine h8 _ _ (fun c hc => zput_o hc) (fun _ _ => rfl) (Or.inr (by rw [zput_s, upd_s])) hsame ?_
          rw [zput_s, upd_s]
          exact ⟨fun _ => Or.inr ⟨m0, hm0, he, hz, hb0⟩, fun _ => rfl⟩
        · rw [if_neg hz]
          refine h8 _ _ (fun _ _ => rfl) (fun _ _ => rfl) h01 hsame ⟨Or.inl, fun h => h.elim id (fun ⟨m, h1, h2, h3, h4⟩ => absurd h3 hz)⟩
end GO
