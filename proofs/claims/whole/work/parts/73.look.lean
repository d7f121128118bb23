/-! ===== all that can be meant: the class looks ===== -/
section LK
variable {v A : zA} {L : zL} {d n s m p : Nat}
theorem vWa_Mg (ho : Ok v) (hs : s < 8) : vWa v n &&& vWf v s = vMg v 0 n s := by
  unfold vWa vMg
  rw [vWg_0 ho hs]
  split
  · exact Nat.zero_and _
  · rfl
/-- one count, in one: the row behind it, what is meant, what is stuck -/
theorem cGoOn {F : Nat → Nat → Bool} (ho : Ok v) (hv : zv A = v) (hn : n ≤ 8) (h01 : A 59 3 = 0 ∨ A 59 3 = 1) (hF : ∀ s, s < 8 → ∀ m, m < 64 → lb (L 60 (n % 2 * 8 + s)) m = F s m) :
    ∃ A' L', zH_goOn (d + 3) (nI n) A L = some (none, A', L') ∧ (∀ c, c ≠ 59 → A' c = A c) ∧ (∀ c, c ≠ 59 → c ≠ 60 → L' c = L c) ∧ (A' 59 3 = 0 ∨ A' 59 3 = 1) ∧
      (∀ s, s < 8 → ∀ m, m < 64 → lb (L' 60 ((n + 1) % 2 * 8 + s)) m = zfw (vRk v 0 n) (vFr v) (vTt v) (vMm v) F (vR v) s m) ∧
      (∀ x, x < 64 → (lb (L' 59 2) x = true ↔ lb (L 59 2) x = true ∨ ∃ t, t < 8 ∧ vEn v t = true ∧ F t x = true)) ∧ (A' 59 3 = 1 ↔ A 59 3 = 1 ∨ ∃ t m, t < 8 ∧ m < 64 ∧ vEn v t = false ∧ vMg v 0 n t = 0 ∧ F t m = true) := by
  have hR := ho.R
  have hwa : vWa v n < 256 := by
    unfold vWa
    split
    · omega
    · rename_i hc
      have h5 := ho.P.2
      exact (ho.pw (p := vTr v n) (by have := (ho.tr (v := v) (by omega) n).2; omega)).2
  obtain ⟨B, b1, b2, b3, b4⟩ := cGo1 (d := d + 3) (A := A) (row := nI (n % 2 * 8)) (nx := nI ((n + 1) % 2 * 8)) (n0 := (n + 1) % 2 * 8) rfl (by omega) (x := nI n) 8 0 L (by omega) (fun t ht => absurd ht (Nat.not_lt_zero t))
  obtain ⟨C, c1, c2, c3, c4⟩ := cGo3 (d := d + 1) (A := A) (n := n) (row := n % 2 * 8) (nx := (n + 1) % 2 * 8) (F := F) ho hv rfl hwa (by omega) (vR v) 0 B (by omega) (fun s hs m hm => by rw [b3 _ (by omega)]; exact hF s hs m hm) (fun s hs m _ => b4 s hs m)
  obtain ⟨A', L', e1, e2, e3, e4, e5, e6⟩ := cGo6 (d := d + 1) (row := n % 2 * 8) (F := F) ho hwa (by omega) 8 0 A C (by omega) hv h01 (fun s hs m hm => by rw [c3 _ (by omega), b3 _ (by omega)]; exact hF s hs m hm)
  refine ⟨A', L', ?_, e2, fun c h1 h2 => by rw [e3 c h1, c2 c h2, b2 c h2], e4, fun s hs m hm => by rw [e3 60 (by decide)]; exact c4 s hs m hm, fun x hx => ?_, ?_⟩
  · rw [zH_goOn_q, cRowOf, zbi_s, nI_1, cRowOf, zbi_s]
    rw [show nI 0 = (0 : Int32) from rfl] at b1 c1 e1
    rw [b1, zH_goOn_2_q, cWordsAt ho hv (by omega), zbi_s, show (nI (if vP v = 0 ∨ vLen v ≤ n then 0 else vPw v (vTr v n))) = nI (vWa v n) from rfl, c1, zH_goOn_5_q, e1]
  · rw [e5 x hx, c2 59 (by decide), b2 59 (by decide)]
    exact ⟨fun h => h.imp id (fun ⟨t, _, b, c⟩ => ⟨t, b, c⟩), fun h => h.imp id (fun ⟨t, b, c⟩ => ⟨t, Nat.zero_le t, b, c⟩)⟩
  · rw [e6]
    constructor
    · rintro (h | ⟨t, m, a, b, c, e, f, g⟩)
      · exact Or.inl h
      · exact Or.inr ⟨t, m, b, c, e, by rw [← vWa_Mg ho b]; exact f, g⟩
    · rintro (h | ⟨t, m, b, c, e, f, g⟩)
      · exact Or.inl h
      · exact Or.inr ⟨t, m, Nat.zero_le t, b, c, e, by rw [vWa_Mg ho b]; exact f, g⟩
/-- what is reached from a row is what is reached from the row behind it, and what ends here -/
theorem zReach {F : Nat → Nat → Bool} {G : Nat → Nat → Bool} (ho : Ok v) :
    (∃ s m t, s < 8 ∧ m < 64 ∧ t < 8 ∧ F s m = true ∧ (vMg v 0 n s).testBit t = true ∧ G (vTo v s t) (m ^^^ vMk v s t) = true) ↔ ∃ s m, s < 8 ∧ m < 64 ∧ zfw (vRk v 0 n) (vFr v) (vTt v) (vMm v) F (vR v) s m = true ∧ G s m = true := by
  have hR := ho.R.2
  constructor
  · rintro ⟨s, m, t, hs, hm, ht, h1, h2, h3⟩
    obtain ⟨a, b, c, e, f⟩ := vRk_of ho hs ht h2
    have hmk := ho.mk hs ht
    refine ⟨vTo v s t, m ^^^ vMk v s t, (ho.to hs ht).2, Ok.xor hm hmk, ?_, h3⟩
    rw [zfw_iff]
    refine ⟨_, a, b, e, ?_⟩
    rw [c, f, Nat.xor_assoc, Nat.xor_self, Nat.xor_zero]
    exact h1
  · rintro ⟨s', m', hs, hm, h1, h2⟩
    obtain ⟨r, a, b, c, e⟩ := (zfw_iff _).mp h1
    obtain ⟨f1, f2, f3, f4⟩ := vRk_to ho a b
    have hmm := vMm_lt ho (r := r) (by omega)
    have e1 : vTo v (vFr v r) (vBy v r) = vTt v r := by unfold vTo; rw [f3]; rfl
    have e2 : vMk v (vFr v r) (vBy v r) = vMm v r := by unfold vMk; rw [f3]; rfl
    refine ⟨vFr v r, m' ^^^ vMm v r, vBy v r, f1, Ok.xor hm hmm, f2, e, f4, ?_⟩
    rw [e1, e2, c, Nat.xor_assoc, Nat.xor_self, Nat.xor_zero]
    exact h2
theorem cLook4 {last : Nat} (ho : Ok v) (hl8 : last ≤ 8) (hlast : vLen v ≤ last) : ∀ k n A L, n + k = last + 1 → zv A = v → (A 59 3 = 0 ∨ A 59 3 = 1) → (k = 0 → ∀ s, s < 8 → ∀ m, m < 64 → lb (L 60 (n % 2 * 8 + s)) m = false) →
    ∃ A' L', zH_look_4 (d + 4) (nI last) (nI n) A L = some (none, A', L') ∧ (∀ c, c ≠ 59 → A' c = A c) ∧ (∀ c, c ≠ 59 → c ≠ 60 → L' c = L c) ∧ (A' 59 3 = 0 ∨ A' 59 3 = 1) ∧
      (∀ x, x < 64 → (lb (L' 59 2) x = true ↔ lb (L 59 2) x = true ∨ ∃ s m, s < 8 ∧ m < 64 ∧ lb (L 60 (n % 2 * 8 + s)) m = true ∧ vRm v x (9 - n) n s m = true)) ∧
      (A' 59 3 = 1 ↔ A 59 3 = 1 ∨ ∃ s m, s < 8 ∧ m < 64 ∧ lb (L 60 (n % 2 * 8 + s)) m = true ∧ vRs v (9 - n) n s = true) := by
  intro k
  induction k with
  | zero =>
    intro n A L hn hv h01 h0
    refine ⟨A, L, ?_, fun _ _ => rfl, fun _ _ _ => rfl, h01, fun x hx => ⟨Or.inl, fun h => h.elim id (fun ⟨s, m, a, b, c, _⟩ => ?_)⟩, ⟨Or.inl, fun h => h.elim id (fun ⟨s, m, a, b, c, _⟩ => ?_)⟩⟩
    · rw [zH_look_4_q, if_pos (nI_lt (by omega) (by omega)), zH_look_5_q]
    · rw [h0 rfl s a m b] at c; cases c
    · rw [h0 rfl s a m b] at c; cases c
  | succ k ih =>
    intro n A L hn hv h01 h0
    obtain ⟨B, M, b1, b2, b3, b4, b5, b6, b7⟩ := cGoOn (d := d) (n := n) (F := fun s m => lb (L 60 (n % 2 * 8 + s)) m) ho hv (by omega) h01 (fun _ _ _ _ => rfl)
    obtain ⟨A', L', e1, e2, e3, e4, e5, e6⟩ := ih (n + 1) B M (by omega) ((zv_of (fun c hc => b2 c (by omega))).trans hv) b4 (fun hk s hs m hm => by
      rw [b5 s hs m hm]
      cases hz : zfw (vRk v 0 n) (vFr v) (vTt v) (vMm v) (fun s m => lb (L 60 (n % 2 * 8 + s)) m) (vR v) s m with
      | false => rfl
      | true =>
        obtain ⟨r, -, hk2, -⟩ := (zfw_iff _).mp hz
        have := vRk_len hk2
        omega)
    refine ⟨A', L', ?_, fun c hc => by rw [e2 c hc, b2 c hc], fun c h1 h2 => by rw [e3 c h1 h2, b3 c h1 h2], e4, fun x hx => ?_, ?_⟩
    · rw [zH_look_4_q, if_neg (nI_nlt (by omega) (by omega)), b1, zbv_s, nI_1]
      exact e1
    · have hz := zReach (n := n) (F := fun s m => lb (L 60 (n % 2 * 8 + s)) m) (G := fun s m => vRm v x (8 - n) (n + 1) s m) ho
      have e9 : 9 - n = (8 - n) + 1 := by omega
      have h1 : (∃ s m, s < 8 ∧ m < 64 ∧ lb (M 60 ((n + 1) % 2 * 8 + s)) m = true ∧ vRm v x (9 - (n + 1)) (n + 1) s m = true) ↔ ∃ s m, s < 8 ∧ m < 64 ∧ zfw (vRk v 0 n) (vFr v) (vTt v) (vMm v) (fun s m => lb (L 60 (n % 2 * 8 + s)) m) (vR v) s m = true ∧ vRm v x (8 - n) (n + 1) s m = true := by
        constructor
        · rintro ⟨s, m, a, b, c, e⟩
          exact ⟨s, m, a, b, by rw [← b5 s a m b]; exact c, by rw [show 8 - n = 9 - (n + 1) by omega]; exact e⟩
        · rintro ⟨s, m, a, b, c, e⟩
          exact ⟨s, m, a, b, by rw [b5 s a m b]; exact c, by rw [show 9 - (n + 1) = 8 - n by omega]; exact e⟩
      rw [e5 x hx, b6 x hx, h1, ← hz]
      constructor
      · rintro ((h | ⟨t, a, b, c⟩) | ⟨s, m, t, hs, hm, ht, a, b, c⟩)
        · exact Or.inl h
        · exact Or.inr ⟨t, x, a, hx, c, by rw [e9, vRm_s, b, decide_eq_true rfl]; rfl⟩
        · refine Or.inr ⟨s, m, hs, hm, a, ?_⟩
          rw [e9, vRm_s, Bool.or_eq_true]
          refine Or.inr ?_
          simp only [List.any_eq_true, List.mem_range, Bool.and_eq_true]
          exact ⟨t, ht, b, c⟩
      · rintro (h | ⟨s, m, hs, hm, a, b⟩)
        · exact Or.inl (Or.inl h)
        · rw [e9, vRm_s, Bool.or_eq_true, Bool.and_eq_true, decide_eq_true_eq] at b
          simp only [List.any_eq_true, List.mem_range, Bool.and_eq_true] at b
          rcases b with ⟨b1, b2⟩ | ⟨t, ht, b1, b2⟩
          · subst b2; exact Or.inl (Or.inr ⟨s, hs, b1, a⟩)
          · exact Or.inr ⟨s, m, t, hs, hm, ht, a, b1, b2⟩
    · have hz := zReach (n := n) (F := fun s m => lb (L 60 (n % 2 * 8 + s)) m) (G := fun s _ => vRs v (8 - n) (n + 1) s) ho
      have e9 : 9 - n = (8 - n) + 1 := by omega
      have h1 : (∃ s m, s < 8 ∧ m < 64 ∧ lb (M 60 ((n + 1) % 2 * 8 + s)) m = true ∧ vRs v (9 - (n + 1)) (n + 1) s = true) ↔ ∃ s m, s < 8 ∧ m < 64 ∧ zfw (vRk v 0 n) (vFr v) (vTt v) (vMm v) (fun s m => lb (L 60 (n % 2 * 8 + s)) m) (vR v) s m = true ∧ vRs v (8 - n) (n + 1) s = true := by
        constructor
        · rintro ⟨s, m, a, b, c, e⟩
          exact ⟨s, m, a, b, by rw [← b5 s a m b]; exact c, by rw [show 8 - n = 9 - (n + 1) by omega]; exact e⟩
        · rintro ⟨s, m, a, b, c, e⟩
          exact ⟨s, m, a, b, by rw [b5 s a m b]; exact c, by rw [show 9 - (n + 1) = 8 - n by omega]; exact e⟩
      rw [e6, b7, h1, ← hz]
      constructor
      · rintro ((h | ⟨t, m, a, b, c, e, f⟩) | ⟨s, m, t, hs, hm, ht, a, b, c⟩)
        · exact Or.inl h
        · exact Or.inr ⟨t, m, a, b, f, by rw [e9, vRs_s, c, decide_eq_true e]; rfl⟩
        · refine Or.inr ⟨s, m, hs, hm, a, ?_⟩
          rw [e9, vRs_s, Bool.or_eq_true]
          refine Or.inr ?_
          simp only [List.any_eq_true, List.mem_range, Bool.and_eq_true]
          exact ⟨t, ht, b, c⟩
      · rintro (h | ⟨s, m, hs, hm, a, b⟩)
        · exact Or.inl (Or.inl h)
        · rw [e9, vRs_s, Bool.or_eq_true, Bool.and_eq_true, decide_eq_true_eq, Bool.not_eq_true'] at b
          simp only [List.any_eq_true, List.mem_range, Bool.and_eq_true] at b
          rcases b with ⟨b1, b2⟩ | ⟨t, ht, b1, b2⟩
          · exact Or.inl (Or.inr ⟨s, m, hs, hm, b2, b1, a⟩)
          · exact Or.inr ⟨s, m, t, hs, hm, ht, a, b1, b2⟩
theorem cLook2 {sp x : Int32} : ∀ k i L, i + k = 16 → (∀ j, j < i → L 60 j = 0) → ∃ L', zH_look_2 d sp x (nI i) A L = zH_look_3 d sp x A L' ∧ (∀ c, c ≠ 60 → L' c = L c) ∧ ∀ j, j < 16 → L' 60 j = 0 := by
  intro k
  induction k with
  | zero =>
    intro i L hi h
    have e : i = 16 := by omega
    subst e
    refine ⟨L, ?_, fun _ _ => rfl, h⟩
    rw [zH_look_2_q, if_pos (by decide)]
  | succ k ih =>
    intro i L hi h
    obtain ⟨L', e1, e2, e3⟩ := ih (i + 1) (zputL L 60 i 0) (by omega) (fun j hj => by
      rw [zputL_s]
      by_cases e : j = i
      · rw [e, updL_s]
      · rw [updL_o e]; exact h j (by omega))
    refine ⟨L', ?_, fun c hc => by rw [e2 c hc, zputL_o hc], e3⟩
    rw [zH_look_2_q, show (16 : Int32) = nI 16 from rfl, if_neg (nI_ge (by omega) (by omega)), zck_n (by omega) (by decide), nI_clamp (by omega), nI_1]
    exact e1
/-- what can be meant now, what can be stuck now -/
def vRmn (v : zA) (x : Nat) : Bool := if v 14 3 = 0 then vRm v x (9 - vSz v) (vSz v) (vSt v) (vMe v) else decide (x = vMe v)
def vRsn (v : zA) : Bool := decide (v 14 3 = 0) && vRs v (9 - vSz v) (vSz v) (vSt v)
theorem cLook (ho : Ok v) (hv : zv A = v) : ∃ A' L', zH_look (d + 5) A L = some (none, A', L') ∧ (∀ c, c ≠ 59 → A' c = A c) ∧ (∀ c, c ≠ 59 → c ≠ 60 → L' c = L c) ∧ (∀ x, x < 64 → lb (L' 59 2) x = vRmn v x) ∧ A' 59 3 = if vRsn v then 1 else 0 := by
  have h9 := ho.sz.2
  have hl := ho.len
  obtain ⟨e1, e2, e3⟩ := vSp_eq ho
  have hA1 : ∀ c, c ≠ 59 → zput A 59 3 0 c = A c := fun c hc => zput_o hc
  have hv1 : zv (zput A 59 3 0) = v := (zv_put (by decide)).trans hv
  have h14 : zput A 59 3 0 14 3 = v 14 3 := by rw [zput_o (by decide), zv_c hv 14 (by decide)]
  rw [zH_look_q, cSpot ho hv, zbi_s, zcb_0, h14, e1]
  unfold vRmn vRsn
  rcases ho.stop with h | h
  · rw [h, if_pos rfl, zH_look_1_q, cCount (by omega) e2 e3, zbi_s]
    obtain ⟨M, m1, m2, m3⟩ := cLook2 (d := d + 5) (A := zput A 59 3 0) (sp := nI (zsp (vSz v) (vSt v) (vMe v))) (x := nI (vSz v)) 16 0 (zputL L 59 2 0) (by omega) (fun j hj => absurd hj (Nat.not_lt_zero j))
    rw [show nI 0 = (0 : Int32) from rfl] at m1
    have hmax : max (vSz v) (vLen v) < 9 := by omega
    obtain ⟨A', L', f1, f2, f3, f4, f5, f6⟩ := cLook4 (d := d + 1) (last := max (vSz v) (vLen v)) ho (by omega) (by omega) (max (vSz v) (vLen v) + 1 - vSz v) (vSz v) (zput A 59 3 0) (zputL M 60 (vSz v % 2 * 8 + vSt v) (zlshl 1 (nI (vMe v)))) (by omega) hv1 (Or.inl (by rw [zput_s, upd_s])) (fun hk => by omega)
    have hrow : ∀ s m, s < 8 → m < 64 → (lb (zputL M 60 (vSz v % 2 * 8 + vSt v) (zlshl 1 (nI (vMe v))) 60 (vSz v % 2 * 8 + s)) m = true ↔ s = vSt v ∧ m = vMe v) := by
      intro s m hs hm
      rw [zputL_s]
      by_cases e : s = vSt v
      · rw [e, updL_s, lb_pow e3 hm, decide_eq_true_eq]
        simp
      · rw [updL_o (by omega), m3 _ (by omega), lb_0]
        simp [e]
    refine ⟨A', L', ?_, fun c hc => by rw [f2 c hc, hA1 c hc], fun c h1 h2 => by rw [f3 c h1 h2, zputL_o h2, m2 c h2, zputL_o h1], fun x hx => ?_, ?_⟩
    · rw [m1, zH_look_3_q, cRowOf, zbi_s, cState (by omega) e2 e3, zbi_s, cMean e3, zbi_s, nI_add, zck_n (by omega) (by decide), nI_clamp (by omega), zv_c hv1 1 (by decide), hl.1, cMax (by omega) (by omega), zbi_s]
      exact f1
    · rw [if_pos rfl, Bool.eq_iff_iff, f5 x hx]
      constructor
      · rintro (h | ⟨s, m, a, b, c, e⟩)
        · rw [zputL_o (by decide), m2 59 (by decide), zputL_s, updL_s, lb_0] at h; cases h
        · obtain ⟨x1, x2⟩ := (hrow s m a b).mp c
          rw [x1, x2] at e; exact e
      · intro h
        exact Or.inr ⟨vSt v, vMe v, e2, e3, (hrow _ _ e2 e3).mpr ⟨rfl, rfl⟩, h⟩
    · rw [decide_eq_true rfl, Bool.true_and]
      have hiff : A' 59 3 = 1 ↔ vRs v (9 - vSz v) (vSz v) (vSt v) = true := by
        rw [f6]
        constructor
        · rintro (h | ⟨s, m, a, b, c, e⟩)
          · rw [zput_s, upd_s] at h; exact absurd h (by decide)
          · obtain ⟨x1, x2⟩ := (hrow s m a b).mp c
            rw [x1] at e; exact e
        · intro h
          exact Or.inr ⟨vSt v, vMe v, e2, e3, (hrow _ _ e2 e3).mpr ⟨rfl, rfl⟩, h⟩
      cases hz : vRs v (9 - vSz v) (vSz v) (vSt v) with
      | true => rw [ite_tt]; exact hiff.mpr hz
      | false =>
        rw [ite_ft]
        rcases f4 with h | h
        · exact h
        · rw [hiff.mp h] at hz; cases hz
  · rw [h, if_neg (by decide), cMean e3, zbi_s]
    refine ⟨_, _, rfl, hA1, fun c h1 h2 => by rw [zputL_o h1, zputL_o h1], fun x hx => ?_, ?_⟩
    · rw [if_neg (by decide), zputL_s, updL_s, lb_pow e3 hx]
    · rw [zput_s, upd_s, decide_eq_false (by decide), Bool.false_and, ite_ft]
end LK
