/-! ===== the most words: the class says what the model says ===== -/
theorem zany_eq {f g : Nat → Bool} {k : Nat} (h : ∀ t, t < k → f t = g t) : (List.range k).any f = (List.range k).any g := by
  rw [Bool.eq_iff_iff]
  simp only [List.any_eq_true, List.mem_range]
  exact ⟨fun ⟨t, a, b⟩ => ⟨t, a, by rw [← h t a]; exact b⟩, fun ⟨t, a, b⟩ => ⟨t, a, by rw [h t a]; exact b⟩⟩
theorem zall_eq {f g : Nat → Bool} {k : Nat} (h : ∀ t, t < k → f t = g t) : (List.range k).all f = (List.range k).all g := by
  rw [Bool.eq_iff_iff]
  simp only [List.all_eq_true, List.mem_range]
  exact ⟨fun e t a => by rw [← h t a]; exact e t a, fun e t a => by rw [h t a]; exact e t a⟩
section MW2
variable {v A : zA} {L : zL} {d n s m p : Nat}
/-- the row of a count holds the spec's lengths -/
def zRowL (v A : zA) (p n : Nat) : Prop := ∀ s, s < 8 → ∃ l, l ≤ 8 ∧ A 58 (n % 2 * 8 + s) = nI l ∧ ∀ y, 1 ≤ y → y ≤ 8 → decide (y ≤ l) = vZ v p y (9 - n) n s
theorem vRk_len {g r : Nat} (h : vRk v g n r = true) : n < vLen v := by
  unfold vRk vWa at h
  rw [Bool.and_eq_true] at h
  have h1 := h.1
  split at h1
  · simp at h1
  · omega
theorem cFillLen (ho : Ok v) (hv : zv A = v) (hp : p < vP v) (hn : n ≤ 8) (hq : A 56 4 = nI p) (hX : vLen v ≤ n ∨ zRowL v A p (n + 1)) :
    ∃ A', zO_fillLengths (d + 3) (nI n) A L = some (none, A', L) ∧ (∀ c, c ≠ 58 → A' c = A c) ∧ zRowL v A' p n := by
  have h5 := ho.P.2
  have hR := ho.R
  have hpp : 0 < vP v := by omega
  have htr := (ho.tr hpp n).2
  obtain ⟨X, hXd⟩ : ∃ X : Nat → Nat, ∀ s, X s = (A 58 ((n + 1) % 2 * 8 + s)).toNatClampNeg := ⟨_, fun _ => rfl⟩
  have hXX : n < vLen v → ∀ s, s < 8 → X s ≤ 8 ∧ A 58 ((n + 1) % 2 * 8 + s) = nI (X s) ∧ ∀ y, 1 ≤ y → y ≤ 8 → decide (y ≤ X s) = vZ v p y (8 - n) (n + 1) s := by
    intro hl s hs
    rcases hX with h | h
    · omega
    · obtain ⟨l, h1, h2, h3⟩ := h s hs
      have e : X s = l := by rw [hXd, h2, nI_clamp (by omega)]
      rw [e]
      exact ⟨h1, h2, fun y a b => by rw [h3 y a b, show 9 - (n + 1) = 8 - n by omega]⟩
  have hXr : ∀ r, r < vR v → vRk v 0 n r = true → A 58 ((n + 1) % 2 * 8 + vTt v r) = nI (X (vTt v r)) ∧ X (vTt v r) ≤ 8 := by
    intro r hr hk
    have h8 : vTt v r < 8 := ((ho.rule (r := r) (by omega)).2.2.1.clamp (by decide)).2
    obtain ⟨a, b, -⟩ := hXX (vRk_len hk) _ h8
    exact ⟨b, a⟩
  have hwa : vWa v n < 256 := by
    unfold vWa
    split
    · omega
    · exact (ho.pw (p := vTr v n) (by omega)).2
  have hmv : zmv (vRk v 0 n) (vFr v) (vR v) < 256 := zmv_lt _ (fun r hr => by
    obtain ⟨h1, -⟩ := ho.rule (r := r) (by omega)
    exact (h1.clamp (by decide)).2)
  have h2 : ∀ own : Bool, own = decide (vTr v n = p) → ∃ A', zO_fillLengths_2 (d + 3) (nI n) (nI (n % 2 * 8)) (nI ((n + 1) % 2 * 8)) (if own then 1 else 0) A L = some (none, A', L) ∧ (∀ c, c ≠ 58 → A' c = A c) ∧ ∀ s, s < 8 → A' 58 (n % 2 * 8 + s) = nI (zle own ((zmv (vRk v 0 n) (vFr v) (vR v)).testBit s) (vEn v s) n (zfl own (vRk v 0 n) (vFr v) (vTt v) X (vR v) s)) := by
    intro own hoo
    obtain ⟨B, b1, b2, b3, b4⟩ := cLen3 (d := d + 3) (L := L) (n := n) (nx := (n + 1) % 2 * 8) (row := n % 2 * 8) (by omega) (own := own) 8 0 A (by omega) (fun t ht => absurd ht (Nat.not_lt_zero t))
    have hvB : zv B = v := (zv_of (fun c hc => b2 c (by omega))).trans hv
    obtain ⟨C, c1, c2, c3, c4⟩ := cLen7 (d := d + 1) (L := L) (n := n) (row := n % 2 * 8) (nx := (n + 1) % 2 * 8) (own := own) (X := X) ho rfl hwa (by omega) (vR v) 0 B (by omega) hvB (fun r hr hk => by
      have h8 : vTt v r < 8 := ((ho.rule (r := r) (by omega)).2.2.1.clamp (by decide)).2
      rw [b3 _ (by omega)]; exact hXr r hr hk) (fun s hs => b4 s hs)
    have hvC : zv C = v := (zv_of (fun c hc => c2 c (by omega))).trans hvB
    obtain ⟨A', e1, e2, e3, e4⟩ := cLen12 (d := d + 1) (L := L) (n := n) (own := own) (Y := fun s => zfl own (vRk v 0 n) (vFr v) (vTt v) X (vR v) s) (row := n % 2 * 8) ho hmv (by omega) 8 0 C (by omega) hvC (fun t _ ht => c4 t ht) (fun t ht => absurd ht (Nat.not_lt_zero t))
    refine ⟨A', ?_, fun c hc => by rw [e2 c hc, c2 c hc, b2 c hc], e4⟩
    rw [zO_fillLengths_2_q, show (0 : Int32) = nI 0 from rfl]
    rw [show (0 : Int32) = nI 0 from rfl] at b1
    rw [b1, zO_fillLengths_6_q, cWordsAt ho hvB (by omega), zbi_s]
    rw [show zmv (vRk v 0 n) (vFr v) 0 = 0 from rfl] at c1
    rw [show (nI (if vP v = 0 ∨ vLen v ≤ n then 0 else vPw v (vTr v n))) = nI (vWa v n) from rfl, show (0 : Int32) = nI 0 from rfl]
    rw [show (0 : Int32) = nI 0 from rfl] at c1
    rw [c1, zO_fillLengths_11_q, show (0 : Int32) = nI 0 from rfl]
    rw [show (0 : Int32) = nI 0 from rfl] at e1
    exact e1
  have hval : ∀ (A' : zA), (∀ s, s < 8 → A' 58 (n % 2 * 8 + s) = nI (zle (decide (vTr v n = p)) ((zmv (vRk v 0 n) (vFr v) (vR v)).testBit s) (vEn v s) n (zfl (decide (vTr v n = p)) (vRk v 0 n) (vFr v) (vTt v) X (vR v) s))) → zRowL v A' p n := by
    intro A' h s hs
    have h8 : zfl (decide (vTr v n = p)) (vRk v 0 n) (vFr v) (vTt v) X (vR v) s ≤ 8 := zfl_8 _ (fun r hr hk => (hXr r hr hk).2)
    refine ⟨_, ?_, h s hs, fun y hy1 hy8 => ?_⟩
    · unfold zle; split <;> omega
    · rw [show 9 - n = (8 - n) + 1 by omega, vZ_s]
      unfold zle
      by_cases h0 : vMg v 0 n s = 0
      · have hb : (zmv (vRk v 0 n) (vFr v) (vR v)).testBit s = false := by
          cases h : (zmv (vRk v 0 n) (vFr v) (vR v)).testBit s
          · rfl
          · exact absurd h0 ((zmv_Mg ho hs).mp h)
        rw [if_pos h0, hb, Bool.false_and, ite_ft]
      · rw [if_neg h0, (zmv_Mg ho hs).mpr h0, Bool.true_and]
        have hl : n < vLen v := by
          obtain ⟨r, -, h2, -⟩ := zmv_bit _ |>.mp ((zmv_Mg ho hs).mpr h0)
          exact vRk_len h2
        have hx := fun t (ht : t < 8) => (hXX hl (vTo v s t) (ho.to hs ht).2).2.2 y hy1 hy8
        by_cases hpt : vTr v n = p
        · rw [if_pos hpt, decide_eq_true hpt, Bool.true_or, ite_tt, zfl_zfr (mm := vMm v) (m := 0) hy1 hy8, zfr_any ho hs, zany_eq (g := fun t => (vMg v 0 n s).testBit t && vZ v p y (8 - n) (n + 1) (vTo v s t)) (fun t ht => by rw [hx t ht])]
          by_cases hyn : y ≤ n
          · obtain ⟨t, ht, hb⟩ := zmask_bit (k := 8) (vMg_lt v 0 n s) h0
            have e : (List.range 8).any (fun t => (vMg v 0 n s).testBit t && vZ v p y (8 - n) (n + 1) (vTo v s t)) = true := by
              simp only [List.any_eq_true, List.mem_range, Bool.and_eq_true]
              exact ⟨t, ht, hb, vZ_le (by omega)⟩
            rw [e, Bool.or_true]
          · rw [decide_eq_false hyn, Bool.and_false, Bool.false_or]
        · rw [if_neg hpt, decide_eq_false hpt, Bool.false_or]
          cases he : vEn v s with
          | false => rw [Bool.not_false, ite_tt, Bool.true_or, Bool.true_and, zfl_zfr (mm := vMm v) (m := 0) hy1 hy8, zfr_all ho hs, zall_eq (g := fun t => !(vMg v 0 n s).testBit t || vZ v p y (8 - n) (n + 1) (vTo v s t)) (fun t ht => by rw [hx t ht])]
          | true =>
            rw [Bool.not_true, ite_ft, Bool.false_or]
            by_cases hyn : y ≤ n
            · have e : (List.range 8).all (fun t => !(vMg v 0 n s).testBit t || vZ v p y (8 - n) (n + 1) (vTo v s t)) = true := by
                simp only [List.all_eq_true, List.mem_range, Bool.or_eq_true]
                exact fun t ht => Or.inr (vZ_le (by omega))
              rw [e, Bool.and_true]
            · rw [decide_eq_false hyn, Bool.false_and]
  rw [zO_fillLengths_q, cRowOf, zbi_s, nI_1, cRowOf, zbi_s, cAtTurn ho hv (by omega) hpp, zbi_s, hq, zifi (nI_eq (by omega) (by omega))]
  by_cases htp : vTr v n = p
  · rw [if_pos htp]
    obtain ⟨A', e1, e2, e3⟩ := h2 true (by simp [htp])
    rw [ite_tt] at e1
    exact ⟨A', e1, e2, hval A' (fun s hs => by rw [decide_eq_true htp]; exact e3 s hs)⟩
  · rw [if_neg htp, zO_fillLengths_1_q]
    obtain ⟨A', e1, e2, e3⟩ := h2 false (by simp [htp])
    rw [ite_ft] at e1
    exact ⟨A', e1, e2, hval A' (fun s hs => by rw [decide_eq_false htp]; exact e3 s hs)⟩
theorem cLenLoop {sp : Int32} (ho : Ok v) (hp : p < vP v) : ∀ k A, n + k ≤ 8 → zv A = v → A 56 4 = nI p → zRowL v A p (n + k) → ∃ A', zO_mostWords_2 (d + 4) sp (nI n) (nI (n + k) + (-1)) A L = zO_mostWords_3 (d + 4) sp (nI n) A' L ∧ (∀ c, c ≠ 58 → A' c = A c) ∧ zRowL v A' p n := by
  intro k
  induction k with
  | zero =>
    intro A hn hv hq hr
    refine ⟨A, ?_, fun _ _ => rfl, hr⟩
    have hlt : nI (n + 0) + (-1) < nI n := by
      rw [Nat.add_zero]
      cases n with
      | zero => decide
      | succ n => rw [pk_m1]; exact nI_lt (by omega) (by omega)
    rw [zO_mostWords_2_q, if_pos hlt]
  | succ k ih =>
    intro A hn hv hq hr
    obtain ⟨B, b1, b2, b3⟩ := cFillLen (d := d) (L := L) ho hv hp (n := n + k) (by omega) hq (Or.inr hr)
    obtain ⟨A', e1, e2, e3⟩ := ih B (by omega) ((zv_of (fun c hc => b2 c (by omega))).trans hv) (by rw [b2 _ (by decide)]; exact hq) b3
    refine ⟨A', ?_, fun c hc => by rw [e2 c hc, b2 c hc], e3⟩
    rw [← Nat.add_assoc, pk_m1, zO_mostWords_2_q, zifi (nI_ltI (by omega) (by omega)), if_neg (by omega), b1, zbv_s]
    exact e1
theorem vGm_9 {c : Nat → Nat → Int32} (ho : Ok v) (hc : ∀ e n, c e n = nI n) : ∀ f n s m, n + f = 9 → n ≤ 8 → zIs 9 (vGm v 0 c p f n s m) := by
  intro f
  induction f with
  | zero => intro n s m h1 h2; omega
  | succ f ih =>
    intro n s m h1 h2
    have h9 := ho.len.2
    unfold vGm
    split
    · rw [hc]; exact zIs_n (by omega)
    · rename_i h0
      have hl := (vMg_P h0).2
      obtain ⟨t0, ht0, hb0⟩ := zmask_bit (k := 8) (vMg_lt v 0 n s) h0
      refine zfo_in (Q := zIs 9) (fun t _ => ih _ _ _ (by omega) (by omega)) (fun h => ?_) 8 (zfo_any 8 |>.mpr (Or.inr ⟨t0, ht0, hb0⟩))
      have h' : vEn v s = true := h
      show zIs 9 (if vEn v s then c m n else 0)
      rw [if_pos h', hc]; exact zIs_n (by omega)
theorem cMostWords {x : Int32} (ho : Ok v) (hv : zv A = v) (hp : p < vP v) :
    ∃ A' L', zO_mostWords (d + 5) (nI p) A L = some (some (.int (vGn v p x 3)), A', L') ∧ (∀ c, c ≠ 56 → c ≠ 58 → A' c = A c) ∧ (∀ c, c ≠ 56 → L' c = L c) := by
  have h9 := ho.sz.2
  have hl := ho.len
  have hc : ∀ e n, vCt v p x 3 e n = nI n := fun e n => rfl
  obtain ⟨e1, e2, e3⟩ := vSp_eq ho
  have hask : ∃ A1 L1, zO_ask (d + 4) (nI p) (0 : Int64) 0 A L = some (none, A1, L1) ∧ A1 56 4 = nI p ∧ (∀ c, c ≠ 56 → A1 c = A c) ∧ (∀ c, c ≠ 56 → L1 c = L c) := by
    refine ⟨zput (zput (zput A 56 4 (nI p)) 56 6 0) 56 7 0, zputL L 56 5 0, ?_, ?_, fun c hc => ?_, fun c hc => zputL_o hc⟩
    · rw [zO_ask_q]; rfl
    · rw [zput_s, upd_o (by decide), zput_s, upd_o (by decide), zput_s, upd_s]
    · rw [zput_o hc, zput_o hc, zput_o hc]
  obtain ⟨A1, L1, a1, a2, a3, a4⟩ := hask
  have hv1 : zv A1 = v := (zv_of (fun c hc => a3 c (by omega))).trans hv
  have h14 : A1 14 3 = v 14 3 := by rw [zv_c hv1 14 (by decide)]
  rw [zO_mostWords_q, a1, zbv_s, h14]
  rcases ho.stop with h | h
  · obtain ⟨k, hk⟩ : ∃ k, max (vSz v) (vLen v) = vSz v + k := ⟨max (vSz v) (vLen v) - vSz v, by omega⟩
    obtain ⟨B, b1, b2, b3⟩ := cFillLen (d := d + 1) (L := L1) ho hv1 hp (n := vSz v + k) (by omega) a2 (Or.inl (by omega))
    have hvB : zv B = v := (zv_of (fun c hc => b2 c (by omega))).trans hv1
    obtain ⟨A', f1, f2, f3⟩ := cLenLoop (d := d + 1) (L := L1) (n := vSz v) (sp := nI (zsp (vSz v) (vSt v) (vMe v))) ho hp k B (by omega) hvB (by rw [b2 _ (by decide)]; exact a2) b3
    have hvA : zv A' = v := (zv_of (fun c hc => f2 c (by omega))).trans hvB
    obtain ⟨l, g1, g2, g3⟩ := f3 (vSt v) e2
    have hval : vGn v p x 3 = nI l := by
      unfold vGn
      rw [if_pos h]
      refine zle_eq (k := 8) (by decide) (vGm_9 ho hc _ _ _ _ (by omega) (by omega)) (zIs_n (by omega)) (fun y y1 y8 => ?_)
      rw [vGm_vZ hc (by omega) _ _ _ _ (by omega), nI_leI (by omega) (by omega), ← g3 y y1 y8, decide_eq_true_eq]
    refine ⟨A', L1, ?_, fun c h1 h2 => by rw [f2 c h2, b2 c h2, a3 c h1], a4⟩
    rw [h, if_pos rfl, zO_mostWords_1_q, cSpot ho hv1, zbi_s, e1, cCount (by omega) e2 e3, zbi_s, zv_c hv1 1 (by decide), hl.1, cMax (by omega) (by omega), zbi_s, hk, zO_mostWords_2_q, zifi (nI_ltI (by omega) (by omega)), if_neg (by omega), b1, zbv_s, f1, zO_mostWords_3_q, cRowOf, zbi_s, cState (by omega) e2 e3, zbi_s, nI_add, zck_n (by omega) (by decide), nI_clamp (by omega), g2, hval]
  · refine ⟨A1, L1, ?_, fun c h1 h2 => a3 c h1, a4⟩
    have hval : vGn v p x 3 = nI (vSz v) := by
      unfold vGn
      rw [if_neg (by rw [h]; decide)]; rfl
    rw [h, if_neg (by decide), zv_c hv1 14 (by decide), ho.sz.1, hval]
end MW2
