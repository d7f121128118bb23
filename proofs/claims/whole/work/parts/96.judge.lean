/-! ===== class and model answer alike: judge ===== -/
section JD
variable {a b d n p s m t : Nat} {A A1 A' B v w : zA} {L M : zL} {x y : Int32}
theorem zJw (h : RR a A) : Ok (zv (zput A 0 9 x)) ∧ zmw (zput A 0 9 x) (zv (zput A 0 9 x)) := by
  have hvc : ∀ c, 1 ≤ c → zv (zput A 0 9 x) c = zv A c := fun c hc => by
    unfold zv
    split
    · exact zput_o (by omega)
    · rfl
  have hsm : zSm (zv A) (zv (zput A 0 9 x)) := by
    unfold zSm
    rw [hvc 1 (by decide), hvc 2 (by decide), hvc 3 (by decide), hvc 4 (by decide), hvc 5 (by decide), hvc 6 (by decide), hvc 7 (by decide), hvc 8 (by decide), hvc 9 (by decide), hvc 10 (by decide), hvc 11 (by decide), hvc 12 (by decide), hvc 13 (by decide), hvc 14 (by decide), hvc 15 (by decide), hvc 16 (by decide)]
    exact ⟨fun _ _ => ⟨rfl, rfl, rfl, rfl, rfl⟩, fun _ _ => rfl, fun _ _ => ⟨rfl, rfl⟩, fun _ _ => ⟨rfl, rfl, rfl⟩, fun _ _ => rfl, rfl, rfl, rfl, rfl, rfl, rfl, rfl⟩
  obtain ⟨t1, t2⟩ := vSt_sm hsm h.ok
  refine ⟨Ok_sm hsm h.ok, ?_⟩
  have hw := zmw_at (B := zput A 0 9 x) h.mw (fun i a b => by rw [zput_o (by decide)]) (fun c a b => zput_o (by omega))
  unfold zmw at *
  rw [hvc 1 (by decide), hvc 2 (by decide), hvc 3 (by decide), hvc 4 (by decide), hvc 5 (by decide), hvc 6 (by decide), hvc 9 (by decide), hvc 10 (by decide), hvc 11 (by decide), hvc 12 (by decide), hvc 13 (by decide), hvc 14 (by decide), hvc 15 (by decide), t1, t2]
  exact hw
theorem RR_jd (h : RR a A) (hA : ∀ c, c ≠ 0 → c ≠ 63 → (c < 82 ∨ 91 < c) → A' c = A c) (e0 : A' 0 = upd (A 0) 9 (nI 0)) (e63 : A' 63 = upd (A 63) 45 (nI 0)) : RR (a + 30) A' := by
  obtain ⟨g1, g2⟩ := zJw (x := nI 0) h
  have hv : zv A' = zv (zput A 0 9 (nI 0)) := zv_of (fun c hc => by
    by_cases e : c = 0
    · rw [e, e0, zput_s]
    · rw [zput_o e, hA c e (by omega) (by omega)])
  refine ⟨by rw [hv]; exact g1, ?_, by rw [e63, upd_o (by decide)]; exact h.gone, by rw [hA 62 (by decide) (by decide) (by decide), hA 64 (by decide) (by decide) (by decide)]; exact h.ref, by rw [hA 33 (by decide) (by decide) (by decide), e63, upd_o (by decide)]; exact h.tape, by rw [hA 34 (by decide) (by decide) (by decide), hA 74 (by decide) (by decide) (by decide)]; exact h.lett, ⟨0, by omega, by rw [e0, upd_s], by rw [e63, upd_s], fun i hi => absurd hi (Nat.not_lt_zero i)⟩, by rw [hA 61 (by decide) (by decide) (by decide), hA 92 (by decide) (by decide) (by decide), h.rows], ?_, ?_⟩
  · rw [hv]
    exact zmw_at g2 (fun i a b => by rw [e63, upd_o (by omega), zput_o (by decide)]) (fun c a b => by rw [zput_o (by omega), hA c (by omega) (by omega) (by omega)])
  · rw [e0, upd_o (by decide), e63, upd_o (by decide), hA 81 (by decide) (by decide) (by decide)]
    rw [show zvi A' = zvi A by
      funext c
      unfold zvi
      split
      · rw [hA _ (by omega) (by omega) (by omega)]
      · rfl]
    exact h.img
  · obtain ⟨b, b1, b2⟩ := h.old
    exact ⟨b, by omega, zOld_of b2 (by rw [hA 51 (by decide) (by decide) (by decide)]) (hA 52 (by decide) (by decide) (by decide)) (hA 53 (by decide) (by decide) (by decide))⟩
theorem zJ2 (ho : Ok v) (hv : zv A = v) (hw : zmw B v) (hT : zTab B v 0) (hn : n ≤ 8) (hrow : ∀ i, i < n → ∃ k, k < 8 ∧ A 61 i = nI k ∧ B 92 i = nI k) : ∀ q i s m, i + q = n → s < 8 → m < 64 → ∃ w, zX_judge_2 (d + 3) (nI n) (nI (zsp i s m)) (nI i) A L = some (some (.int w), A, L) ∧ zM_judge_2 (d + 3) (nI n) (nI s) (nI i) B M = some (some (.int w), B, M) := by
  intro q
  induction q with
  | zero =>
    intro i s m hi hs hm
    refine ⟨-9, ?_, ?_⟩
    · rw [zX_judge_2_q, if_pos (nI_le (by omega) (by omega)), zX_judge_4_q]
    · rw [zM_judge_2_q, if_pos (nI_le (by omega) (by omega)), zM_judge_4_q]
  | succ q ih =>
    intro i s m hi hs hm
    obtain ⟨t, ht, r1, r2⟩ := hrow i (by omega)
    have hmay := ho.may (n := i) hs
    have hopt := ho.opt (n := i) hs
    rw [zX_judge_2_q, if_neg (nI_ge (by omega) (by omega)), if_neg (nI_g8 (by omega)), cOptions ho hv (by omega) hs hm, zbi_s, zck_n (by omega) (by decide), nI_clamp (by omega), r1, zifc (zbit0 (by omega) (by omega)), vOpt_bit ho hs ht]
    rw [zM_judge_2_q, if_neg (nI_ge (by omega) (by omega)), mMayAt ho hw hT (by omega) hs, zbi_s, vMg_0 ho hs, zck_n (by omega) (by decide), nI_clamp (by omega), r2, zifc (zbit0 (by omega) (by omega))]
    by_cases hb : (vMay v i s).testBit t = false
    · exact ⟨nI i, by rw [if_pos hb], by rw [if_pos hb]⟩
    · rw [if_neg hb, if_neg hb, zX_judge_3_q, zck_n (by omega) (by decide), nI_clamp (by omega), r1, cAfter ho hv (by omega) hs hm ht, zbi_s, nI_1, zM_judge_3_q, zck_n (by omega) (by decide), nI_clamp (by omega), r2, show (8 : Int32) * nI s + nI t = nI (8 * s + t) by rw [show (8 : Int32) = nI 8 from rfl, pk_mul, nI_add], zck_n (by omega) (by decide), nI_clamp (by omega), nI_1]
      have hg : (vWg v 0 s).testBit t = true := by
        rw [vWg_0 ho hs]
        have hb' : (vMay v i s).testBit t = true := by simpa using hb
        unfold vMay at hb'
        split at hb'
        · simp at hb'
        · rw [Nat.testBit_and, Bool.and_eq_true] at hb'
          exact hb'.2
      rw [((hT.1 s hs).1 t ht hg).1]
      exact ih (i + 1) (vTo v s t) (m ^^^ vMk v s t) (by omega) (ho.to hs ht).2 (Ok.xor hm (ho.mk hs ht))
theorem zP_judge : zPr (zX_judge (d + 70)) (zM_judge (d + 70)) := by
  intro a A L h ha
  have ho := h.ok
  have hw := h.mw
  have h5 := ho.P
  have h9 : A 9 4 = nI (vP (zv A)) := by rw [← h5.1, zv_at (by decide)]
  have h12 : A 63 12 = nI (vP (zv A)) := by rw [← h5.1]; exact hw.2.2.2.2.2.2.2.2.2.2.2.1
  by_cases hp0 : vP (zv A) = 0
  · exact zPr_no (zNo3 h) (fun A1 n1 => by rw [zX_judge_q, h9, hp0, if_pos (by decide), n1, zbi_s]) (fun A1 A2 n2 n4 => by rw [zM_judge_q, n4 63 (by decide), h12, hp0, if_pos (by decide), n2, zbi_s])
  have hne : ¬ nI (vP (zv A)) = 0 := nI_ne0 (by omega) (by omega)
  obtain ⟨n, hn, r1, r2, r3⟩ := h.rown
  obtain ⟨g1, g2⟩ := zJw (x := nI 0) h
  obtain ⟨A1, hA1⟩ : ∃ A1, A1 = zput A 0 9 (nI 0) := ⟨_, rfl⟩
  rw [← hA1] at g1 g2
  obtain ⟨v, hv⟩ : ∃ v, zv A1 = v := ⟨_, rfl⟩
  rw [hv] at g1 g2
  have hg : A1 63 33 = nI 0 := by rw [hA1, zput_o (by decide)]; exact h.gone
  obtain ⟨B, m1, m2, m3⟩ := mTables (d := d + 67) (L := L) g1 g2 hg (by decide)
  obtain ⟨B1, hB1⟩ : ∃ B1, B1 = zput B 63 45 (nI 0) := ⟨_, rfl⟩
  have hT1 : zTab B1 v 0 := zTab_of m3 (fun c a b => by rw [hB1, zput_o (by omega)])
  have hw1 : zmw B1 v := zmw_at g2 (fun i a b => by rw [hB1, zput_s, upd_o (by omega), m2 63 (by omega)]) (fun c a b => by rw [hB1, zput_o (by omega), m2 c (by omega)])
  obtain ⟨w, k1, k2⟩ := zJ2 (A := A1) (B := B1) (n := n) (d := d + 67) (L := L) (M := L) g1 hv hw1 hT1 hn (fun i hi => by
    obtain ⟨k, hk, e⟩ := r3 i hi
    exact ⟨k, hk, by rw [hA1, zput_o (by decide), e], by rw [hB1, zput_o (by decide), m2 92 (by omega), hA1, zput_o (by decide), ← h.rows, e]⟩) n 0 0 0 (by omega) (by omega) (by omega)
  refine ⟨w, A1, L, B1, L, ?_, ?_, RR_jd h (fun c c0 c63 hc => by rw [hB1, zput_o c63, m2 c (by omega), hA1, zput_o c0]) (by rw [hB1, zput_o (by decide), m2 0 (by omega), hA1, zput_s]) (by rw [hB1, zput_s, m2 63 (by omega), hA1, zput_o (by decide)])⟩
  · rw [zX_judge_q, h9, if_neg hne, zX_judge_1_q, r1, show (0 : Int32) = nI 0 from rfl, ← hA1]
    exact k1
  · have h12' : A1 63 12 = nI (vP (zv A)) := by rw [hA1, zput_o (by decide), h12]
    have h45 : B 63 45 = nI n := by rw [m2 63 (by omega), hA1, zput_o (by decide), r2]
    rw [zM_judge_q, h12', if_neg hne, zM_judge_1_q, m1, zbv_s, h45, show (0 : Int32) = nI 0 from rfl, ← hB1]
    exact k2
end JD
