/-! ===== class and model answer alike: image, restore ===== -/
section IM
variable {a b d : Nat} {A A' A0 B v w : zA} {L M : zL}
theorem zKp_ke (h : zKe b A0 149 A') (hw : zmw A0 v) : zKp (A' 81) b v := by
  obtain ⟨-, -, -, -, -, h6⟩ := h
  obtain ⟨w65, w66, w67, w68, w69, w70, w71, w72, w73, w10, w11, w12, w13, w14, w15, w18, w16, w17⟩ := hw
  refine ⟨fun j hj => ⟨?_, ?_, ?_, ?_, ?_⟩, fun j hj => ⟨?_, ?_, ?_⟩, fun j hj => ?_, ?_, ?_, ?_, ?_, ?_, ?_, ?_, ?_, ?_⟩
  · rw [h6 j (by omega)]; unfold zvl; rw [if_pos (by omega), w65]
  · rw [Nat.add_assoc, h6 (24 + j) (by omega)]; unfold zvl; rw [if_neg (by omega), if_pos (by omega), w66, show 24 + j - 24 = j by omega]
  · rw [Nat.add_assoc, h6 (48 + j) (by omega)]; unfold zvl; rw [if_neg (by omega), if_neg (by omega), if_pos (by omega), w67, show 48 + j - 48 = j by omega]
  · rw [Nat.add_assoc, h6 (72 + j) (by omega)]; unfold zvl; rw [if_neg (by omega), if_neg (by omega), if_neg (by omega), if_pos (by omega), w68, show 72 + j - 72 = j by omega]
  · rw [Nat.add_assoc, h6 (104 + j) (by omega)]; unfold zvl; rw [if_neg (by omega), if_neg (by omega), if_neg (by omega), if_neg (by omega), if_neg (by omega), if_neg (by omega), if_pos (by omega), w71, show 104 + j - 104 = j by omega]
  · rw [Nat.add_assoc, h6 (96 + j) (by omega)]; unfold zvl; rw [if_neg (by omega), if_neg (by omega), if_neg (by omega), if_neg (by omega), if_pos (by omega), w69, show 96 + j - 96 = j by omega]
  · rw [Nat.add_assoc, h6 (100 + j) (by omega)]; unfold zvl; rw [if_neg (by omega), if_neg (by omega), if_neg (by omega), if_neg (by omega), if_neg (by omega), if_pos (by omega), w70, show 100 + j - 100 = j by omega]
  · rw [Nat.add_assoc, h6 (128 + j) (by omega)]; unfold zvl; rw [if_neg (by omega), if_neg (by omega), if_neg (by omega), if_neg (by omega), if_neg (by omega), if_neg (by omega), if_neg (by omega), if_pos (by omega), w72, show 128 + j - 128 = j by omega]
  · rw [Nat.add_assoc, h6 (132 + j) (by omega)]; unfold zvl; rw [if_neg (by omega), if_neg (by omega), if_neg (by omega), if_neg (by omega), if_neg (by omega), if_neg (by omega), if_neg (by omega), if_neg (by omega), if_pos (by omega), w73, show 132 + j - 132 = j by omega]
  · exact (h6 140 (by omega)).trans w10
  · exact (h6 141 (by omega)).trans w11
  · exact (h6 142 (by omega)).trans w12
  · exact (h6 143 (by omega)).trans w13
  · exact (h6 144 (by omega)).trans w14
  · exact (h6 145 (by omega)).trans w15
  · exact (h6 146 (by omega)).trans w16
  · exact (h6 147 (by omega)).trans w17
  · exact (h6 148 (by omega)).trans w18
/-- a copied world is the same at its places -/
theorem zSm_cp {s t : Nat} (h : zCp A A' s t) (f g : zA) (hf : ∀ c, c < 16 → f (c + 1) = A (s + c)) (hg : ∀ c, c < 16 → g (c + 1) = A' (t + c)) : zSm f g := by
  obtain ⟨-, r2, r3, r4, r5, r6, r7, o1, r9, r10, r11, r12, o8, r14, r15, o13, o0⟩ := h
  have F := fun c (hc : c < 16) => hf c hc
  have G := fun c (hc : c < 16) => hg c hc
  refine ⟨fun j hj => ⟨?_, ?_, ?_, ?_, ?_⟩, fun j hj => ?_, fun j hj => ⟨?_, ?_⟩, fun j hj => ⟨?_, ?_, ?_⟩, fun j hj => ?_, ?_, ?_, ?_, ?_, ?_, ?_, ?_⟩
  · rw [G 2 (by omega), F 2 (by omega), r2 j, if_pos hj]
  · rw [G 3 (by omega), F 3 (by omega), r3 j, if_pos hj]
  · rw [G 4 (by omega), F 4 (by omega), r4 j, if_pos hj]
  · rw [G 5 (by omega), F 5 (by omega), r5 j, if_pos hj]
  · rw [G 11 (by omega), F 11 (by omega), r11 j, if_pos hj]
  · rw [G 6 (by omega), F 6 (by omega), r6 j, if_pos hj]
  · rw [G 7 (by omega), F 7 (by omega), r7 j, if_pos hj]
  · rw [G 14 (by omega), F 14 (by omega), r14 j, if_pos hj]
  · rw [G 9 (by omega), F 9 (by omega), r9 j, if_pos hj]
  · rw [G 10 (by omega), F 10 (by omega), r10 j, if_pos hj]
  · rw [G 12 (by omega), F 12 (by omega), r12 j, if_pos hj]
  · rw [G 15 (by omega), F 15 (by omega), r15 j, if_pos hj]
  · rw [G 1 (by omega), F 1 (by omega), o1, upd_o (by decide), upd_s]
  · rw [G 1 (by omega), F 1 (by omega), o1, upd_s]
  · rw [G 8 (by omega), F 8 (by omega), o8, upd_s]
  · rw [G 0 (by omega), F 0 (by omega), Nat.add_zero, Nat.add_zero, o0, upd_o (by decide), upd_s]
  · rw [G 0 (by omega), F 0 (by omega), Nat.add_zero, Nat.add_zero, o0, upd_s]
  · rw [G 13 (by omega), F 13 (by omega), o13, upd_o (by decide), upd_s]
  · rw [G 13 (by omega), F 13 (by omega), o13, upd_s]
theorem zP_image : zPr (zX_image (d + 70)) (zM_image (d + 70)) := by
  intro a A L h ha
  obtain ⟨v, hv⟩ : ∃ v, zv A = v := ⟨_, rfl⟩
  have ho := h.ok
  have hw := h.mw
  rw [hv] at ho hw
  obtain ⟨A0, c1, c2⟩ := zWi_copyFrom_1_c (d := d + 68) (A := A) (L := L) (by rw [zv_c hv 14 (by decide)]; exact ho.stop)
  obtain ⟨A1, hA1⟩ : ∃ A1, A1 = zput A0 0 10 1 := ⟨_, rfl⟩
  have hA0 : ∀ c, (c < 17 ∨ 32 < c) → A0 c = A c := c2.1
  have hA1c : ∀ c, c ≠ 0 → (c < 17 ∨ 32 < c) → A1 c = A c := fun c h0 hc => by rw [hA1, zput_o h0, hA0 c hc]
  have hw1 : zmw (zput A1 63 30 1) v := zmw_at hw (fun i a b => by rw [zput_s, upd_o (by omega), hA1c 63 (by decide) (by omega)]) (fun c a b => by rw [zput_o (by omega), hA1c c (by omega) (by omega)])
  obtain ⟨A2, m1, m2⟩ := mKeepAll (d := d + 68) (A0 := zput A1 63 30 1) (L := L) (k := 0) (by omega)
  have hkp := zKp_ke m2 hw1
  obtain ⟨k1, k2, k3, k4, k5, k6⟩ := m2
  have hc : ∀ c, c ≠ 0 → c ≠ 63 → c ≠ 81 → (c < 17 ∨ 32 < c) → A2 c = A c := fun c a0 a1 a2 a3 => by rw [k1 c a1 a2, zput_o a1, hA1c c a0 a3]
  have e0 : A2 0 = upd (A 0) 10 1 := by rw [k1 0 (by decide) (by decide), zput_o (by decide), hA1, zput_s, hA0 0 (by omega)]
  have e63 : ∀ i, i ≠ 30 → i ≠ 31 → i ≠ 32 → A2 63 i = A 63 i := fun i a0 a1 a2 => by rw [k2 i a1 a2, zput_s, upd_o a0, hA1c 63 (by decide) (by omega)]
  have e30 : A2 63 30 = 1 := by rw [k2 30 (by decide) (by decide), zput_s, upd_s]
  have hvc : ∀ c, 1 ≤ c → c ≤ 16 → zv A2 c = v c := fun c a1 a2 => by rw [zv_at a2, hc c (by omega) (by omega) (by omega) (by omega), zv_c hv c a2]
  have hsm : zSm v (zv A2) := by
    unfold zSm
    rw [hvc 1 (by decide) (by decide), hvc 2 (by decide) (by decide), hvc 3 (by decide) (by decide), hvc 4 (by decide) (by decide), hvc 5 (by decide) (by decide), hvc 6 (by decide) (by decide), hvc 7 (by decide) (by decide), hvc 8 (by decide) (by decide), hvc 9 (by decide) (by decide), hvc 10 (by decide) (by decide), hvc 11 (by decide) (by decide), hvc 12 (by decide) (by decide), hvc 13 (by decide) (by decide), hvc 14 (by decide) (by decide), hvc 15 (by decide) (by decide), hvc 16 (by decide) (by decide)]
    exact ⟨fun _ _ => ⟨rfl, rfl, rfl, rfl, rfl⟩, fun _ _ => rfl, fun _ _ => ⟨rfl, rfl⟩, fun _ _ => ⟨rfl, rfl, rfl⟩, fun _ _ => rfl, rfl, rfl, rfl, rfl, rfl, rfl, rfl⟩
  obtain ⟨t1, t2⟩ := vSt_sm hsm ho
  have hsi : zSm v (zvi A2) := zSm_cp c2 v (zvi A2) (fun c hc' => by rw [show 1 + c = c + 1 by omega]; exact (zv_c hv (c + 1) (by omega)).symm) (fun c hc' => by
    unfold zvi
    rw [if_pos (by omega), show c + 1 + 16 = 17 + c by omega, k1 _ (by omega) (by omega), zput_o (by omega), hA1, zput_o (by omega)])
  refine ⟨v 14 2, A1, L, A2, L, ?_, ?_, ?_⟩
  · rw [zX_image_q, c1, zbv_s, zcb_1, ← hA1, hA1c 14 (by decide) (by omega), zv_c hv 14 (by decide)]
  · have w15 : A2 63 15 = v 14 2 := by rw [e63 15 (by decide) (by decide) (by decide)]; exact hw.2.2.2.2.2.2.2.2.2.2.2.2.2.2.1
    rw [zM_image_q, zcb_1, show (0 : Int32) = nI 0 from rfl, m1, zbv_s, w15]
  · refine ⟨Ok_sm hsm ho, ?_, by rw [e63 33 (by decide) (by decide) (by decide)]; exact h.gone, by rw [hc 62 (by decide) (by decide) (by decide) (by omega), hc 64 (by decide) (by decide) (by decide) (by omega)]; exact h.ref, ?_, by rw [hc 34 (by decide) (by decide) (by decide) (by omega), hc 74 (by decide) (by decide) (by decide) (by omega)]; exact h.lett, ?_, by rw [hc 61 (by decide) (by decide) (by decide) (by omega), hc 92 (by decide) (by decide) (by decide) (by omega)]; exact h.rows, ?_, ?_⟩
    · have hw2 := zmw_at (B := A2) hw (fun i a b => e63 i (by omega) (by omega) (by omega)) (fun c a b => hc c (by omega) (by omega) (by omega) (by omega))
      unfold zmw at *
      rw [hvc 1 (by decide) (by decide), hvc 2 (by decide) (by decide), hvc 3 (by decide) (by decide), hvc 4 (by decide) (by decide), hvc 5 (by decide) (by decide), hvc 6 (by decide) (by decide), hvc 9 (by decide) (by decide), hvc 10 (by decide) (by decide), hvc 11 (by decide) (by decide), hvc 12 (by decide) (by decide), hvc 13 (by decide) (by decide), hvc 14 (by decide) (by decide), hvc 15 (by decide) (by decide), t1, t2]
      exact hw2
    · rw [hc 33 (by decide) (by decide) (by decide) (by omega), e63 26 (by decide) (by decide) (by decide)]; exact h.tape
    · rw [e0, upd_o (by decide), e63 45 (by decide) (by decide) (by decide), hc 61 (by decide) (by decide) (by decide) (by omega)]; exact h.rown
    · exact Or.inr ⟨by rw [e0, upd_s], e30, Ok_sm hsi ho, zKp_sm hkp hsi ho⟩
    · obtain ⟨b, x1, x2⟩ := h.old
      exact ⟨b, by omega, zOld_of x2 (by rw [hc 51 (by decide) (by decide) (by decide) (by omega)]) (hc 52 (by decide) (by decide) (by decide) (by omega)) (hc 53 (by decide) (by decide) (by decide) (by omega))⟩
/-- what the model put back is a world, if it was one -/
theorem zmw_put {k : Nat} {K : Nat → Int32} (hK : zKp K (200 * k) w) (hB : ∀ i, K i = B 81 i)
    (t65 : ∀ i, 24 ≤ i → B 65 i = w 3 i) (t66 : ∀ i, 24 ≤ i → B 66 i = w 4 i) (t67 : ∀ i, 24 ≤ i → B 67 i = w 5 i) (t68 : ∀ i, 24 ≤ i → B 68 i = w 6 i) (t69 : ∀ i, 4 ≤ i → B 69 i = w 10 i) (t70 : ∀ i, 4 ≤ i → B 70 i = w 11 i) (t71 : ∀ i, 24 ≤ i → B 71 i = w 12 i) (t72 : ∀ i, 4 ≤ i → B 72 i = w 13 i) (t73 : ∀ i, 8 ≤ i → B 73 i = w 15 i)
    (r65 : ∀ i, A' 65 i = if i < 24 then B 81 (200 * k + 0 + i) else B 65 i) (r66 : ∀ i, A' 66 i = if i < 24 then B 81 (200 * k + 24 + i) else B 66 i) (r67 : ∀ i, A' 67 i = if i < 24 then B 81 (200 * k + 48 + i) else B 67 i) (r68 : ∀ i, A' 68 i = if i < 24 then B 81 (200 * k + 72 + i) else B 68 i) (r69 : ∀ i, A' 69 i = if i < 4 then B 81 (200 * k + 96 + i) else B 69 i) (r70 : ∀ i, A' 70 i = if i < 4 then B 81 (200 * k + 100 + i) else B 70 i) (r71 : ∀ i, A' 71 i = if i < 24 then B 81 (200 * k + 104 + i) else B 71 i) (r72 : ∀ i, A' 72 i = if i < 4 then B 81 (200 * k + 128 + i) else B 72 i) (r73 : ∀ i, A' 73 i = if i < 8 then B 81 (200 * k + 132 + i) else B 73 i)
    (f10 : A' 63 10 = B 81 (200 * k + 140)) (f11 : A' 63 11 = B 81 (200 * k + 141)) (f12 : A' 63 12 = B 81 (200 * k + 142)) (f13 : A' 63 13 = B 81 (200 * k + 143)) (f14 : A' 63 14 = B 81 (200 * k + 144)) (f15 : A' 63 15 = B 81 (200 * k + 145)) (f16 : A' 63 16 = B 81 (200 * k + 146)) (f17 : A' 63 17 = B 81 (200 * k + 147)) (f18 : A' 63 18 = B 81 (200 * k + 148)) : zmw A' w := by
  obtain ⟨k1, k2, k3, k4, k5, k6, k7, k8, k9, k10, k11, k12⟩ := hK
  have row : ∀ (f g : Nat → Int32) (n : Nat) (K : Nat → Int32) (h : Nat → Int32), (∀ i, f i = if i < n then K i else g i) → (∀ i, i < n → K i = h i) → (∀ i, n ≤ i → g i = h i) → f = h := by
    intro f g n K h h1 h2 h3
    funext i
    rw [h1 i]
    by_cases hi : i < n
    · rw [if_pos hi, h2 i hi]
    · rw [if_neg hi, h3 i (by omega)]
  refine ⟨row _ _ 24 _ _ r65 (fun i hi => ?_) t65, row _ _ 24 _ _ r66 (fun i hi => ?_) t66, row _ _ 24 _ _ r67 (fun i hi => ?_) t67, row _ _ 24 _ _ r68 (fun i hi => ?_) t68, row _ _ 4 _ _ r69 (fun i hi => ?_) t69, row _ _ 4 _ _ r70 (fun i hi => ?_) t70, row _ _ 24 _ _ r71 (fun i hi => ?_) t71, row _ _ 4 _ _ r72 (fun i hi => ?_) t72, row _ _ 8 _ _ r73 (fun i hi => ?_) t73, by rw [f10, ← hB, k4], by rw [f11, ← hB, k5], by rw [f12, ← hB, k6], by rw [f13, ← hB, k7], by rw [f14, ← hB, k8], by rw [f15, ← hB, k9], by rw [f18, ← hB, k12], by rw [f16, ← hB, k10], by rw [f17, ← hB, k11]⟩
  · rw [← hB, Nat.add_zero]; exact (k1 i hi).1
  · rw [← hB]; exact (k1 i hi).2.1
  · rw [← hB]; exact (k1 i hi).2.2.1
  · rw [← hB]; exact (k1 i hi).2.2.2.1
  · rw [← hB]; exact (k2 i hi).1
  · rw [← hB]; exact (k2 i hi).2.1
  · rw [← hB]; exact (k1 i hi).2.2.2.2
  · rw [← hB]; exact (k2 i hi).2.2
  · rw [← hB]; exact k3 i hi
theorem zP_restore : zPr (zX_restore (d + 70)) (zM_restore (d + 70)) := by
  intro a A L h ha
  obtain ⟨v, hv⟩ : ∃ v, zv A = v := ⟨_, rfl⟩
  have ho := h.ok
  have hw := h.mw
  rw [hv] at ho hw
  rcases h.img with ⟨i1, i2⟩ | ⟨i1, i2, i3, i4⟩
  · exact zPr_no (zNo3 h) (fun A1 n1 => by rw [zX_restore_q, i1, if_pos rfl, n1, zbi_s]) (fun A1 A2 n2 n4 => by rw [zM_restore_q, n4 63 (by decide), i2, if_pos rfl, n2, zbi_s])
  · have h30 : A 30 3 = 0 ∨ A 30 3 = 1 := i3.stop
    obtain ⟨A1, c1, c2⟩ := zW_copyFrom_17_c (d := d + 68) (A := A) (L := L) h30
    have hA1 : ∀ c, (c < 1 ∨ 16 < c) → A1 c = A c := c2.1
    obtain ⟨A2, m1, m2, r65, r66, r67, r68, r69, r70, r71, r72, r73, f10, f11, f12, f13, f14, f15, f16, f17, f18, m3⟩ := mPutAll (d := d + 68) (A0 := A1) (L := L) (k := 0) (by omega)
    have hsi : zSm (zvi A) (zv A2) := zSm_cp c2 (zvi A) (zv A2) (fun c hc => by
      unfold zvi
      rw [if_pos (by omega), show c + 1 + 16 = 17 + c by omega]) (fun c hc => by rw [zv_at (by omega), m2 _ (by omega), show 1 + c = c + 1 by omega])
    have hc : ∀ c, (c < 1 ∨ (16 < c ∧ c < 63) ∨ c = 64 ∨ 73 < c) → A2 c = A c := fun c hc' => by rw [m2 c (by omega), hA1 c (by omega)]
    have h63 : ∀ i, (i < 10 ∨ 18 < i) → i ≠ 31 → i ≠ 32 → A2 63 i = A 63 i := fun i h1 h2 h3 => by rw [m3 i h1 h2 h3, hA1 63 (by omega)]
    have hok : Ok (zv A2) := Ok_sm hsi i3
    obtain ⟨w65, w66, w67, w68, w69, w70, w71, w72, w73, -⟩ := hw
    have hkp := zKp_sm i4 hsi i3
    obtain ⟨-, q2, q3, q4, q5, q6, q7, -, q9, q10, q11, q12, -, q14, q15, -, -⟩ := c2
    have tl : ∀ (r n : Nat) (cc : Nat), cc ≤ 16 → (∀ j, A1 cc j = if j < n then A (cc + 16) j else A cc j) → A r = v cc → A1 r = A r → ∀ i, n ≤ i → A1 r i = zv A2 cc i := fun r n cc h16 hq hr h1 i hi => by
      rw [h1, hr, zv_at h16, m2 cc (by omega), hq i, if_neg (by omega), zv_c hv cc h16]
    have hmw : zmw A2 (zv A2) := zmw_put (k := 0) (K := A 81) (B := A1) hkp (fun i => by rw [hA1 81 (by omega)]) (tl 65 24 3 (by decide) q2 w65 (hA1 65 (by omega))) (tl 66 24 4 (by decide) q3 w66 (hA1 66 (by omega))) (tl 67 24 5 (by decide) q4 w67 (hA1 67 (by omega))) (tl 68 24 6 (by decide) q5 w68 (hA1 68 (by omega))) (tl 69 4 10 (by decide) q9 w69 (hA1 69 (by omega))) (tl 70 4 11 (by decide) q10 w70 (hA1 70 (by omega))) (tl 71 24 12 (by decide) q11 w71 (hA1 71 (by omega))) (tl 72 4 13 (by decide) q12 w72 (hA1 72 (by omega))) (tl 73 8 15 (by decide) q14 w73 (hA1 73 (by omega))) r65 r66 r67 r68 r69 r70 r71 r72 r73 f10 f11 f12 f13 f14 f15 f16 f17 f18
    refine ⟨A1 14 2, A1, L, A2, L, ?_, ?_, RR_w h (zPo_of (fun c hc' => hc c (by omega)) (fun i hi => h63 i (by omega) (by omega) (by omega))) hok hmw ?_⟩
    · rw [zX_restore_q, i1, if_neg (by decide), zX_restore_1_q, c1, zbv_s]
    · have e15 : A2 63 15 = A1 14 2 := by
        have := hmw.2.2.2.2.2.2.2.2.2.2.2.2.2.2.1
        rw [this, zv_at (by decide), m2 14 (by omega)]
      rw [zM_restore_q, hA1 63 (by omega), i2, if_neg (by decide), zM_restore_1_q, show (0 : Int32) = nI 0 from rfl, show zM_passesAll (d + 69) (nI 0) (nI 0) A1 L = _ from m1, zbv_s, e15]
    · obtain ⟨b, x1, x2⟩ := h.old
      exact ⟨b, by omega, zOld_of x2 (by rw [hc 51 (by omega)]) (hc 52 (by omega)) (hc 53 (by omega))⟩
end IM
