/-! ===== letters read: statement by statement, both alike ===== -/
theorem zne {T : Nat → Int32} {n j l h : Nat} (hz : zin T n j l h = true) (hl : l < 1000) (hh : h < 1000) (hx : h < 59 ∨ 59 < l) : ¬ T j = 59 := by
  obtain ⟨z1, z2, z3⟩ := zin_n hh hl hz
  rw [z1]
  exact nI_ne (show ztl T j ≠ 59 by omega) (by omega) (by decide)
theorem zwe_in {T : Nat → Int32} {n : Nat} : ∀ {q w b M j : Nat}, w + q = 105 → 97 ≤ w → b ≤ j → j < (zwe T n q w b M).1 → zin T n j 97 104 = true
  | 0, w, b, M, j, _, _, h1, h2 => by
    have h3 : j < b := h2
    omega
  | q + 1, w, b, M, j, hw, hw2, h1, h2 => by
    rw [zwe_s] at h2
    cases hz : zin T n b w w
    · rw [hz, ite_ft] at h2
      exact zwe_in (w := w + 1) (by omega) (by omega) h1 h2
    · rw [hz, ite_tt] at h2
      by_cases e : j = b
      · obtain ⟨z1, z2, z3⟩ := zin_n (by omega) (by omega) hz
        rw [e]
        exact zin_yes (zin_lt hz) (by rw [z1]; exact nI_le (by omega) (by omega)) (by rw [z1]; exact nI_le (by omega) (by omega))
      · exact zwe_in (w := w + 1) (by omega) (by omega) (by omega) h2
/-- where a statement ends -/
def zEnd (T : Nat → Int32) (n a e : Nat) : Prop := ∃ f, e = f + 1 ∧ a + 2 ≤ f ∧ zin T n f 59 59 = true ∧ ∀ j, a ≤ j → j < f → ¬ T j = 59
section PE
variable {d n a b k e : Nat} {A A' A0 B : zA} {L M : zL} {T : Nat → Int32} {x : Int32}
theorem zsR_ok (h0 : zin T n a 114 114 = true) (h : (zsR T n a).1 = true) : zEnd T n a (zsR T n a).2 := by
  unfold zsR at *
  cases z1 : zin T n (a + 1) 48 57
  · rw [z1, ite_ft] at h; cases h
  rw [z1, ite_tt] at h
  cases z2 : zin T n (a + 2) 97 104
  · rw [z2, ite_ft] at h; cases h
  rw [z2, ite_tt] at h
  cases z3 : zin T n (a + 3) 48 57
  · rw [z3, ite_ft] at h; cases h
  rw [z3, ite_tt] at h
  rw [ite_tt, ite_tt, ite_tt]
  cases z4 : zin T n (a + 4) 65 70
  · rw [z4, ite_ft] at h
    cases z5 : zin T n (a + 4) 59 59
    · rw [z5, ite_ft] at h; cases h
    rw [ite_ft, ite_tt]
    refine ⟨a + 4, rfl, by omega, z5, fun j h1 h2 => ?_⟩
    have hj : j = a ∨ j = a + 1 ∨ j = a + 2 ∨ j = a + 3 := by omega
    rcases hj with rfl | rfl | rfl | rfl
    · exact zne h0 (by decide) (by decide) (by decide)
    · exact zne z1 (by decide) (by decide) (by decide)
    · exact zne z2 (by decide) (by decide) (by decide)
    · exact zne z3 (by decide) (by decide) (by decide)
  · rw [z4, ite_tt] at h
    cases z5 : zin T n (a + 5) 59 59
    · rw [z5, ite_ft] at h; cases h
    rw [ite_tt, ite_tt]
    refine ⟨a + 5, rfl, by omega, z5, fun j h1 h2 => ?_⟩
    have hj : j = a ∨ j = a + 1 ∨ j = a + 2 ∨ j = a + 3 ∨ j = a + 4 := by omega
    rcases hj with rfl | rfl | rfl | rfl | rfl
    · exact zne h0 (by decide) (by decide) (by decide)
    · exact zne z1 (by decide) (by decide) (by decide)
    · exact zne z2 (by decide) (by decide) (by decide)
    · exact zne z3 (by decide) (by decide) (by decide)
    · exact zne z4 (by decide) (by decide) (by decide)
theorem zsE_ok {l : Nat} (hl : l < 1000) (hl2 : l ≠ 59) (h0 : zin T n a l l = true) (h : (zsE T n a).1 = true) : zEnd T n a (zsE T n a).2 := by
  unfold zsE at *
  cases z1 : zin T n (a + 1) 48 57
  · rw [z1, ite_ft] at h; cases h
  rw [z1, ite_tt] at h
  cases z2 : zin T n (a + 2) 59 59
  · rw [z2, ite_ft] at h; cases h
  rw [ite_tt, ite_tt]
  refine ⟨a + 2, rfl, by omega, z2, fun j h1 h2 => ?_⟩
  have hj : j = a ∨ j = a + 1 := by omega
  rcases hj with rfl | rfl
  · exact zne h0 hl hl (by omega)
  · exact zne z1 (by decide) (by decide) (by decide)
theorem zsP_ok (h0 : zin T n a 112 112 = true) (h : (zsP T n a).1 = true) : zEnd T n a (zsP T n a).2 := by
  unfold zsP at *
  cases z1 : zin T n (a + 1) 48 57
  · rw [z1, ite_ft] at h; cases h
  rw [z1, ite_tt] at h
  cases z2 : zin T n (zwb T n a) 59 59
  · rw [z2, ite_ft] at h; cases h
  rw [ite_tt, ite_tt]
  have hb := (zwe_le (T := T) (n := n) (q := 8) (w := 97) (b := a + 2) (M := 0)).1
  refine ⟨zwb T n a, rfl, hb, z2, fun j h1 h2 => ?_⟩
  have hj : j = a ∨ j = a + 1 ∨ a + 2 ≤ j := by omega
  rcases hj with rfl | rfl | hj
  · exact zne h0 (by decide) (by decide) (by decide)
  · exact zne z1 (by decide) (by decide) (by decide)
  · exact zne (zwe_in (q := 8) (w := 97) (M := 0) (by decide) (by decide) hj h2) (by decide) (by decide) (by decide)
theorem zsD_ok (h0 : zin T n a 118 118 = true) (h1 : zin T n (a + 1) 48 57 = true) (h2 : zin T n (a + 2) 65 70 = true) (h3 : zin T n (a + 3) 43 43 = true ∨ zin T n (a + 3) 45 45 = true) (h : (zsD T n a).1 = true) : zEnd T n a (zsD T n a).2 := by
  unfold zsD at *
  cases z1 : zin T n (a + 4) 48 57
  · rw [z1, ite_ft] at h; cases h
  rw [z1, ite_tt] at h
  cases z2 : zin T n (a + 5) 59 59
  · rw [z2, ite_ft] at h; cases h
  rw [ite_tt, ite_tt]
  refine ⟨a + 5, rfl, by omega, z2, fun j k1 k2 => ?_⟩
  have hj : j = a ∨ j = a + 1 ∨ j = a + 2 ∨ j = a + 3 ∨ j = a + 4 := by omega
  rcases hj with rfl | rfl | rfl | rfl | rfl
  · exact zne h0 (by decide) (by decide) (by decide)
  · exact zne h1 (by decide) (by decide) (by decide)
  · exact zne h2 (by decide) (by decide) (by decide)
  · rcases h3 with h3 | h3
    · exact zne h3 (by decide) (by decide) (by decide)
    · exact zne h3 (by decide) (by decide) (by decide)
  · exact zne z1 (by decide) (by decide) (by decide)
theorem zsV_ok (h0 : zin T n a 118 118 = true) (h : (zsV T n a).1 = true) : zEnd T n a (zsV T n a).2 := by
  unfold zsV at *
  cases z1 : zin T n (a + 1) 48 57
  · rw [z1, ite_ft] at h; cases h
  rw [z1, ite_tt] at h
  cases z2 : zin T n (a + 2) 65 70
  · rw [z2, ite_ft] at h; cases h
  rw [z2, ite_tt] at h
  rw [ite_tt, ite_tt]
  cases z3 : zin T n (a + 3) 43 43
  · rw [z3, ite_ft] at h
    cases z4 : zin T n (a + 3) 45 45
    · rw [z4, ite_ft] at h; cases h
    rw [z4, ite_tt] at h
    rw [ite_ft, ite_tt]
    exact zsD_ok h0 z1 z2 (Or.inr z4) h
  · rw [z3, ite_tt] at h
    rw [ite_tt]
    exact zsD_ok h0 z1 z2 (Or.inl z3) h
theorem zst_ok (h : (zst T n a).1 = true) : zEnd T n a (zst T n a).2 := by
  unfold zst at *
  cases z1 : zin T n a 114 114
  · rw [z1, ite_ft] at h
    rw [ite_ft]
    cases z2 : zin T n a 101 101
    · rw [z2, ite_ft] at h
      rw [ite_ft]
      cases z3 : zin T n a 108 108
      · rw [z3, ite_ft] at h
        rw [ite_ft]
        cases z4 : zin T n a 112 112
        · rw [z4, ite_ft] at h
          rw [ite_ft]
          cases z5 : zin T n a 118 118
          · rw [z5, ite_ft] at h; cases h
          · rw [z5, ite_tt] at h
            rw [ite_tt]; exact zsV_ok z5 h
        · rw [z4, ite_tt] at h
          rw [ite_tt]; exact zsP_ok z4 h
      · rw [z3, ite_tt] at h
        rw [ite_tt]; exact zsE_ok (by decide) (by decide) z3 h
    · rw [z2, ite_tt] at h
      rw [ite_tt]; exact zsE_ok (by decide) (by decide) z2 h
  · rw [z1, ite_tt] at h
    rw [ite_tt]; exact zsR_ok z1 h
/-- where the statements begin -/
def zpo (T : Nat → Int32) (n : Nat) : Nat → Nat
  | 0 => 0
  | k + 1 => (zst T n (zpo T n k)).2
theorem zpo_s : zpo T n (k + 1) = (zst T n (zpo T n k)).2 := rfl
/-- what reading all leaves -/
def zFz (A A' : zA) : Prop := (∀ c, c ≠ 63 → (c < 75 ∨ 80 < c) → A' c = A c) ∧ ∀ i, i ≠ 27 → i ≠ 28 → A' 63 i = A 63 i
theorem zFz.fr (h : zFz A0 A) (h2 : zFr k A A') : zFz A0 A' := ⟨fun c a b => by rw [h2.1 c a b, h.1 c a b], fun i a b => by rw [h2.2.1 i a, h.2 i a b]⟩
theorem zFz.cnt (h : zFz A0 A) : zFz A0 (zput A 63 28 x) := ⟨fun c a b => by rw [zput_o a, h.1 c a b], fun i a b => by rw [zput_s, upd_o b, h.2 i a b]⟩
theorem zRec.of {j : Nat} (h : zRec A T n a j) (hc : ∀ c, 75 ≤ c → c ≤ 80 → A' c j = A c j) : zRec A' T n a j := by
  unfold zRec at *
  rw [hc 75 (by decide) (by decide), hc 76 (by decide) (by decide), hc 77 (by decide) (by decide), hc 78 (by decide) (by decide), hc 79 (by decide) (by decide), hc 80 (by decide) (by decide)]
  exact h
/-- the class is about to read the statement k -/
noncomputable def zXk (d n k : Nat) (T : Nat → Int32) (A0 : zA) (L : zL) : Option zR := zbi (zR_isStatement (d + 4) (zSr A0 (zpo T n k)) L) (fun r1 A1 L1 => zR_isWellFormed_1 (d + 5) r1 (nI k) A1 L1)
theorem zRead {dm : Nat} {B0 : zA} (h2 : A0 33 2 = nI n) (hn : n ≤ 64) (hT : A0 34 = T) : ∀ q k A, n ≤ zpo T n k + q → (∀ j, j < k → (zst T n (zpo T n j)).1 = true) → 3 * k ≤ zpo T n k → zpo T n k ≤ 64 → zMs A T n (zpo T n k) → A 63 28 = nI k → (∀ j, j < k → zRec A T n (zpo T n j) j) → zFz B0 A →
    (∃ K A', 0 < K ∧ K < 32 ∧ (∀ j, j < K → (zst T n (zpo T n j)).1 = true) ∧ n ≤ zpo T n K ∧ zXk d n k T A0 L = some (some (.int 1), zSr A0 (zpo T n K), L) ∧ zM_tongue_3 (dm + 6) A M = zM_tongue_6 (dm + 6) 1 A' M ∧ A' 63 28 = nI K ∧ (∀ j, j < K → zRec A' T n (zpo T n j) j) ∧ zFz B0 A') ∨
    (∃ e A', zXk d n k T A0 L = some (some (.int 0), zSr A0 e, L) ∧ zM_tongue_3 (dm + 6) A M = zM_tongue_6 (dm + 6) 0 A' M ∧ A' 63 27 = nI e ∧ zFz B0 A') := by
  intro q
  induction q with
  | zero =>
    intro k A hq hj h3 h64 hs h28 hrec hfz
    have hno : (zst T n (zpo T n k)).1 = false := by
      cases h : (zst T n (zpo T n k)).1
      · rfl
      · obtain ⟨f, f1, f2, f3, -⟩ := zst_ok h
        have := zin_lt f3
        omega
    obtain ⟨A1, g1, g2, g3, g4⟩ := mStat (d := dm) (L := M) (T := T) (n := n) (k := k) (by omega) hn h64 hs h28
    refine Or.inr ⟨(zst T n (zpo T n k)).2, zput A1 63 28 (nI k + 0), ?_, ?_, by rw [zput_s, upd_o (by decide), g3], (hfz.fr g2).cnt⟩
    · unfold zXk
      rw [cStat h2 hn hT h64, hno, ite_ft, zbi_s, zR_isWellFormed_1_q, if_neg (nI_g64 (by omega)), if_pos rfl, zR_isWellFormed_2_q, zcb_0]
    · rw [zM_tongue_3_q, g1, hno, ite_ft, zbi_s, if_pos rfl, zM_tongue_4_q, zM_tongue_5_q, g2.2.1 28 (by decide), h28, zM_tongue_2_q, if_pos rfl]
  | succ q ih =>
    intro k A hq hj h3 h64 hs h28 hrec hfz
    obtain ⟨A1, g1, g2, g3, g4⟩ := mStat (d := dm) (L := M) (T := T) (n := n) (k := k) (by omega) hn h64 hs h28
    cases hok : (zst T n (zpo T n k)).1
    · refine Or.inr ⟨(zst T n (zpo T n k)).2, zput A1 63 28 (nI k + 0), ?_, ?_, by rw [zput_s, upd_o (by decide), g3], (hfz.fr g2).cnt⟩
      · unfold zXk
        rw [cStat h2 hn hT h64, hok, ite_ft, zbi_s, zR_isWellFormed_1_q, if_neg (nI_g64 (by omega)), if_pos rfl, zR_isWellFormed_2_q, zcb_0]
      · rw [zM_tongue_3_q, g1, hok, ite_ft, zbi_s, if_pos rfl, zM_tongue_4_q, zM_tongue_5_q, g2.2.1 28 (by decide), h28, zM_tongue_2_q, if_pos rfl]
    · obtain ⟨f, f1, f2, f3, f4⟩ := zst_ok hok
      rw [← zpo_s] at f1 g3
      have hlt := zin_lt f3
      obtain ⟨A2, hA2⟩ : ∃ A2, A2 = zput A1 63 28 (nI (k + 1)) := ⟨_, rfl⟩
      have hj' : ∀ j, j < k + 1 → (zst T n (zpo T n j)).1 = true := fun j h => by
        by_cases e : j = k
        · rw [e]; exact hok
        · exact hj j (by omega)
      have hfz2 : zFz B0 A2 := by rw [hA2]; exact (hfz.fr g2).cnt
      have hrec2 : ∀ j, j < k + 1 → zRec A2 T n (zpo T n j) j := fun j h => by
        by_cases e : j = k
        · rw [e]
          exact (g4 hok).of (fun c c1 c2 => by rw [hA2, zput_o (by omega)])
        · exact (hrec j (by omega)).of (fun c c1 c2 => by rw [hA2, zput_o (by omega), g2.2.2 c c1 c2 j e])
      have hs2 : zMs A2 T n (zpo T n (k + 1)) := ⟨by rw [hA2, zput_s, upd_o (by decide), g2.2.1 26 (by decide)]; exact hs.1, by rw [hA2, zput_s, upd_o (by decide), g3], by rw [hA2, zput_o (by decide), g2.1 74 (by decide) (by decide)]; exact hs.2.2⟩
      have e28 : A2 63 28 = nI (k + 1) := by rw [hA2, zput_s, upd_s]
      have hX : zXk d n k T A0 L = if n ≤ zpo T n (k + 1) then some (some (.int 1), zSr A0 (zpo T n (k + 1)), L) else zXk d n (k + 1) T A0 L := by
        unfold zXk
        rw [cStat h2 hn hT h64, hok, ite_tt, zbi_s, zR_isWellFormed_1_q, if_neg (nI_g64 (by omega)), if_neg (by decide), zSr_2, zSr_3, h2, ← zpo_s, zifi (nI_leI (by omega) (by omega)), zR_isWellFormed_2_q, zcb_1, nI_1]
      have hY : zM_tongue_3 (dm + 6) A M = if n ≤ zpo T n (k + 1) then zM_tongue_6 (dm + 6) 1 A2 M else zM_tongue_3 (dm + 6) A2 M := by
        rw [zM_tongue_3_q, g1, hok, ite_tt, zbi_s, if_neg (by decide), zM_tongue_5_q, g2.2.1 28 (by decide), h28, nI_1, ← hA2, zM_tongue_2_q, if_neg (by decide), hs2.1, hs2.2.1, e28]
        by_cases h : n ≤ zpo T n (k + 1)
        · rw [if_pos h, if_neg (nI_nlt h (by omega)), if_neg (nI_ne0 (by omega) (by omega))]
        · rw [if_neg h, if_pos (nI_lt (by omega) (by omega))]
      rw [hX, hY]
      by_cases h : n ≤ zpo T n (k + 1)
      · rw [if_pos h, if_pos h]
        exact Or.inl ⟨k + 1, A2, by omega, by omega, hj', h, rfl, rfl, e28, hrec2, hfz2⟩
      · rw [if_neg h, if_neg h]
        exact ih (k + 1) A2 (by omega) hj' (by omega) (by omega) hs2 e28 hrec2 hfz2
end PE
