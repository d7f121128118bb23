/-! ===== the surest worth ===== -/
theorem cSurestWorth {v A : zA} {L : zL} {d p a : Nat} {x : Int32} (ho : Ok v) (hv : zv A = v) (hO : zOld A a) (ha : a + 1 < 1048576) (hp : p < vP v) :
    ∃ A' L', zO_surestWorth (d + 8) (nI p) A L = some (some (.int (vGn v p x 4)), A', L') ∧ (∀ c, c ≠ 51 → c ≠ 54 → c ≠ 56 → A' c = A c) ∧ (∀ i, i ≠ 4 → A' 51 i = A 51 i) ∧ zMi A' v (a + 1) ∧ (∀ c, c ≠ 56 → c ≠ 57 → L' c = L c) := by
  have h5 := ho.P.2
  obtain ⟨A1, a1, a2, a3, a4⟩ := cRenew (d := d + 3) (L := L) ho hv hO ha
  have hv1 : zv A1 = v := (zv_of (fun c hc => a2 c (by omega) (by omega))).trans hv
  obtain ⟨w, w1, w2, w3⟩ := vGn_near (x := x) ho (show p < 4 by omega)
  obtain ⟨A', L', e1, e2, e3⟩ := cHalves (d := d) ho hp w1 w2 w3 8 0 (-99) 54 A1 L (by omega) (by decide) (by decide) w2 w3 (by decide) hv1 a4.2.2.2.2
  refine ⟨A', L', ?_, fun c h1 h2 h3 => by rw [e2 c h3, a2 c h1 h2], fun i hi => by rw [e2 51 (by decide), a3 i hi], ?_, e3⟩
  · rw [zO_surestWorth_q, a1, zbv_s, w1]
    exact e1
  · unfold zMi zWt at *
    rw [e2 51 (by decide), e2 52 (by decide), e2 53 (by decide), e2 54 (by decide)]
    exact a4
