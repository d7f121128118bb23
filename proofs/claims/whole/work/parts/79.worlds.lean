/-! ===== another world is as it can be, too ===== -/
section WS
variable {v w : zA}
theorem zv_at {A : zA} {c : Nat} (h : c ≤ 16) : zv A c = A c := by simp [zv, h]
theorem Ok_set (h : ∀ c, 2 ≤ c → c ≤ 9 → w c = v c) (h10 : ∀ p, p < 4 → zIs 7 (w 10 p) ∧ zIs 256 (w 11 p)) (h12 : ∀ i, i < 24 → -9 ≤ (w 12 i).toInt ∧ (w 12 i).toInt ≤ 9)
    (h13a : ∀ i, i < 4 → zIs 4 (w 13 i)) (h13b : ∀ i, i < vP v → zIs (vP v) (w 13 i)) (h13c : ∀ i j, i < vP v → j < vP v → w 13 i = w 13 j → i = j)
    (h1a : zIs 9 (w 1 3)) (h1b : 0 < vLen w) (h1c : zIs 100 (w 1 4)) (h14a : zIs 9 (w 14 2)) (h14b : w 14 3 = 0 ∨ w 14 3 = 1) (h16 : w 16 0 = 0)
    (hs : ∀ i, i < vSz w → ∃ s m t, s < 8 ∧ m < 64 ∧ t < 8 ∧ w 16 i = nI (zsp i s m) ∧ w 15 i = nI t ∧ (vWf v s).testBit t = true ∧ w 16 (i + 1) = nI (zsp (i + 1) (vTo v s t) (m ^^^ vMk v s t))) (ho : Ok v) : Ok w := by
  obtain ⟨o1, o2, o3, o4, o5, o6, o7, o8, o9, -, -, -, -, -, -, -, -, -, -, -, -⟩ := ho
  have e2 := h 2 (by decide) (by decide)
  have e3 := h 3 (by decide) (by decide)
  have e4 := h 4 (by decide) (by decide)
  have e5 := h 5 (by decide) (by decide)
  have e6 := h 6 (by decide) (by decide)
  have e7 := h 7 (by decide) (by decide)
  have e8 := h 8 (by decide) (by decide)
  have e9 := h 9 (by decide) (by decide)
  have eR : vR w = vR v := by unfold vR; rw [e2]
  have eW : ∀ s, vWf w s = vWf v s := fun s => by unfold vWf; rw [e8]
  have eU : ∀ s t, vRu w s t = vRu v s t := fun s t => by unfold vRu; rw [e7]
  have eT : ∀ s t, vTo w s t = vTo v s t := fun s t => by unfold vTo; rw [eU, e5]
  have eM : ∀ s t, vMk w s t = vMk v s t := fun s t => by unfold vMk; rw [eU, e6]
  have eP : vP w = vP v := by unfold vP; rw [e9]
  refine ⟨by rw [e2]; exact o1, by rw [e2]; exact o2, by rw [e3, e4, e5, e6]; exact o3, by rw [eR, e3, e4]; exact o4, by rw [e7]; exact o5, by rw [e8]; exact o6, ?_, ?_, by rw [e9]; exact o9, h10, h12, h13a, by rw [eP]; exact h13b, by rw [eP]; exact h13c, h1a, h1b, h1c, h14a, h14b, h16, ?_⟩
  · intro s t hs' ht
    rw [eW, eU, eR, e3, e4]; exact o7 s t hs' ht
  · intro r hr
    rw [eR] at hr
    rw [e3, e4, e7]; exact o8 r hr
  · intro i hi
    obtain ⟨s, m, t, a, b, c, e, f, g, k⟩ := hs i hi
    exact ⟨s, m, t, a, b, c, e, f, by rw [eW]; exact g, by rw [eT, eM]; exact k⟩
theorem Ok.pp (ho : Ok v) : ∀ p, p < 4 → zIs 7 (v 10 p) ∧ zIs 256 (v 11 p) := ho.2.2.2.2.2.2.2.2.2.1
theorem Ok.ww (ho : Ok v) : ∀ i, i < 24 → -9 ≤ (v 12 i).toInt ∧ (v 12 i).toInt ≤ 9 := ho.2.2.2.2.2.2.2.2.2.2.1
theorem Ok.t4 (ho : Ok v) : ∀ i, i < 4 → zIs 4 (v 13 i) := ho.2.2.2.2.2.2.2.2.2.2.2.1
theorem Ok.tP (ho : Ok v) : ∀ i, i < vP v → zIs (vP v) (v 13 i) := ho.2.2.2.2.2.2.2.2.2.2.2.2.1
theorem Ok.tI (ho : Ok v) : ∀ i j, i < vP v → j < vP v → v 13 i = v 13 j → i = j := ho.2.2.2.2.2.2.2.2.2.2.2.2.2.1
theorem Ok.l9 (ho : Ok v) : zIs 9 (v 1 3) := ho.2.2.2.2.2.2.2.2.2.2.2.2.2.2.1
theorem Ok.s9 (ho : Ok v) : zIs 9 (v 14 2) := ho.2.2.2.2.2.2.2.2.2.2.2.2.2.2.2.2.2.1
theorem Ok.sd (ho : Ok v) : ∀ i, i < vSz v → ∃ s m t, s < 8 ∧ m < 64 ∧ t < 8 ∧ v 16 i = nI (zsp i s m) ∧ v 15 i = nI t ∧ (vWf v s).testBit t = true ∧ v 16 (i + 1) = nI (zsp (i + 1) (vTo v s t) (m ^^^ vMk v s t)) := ho.2.2.2.2.2.2.2.2.2.2.2.2.2.2.2.2.2.2.2.2
/-- people, turns or worths are others -/
theorem Ok_people (h : ∀ c, c ≤ 9 ∨ c = 14 ∨ c = 15 ∨ c = 16 → w c = v c) (h10 : ∀ p, p < 4 → zIs 7 (w 10 p) ∧ zIs 256 (w 11 p)) (h12 : ∀ i, i < 24 → -9 ≤ (w 12 i).toInt ∧ (w 12 i).toInt ≤ 9)
    (h13a : ∀ i, i < 4 → zIs 4 (w 13 i)) (h13b : ∀ i, i < vP v → zIs (vP v) (w 13 i)) (h13c : ∀ i j, i < vP v → j < vP v → w 13 i = w 13 j → i = j) (ho : Ok v) : Ok w := by
  refine Ok_set (fun c a b => h c (by omega)) h10 h12 h13a h13b h13c ?_ ?_ ?_ ?_ ?_ ?_ ?_ ho
  · rw [h 1 (by omega)]; exact ho.l9
  · unfold vLen; rw [h 1 (by omega)]; exact ho.len0
  · rw [h 1 (by omega)]; exact ho.loss
  · rw [h 14 (by omega)]; exact ho.s9
  · rw [h 14 (by omega)]; exact ho.stop
  · rw [h 16 (by omega)]; exact ho.sp0
  · have e : vSz w = vSz v := by unfold vSz; rw [h 14 (by omega)]
    rw [e, h 15 (by omega), h 16 (by omega)]
    exact ho.sd
/-- the talk is another -/
theorem Ok_talk (h : ∀ c, c ≤ 13 → w c = v c) (h14a : zIs 9 (w 14 2)) (h14b : w 14 3 = 0 ∨ w 14 3 = 1) (h16 : w 16 0 = 0)
    (hs : ∀ i, i < vSz w → ∃ s m t, s < 8 ∧ m < 64 ∧ t < 8 ∧ w 16 i = nI (zsp i s m) ∧ w 15 i = nI t ∧ (vWf v s).testBit t = true ∧ w 16 (i + 1) = nI (zsp (i + 1) (vTo v s t) (m ^^^ vMk v s t))) (ho : Ok v) : Ok w := by
  refine Ok_set (fun c a b => h c (by omega)) ?_ ?_ ?_ ?_ ?_ ?_ ?_ ?_ h14a h14b h16 hs ho
  · rw [h 10 (by omega), h 11 (by omega)]; exact ho.pp
  · rw [h 12 (by omega)]; exact ho.ww
  · rw [h 13 (by omega)]; exact ho.t4
  · rw [h 13 (by omega)]; exact ho.tP
  · rw [h 13 (by omega)]; exact ho.tI
  · rw [h 1 (by omega)]; exact ho.l9
  · unfold vLen; rw [h 1 (by omega)]; exact ho.len0
  · rw [h 1 (by omega)]; exact ho.loss
/-- length or loss are others -/
theorem Ok_one (h : ∀ c, 2 ≤ c → c ≤ 16 → w c = v c) (h1a : zIs 9 (w 1 3)) (h1b : 0 < vLen w) (h1c : zIs 100 (w 1 4)) (ho : Ok v) : Ok w := by
  refine Ok_set (fun c a b => h c a (by omega)) ?_ ?_ ?_ ?_ ?_ h1a h1b h1c ?_ ?_ ?_ ?_ ho
  · rw [h 10 (by omega) (by omega), h 11 (by omega) (by omega)]; exact ho.pp
  · rw [h 12 (by omega) (by omega)]; exact ho.ww
  · rw [h 13 (by omega) (by omega)]; exact ho.t4
  · rw [h 13 (by omega) (by omega)]; exact ho.tP
  · rw [h 13 (by omega) (by omega)]; exact ho.tI
  · rw [h 14 (by omega) (by omega)]; exact ho.s9
  · rw [h 14 (by omega) (by omega)]; exact ho.stop
  · rw [h 16 (by omega) (by omega)]; exact ho.sp0
  · have e : vSz w = vSz v := by unfold vSz; rw [h 14 (by omega) (by omega)]
    rw [e, h 15 (by omega) (by omega), h 16 (by omega) (by omega)]
    exact ho.sd
/-- a world of the same places -/
def zSm (v w : zA) : Prop := (∀ j, j < 24 → w 3 j = v 3 j ∧ w 4 j = v 4 j ∧ w 5 j = v 5 j ∧ w 6 j = v 6 j ∧ w 12 j = v 12 j) ∧ (∀ j, j < 64 → w 7 j = v 7 j) ∧ (∀ j, j < 8 → w 8 j = v 8 j ∧ w 15 j = v 15 j) ∧ (∀ j, j < 4 → w 10 j = v 10 j ∧ w 11 j = v 11 j ∧ w 13 j = v 13 j) ∧ (∀ j, j < 9 → w 16 j = v 16 j) ∧
  w 2 6 = v 2 6 ∧ w 2 7 = v 2 7 ∧ w 9 4 = v 9 4 ∧ w 1 3 = v 1 3 ∧ w 1 4 = v 1 4 ∧ w 14 2 = v 14 2 ∧ w 14 3 = v 14 3
theorem Ok_sm (h : zSm v w) (ho : Ok v) : Ok w := by
  have ho0 := ho
  obtain ⟨h3, h7, h8, h10, h16, e26, e27, e94, e13, e14, e142, e143⟩ := h
  obtain ⟨o1, o2, o3, o4, o5, o6, o7, o8, o9, o10, o11, o12, o13, o14, o15, o16, o17, o18, o19, o20, o21⟩ := ho
  have hR := ho0.R
  have h5 := ho0.P.2
  have h9 := ho0.sz.2
  have eR : vR w = vR v := by unfold vR; rw [e26]
  have eW : ∀ s, s < 8 → vWf w s = vWf v s := fun s hs => by unfold vWf; rw [(h8 s hs).1]
  have eU : ∀ s t, s < 8 → t < 8 → vRu w s t = vRu v s t := fun s t hs ht => by unfold vRu; rw [h7 _ (by omega)]
  have eT : ∀ s t, s < 8 → t < 8 → vTo w s t = vTo v s t := fun s t hs ht => by
    unfold vTo; rw [eU s t hs ht, (h3 _ (ho0.ru hs ht).2).2.2.1]
  have eM : ∀ s t, s < 8 → t < 8 → vMk w s t = vMk v s t := fun s t hs ht => by
    unfold vMk; rw [eU s t hs ht, (h3 _ (ho0.ru hs ht).2).2.2.2.1]
  have eP : vP w = vP v := by unfold vP; rw [e94]
  have eS : vSz w = vSz v := by unfold vSz; rw [e142]
  refine ⟨by rw [e26]; exact o1, by rw [e27]; exact o2, fun r hr => ?_, fun r q hr hq a b => ?_, fun i hi => by rw [h7 i hi]; exact o5 i hi, fun s hs => by rw [(h8 s hs).1]; exact o6 s hs, fun s t hs ht => ?_, fun r hr => ?_, by rw [e94]; exact o9, fun p hp => ?_, fun i hi => by rw [(h3 i hi).2.2.2.2]; exact o11 i hi, fun i hi => by rw [(h10 i hi).2.2]; exact o12 i hi, fun i hi => ?_, fun i j hi hj => ?_, by rw [e13]; exact o15, by unfold vLen; rw [e13]; exact o16, by rw [e14]; exact o17, by rw [e142]; exact o18, by rw [e143]; exact o19, by rw [h16 0 (by omega)]; exact o20, fun i hi => ?_⟩
  · obtain ⟨a, b, c, e, -⟩ := h3 r hr
    rw [a, b, c, e]; exact o3 r hr
  · rw [eR] at hr hq
    rw [(h3 r (by omega)).1, (h3 q (by omega)).1] at a
    rw [(h3 r (by omega)).2.1, (h3 q (by omega)).2.1] at b
    exact o4 r q hr hq a b
  · have hru := (ho0.ru hs ht).2
    rw [eW s hs, eU s t hs ht, eR, (h3 _ hru).1, (h3 _ hru).2.1]; exact o7 s t hs ht
  · rw [eR] at hr
    obtain ⟨a, b, -⟩ := h3 r (by omega)
    obtain ⟨f1, f2, -⟩ := o3 r (by omega)
    have g1 := (f1.clamp (by decide)).2
    have g2 := (f2.clamp (by decide)).2
    rw [a, b, h7 _ (by omega)]; exact o8 r hr
  · rw [(h10 p hp).1, (h10 p hp).2.1]; exact o10 p hp
  · rw [eP] at hi ⊢
    rw [(h10 i (by omega)).2.2]; exact o13 i hi
  · rw [eP] at hi hj
    rw [(h10 i (by omega)).2.2, (h10 j (by omega)).2.2]; exact o14 i j hi hj
  · rw [eS] at hi
    obtain ⟨s, m, t, a, b, c, e, f, g, k⟩ := o21 i hi
    exact ⟨s, m, t, a, b, c, by rw [h16 i (by omega)]; exact e, by rw [(h8 i (by omega)).2]; exact f, by rw [eW s a]; exact g, by rw [h16 _ (by omega), eT s t a c, eM s t a c]; exact k⟩
theorem vSt_sm (h : zSm v w) (ho : Ok v) : vSt w = vSt v ∧ vMe w = vMe v := by
  have h9 := ho.sz.2
  have eS : vSz w = vSz v := by unfold vSz; rw [h.2.2.2.2.2.2.2.2.2.2.1]
  have eP : vSp w = vSp v := by unfold vSp; rw [eS, h.2.2.2.2.1 _ (by omega)]
  unfold vSt vMe
  rw [eP]
  exact ⟨rfl, rfl⟩
/-- what lasts beside the world is the same -/
def zPo (A A' : zA) : Prop := A' 0 = A 0 ∧ (∀ c, 17 ≤ c → c ≤ 34 → A' c = A c) ∧ A' 61 = A 61 ∧ A' 62 = A 62 ∧ A' 64 = A 64 ∧ A' 74 = A 74 ∧ (∀ i, (i = 26 ∨ i = 30 ∨ i = 33 ∨ i = 45) → A' 63 i = A 63 i) ∧ (∀ j, j < 200 → A' 81 j = A 81 j) ∧ A' 92 = A 92
theorem zvi_po {A A' : zA} (h : ∀ c, 17 ≤ c → c ≤ 34 → A' c = A c) (h1 : zvi A 0 = zvi A' 0) : zvi A' = zvi A := by
  funext i
  rcases Nat.eq_zero_or_pos i with rfl | hi
  · exact h1.symm
  · unfold zvi
    split
    · rw [h _ (by omega) (by omega)]
    · rfl
/-- the image's rows alone -/
theorem Ok_vi {A A' : zA} (h : ∀ c, 17 ≤ c → c ≤ 34 → A' c = A c) : zSm (zvi A) (zvi A') := by
  have e : ∀ c, 1 ≤ c → c ≤ 16 → zvi A' c = zvi A c := fun c a b => by
    unfold zvi
    rw [if_pos b, if_pos b, h _ (by omega) (by omega)]
  rw [show zSm (zvi A) (zvi A') = zSm (zvi A) (zvi A') from rfl]
  unfold zSm
  rw [e 1 (by decide) (by decide), e 2 (by decide) (by decide), e 3 (by decide) (by decide), e 4 (by decide) (by decide), e 5 (by decide) (by decide), e 6 (by decide) (by decide), e 7 (by decide) (by decide), e 8 (by decide) (by decide), e 9 (by decide) (by decide), e 10 (by decide) (by decide), e 11 (by decide) (by decide), e 12 (by decide) (by decide), e 13 (by decide) (by decide), e 14 (by decide) (by decide), e 15 (by decide) (by decide), e 16 (by decide) (by decide)]
  exact ⟨fun _ _ => ⟨rfl, rfl, rfl, rfl, rfl⟩, fun _ _ => rfl, fun _ _ => ⟨rfl, rfl⟩, fun _ _ => ⟨rfl, rfl, rfl⟩, fun _ _ => rfl, rfl, rfl, rfl, rfl, rfl, rfl, rfl⟩
theorem zKp_sm {K : Nat → Int32} {b : Nat} (h : zKp K b v) (hs : zSm v w) (ho : Ok v) : zKp K b w := by
  obtain ⟨e1, e2⟩ := vSt_sm hs ho
  obtain ⟨k1, k2, k3, k4, k5, k6, k7, k8, k9, k10, k11, k12⟩ := h
  obtain ⟨h3, h7, h8, h10, h16, e26, e27, e94, e13, e14, e142, e143⟩ := hs
  refine ⟨fun j hj => ?_, fun j hj => ?_, fun j hj => ?_, by rw [e26]; exact k4, by rw [e27]; exact k5, by rw [e94]; exact k6, by rw [e13]; exact k7, by rw [e14]; exact k8, by rw [e142]; exact k9, by rw [e1]; exact k10, by rw [e2]; exact k11, by rw [e143]; exact k12⟩
  · obtain ⟨a, b, c, e, f⟩ := h3 j hj
    rw [a, b, c, e, f]; exact k1 j hj
  · obtain ⟨a, b, c⟩ := h10 j hj
    rw [a, b, c]; exact k2 j hj
  · rw [(h8 j hj).2]; exact k3 j hj
theorem RR_w {a a' : Nat} {A A' : zA} (h : RR a A) (hs : zPo A A') (ho : Ok (zv A')) (hw : zmw A' (zv A')) (hO : ∃ b, b ≤ a' ∧ zOld A' b) : RR a' A' := by
  obtain ⟨s0, s1, s61, s62, s64, s74, s63, s81, s92⟩ := hs
  refine ⟨ho, hw, by rw [s63 33 (by omega)]; exact h.gone, by rw [s62, s64]; exact h.ref, ?_, by rw [s1 34 (by decide) (by decide), s74]; exact h.lett, ?_, by rw [s61, s92]; exact h.rows, ?_, hO⟩
  · rw [s1 33 (by decide) (by decide), s63 26 (by omega)]; exact h.tape
  · rw [s0, s63 45 (by omega), s61]; exact h.rown
  · rw [s0, s63 30 (by omega)]
    rcases h.img with hi | ⟨i1, i2, i3, i4⟩
    · exact Or.inl hi
    · exact Or.inr ⟨i1, i2, Ok_sm (Ok_vi s1) i3, zKp_sm (zKp_of i4 s81) (Ok_vi s1) i3⟩
end WS
