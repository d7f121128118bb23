/-! ===== worlds that differ in one thing: what both try ===== -/
/-- what the end of a talk from the beginning is worth to one -/
def vF (v : zA) (p : Nat) : Int32 := vEw v p (vE v 0 0 0 % 128)
/-- a world with one row's place another -/
def vPut (v : zA) (r i : Nat) (x : Int32) : zA := fun c => if c = r then upd (v r) i x else v c
/-- the best of several, the first of like ones -/
def zbf (ok : Nat → Bool) (F : Nat → Int32) : Nat → Nat → Int32 × Int32 → Int32 × Int32
  | 0, _, st => st
  | q + 1, k, st => zbf ok F q (k + 1) (if ok k then (if st.2 < F k then (nI k, F k) else st) else st)
theorem zbf_s {ok : Nat → Bool} {F : Nat → Int32} {q k : Nat} {st : Int32 × Int32} : zbf ok F (q + 1) k st = zbf ok F q (k + 1) (if ok k then (if st.2 < F k then (nI k, F k) else st) else st) := rfl
section T1
variable {a b d n p t r : Nat} {A A' B v w : zA} {L M : zL} {x y : Int32}
theorem vPut_r : vPut v r n x r = upd (v r) n x := if_pos rfl
theorem vPut_o {c : Nat} (h : c ≠ r) : vPut v r n x c = v c := if_neg h
theorem Ok_put (ho : Ok v) (hr : r = 10 ∨ r = 11) (hn : n < 4) (hx : (r = 10 → zIs 7 x) ∧ (r = 11 → zIs 256 x)) : Ok (vPut v r n x) := by
  refine Ok_people (v := v) (fun c hc => vPut_o (by omega)) (fun p hp => ?_) ?_ ?_ ?_ ?_ ho
  · have hpp := ho.pp p hp
    rcases hr with rfl | rfl
    · rw [vPut_r, vPut_o (show 11 ≠ 10 by decide)]
      refine ⟨?_, hpp.2⟩
      by_cases e : p = n
      · rw [e, upd_s]; exact hx.1 rfl
      · rw [upd_o e]; exact hpp.1
    · rw [vPut_r, vPut_o (show 10 ≠ 11 by decide)]
      refine ⟨hpp.1, ?_⟩
      by_cases e : p = n
      · rw [e, upd_s]; exact hx.2 rfl
      · rw [upd_o e]; exact hpp.2
  · rw [vPut_o (by omega)]; exact ho.ww
  · rw [vPut_o (by omega)]; exact ho.t4
  · rw [vPut_o (by omega)]; exact ho.tP
  · rw [vPut_o (by omega)]; exact ho.tI
theorem vP_put (hr : r = 10 ∨ r = 11) : vP (vPut v r n x) = vP v := by unfold vP; rw [vPut_o (by omega)]
/-- a class's state that is as A0 was, but for the mind and one row's place -/
def zTr (A0 A : zA) (r i : Nat) : Prop := (∀ c, (c < 51 ∨ 54 < c) → c ≠ r → A c = A0 c) ∧ ∀ j, j ≠ i → A r j = A0 r j
theorem zTr.rf (A : zA) (r i : Nat) : zTr A A r i := ⟨fun _ _ _ => rfl, fun _ _ => rfl⟩
theorem zTr.put {A0 : zA} (h : zTr A0 A r n) (x : Int32) : zTr A0 (zput A r n x) r n := ⟨fun c hc hr => by rw [zput_o hr]; exact h.1 c hc hr, fun j hj => by rw [zput_s, upd_o hj]; exact h.2 j hj⟩
theorem zTr.mind {A0 : zA} (hr : r < 51) (h : zTr A0 A r n) (hc : ∀ c, (c < 51 ∨ 54 < c) → A' c = A c) : zTr A0 A' r n := ⟨fun c h1 h2 => by rw [hc c h1]; exact h.1 c h1 h2, fun j hj => by rw [hc r (Or.inl hr)]; exact h.2 j hj⟩
theorem zTr.zv {A0 : zA} (hr : r ≤ 16) (h : zTr A0 A r n) (hv : zv A0 = v) (hx : A r n = x) : zv A = vPut v r n x := by
  funext c
  unfold vPut
  by_cases e : c = r
  · subst e
    rw [if_pos rfl, zv_at hr]
    funext j
    by_cases ej : j = n
    · rw [ej, upd_s, hx]
    · rw [upd_o ej, h.2 j ej, zv_c hv c hr]
  · rw [if_neg e, ← hv]
    show (if c ≤ 16 then A c else fun _ => 0) = (if c ≤ 16 then A0 c else fun _ => 0)
    split
    · rw [h.1 c (by omega) e]
    · rfl
theorem zTr.back {A0 : zA} (h : zTr A0 A r n) (hx : A r n = A0 r n) : ∀ c, (c < 51 ∨ 54 < c) → A c = A0 c := by
  intro c hc
  by_cases e : c = r
  · subst e
    funext j
    by_cases ej : j = n
    · rw [ej]; exact hx
    · exact h.2 j ej
  · exact h.1 c hc e
/-- the class weighs the beginning in such a world -/
theorem cTry {A0 : zA} (ho : Ok v) (hv : zv A0 = v) (hr : r = 10 ∨ r = 11) (hn : n < 4) (hx : (r = 10 → zIs 7 x) ∧ (r = 11 → zIs 256 x)) (hp : p < vP v) (h : zTr A0 A r n) (hA : A r n = x) (hO : zOld A b) (hb : b + 1 < 1048576) :
    ∃ A', zD_worthFromBeginning (d + 60) (nI p) A L = some (some (.int (vF (vPut v r n x) p)), A', L) ∧ zTr A0 A' r n ∧ A' r n = x ∧ zOld A' (b + 1) := by
  obtain ⟨A', e1, e2, -, e4⟩ := cWorthFromBeginning (d := d) (L := L) (p := p) (Ok_put ho hr hn hx) (h.zv (by omega) hv hA) hO hb (by rw [vP_put hr]; exact hp)
  exact ⟨A', e1, h.mind (by omega) e2, by rw [e2 r (by omega)]; exact hA, e4.old⟩
/-- so does the model -/
def zTm2 (B0 B : zA) (r i : Nat) : Prop := (∀ c, (c < 82 ∨ 88 < c) → c ≠ r → B c = B0 c) ∧ ∀ j, j ≠ i → B r j = B0 r j
theorem zTm2.rf (A : zA) (r i : Nat) : zTm2 A A r i := ⟨fun _ _ _ => rfl, fun _ _ => rfl⟩
theorem zTm2.put {A0 : zA} (h : zTm2 A0 A r n) (x : Int32) : zTm2 A0 (zput A r n x) r n := ⟨fun c hc hr => by rw [zput_o hr]; exact h.1 c hc hr, fun j hj => by rw [zput_s, upd_o hj]; exact h.2 j hj⟩
theorem zTm2.mind {A0 : zA} (hr : r < 82) (h : zTm2 A0 A r n) (hc : ∀ c, (c < 82 ∨ 88 < c) → A' c = A c) : zTm2 A0 A' r n := ⟨fun c h1 h2 => by rw [hc c h1]; exact h.1 c h1 h2, fun j hj => by rw [hc r (Or.inl hr)]; exact h.2 j hj⟩
theorem zTm2.back {A0 : zA} (h : zTm2 A0 A r n) (hx : A r n = A0 r n) : ∀ c, (c < 82 ∨ 88 < c) → A c = A0 c := by
  intro c hc
  by_cases e : c = r
  · subst e
    funext j
    by_cases ej : j = n
    · rw [ej]; exact hx
    · exact h.2 j ej
  · exact h.1 c hc e
theorem zTm2.mw {B0 : zA} {r2 : Nat} (hr : (r = 10 ∧ r2 = 69) ∨ (r = 11 ∧ r2 = 70)) (h : zTm2 B0 B r2 n) (hw : zmw B0 v) (hx : B r2 n = x) : zmw B (vPut v r n x) := by
  have hw' := hw
  obtain ⟨-, -, -, -, w69, w70, w71, w72, -⟩ := hw'
  refine zmw_people hw (fun i _ _ => by rw [h.1 63 (by omega) (by omega)]) (fun c hc => h.1 c (by omega) (by omega)) (fun c hc => vPut_o (by omega)) ?_ ?_ ?_ ?_
  · rcases hr with ⟨rfl, rfl⟩ | ⟨rfl, rfl⟩
    · rw [vPut_r]
      funext j
      by_cases ej : j = n
      · rw [ej, upd_s, hx]
      · rw [upd_o ej, h.2 j ej, w69]
    · rw [vPut_o (by decide), h.1 69 (by omega) (by decide), w69]
  · rcases hr with ⟨rfl, rfl⟩ | ⟨rfl, rfl⟩
    · rw [vPut_o (by decide), h.1 70 (by omega) (by decide), w70]
    · rw [vPut_r]
      funext j
      by_cases ej : j = n
      · rw [ej, upd_s, hx]
      · rw [upd_o ej, h.2 j ej, w70]
  · rw [vPut_o (by omega), h.1 71 (by omega) (by omega), w71]
  · rw [vPut_o (by omega), h.1 72 (by omega) (by omega), w72]
theorem mFromStart (ho : Ok v) (hw : zmw B v) (hg : B 63 33 = 0) (hp : p < vP v) : ∃ B', zM_fromStart (d + 9) (nI p) B M = some (some (.int (vF v p)), B', M) ∧ ∀ c, (c < 82 ∨ 88 < c) → B' c = B c := by
  obtain ⟨B', b1, b2, b3, b4, b5⟩ := mFillAll (d := d + 1) (L := M) ho hw hg
  have hw' : zmw B' v := zmw_of hw (fun c h1 h2 => b2 c (by omega))
  have e0 := (b4 0 0 0 (by omega) (by omega) (by omega) trivial).1
  refine ⟨B', ?_, b2⟩
  unfold vF
  rw [zM_fromStart_q, b1, zbv_s, show (0 : Int32) = nI 0 from rfl, zck_n (by omega) (by decide), nI_clamp (by omega), show B' 86 0 = _ from e0, mEndWorth hw' b3 ho.P.2 hp (by omega), zbi_s]
theorem mTry {B0 : zA} {r2 : Nat} (ho : Ok v) (hr : (r = 10 ∧ r2 = 69) ∨ (r = 11 ∧ r2 = 70)) (hn : n < 4) (hx : (r = 10 → zIs 7 x) ∧ (r = 11 → zIs 256 x)) (hp : p < vP v) (hw : zmw B0 v) (hg : B0 63 33 = 0) (h : zTm2 B0 B r2 n) (hB : B r2 n = x) :
    ∃ B', zM_fromStart (d + 9) (nI p) B M = some (some (.int (vF (vPut v r n x) p)), B', M) ∧ zTm2 B0 B' r2 n ∧ B' r2 n = x := by
  have hr' : r = 10 ∨ r = 11 := by omega
  obtain ⟨B', e1, e2⟩ := mFromStart (d := d) (M := M) (p := p) (Ok_put ho hr' hn hx) (h.mw hr hw hB) (by rw [h.1 63 (by omega) (by omega)]; exact hg) (by rw [vP_put hr']; exact hp)
  exact ⟨B', e1, h.mind (by omega) e2, by rw [e2 r2 (by omega)]; exact hB⟩
/-! as another kind -/
theorem cBestKind1 {A0 : zA} {was : Int32} (ho : Ok v) (hv : zv A0 = v) (hp : p < vP v) : ∀ q k A st b, k + q = 7 → 0 < k → st.1 ≠ -9 → zTr A0 A 10 p → zOld A b → b + q < 1048576 →
    ∃ A', zB_bestKind_1 (d + 62) (nI p) was st.1 st.2 (nI k) A L = zB_bestKind_4 (d + 62) (nI p) was (zbf (fun _ => true) (fun k => vF (vPut v 10 p (nI k)) p) q k st).1 A' L ∧ zTr A0 A' 10 p ∧ zOld A' (b + q) := by
  have h5 := ho.P.2
  intro q
  induction q with
  | zero =>
    intro k A st b hk h0 hne hT hO hb
    have e : k = 7 := by omega
    subst e
    refine ⟨A, ?_, hT, hO⟩
    rw [zB_bestKind_1_q, if_pos (by decide)]; rfl
  | succ q ih =>
    intro k A st b hk h0 hne hT hO hb
    have hk7 : k < 7 := by omega
    have hT1 := hT.put (nI k)
    have hA1 : zput A 10 p (nI k) 10 p = nI k := by rw [zput_s, upd_s]
    have hO1 : zOld (zput A 10 p (nI k)) b := zOld_of hO (by rw [zput_o (by decide)]) (zput_o (by decide)) (zput_o (by decide))
    obtain ⟨A1, e1, e2, e3, e4⟩ := cTry (d := d + 1) (L := L) ho hv (Or.inl rfl) (by omega) ⟨fun _ => zIs_n hk7, fun h => by omega⟩ hp hT1 hA1 hO1 (by omega)
    have hpk : zP_putKind (d + 61) (nI p) (nI k) A L = some (none, zput A 10 p (nI k), L) := by
      have hvA := hT.zv (x := A 10 p) (by decide) hv rfl
      have h9 : A 9 4 = v 9 4 := by rw [hT.1 9 (by omega) (by decide), zv_c hv 9 (by decide)]
      have hPv := ho.P
      rw [zP_putKind_q, zP_has_q, if_neg (nI_pos (by omega)), h9, hPv.1, if_neg (nI_ge hp (by omega)), if_neg (nI_g4 (by omega)), zP_has_2_q, zcb_1, zbi_s, if_neg (by decide), zck_n (by omega) (by decide), nI_clamp (by omega), zP_putKind_1_q]
    rw [zB_bestKind_1_q, if_neg (nI_g7 hk7), hpk, zbv_s, e1, zbi_s, if_neg hne, zbf_s, ite_tt]
    by_cases hlt : st.2 < vF (vPut v 10 p (nI k)) p
    · obtain ⟨A2, f1, f2, f3⟩ := ih (k + 1) A1 (nI k, vF (vPut v 10 p (nI k)) p) (b + 1) (by omega) (by omega) (nI_ne9 (by omega)) e2 e4 (by omega)
      refine ⟨A2, ?_, f2, by rw [show b + (q + 1) = b + 1 + q by omega]; exact f3⟩
      rw [if_neg (Int32.not_le.mpr hlt), zB_bestKind_2_q, zB_bestKind_3_q, nI_1, if_pos hlt]
      exact f1
    · obtain ⟨A2, f1, f2, f3⟩ := ih (k + 1) A1 st (b + 1) (by omega) (by omega) hne e2 e4 (by omega)
      refine ⟨A2, ?_, f2, by rw [show b + (q + 1) = b + 1 + q by omega]; exact f3⟩
      rw [if_pos (Int32.not_lt.mp hlt), zB_bestKind_3_q, nI_1, if_neg hlt]
      exact f1
theorem cPutKind' {A0 : zA} {k : Nat} (ho : Ok v) (hv : zv A0 = v) (hp : p < vP v) (hT : zTr A0 A 10 n) : zP_putKind (d + 1) (nI p) x A L = some (none, zput A 10 p x, L) := by
  have hPv := ho.P
  have h9 : A 9 4 = v 9 4 := by rw [hT.1 9 (by omega) (by decide), zv_c hv 9 (by decide)]
  rw [zP_putKind_q, zP_has_q, if_neg (nI_pos (by omega)), h9, hPv.1, if_neg (nI_ge hp (by omega)), if_neg (nI_g4 (by omega)), zP_has_2_q, zcb_1, zbi_s, if_neg (by decide), zck_n (by omega) (by decide), nI_clamp (by omega), zP_putKind_1_q]
def vAs (v : zA) (p : Nat) : Int32 := (zbf (fun _ => true) (fun k => vF (vPut v 10 p (nI k)) p) 6 1 (nI 0, vF (vPut v 10 p (nI 0)) p)).1
theorem cBestKind (ho : Ok v) (hv : zv A = v) (hp : p < vP v) (hO : zOld A b) (hb : b + 7 < 1048576) : ∃ A', zB_bestKind (d + 62) (nI p) A L = some (some (.int (vAs v p)), A', L) ∧ (∀ c, (c < 51 ∨ 54 < c) → A' c = A c) ∧ zOld A' (b + 7) := by
  have h5 := ho.P.2
  have hT1 := (zTr.rf A 10 p).put (nI 0)
  obtain ⟨A1, e1, e2, e3, e4⟩ := cTry (d := d + 1) (L := L) ho hv (Or.inl rfl) (by omega) ⟨fun _ => zIs_n (b := 7) (by omega), fun h => by omega⟩ hp hT1 (x := nI 0) (by rw [zput_s, upd_s]) (zOld_of hO (by rw [zput_o (by decide)]) (zput_o (by decide)) (zput_o (by decide))) (by omega)
  obtain ⟨A2, f1, f2, f3⟩ := cBestKind1 (d := d) (L := L) (was := nI (vKd v p)) ho hv hp 6 1 A1 (nI 0, vF (vPut v 10 p (nI 0)) p) (b + 1) (by omega) (by omega) (show nI 0 ≠ -9 by decide) e2 e4 (by omega)
  have hback : zTr A (zput A2 10 p (nI (vKd v p))) 10 p := f2.put _
  refine ⟨zput A2 10 p (nI (vKd v p)), ?_, hback.back (by rw [zput_s, upd_s, zv_c hv 10 (by decide), (ho.kd (by omega)).1]), zOld_of f3 (by rw [zput_o (by decide)]) (zput_o (by decide)) (zput_o (by decide))⟩
  rw [zB_bestKind_q, cKindOf ho hv hp, zbi_s, zB_bestKind_1_q, if_neg (by decide), show (0 : Int32) = nI 0 from rfl, cPutKind' (k := 0) ho hv hp (zTr.rf A 10 p), zbv_s, e1, zbi_s, if_pos rfl, zB_bestKind_2_q, zB_bestKind_3_q, nI_1]
  have f1' : zB_bestKind_1 (d + 62) (nI p) (nI (vKd v p)) (nI 0) (vF (vPut v 10 p (nI 0)) p) (nI (0 + 1)) A1 L = zB_bestKind_4 (d + 62) (nI p) (nI (vKd v p)) (vAs v p) A2 L := f1
  rw [f1', zB_bestKind_4_q, cPutKind' (k := 0) ho hv hp f2, zbv_s]
theorem mAs2 {B0 : zA} {was : Int32} (ho : Ok v) (hp : p < vP v) (hw : zmw B0 v) (hg : B0 63 33 = 0) : ∀ q k B st, k + q = 7 → 0 < k → zTm2 B0 B 69 p →
    ∃ B', zM_as_2 (d + 10) (nI p) was st.1 st.2 (nI k) B M = zM_as_5 (d + 10) (nI p) was (zbf (fun _ => true) (fun k => vF (vPut v 10 p (nI k)) p) q k st).1 B' M ∧ zTm2 B0 B' 69 p := by
  have h5 := ho.P.2
  intro q
  induction q with
  | zero =>
    intro k B st hk h0 hT
    have e : k = 7 := by omega
    subst e
    refine ⟨B, ?_, hT⟩
    rw [zM_as_2_q, if_pos (by decide)]; rfl
  | succ q ih =>
    intro k B st hk h0 hT
    have hk7 : k < 7 := by omega
    obtain ⟨B1, e1, e2, e3⟩ := mTry (d := d) (M := M) ho (Or.inl ⟨rfl, rfl⟩) (n := p) (x := nI k) (by omega) ⟨fun _ => zIs_n hk7, fun h => by omega⟩ hp hw hg (hT.put (nI k)) (by rw [zput_s, upd_s])
    rw [zM_as_2_q, if_neg (nI_g7 hk7), zck_n (by omega) (by decide), nI_clamp (by omega), e1, zbi_s, if_neg (by rw [show (0 : Int32) = nI 0 from rfl]; exact nI_nle h0 (by omega)), zbf_s, ite_tt]
    by_cases hlt : st.2 < vF (vPut v 10 p (nI k)) p
    · obtain ⟨B2, f1, f2⟩ := ih (k + 1) B1 (nI k, vF (vPut v 10 p (nI k)) p) (by omega) (by omega) e2
      refine ⟨B2, ?_, f2⟩
      rw [if_pos hlt, zM_as_3_q, zM_as_4_q, nI_1, if_pos hlt]
      exact f1
    · obtain ⟨B2, f1, f2⟩ := ih (k + 1) B1 st (by omega) (by omega) e2
      refine ⟨B2, ?_, f2⟩
      rw [if_neg hlt, zM_as_4_q, nI_1, if_neg hlt]
      exact f1
theorem mAs {B : zA} (ho : Ok v) (hp : p < vP v) (hw : zmw B v) (hg : B 63 33 = 0) : ∃ B', zM_as_1 (d + 10) (nI p) B M = some (some (.int (vAs v p)), B', M) ∧ ∀ c, (c < 82 ∨ 88 < c) → B' c = B c := by
  have h5 := ho.P.2
  have w69 : B 69 = v 10 := hw.2.2.2.2.1
  obtain ⟨B1, e1, e2, e3⟩ := mTry (d := d) (M := M) ho (Or.inl ⟨rfl, rfl⟩) (n := p) (x := nI 0) (by omega) ⟨fun _ => zIs_n (b := 7) (by omega), fun h => by omega⟩ hp hw hg ((zTm2.rf B 69 p).put (nI 0)) (by rw [zput_s, upd_s])
  obtain ⟨B2, f1, f2⟩ := mAs2 (d := d) (M := M) (was := B 69 p) ho hp hw hg 6 1 B1 (nI 0, vF (vPut v 10 p (nI 0)) p) (by omega) (by omega) e2
  refine ⟨zput B2 69 p (B 69 p), ?_, (f2.put (B 69 p)).back (by rw [zput_s, upd_s])⟩
  rw [zM_as_1_q, zck_n (by omega) (by decide), nI_clamp (by omega), zM_as_2_q, if_neg (by decide), zck_n (by omega) (by decide), nI_clamp (by omega), show (0 : Int32) = nI 0 from rfl, e1, zbi_s, if_pos (by decide), zM_as_3_q, zM_as_4_q, nI_1]
  have f1' : zM_as_2 (d + 10) (nI p) (B 69 p) (nI 0) (vF (vPut v 10 p (nI 0)) p) (nI (0 + 1)) B1 M = zM_as_5 (d + 10) (nI p) (B 69 p) (vAs v p) B2 M := f1
  rw [f1', zM_as_5_q, zck_n (by omega) (by decide), nI_clamp (by omega)]
theorem zP_as (x : Int32) : zPr (zX_as (d + 70) x) (zM_as (d + 70) x) := by
  intro a A L h ha
  obtain ⟨v, hv⟩ : ∃ v, zv A = v := ⟨_, rfl⟩
  have ho := h.ok
  have hw := h.mw
  have hg := h.gone
  rw [hv] at ho hw
  rcases zOne ho x with hx | ⟨p, hp, rfl⟩
  · exact zPr_no (zNo1 h) (fun A1 n1 => by rw [zX_as_q, cNobody1 hv hx, zbi_s, if_neg (by decide), n1, zbi_s, zX_as_2_q]) (fun A1 A2 n2 n4 => by rw [zM_as_q, mOne0 (zmw62 hw n4) hx, zbi_s, if_pos rfl, n2, zbi_s])
  obtain ⟨b, x1, x2⟩ := h.old
  obtain ⟨A1, c1, c2, c3⟩ := cBestKind (d := d + 7) (L := L) ho hv hp x2 (by omega)
  have hw1 : zmw A1 v := zmw_of hw (fun c h1 h2 => c2 c (by omega))
  obtain ⟨B, m1, m2⟩ := mAs (d := d + 60) (M := L) ho hp hw1 (by rw [c2 63 (by omega)]; exact hg)
  refine ⟨vAs v p, A1, L, B, L, ?_, ?_, RR_q h (fun c hc => c2 c (by omega)) (fun c hc => m2 c (by omega)) ⟨b + 7, by omega, c3⟩⟩
  · rw [zX_as_q, cNobody0 ho hv hp, zbi_s, if_pos rfl, zX_as_1_q, c1, zbi_s, zX_as_2_q]
  · rw [zM_as_q, mOne1 ho hw1 hp, zbi_s, if_neg (by decide), m1]
end T1
