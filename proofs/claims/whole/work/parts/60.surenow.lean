/-! ===== sure now: the class, the model ===== -/
section SN
variable {v A : zA} {L : zL} {d g n s m p : Nat} {good : Nat → Bool} {stuck : Bool} {x : Int32}
theorem vSp_eq (ho : Ok v) : v 16 (vSz v) = nI (zsp (vSz v) (vSt v) (vMe v)) ∧ vSt v < 8 ∧ vMe v < 64 := by
  obtain ⟨s, m, hs, hm, e⟩ := ho.spot
  have h9 := ho.sz.2
  have hsp := zsp_lt (b := 9) (n := vSz v) (by omega) hs hm
  have e2 : vSp v = zsp (vSz v) s m := by unfold vSp; rw [e, nI_clamp (by omega)]
  have e3 : vSt v = s := by unfold vSt; rw [e2]; exact zsp_s hs hm
  have e4 : vMe v = m := by unfold vMe; rw [e2]; unfold zsp; omega
  rw [e3, e4]
  exact ⟨e, hs, hm⟩
theorem cEnsuresNow {x : Int64} (ho : Ok v) (hv : zv A = v) (hp : p < vP v) (hx : ∀ m, m < 64 → lb x m = good m) :
    ∃ A' L', zO_ensuresNow (d + 7) (nI p) x (if stuck then 1 else 0) A L = some (some (.int (if vSn v p good stuck then 1 else 0)), A', L') ∧ (∀ c, c ≠ 56 → A' c = A c) ∧ (∀ c, c ≠ 56 → c ≠ 57 → L' c = L c) := by
  have h9 := ho.sz.2
  obtain ⟨e1, e2, e3⟩ := vSp_eq ho
  have hask : ∃ A1 L1, zO_ask (d + 6) (nI p) x (if stuck then 1 else 0) A L = some (none, A1, L1) ∧ zAsk A1 L1 p good stuck 0 ∧ (∀ c, c ≠ 56 → A1 c = A c) ∧ (∀ c, c ≠ 56 → L1 c = L c) := by
    refine ⟨zput (zput (zput A 56 4 (nI p)) 56 6 (if stuck then 1 else 0)) 56 7 0, zputL L 56 5 x, ?_, ⟨?_, ?_, ?_, ?_⟩, fun c hc => ?_, fun c hc => zputL_o hc⟩
    · rw [zO_ask_q]
      cases stuck
      · rw [ite_ft]; rfl
      · rw [ite_tt]; rfl
    · rw [zput_s, upd_o (by decide), zput_s, upd_o (by decide), zput_s, upd_s]
    · rw [zput_s, upd_o (by decide), zput_s, upd_s]
    · rw [zput_s, upd_s]; rfl
    · intro m hm; rw [zputL_s, updL_s]; exact hx m hm
    · rw [zput_o hc, zput_o hc, zput_o hc]
  obtain ⟨A1, L1, a1, a2, a3, a4⟩ := hask
  have hv1 : zv A1 = v := (zv_of (fun c hc => a3 c (by omega))).trans hv
  obtain ⟨L2, b1, b2⟩ := cEnsuresFrom (d := d) (L := L1) ho hv1 hp (g := 0) (by decide) (n := vSz v) (s := vSt v) (m := vMe v) (by omega) e2 e3 a2
  have h14 : A1 14 3 = v 14 3 := by rw [zv_c hv1 14 (by decide)]
  rcases ho.stop with h | h
  · have hsn : vSn v p good stuck = vS v 0 p good stuck (9 - vSz v) (vSz v) (vSt v) (vMe v) := by unfold vSn; rw [if_pos h]
    rw [hsn]
    refine ⟨A1, L2, ?_, a3, fun c h1 h2 => by rw [b2 c h2, a4 c h1]⟩
    rw [zO_ensuresNow_q, a1, zbv_s, cSpot ho hv1, zbi_s, h14, h, if_pos rfl, zO_ensuresNow_2_q, e1, b1, zbi_s, zO_ensuresNow_3_q]
    cases vS v 0 p good stuck (9 - vSz v) (vSz v) (vSt v) (vMe v)
    · rw [ite_ft]; rfl
    · rw [ite_tt]; rfl
  · have hsn : vSn v p good stuck = good (vMe v) := by unfold vSn; rw [if_neg (by rw [h]; decide)]
    rw [hsn]
    refine ⟨A1, L1, ?_, a3, fun c h1 h2 => a4 c h1⟩
    rw [zO_ensuresNow_q, a1, zbv_s, cSpot ho hv1, zbi_s, h14, h, if_neg (by decide), e1, cMean e3, zbi_s, zifi (lb_test _ e3), hx _ e3]
    cases good (vMe v)
    · rw [ite_ft, if_pos rfl, zO_ensuresNow_1_q, zO_ensuresNow_3_q]; rfl
    · rw [ite_tt, if_neg (by decide), zO_ensuresNow_3_q]; rfl
/-- what the model answers -/
def vGn (v : zA) (p : Nat) (x aim : Int32) : Int32 := if v 14 3 = 0 then vGm v 0 (vCt v p x aim) p (9 - vSz v) (vSz v) (vSt v) (vMe v) else vCt v p x aim (vMe v) (vSz v)
theorem mSureNow {aim : Int32} (ho : Ok v) (hw : zmw A v) (hg : A 63 33 = 0) (hp : p < vP v) : ∃ A', zM_sureNow (d + 5) (nI p) x aim A L = some (some (.int (vGn v p x aim)), A', L) ∧ (∀ c, (c < 82 ∨ 85 < c) → c ≠ 89 → A' c = A c) := by
  have h9 := ho.sz
  obtain ⟨e1, e2, e3⟩ := vSp_eq ho
  obtain ⟨A', a1, a2, a3, a4⟩ := mFillGame (d := d) (L := L) (x := x) (aim := aim) ho hw (g := 0) hg (by decide) hp
  have hw' : zmw A' v := zmw_of hw (fun c h1 h2 => a2 c (by omega) (by omega))
  have hsp : zsp (vSz v) (vSt v) (vMe v) < 4608 := zsp_lt (b := 9) (by omega) e2 e3
  refine ⟨A', ?_, a2⟩
  have hw2 := hw'
  obtain ⟨-, -, -, -, -, -, -, -, -, -, -, -, -, -, w15, w18, w16, w17⟩ := hw'
  unfold vGn
  rw [zM_sureNow_q, a1, zbv_s, w18, w17, w15, h9.1]
  rcases ho.stop with h | h
  · rw [h, if_neg (by decide), if_pos rfl, zM_sureNow_1_q, w15, w16, w17, h9.1, mPlaceAt, zbi_s, zck_n hsp (by decide), nI_clamp (by omega), a4 _ _ _ (by omega) e2 e3 trivial, zM_sureNow_2_q]
  · rw [h, if_pos (by rfl), if_neg (by decide), mCounts hw2 a3 ho.P.2 hp (by omega), zbi_s, zM_sureNow_2_q]
/-- all that a game is worth, some end counts -/
theorem zfo_in {own : Bool} {b : Nat → Bool} {x : Nat → Int32} {st : Bool × Int32} {Q : Int32 → Prop} (hx : ∀ t, b t = true → Q (x t)) (hst : st.1 = true → Q st.2) : ∀ k, (zfo own b x st k).1 = true → Q (zfo own b x st k).2
  | 0, h => hst h
  | k + 1, h => by
    rw [zfo_s] at h ⊢
    cases hb : b k with
    | false => rw [hb, ite_ft] at h; rw [ite_ft]; exact zfo_in hx hst k h
    | true =>
      rw [ite_tt]
      cases hc : (!(zfo own b x st k).1 || (if own then decide ((zfo own b x st k).2 < x k) else decide (x k < (zfo own b x st k).2))) with
      | true => rw [ite_tt]; exact hx k hb
      | false =>
        rw [ite_ft]
        rw [Bool.or_eq_false_iff] at hc
        exact zfo_in hx hst k (by simpa using hc.1)
theorem vGm_in {c : Nat → Nat → Int32} {Q : Int32 → Prop} (hQ : ∀ e n, Q (c e n)) : ∀ f n s m, Q (vGm v g c p f n s m) := by
  intro f
  induction f with
  | zero => intro n s m; exact hQ _ _
  | succ f ih =>
    intro n s m
    unfold vGm
    split
    · exact hQ _ _
    · rename_i h0
      obtain ⟨t0, ht0, hb0⟩ := zmask_bit (k := 8) (vMg_lt v g n s) h0
      refine zfo_in (fun t _ => ih _ _ _) (fun h => ?_) 8 (zfo_any 8 |>.mpr (Or.inr ⟨t0, ht0, hb0⟩))
      have h' : vEn v s = true := h
      show Q (if vEn v s then c m n else 0)
      rw [if_pos h']; exact hQ _ _
end SN
