/-! ===== every method keeps its contract ===== -/
theorem zpick_has {G : zG} {lv lv' : zLv} {is : List Nat} {nL : Nat} {ls : Array Slot} (h : zpick lv is = some lv') (hl : lv_has ls nL (lv.map (zq G))) : lv_has ls nL (lv'.map (zq G)) := by
  refine ⟨hl.1, hl.2.1, fun q hq => ?_⟩
  obtain ⟨q0, h0, rfl⟩ := List.mem_map.mp hq
  exact zget_at hl (zpick_in h q0 h0)
theorem lv_args_map (G : zG) : ∀ (as : List Value) (i : Nat), lv_args i (as.map (zV G)) = (lv_args i as).map (zq G)
  | [], i => rfl
  | v :: vs, i => by
    simp only [List.map_cons, lv_args, zV_cat, lv_args_map G vs]
    rfl
theorem lg_sl_len : ∀ (vs : List Value), (lg_sl vs).length = zcat vs
  | [] => rfl
  | v :: vs => by
    have h := lg_sl_len vs
    unfold lg_sl zcat at *
    simp only [List.flatMap_cons, List.length_append, List.map_cons, List.sum_cons, h]
    rcases lv_cat v with e | e <;> simp [e]
theorem zend_k {sc : Option (Nat × (Nat → Int32))} {o : zO} {lv : zLv} {st : List Value} {A : zA} {L : zL} {k k' : zK} {j : Nat → zK} {C : Nat → List Value → zA → zL → Option zR} (h : zend o.1 = true) : zop sc o lv st A L k j C = zop sc o lv st A L k' j C := by
  obtain ⟨i, n, a, b, ns, ps, c, d⟩ := o
  cases i <;> first | rfl | (cases h)
section ZM
variable {T : List zM} {p : Program} {l : Launch} {e : Env} {R : Room} {s : State} {m : MethodId} {args : Array Value} {below : List Frame} {meth : Method} {c : Code} {Q : State → Prop}
variable {cc : ByteArray} {nL cs sl : Nat} {own : String} {rt : Option FieldType} {D : va_G} {G : zG} {A0 : Nat → Prop} {sc : Option (Nat × (Nat → Int32))}
variable {d : Nat} {bs : List zBk} {r : zR} {J : Nat → zK} {C : Nat → List Value → zA → zL → Option zR}
theorem zgo_ok
    (hF : zFx p R s m args c cc nL cs sl own D G A0 sc d)
    (hJ : ∀ b bk lv st A L, bs[b]? = some bk → J b lv st A L = some r → zWf p l e R s m args below meth c Q nL cs sl D G A0 bk.1 lv st A L)
    (hC : ∀ a as A L r', C a as A L = some r' → ∃ d', d' < d ∧ zMet T l D G d' a as A L r')
    (hRi : ∀ (pc : Nat) (x : Int32) A L H locs ls, r = (some (.int x), A, L) → decode cc pc = .ok (.ireturn, 1) → (rt = some .int ∨ (rt = some .boolean ∧ (x = 0 ∨ x = 1))) → va_P D vwCl (zCo G A L) H → va_S A0 s.heap H locs → W p l e R s m args below meth c H locs cs sl Q (F0 m pc ls [.int x]))
    (hRl : ∀ (pc : Nat) (x : Int64) A L H locs ls, r = (some (.long x), A, L) → decode cc pc = .ok (.lreturn, 1) → rt = some .long → va_P D vwCl (zCo G A L) H → va_S A0 s.heap H locs → W p l e R s m args below meth c H locs cs sl Q (F0 m pc ls [.long x]))
    (hRv : ∀ (pc : Nat) A L H locs ls, r = (none, A, L) → decode cc pc = .ok (.return_, 1) → rt = none → va_P D vwCl (zCo G A L) H → va_S A0 s.heap H locs → W p l e R s m args below meth c H locs cs sl Q (F0 m pc ls []))
    (nx : Nat) : ∀ (os : List zO) (pc : Nat) (lv : zLv) (st : List Value) (A : zA) (L : zL), zokS T own cc nL rt bs nx pc os = true → zgo sc J C bs nx os lv st A L = some r → zWf p l e R s m args below meth c Q nL cs sl D G A0 pc lv st A L := by
  have hj : ∀ b bk lv st A L, bs[b]? = some bk → zjmp J bs b lv st A L = some r → zWf p l e R s m args below meth c Q nL cs sl D G A0 bk.1 lv st A L := by
    intro b bk lv st A L hb h
    unfold zjmp at h
    rw [hb] at h
    simp only at h
    cases hp : zpick lv bk.2.1 with
    | none => rw [hp] at h; exact znn h
    | some lv' =>
      rw [hp] at h
      intro H locs ls hP hS hl
      exact hJ b bk lv' st A L hb h H locs ls hP hS (zpick_has hp hl)
  intro os
  induction os with
  | nil =>
    intro pc lv st A L hok h
    unfold zokS at hok
    cases hb : bs[nx]? with
    | none => rw [hb] at hok; cases hok
    | some bk =>
      rw [hb] at hok
      have hpc := eq_of_beq hok
      rw [← hpc]
      exact hj nx bk lv st A L hb h
  | cons o os ih =>
    intro pc lv st A L hok h
    unfold zokS at hok
    simp only [Bool.and_eq_true, Bool.or_eq_true, decide_eq_true_eq] at hok
    obtain ⟨⟨hd, ho⟩, hr⟩ := hok
    have h : zop sc o lv st A L (fun lv st A L => zgo sc J C bs nx os lv st A L) (fun b lv st A L => zjmp J bs b lv st A L) C = some r := h
    cases hze : zend o.1 with
    | true =>
      rw [zend_k (k' := fun _ _ _ _ => none) hze] at h
      exact zop_ok (T := T) ho hd hF (fun lv st A L h => znn h) hj hC (hRi pc) (hRl pc) (hRv pc) h
    | false =>
      have hr : zokS T own cc nL rt bs nx (pc + o.2.1) os = true := by
        rcases hr with h | h
        · rw [hze] at h; cases h
        · exact h
      exact zop_ok (T := T) ho hd hF (fun lv st A L h => ih _ lv st A L hr h) hj hC (hRi pc) (hRl pc) (hRv pc) h
end ZM
theorem zM_of {T : List zM} {M : zM} (h : zokM T M = true) : (∃ bk, M.2.2.2.2[0]? = some bk ∧ bk.1 = 0) ∧ plainFor M.1 = true ∧ ∀ (b : Nat) (bk : zBk), M.2.2.2.2[b]? = some bk → zokS T M.1.cls M.2.1 M.2.2.1 M.2.2.2.1 M.2.2.2.2 bk.2.2.2 bk.1 bk.2.2.1 = true := by
  unfold zokM at h
  simp only [Bool.and_eq_true] at h
  obtain ⟨⟨h1, h2⟩, h3⟩ := h
  refine ⟨?_, h2, fun b bk hb => List.all_eq_true.mp h3 bk (List.mem_of_getElem? hb)⟩
  cases hb : M.2.2.2.2[0]? with
  | none => rw [hb] at h1; cases h1
  | some bk => rw [hb] at h1; exact ⟨bk, rfl, eq_of_beq h1⟩
theorem zex_ok (T : List zM) (hT : ∀ M ∈ T, zokM T M = true) (l : Launch) (D : va_G) (G : zG) (hI : zInj G) : ∀ (n d k : Nat) (as : List Value) (A : zA) (L : zL) (r : zR), zfit T k as = true → zex T n d k 0 (lv_args 0 as) [] A L = some r → zMet T l D G d k as A L r := by
  intro n
  induction n using Nat.strongRecOn with
  | _ n IH =>
  intro d k as A L r hfit hz M hM
  obtain ⟨⟨bk0, hbk0, hpc0⟩, hplain, hblk⟩ := zM_of (hT M (List.mem_of_getElem? hM))
  refine Met_ofWF (cc := M.2.1) (maxL := M.2.2.1) (ret := M.2.2.2.1) hplain rfl ?_
  intro p e s m args below meth c s₁ B hml hv
  obtain ⟨rfl, hP, hK, hSt, hN⟩ := hv
  have hx := B.exec
  have hb := B.bytes
  have hr := B.returns
  have hts : ∀ w ∈ Jvm.Cond.code M.1 M.2.1 M.2.2.1 M.2.2.2.1 :: zTb, w.before (as.map (zV G)).toArray s = true := atoms_spec B.pre
  have hown : s.vm.findClass M.1.cls = some m.cls := findClass_of_methodNamed B.named
  have hlocks := B.notSynchronized
  have hF : zFx p (zrm d) s m (as.map (zV G)).toArray c M.2.1 M.2.2.1 0 0 M.1.cls D G (zZ G) none d := ⟨hx, hb, hml, hown, fun w hw => hts w (List.mem_cons_of_mem _ hw), hK, hI, fun q h => h, hSt, hN, Nat.le_refl _, Nat.le_refl _, Nat.le_refl _, Nat.le_refl _, fun N xs h => by cases h⟩
  have inner : ∀ i, i ≤ n → ∀ b bk lv st A L, M.2.2.2.2[b]? = some bk → zex T i d k b lv st A L = some r → zWf p l e (zrm d) s m (as.map (zV G)).toArray below meth c (MQ below (zQr D G r) (as.map (zV G)).toArray s 0 0 (zZ G)) M.2.2.1 0 0 D G (zZ G) bk.1 lv st A L := by
    intro i
    induction i with
    | zero => intro _ b bk lv st A L _ h; cases h
    | succ i ihi =>
      intro hi b bk lv st A L hbk h
      rw [zex_s, hM] at h
      simp only [hbk] at h
      refine zgo_ok (T := T) (rt := M.2.2.2.1) hF (fun b bk lv st A L hb h => ihi (by omega) b bk lv st A L hb h) ?_ ?_ ?_ ?_ bk.2.2.2 bk.2.2.1 bk.1 lv st A L (hblk b bk hbk) h
      · intro a as' A' L' r' hc
        cases d with
        | zero => cases hc
        | succ d' =>
          unfold zcx at hc
          simp only at hc
          cases hf : zfit T a as' with
          | false => rw [hf] at hc; cases hc
          | true =>
            rw [hf] at hc
            exact ⟨d', Nat.lt_succ_self d', IH i (by omega) d' a as' A' L' r' hf hc⟩
      · intro pc x A L H locs ls he hd hrt hP hS
        subst he
        rcases hrt with hrt | ⟨hrt, hbo⟩
        · exact W.iret hx hb (hr.trans hrt) (fun t ht hW => ⟨⟨x, (), rfl, rfl, by subst ht; exact hP⟩, hS.F ht⟩) (fun q hq => hS.2.2 q hq) hd hlocks
        · exact W.zret hx hb (hr.trans hrt) (znar_b hbo).1 (fun t ht hW => ⟨⟨x, (), rfl, rfl, by subst ht; exact hP⟩, hS.F ht⟩) (fun q hq => hS.2.2 q hq) hd hlocks
      · intro pc x A L H locs ls he hd hrt hP hS
        subst he
        exact W.lret hx hb (hr.trans hrt) (fun t ht hW => ⟨⟨x, (), rfl, rfl, by subst ht; exact hP⟩, hS.F ht⟩) (fun q hq => hS.2.2 q hq) hd hlocks
      · intro pc A L H locs ls he hd hrt hP hS
        subst he
        exact W.vret hx hb (hr.trans hrt) (fun t ht hW => ⟨⟨(), rfl, trivial, by subst ht; exact hP⟩, hS.F ht⟩) (fun q hq => hS.2.2 q hq) hd hlocks
  have hfl : (lg_sl (as.map (zV G))).length ≤ M.2.2.1 := by
    rw [lg_sl_len]
    have h1 : zcat (as.map (zV G)) = zcat as := zcat_map G as
    rw [h1]
    unfold zfit at hfit
    rw [hM] at hfit
    exact Nat.le_of_ble_eq_true hfit
  have hl := lv_entry (as.map (zV G)) (n := M.2.2.1) hfl
  rw [lg_entry_eq]
  rw [lv_args_map] at hl
  have h := inner n (Nat.le_refl n) 0 bk0 (lv_args 0 as) [] A L hbk0 hz s.heap [] _ hP va_S.rf hl
  rw [hpc0] at h
  exact h
/-- what the machine comes to is what the methods do -/
theorem zrun_ok (T : List zM) (hT : ∀ M ∈ T, zokM T M = true) (l : Launch) (D : va_G) (G : zG) (hI : zInj G) {d k : Nat} {as : List Value} {A : zA} {L : zL} {r : zR} (hfit : zfit T k as = true) (h : zrun T d k 0 (lv_args 0 as) [] A L = some r) : zMet T l D G d k as A L r := by
  obtain ⟨N, hN⟩ := ((zrun_lm T d k 0 (lv_args 0 as) [] A L).2 r).mp h
  exact zex_ok T hT l D G hI N d k as A L r hfit hN
theorem zcal_ok (T : List zM) (hT : ∀ M ∈ T, zokM T M = true) (l : Launch) (D : va_G) (G : zG) (hI : zInj G) {d k : Nat} {as : List Value} {A : zA} {L : zL} {r : zR} (h : zcal T d k as A L = some r) : ∃ d', d' < d ∧ zMet T l D G d' k as A L r := by
  cases d with
  | zero => cases h
  | succ d =>
    unfold zcal at h
    simp only at h
    cases hf : zfit T k as with
    | false => rw [hf] at h; cases h
    | true =>
      rw [hf] at h
      exact ⟨d, Nat.lt_succ_self d, zrun_ok T hT l D G hI hf h⟩
