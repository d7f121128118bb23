section ZO
variable {T : List zM} {p : Program} {l : Launch} {e : Env} {R : Room} {s : State} {m : MethodId} {args : Array Value} {below : List Frame} {meth : Method} {c : Code} {Q : State → Prop}
variable {cc : ByteArray} {nL cs sl : Nat} {own : String} {rt : Option FieldType} {D : va_G} {G : zG} {A0 : Nat → Prop} {sc : Option (Nat × (Nat → Int32))}
variable {d : Nat} {bs : List zBk} {r : zR} {pc : Nat} {k : zK} {j : Nat → zK} {C : Nat → List Value → zA → zL → Option zR}
/-- a call, taken up behind it -/
theorem zcall_go {as rest : List Value} {r' : zR} {H : Heap} {locs : List Loc} {ls : Array Slot} {st0 : List Value} {lv : zLv}
    (hF : zFx p R s m args c cc nL cs sl own D G A0 sc d) (hl : lv_has ls nL (lv.map (zq G)))
    (hr : va_Run p l e R s m args below meth c H locs cs sl 0 0 (F0 m pc ls st0) (rest.map (zV G)) (zQr D G r' (as.map (zV G)).toArray) (zZ G)) (hS : va_S A0 s.heap H locs)
    (k : List Value → zA → zL → Option zR) (hk : ∀ st A L, k st A L = some r → zWf p l e R s m args below meth c Q nL cs sl D G A0 (pc + 3) lv st A L) :
    (∀ A' L', r' = (none, A', L') → k rest A' L' = some r → W p l e R s m args below meth c H locs cs sl Q (F0 m pc ls st0)) ∧
    (∀ v A' L', r' = (some (.int v), A', L') → k (.int v :: rest) A' L' = some r → W p l e R s m args below meth c H locs cs sl Q (F0 m pc ls st0)) ∧
    (∀ v A' L', r' = (some (.long v), A', L') → k (.long v :: rest) A' L' = some r → W p l e R s m args below meth c H locs cs sl Q (F0 m pc ls st0)) := by
  obtain ⟨hx, hb, hml, hown, hts, hK, hI, hZA, hSt, hN, hcs, hsl, hfr, hlo, hX⟩ := hF
  refine ⟨fun A' L' e h => ?_, fun v A' L' e h => ?_, fun v A' L' e h => ?_⟩
  · subst e
    exact va_callv (a := (as.map (zV G)).toArray) hr hS (fun q _ h => hZA q h) (fun q h => hZA q h) (fun u t H1 locs1 ht hvm hp hB hz hk1 hS1 => by subst ht; exact hk _ _ _ h _ _ _ hB hS1 hl)
  · subst e
    exact va_calli (a := (as.map (zV G)).toArray) hr hS (fun q _ h => hZA q h) (fun q h => hZA q h) (fun x u t H1 locs1 ht hvm hp hB hz hk1 hS1 => by subst ht; subst hp; exact hk _ _ _ h _ _ _ hB hS1 hl)
  · subst e
    exact va_calll (a := (as.map (zV G)).toArray) hr hS (fun q _ h => hZA q h) (fun q h => hZA q h) (fun x u t H1 locs1 ht hvm hp hB hz hk1 hS1 => by subst ht; subst hp; exact hk _ _ _ h _ _ _ hB hS1 hl)
theorem zGood {y : MethodName} {bytes : ByteArray} {maxL : Nat} {ret : Option FieldType} (h : Jvm.Cond.code y bytes maxL ret ∈ zTb) : GoodIn zTb (Jvm.Cond.code y bytes maxL ret :: zTb) := by
  intro w hw
  rcases List.mem_cons.mp hw with rfl | hw
  · exact ⟨h, zTb_good h⟩
  · exact ⟨hw, zTb_good hw⟩
theorem zcl_ok {a b rk : Nat} {lv : zLv} {st : List Value} {A : zA} {L : zL} {x : Nat} {ns : List Nat} {ins : Instr} {stat : Bool}
    (hF : zFx p R s m args c cc nL cs sl own D G A0 sc d) (hok : zokC T own x a b ns stat = true) (hins : ins = if stat then .invokestatic x else .invokevirtual x) (hd : decode cc pc = .ok (ins, 3))
    (hk : ∀ lv st A L, k lv st A L = some r → zWf p l e R s m args below meth c Q nL cs sl D G A0 (pc + 3) lv st A L)
    (hC : ∀ a as A L r', C a as A L = some r' → ∃ d', d' < d ∧ zMet T l D G d' a as A L r')
    (hrv : stat = false → zrv st b (ns.getD 1 0) = true)
    (hz : zcl C (fun st A L => k lv st A L) a b rk st A L = some r) : zWf p l e R s m args below meth c Q nL cs sl D G A0 pc lv st A L := by
  intro H locs ls hP hS hl
  have hF0 := hF
  obtain ⟨hx, hb, hml, hown, hts, hK, hI, hZA, hSt, hN, hcs, hsl, hfr, hlo, hX⟩ := hF
  unfold zcl at hz
  cases hbb : (Nat.ble b st.length && Nat.ble (zcat (st.drop b)) 8) with
  | false => rw [hbb] at hz; exact znn hz
  | true =>
    rw [hbb] at hz
    simp only [cond_true] at hz
    rw [Bool.and_eq_true] at hbb
    have hb1 := Nat.le_of_ble_eq_true hbb.1
    have hb2 := Nat.le_of_ble_eq_true hbb.2
    -- the callee, its contract
    have hcall : ∃ r', C a (st.take b).reverse A L = some r' ∧ ((∃ A' L', r' = (none, A', L') ∧ k lv (st.drop b) A' L' = some r) ∨ (∃ v A' L', r' = (some (.int v), A', L') ∧ k lv (.int v :: st.drop b) A' L' = some r) ∨ (∃ v A' L', r' = (some (.long v), A', L') ∧ k lv (.long v :: st.drop b) A' L' = some r)) := by
      cases hc : C a (st.take b).reverse A L with
      | none => rw [hc] at hz; match rk, hz with
        | 0, hz => exact znn hz
        | 1, hz => exact znn hz
        | n + 2, hz => exact znn hz
      | some r' =>
        rw [hc] at hz
        obtain ⟨v, A', L'⟩ := r'
        refine ⟨_, rfl, ?_⟩
        match rk, hz with
        | 0, hz => cases v with
          | none => exact Or.inl ⟨A', L', rfl, hz⟩
          | some v => exact znn hz
        | 1, hz => cases v with
          | none => exact znn hz
          | some v => cases v <;> first | exact Or.inr (Or.inl ⟨_, A', L', rfl, hz⟩) | exact znn hz
        | n + 2, hz => cases v with
          | none => exact znn hz
          | some v => cases v <;> first | exact Or.inr (Or.inr ⟨_, A', L', rfl, hz⟩) | exact znn hz
    obtain ⟨r', hc, hgo⟩ := hcall
    obtain ⟨d', hdd, hM⟩ := hC _ _ _ _ _ hc
    unfold zokC at hok
    cases hT : T[a]? with
    | none => rw [hT] at hok; cases hok
    | some M =>
      rw [hT] at hok
      have hM := hM M hT
      have hst : st.map (zV G) = (((st.take b).reverse).map (zV G)).reverse ++ (st.drop b).map (zV G) := by
        rw [← List.map_reverse, List.reverse_reverse, ← List.map_append, List.take_append_drop]
      have hlen : (st.take b).reverse.length = b := by rw [List.length_reverse, List.length_take]; omega
      have hrun : va_Run p l e R s m args below meth c H locs cs sl 0 0 (F0 m pc ls (st.map (zV G))) ((st.drop b).map (zV G)) (zQr D G r' (((st.take b).reverse).map (zV G)).toArray) (zZ G) := by
        match ns, hok, hrv with
        | [n0, ci, ck, w0, w1, w2, w3, w4], hok, hrv =>
          simp only [Bool.and_eq_true, decide_eq_true_eq] at hok
          obtain ⟨⟨⟨⟨⟨hkind, hw3⟩, hw4⟩, hy1⟩, hy2⟩, hm60⟩ := hok
          have hini := hts _ (zwd_in hw3)
          have hG := zGood (zwd_in hw4)
          have hR1 : (zrm d').frames + 1 ≤ R.frames := by show d' + 1 + 1 ≤ _; omega
          have hR2 : 8 + (M.2.2.1 + 11) + (zrm d').locals ≤ R.locals := by show 8 + (M.2.2.1 + 11) + 100 * (d' + 1) ≤ _; omega
          have hpc : ∀ U : State, U.heap = H → s.WarmedH U.vm → va_Pc (((st.take b).reverse).map (zV G)) (zB D G A L) (((st.take b).reverse).map (zV G)).toArray U := fun U hU hW =>
            ⟨rfl, by rw [hU]; exact hP, va_K.moved hW.alike hK, zSt_at hSt hS hZA hU hW.alike, zNN_warm hW hN⟩
          have hsum : 2 * (F0 m pc ls (st.map (zV G))).monitorRoom + (((st.drop b).map (zV G)).map fun v => v.category).sum ≤ 8 := lv_room (by rw [zcat_map]; exact hb2)
          match stat, ck, hkind, hins, hrv with
          | false, 0, hkind, hins, hrv =>
            simp only [Bool.and_eq_true, decide_eq_true_eq] at hkind
            obtain ⟨⟨⟨⟨hw0, hw1⟩, hw2⟩, hcls⟩, hpar⟩ := hkind
            subst hins
            have hrv := hrv rfl
            unfold zrv at hrv
            cases hq : st[b - 1]? with
            | none => rw [hq] at hrv; cases hrv
            | some v0 =>
            rw [hq] at hrv
            cases v0 <;> first | exact absurd (show false = true from hrv) Bool.false_ne_true | skip
            rename_i q
            cases hs : zSH[q]? with
            | none => simp only [hs] at hrv; cases hrv
            | some s0 =>
            rcases s0 with s0 | ⟨c0, fs⟩
            · simp only [hs] at hrv; cases hrv
            simp only [hs, beq_iff_eq] at hrv
            have hrv : c0 = ci := hrv
            subst hrv
            have hb0 : 0 < b := by
              rcases Nat.eq_zero_or_pos b with h | h
              · subst h
                cases hpd : parseMethodDescriptor M.1.desc with
                | none => rw [hpd] at hpar; cases hpar
                | some dd => rw [hpd] at hpar; simp at hpar
              · exact h
            cases hcc : vwCl[c0]? with
            | none => rw [hcc] at hcls; cases hcls
            | some CQ =>
            rw [hcc] at hcls
            have hcls := of_decide_eq_true hcls
            obtain ⟨As', hAs'⟩ : ∃ As' : List Value, (st.take b).reverse = .ref q :: As' := by
              have h1 : (st.take b).reverse[0]? = some (.ref q) := by
                rw [List.getElem?_reverse (by rw [List.length_take]; omega), List.length_take, List.getElem?_take]
                rw [show min b st.length - 1 - 0 = b - 1 by omega, if_pos (by omega)]
                exact hq
              cases hh : (st.take b).reverse with
              | nil => rw [hh] at h1; cases h1
              | cons v0 As' => rw [hh] at h1; cases h1; exact ⟨As', rfl⟩
            have hAs : ((st.take b).reverse).map (zV G) = .ref (G.1 q) :: As'.map (zV G) := by rw [hAs']; rfl
            have hlen2 : As'.length + 1 = b := by rw [← hlen, hAs']; rfl
            have hp2 : (parseMethodDescriptor M.1.desc).map (fun d => d.parameters.length) = some As'.length := by
              cases hpd : parseMethodDescriptor M.1.desc with
              | none => rw [hpd] at hpar; cases hpar
              | some dd =>
                rw [hpd] at hpar
                have hpar : dd.parameters.length + 1 = b := Option.some.inj hpar
                show some dd.parameters.length = some As'.length
                congr 1
                omega
            have hst2 : st.map (zV G) = (As'.map (zV G)).reverse ++ .ref (G.1 q) :: (st.drop b).map (zV G) := by
              rw [hst, hAs, List.reverse_cons, List.append_assoc]; rfl
            have hrcv : ∃ cell : Cell, H[G.1 q]? = some cell ∧ cell.vm.isStatics = false ∧ s.vm.findClass M.1.cls = some cell.cls := by
              rw [← hcls]
              exact va_recv hK hP hcc (q0 := q) (zCo_at hs)
            rw [hAs]
            exact va_runV (As := As'.map (zV G)) (b := G.1 q) (C := M.1.cls) (n := As'.length) ⟨hx, hb, hml, hown, hts⟩ hM ⟨callB_of As'.length hts hG rfl rfl rfl hini (hts _ (zwd_in hw0)) ⟨hy1, hy2, hp2⟩ ⟨hR1, hR2⟩, hts _ (zwd_in hw1), hts _ (zwd_in hw2)⟩ ⟨zB_blind D G A L _, hrcv, fun U hU hW => by have h := hpc U hU hW; rw [hAs] at h ⊢; exact h⟩ rfl (by rw [List.length_map]) hl.1 hst2 hsum hd ⟨hcs, hsl⟩
          | false, 2, hkind, hins, hrv =>
            simp only [Bool.and_eq_true, decide_eq_true_eq] at hkind
            obtain ⟨⟨⟨⟨hw0, hw1⟩, hw2⟩, hcls⟩, hpar⟩ := hkind
            subst hins
            have hrv := hrv rfl
            unfold zrv at hrv
            cases hq : st[b - 1]? with
            | none => rw [hq] at hrv; cases hrv
            | some v0 =>
            rw [hq] at hrv
            cases v0 <;> first | exact absurd (show false = true from hrv) Bool.false_ne_true | skip
            rename_i q
            cases hs : zSH[q]? with
            | none => simp only [hs] at hrv; cases hrv
            | some s0 =>
            rcases s0 with s0 | ⟨c0, fs⟩
            · simp only [hs] at hrv; cases hrv
            simp only [hs, beq_iff_eq] at hrv
            have hrv : c0 = ci := hrv
            subst hrv
            have hb0 : 0 < b := by
              rcases Nat.eq_zero_or_pos b with h | h
              · subst h
                cases hpd : parseMethodDescriptor M.1.desc with
                | none => rw [hpd] at hpar; cases hpar
                | some dd => rw [hpd] at hpar; simp at hpar
              · exact h
            cases hcc : vwCl[c0]? with
            | none => rw [hcc] at hcls; cases hcls
            | some CQ =>
            rw [hcc] at hcls
            have hcls := of_decide_eq_true hcls
            obtain ⟨As', hAs'⟩ : ∃ As' : List Value, (st.take b).reverse = .ref q :: As' := by
              have h1 : (st.take b).reverse[0]? = some (.ref q) := by
                rw [List.getElem?_reverse (by rw [List.length_take]; omega), List.length_take, List.getElem?_take]
                rw [show min b st.length - 1 - 0 = b - 1 by omega, if_pos (by omega)]
                exact hq
              cases hh : (st.take b).reverse with
              | nil => rw [hh] at h1; cases h1
              | cons v0 As' => rw [hh] at h1; cases h1; exact ⟨As', rfl⟩
            have hAs : ((st.take b).reverse).map (zV G) = .ref (G.1 q) :: As'.map (zV G) := by rw [hAs']; rfl
            have hlen2 : As'.length + 1 = b := by rw [← hlen, hAs']; rfl
            have hp2 : (parseMethodDescriptor M.1.desc).map (fun d => d.parameters.length) = some As'.length := by
              cases hpd : parseMethodDescriptor M.1.desc with
              | none => rw [hpd] at hpar; cases hpar
              | some dd =>
                rw [hpd] at hpar
                have hpar : dd.parameters.length + 1 = b := Option.some.inj hpar
                show some dd.parameters.length = some As'.length
                congr 1
                omega
            have hst2 : st.map (zV G) = (As'.map (zV G)).reverse ++ .ref (G.1 q) :: (st.drop b).map (zV G) := by
              rw [hst, hAs, List.reverse_cons, List.append_assoc]; rfl
            have hrcv : ∃ cell : Cell, H[G.1 q]? = some cell ∧ cell.vm.isStatics = false ∧ s.vm.findClass M.1.cls = some cell.cls := by
              rw [← hcls]
              exact va_recv hK hP hcc (q0 := q) (zCo_at hs)
            rw [hAs]
            exact va_runVN (As := As'.map (zV G)) (b := G.1 q) (C := M.1.cls) (n := As'.length) ⟨hx, hb, hml, hown, hts⟩ hM ⟨va_cnB As'.length hts hG rfl rfl rfl (hN _ (zwn_in hw0)) hini ⟨hy1, hy2, hp2⟩ ⟨hR1, hR2⟩, hts _ (zwd_in hw1), hts _ (zwd_in hw2)⟩ ⟨zB_blind D G A L _, hrcv, fun U hU hW => by have h := hpc U hU hW; rw [hAs] at h ⊢; exact h⟩ rfl (by rw [List.length_map]) hl.1 hst2 hsum hd ⟨hcs, hsl⟩
          | true, 1, hkind, hins, hrv =>
            simp only [Bool.and_eq_true, decide_eq_true_eq] at hkind
            obtain ⟨⟨hw0, hw1⟩, hpar⟩ := hkind
            subst hins
            exact va_runS (n := b) ⟨hx, hb, hml, hown, hts⟩ hM ⟨callB_of b hts hG rfl rfl rfl hini (hts _ (zwd_in hw0)) ⟨hy1, hy2, hpar⟩ ⟨hR1, hR2⟩, hts _ (zwd_in hw1)⟩ ⟨zB_blind D G A L _, hpc⟩ rfl (by rw [List.length_map]; exact hlen) hl.1 hst hsum hd ⟨hcs, hsl⟩
          | true, 3, hkind, hins, hrv =>
            simp only [Bool.and_eq_true, decide_eq_true_eq] at hkind
            obtain ⟨⟨hw0, hw1⟩, hpar⟩ := hkind
            subst hins
            exact va_runSN (n := b) ⟨hx, hb, hml, hown, hts⟩ hM ⟨va_cnB b hts hG rfl rfl rfl (hN _ (zwn_in hw0)) hini ⟨hy1, hy2, hpar⟩ ⟨hR1, hR2⟩, hts _ (zwd_in hw1), trivial⟩ ⟨zB_blind D G A L _, hpc⟩ rfl (by rw [List.length_map]; exact hlen) hl.1 hst hsum hd ⟨hcs, hsl⟩
      have h3 := zcall_go hF0 hl hrun hS (fun st A L => k lv st A L) (fun st A L h => hk lv st A L h)
      rcases hgo with ⟨A', L', e1, e2⟩ | ⟨v, A', L', e1, e2⟩ | ⟨v, A', L', e1, e2⟩
      · exact h3.1 A' L' e1 e2
      · exact h3.2.1 v A' L' e1 e2
      · exact h3.2.2 v A' L' e1 e2
end ZO
