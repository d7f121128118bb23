section ZO
variable {T : List zM} {p : Program} {l : Launch} {e : Env} {R : Room} {s : State} {m : MethodId} {args : Array Value} {below : List Frame} {meth : Method} {c : Code} {Q : State → Prop}
variable {cc : ByteArray} {nL cs sl : Nat} {own : String} {rt : Option FieldType} {D : va_G} {G : zG} {A0 : Nat → Prop} {sc : Option (Nat × (Nat → Int32))}
variable {d : Nat} {bs : List zBk} {r : zR} {pc : Nat} {k : zK} {j : Nat → zK} {C : Nat → List Value → zA → zL → Option zR}
theorem zok_J {off : Int} {b : Nat} (h : zokJ bs pc off b = true) : ∃ bk, bs[b]? = some bk ∧ (pc : Int) + off = (bk.1 : Int) := by
  unfold zokJ at h
  cases hb : bs[b]? with
  | none => rw [hb] at h; cases h
  | some bk => rw [hb] at h; exact ⟨bk, rfl, of_decide_eq_true h⟩
theorem zin_ck {i : Int32} {n : Nat} {x : Option zR} (h : zck i n x = some r) : vp_in i n ∧ x = some r := by
  unfold zck at h
  split at h
  · exact znn h
  · rename_i hn; exact ⟨hn, h⟩
theorem zin_cb {i : Int32} {x : Option zR} (h : zcb i x = some r) : (i = 0 ∨ i = 1) ∧ x = some r := by
  unfold zcb at h
  split at h
  · rename_i hn; exact ⟨hn, h⟩
  · exact znn h
theorem zin_cd {i : Int32} {x : Option zR} (h : zcd i x = some r) : ¬ i = 0 ∧ x = some r := by
  unfold zcd at h
  split at h
  · exact znn h
  · rename_i hn; exact ⟨hn, h⟩
theorem zin_cc {sp dp n : Int32} {n0 n1 : Nat} {x : Option zR} (h : zcc sp dp n n0 n1 x = some r) : (sp = 0 ∧ dp = 0 ∧ ¬ n < 0 ∧ n.toNatClampNeg ≤ n0 ∧ n.toNatClampNeg ≤ n1) ∧ x = some r := by
  unfold zcc at h
  split at h
  · rename_i hn; exact ⟨hn, h⟩
  · exact znn h
/-- a field's word -/
theorem zok_F {x a b q0 : Nat} (h : zokF own x a b q0 = true) : ∃ C : vw_C, vwCl[a]? = some C ∧ b < C.2.2 ∧ (C.2.1 b).1 = C.1 ∧ (Jvm.Cond.fieldLink own x C.1 (C.2.1 b).2.1 (C.2.1 b).2.2.1 ∈ zTb ∨ Jvm.Cond.fieldLinkNest own x C.1 (C.2.1 b).2.1 (C.2.1 b).2.2.1 "EverySecondWord" ∈ zNs) := by
  unfold zokF at h
  cases hc : vwCl[a]? with
  | none => rw [hc] at h; cases h
  | some C =>
    rw [hc] at h
    simp only [Bool.and_eq_true, decide_eq_true_eq, Bool.or_eq_true] at h
    exact ⟨C, rfl, h.1.1, h.1.2, h.2.imp zwd_in zwn_in⟩
theorem znar_b {x : Int32} (h : x = 0 ∨ x = 1) : narrow .boolean (.int x) = .int x ∧ fits .boolean (.int x) = true ∧ vp_nar .boolean x = x := by
  rcases h with rfl | rfl <;> exact ⟨rfl, rfl, rfl⟩
/-- a field is read -/
theorem zgetf_ok {x a b q ci w0 : Nat} {fs : List Value} {v w : Value} {rest : List Value} {A : zA} {L : zL} {H : Heap} {locs : List Loc} {ls : Array Slot}
    (hF : zFx p R s m args c cc nL cs sl own D G A0 sc d) (hok : zokF own x a b w0 = true) (hd : decode cc pc = .ok (.getfield x, 3)) (hs : zSH[q]? = some (.inr (ci, fs))) (hci : ci = a) (hv : fs[b]? = some v) (hP : va_P D vwCl (zCo G A L) H)
    (hw : zFe G (A q) (L q) b v = w) (kk : W p l e R s m args below meth c H locs cs sl Q (F0 m (pc + 3) ls (w :: rest))) : W p l e R s m args below meth c H locs cs sl Q (F0 m pc ls (.ref (G.1 q) :: rest)) := by
  obtain ⟨hx, hb, hml, hown, hts, hK, hI, hZA, hSt, hN, hcs, hsl, hfr, hlo, hX⟩ := hF
  obtain ⟨CQ, hc, hbk, hsame, hword⟩ := zok_F hok
  subst hci
  have he : (zCo G A L)[q]? = some (G.1 q, .inr (ci, zFs G (A q) (L q) 0 fs)) := zCo_at hs
  have hv2 : (zFs G (A q) (L q) 0 fs)[b]? = some w := by rw [zFs_get, hv, Nat.zero_add, ← hw]; rfl
  obtain ⟨nm, TX, N⟩ := CQ
  rcases hword with hword | hword
  · exact va_get hx hb hts (zcls _ _ hc).2.2 hown hK hP q he hc b hbk (hts _ hword) (fun y hy => by rw [hsame] at hy; exact hy) hv2 hd kk
  · exact va_getN hx hb hts (zcls _ _ hc).2.2 hown hK hP q he hc b hbk (va_Nw.use rfl (hN _ hword)) (fun y hy => by rw [hsame] at hy; exact hy) hv2 hd kk
/-- a field is written -/
theorem zputf_ok {x a b q ci w0 : Nat} {fs : List Value} {v w : Value} {ty : FieldType} {rest : List Value} {A A' : zA} {L L' : zL} {H : Heap} {locs : List Loc} {ls : Array Slot}
    (hF : zFx p R s m args c cc nL cs sl own D G A0 sc d) (hok : zokF own x a b w0 = true) (hok2 : zokP a b = true) (hd : decode cc pc = .ok (.putfield x, 3)) (hs : zSH[q]? = some (.inr (ci, fs))) (hci : ci = a) (hv : fs[b]? = some v) (hnr : ∀ t, v ≠ .ref t)
    (hty : parseFieldDescriptor (zdesc v) = some ty) (hn : narrow ty w = w) (hf : fits ty w = true) (he2 : zCo G A' L' = (zCo G A L).set q (G.1 q, .inr (ci, (zFs G (A q) (L q) 0 fs).set b w)))
    (hP : va_P D vwCl (zCo G A L) H) (hS : va_S A0 s.heap H locs)
    (kk : ∀ H1 locs1, va_P D vwCl (zCo G A' L') H1 → va_S A0 s.heap H1 locs1 → W p l e R s m args below meth c H1 locs1 cs sl Q (F0 m (pc + 3) ls rest)) : W p l e R s m args below meth c H locs cs sl Q (F0 m pc ls (w :: .ref (G.1 q) :: rest)) := by
  obtain ⟨hx, hb, hml, hown, hts, hK, hI, hZA, hSt, hN, hcs, hsl, hfr, hlo, hX⟩ := hF
  obtain ⟨CQ, hc, hbk, hsame, hword⟩ := zok_F hok
  subst hci
  have he : (zCo G A L)[q]? = some (G.1 q, .inr (ci, zFs G (A q) (L q) 0 fs)) := zCo_at hs
  have hD : va_D A0 (zCo G A L) := ⟨(zCo_D hI A L).1, fun k q h => hZA _ ((zCo_D hI A L).2 k q h)⟩
  have hdd : (CQ.2.1 b).2.2.1 = zdesc v := zsh_desc hs hc hv hnr
  have hfin : (CQ.2.1 b).2.2.2 = false := by
    unfold zokP at hok2
    rw [hc] at hok2
    simpa using hok2
  have hl : b < (zFs G (A q) (L q) 0 fs).length := by rw [zFs_len]; exact (List.getElem?_eq_some_iff.mp hv).1
  obtain ⟨nm, TX, N⟩ := CQ
  obtain ⟨⟨ty0, hty0⟩, hnm, hin⟩ := zcls _ _ hc
  rcases hword with hword | hword
  · exact va_put hx hb hts hin ty0 hty0 hnm hown hK hP hD hS q he hc b hbk (hts _ hword) (fun y hy => by rw [hsame] at hy; exact hy) hfin (by rw [hdd]; exact hty) hn hf hl hd (fun H1 locs1 hP1 _ hS1 => kk H1 locs1 (by rw [he2]; exact hP1) hS1)
  · exact va_putN hx hb hts hin ty0 hty0 hnm hown hK hP hD hS q he hc b hbk (va_Nw.use rfl (hN _ hword)) (fun y hy => by rw [hsame] at hy; exact hy) hfin (by rw [hdd]; exact hty) hn hf hl hd (fun H1 locs1 hP1 _ hS1 => kk H1 locs1 (by rw [he2]; exact hP1) hS1)
theorem zsw_T {x : Int32} {jj : Nat → Option zR} {g : Option zR} : ∀ {offs : List Int} {ps : List (Int32 × Nat)} {v : Int}, zokT bs pc v offs ps = true → zsw x ps jj g = some r →
    ((x.toInt < v ∨ v + (offs.length : Int) ≤ x.toInt) ∧ g = some r) ∨ ∃ (i : Nat) (off : Int) (bk : zBk) (q : Nat), x.toInt = v + (i : Int) ∧ offs[i]? = some off ∧ bs[q]? = some bk ∧ (pc : Int) + off = (bk.1 : Int) ∧ jj q = some r
  | [], [], v, _, h => Or.inl ⟨by simp; omega, h⟩
  | [], _ :: _, v, h, _ => by cases h
  | _ :: _, [], v, h, _ => by cases h
  | o :: os, q :: qs, v, hok, h => by
    simp only [zokT, Bool.and_eq_true, decide_eq_true_eq] at hok
    obtain ⟨⟨h1, h2⟩, h3⟩ := hok
    obtain ⟨bk, hbk, htg⟩ := zok_J h2
    unfold zsw at h
    by_cases hx : x = q.1
    · rw [if_pos hx] at h
      exact Or.inr ⟨0, o, bk, q.2, by rw [hx, h1]; simp, rfl, hbk, htg, h⟩
    · rw [if_neg hx] at h
      rcases zsw_T h3 h with ⟨g1, g2⟩ | ⟨i, off, bk, q', g1, g2, g3, g4, g5⟩
      · refine Or.inl ⟨?_, g2⟩
        have hne : x.toInt ≠ v := fun e => hx (Int32.toInt_inj.mp (by rw [e, h1]))
        simp only [List.length_cons]
        omega
      · exact Or.inr ⟨i + 1, off, bk, q', by rw [g1]; omega, g2, g3, g4, g5⟩
theorem zsw_L {x : Int32} {jj : Nat → Option zR} {g : Option zR} {df : Int} : ∀ {prs : List (Int × Int)} {ps : List (Int32 × Nat)}, zokL bs pc prs ps = true → zsw x ps jj g = some r →
    (Op.lookupswitch.offset prs df x.toInt = df ∧ g = some r) ∨ ∃ (off : Int) (bk : zBk) (q : Nat), Op.lookupswitch.offset prs df x.toInt = off ∧ bs[q]? = some bk ∧ (pc : Int) + off = (bk.1 : Int) ∧ jj q = some r
  | [], [], _, h => Or.inl ⟨by simp [Op.lookupswitch.offset], h⟩
  | [], _ :: _, h, _ => by cases h
  | _ :: _, [], h, _ => by cases h
  | o :: os, q :: qs, hok, h => by
    simp only [zokL, Bool.and_eq_true, decide_eq_true_eq] at hok
    obtain ⟨⟨h1, h2⟩, h3⟩ := hok
    obtain ⟨bk, hbk, htg⟩ := zok_J h2
    unfold zsw at h
    by_cases hx : x = q.1
    · rw [if_pos hx] at h
      refine Or.inr ⟨o.2, bk, q.2, ?_, hbk, htg, h⟩
      rw [hx, h1]
      simp [Op.lookupswitch.offset]
    · rw [if_neg hx] at h
      have hne : ¬ o.1 = x.toInt := fun e => hx (Int32.toInt_inj.mp (by rw [← e, h1]))
      have e : Op.lookupswitch.offset (o :: os) df x.toInt = Op.lookupswitch.offset os df x.toInt := by
        simp [Op.lookupswitch.offset, List.find?, hne]
      rw [e]
      rcases zsw_L (df := df) h3 h with g1 | g1
      · exact Or.inl g1
      · exact Or.inr g1
theorem zop_ok {o : zO} {lv : zLv} {st : List Value} {A : zA} {L : zL} (hok : zokO T own nL rt bs pc o = true) (hd : decode cc pc = .ok (o.1, o.2.1))
    (hF : zFx p R s m args c cc nL cs sl own D G A0 sc d)
    (hk : ∀ lv st A L, k lv st A L = some r → zWf p l e R s m args below meth c Q nL cs sl D G A0 (pc + o.2.1) lv st A L)
    (hj : ∀ b bk lv st A L, bs[b]? = some bk → j b lv st A L = some r → zWf p l e R s m args below meth c Q nL cs sl D G A0 bk.1 lv st A L)
    (hC : ∀ a as A L r', C a as A L = some r' → ∃ d', d' < d ∧ zMet T l D G d' a as A L r')
    (hRi : ∀ (x : Int32) A L H locs ls, r = (some (.int x), A, L) → decode cc pc = .ok (.ireturn, 1) → (rt = some .int ∨ (rt = some .boolean ∧ (x = 0 ∨ x = 1))) → va_P D vwCl (zCo G A L) H → va_S A0 s.heap H locs → W p l e R s m args below meth c H locs cs sl Q (F0 m pc ls [.int x]))
    (hRl : ∀ (x : Int64) A L H locs ls, r = (some (.long x), A, L) → decode cc pc = .ok (.lreturn, 1) → rt = some .long → va_P D vwCl (zCo G A L) H → va_S A0 s.heap H locs → W p l e R s m args below meth c H locs cs sl Q (F0 m pc ls [.long x]))
    (hRv : ∀ A L H locs ls, r = (none, A, L) → decode cc pc = .ok (.return_, 1) → rt = none → va_P D vwCl (zCo G A L) H → va_S A0 s.heap H locs → W p l e R s m args below meth c H locs cs sl Q (F0 m pc ls []))
    (hz : zop sc o lv st A L k j C = some r) : zWf p l e R s m args below meth c Q nL cs sl D G A0 pc lv st A L := by
  intro H locs ls hP hS hl
  have hF0 := hF
  obtain ⟨hx, hb, hml, hown, hts, hK, hI, hZA, hSt, hN, hcs, hsl, hfr, hlo, hX⟩ := hF
  have hD : va_D A0 (zCo G A L) := ⟨(zCo_D hI A L).1, fun k q h => hZA _ ((zCo_D hI A L).2 k q h)⟩
  obtain ⟨i, n, a, b, ns, ps, ci, cl⟩ := o
  dsimp only at hd hk hok
  cases i
  case aaload => exact znn hz
  case aastore => exact znn hz
  case aconst_null => exact znn hz
  case aload =>
    rename_i x0
    simp only [zokO, Bool.and_eq_true, beq_iff_eq] at hok
    obtain ⟨hxa, rfl⟩ := hok
    cases h : zget lv a with
    | none => simp only [zop, h] at hz; exact znn hz
    | some v =>
      cases v <;> simp only [zop, h] at hz <;> try exact znn hz
      exact lv_aload hx hb hd (hxa ▸ zget_at hl h) (hk _ _ _ _ hz H locs ls hP hS hl)
  case aload_n =>
    rename_i x0
    simp only [zokO, Bool.and_eq_true, beq_iff_eq] at hok
    obtain ⟨hxa, rfl⟩ := hok
    cases h : zget lv a with
    | none => simp only [zop, h] at hz; exact znn hz
    | some v =>
      cases v <;> simp only [zop, h] at hz <;> try exact znn hz
      exact lv_aload_n hx hb hd hxa (zget_at hl h) (hk _ _ _ _ hz H locs ls hP hS hl)
  case anewarray => exact znn hz
  case areturn => exact znn hz
  case arraylength =>
    simp only [zokO, beq_iff_eq] at hok
    subst hok
    rcases st with _ | ⟨v1, st⟩
    · exact znn hz
    · cases v1 <;> (try exact znn hz)
      rename_i q
      cases heq : (q == 1000) with
      | true =>
        have hq := eq_of_beq heq
        subst hq
        cases hsc : sc with
        | none => simp only [zop, hsc, heq, cond_true] at hz; exact znn hz
        | some sx =>
          simp only [zop, hsc, heq, cond_true] at hz
          obtain ⟨hX1, hX2, hX3⟩ := hX sx.1 sx.2 hsc
          exact va_slen hx hb hX1 hX2 hX3 hS hd (hk _ _ _ _ hz H locs ls hP hS hl)
      | false =>
        cases hs : zSH[q]? with
        | none => simp only [zop, heq, cond_false, hs] at hz; exact znn hz
        | some s0 =>
          rcases s0 with ⟨kd, nn⟩ | s0
          · match kd, hs with
            | 0, hs => simp only [zop, heq, cond_false, hs] at hz; exact va_alen hx hb hK hP q 0 (zCo_at hs) (ty := .int) rfl rfl hd (hk _ _ _ _ hz H locs ls hP hS hl)
            | 1, hs => simp only [zop, heq, cond_false, hs] at hz; exact va_alen hx hb hK hP q 1 (zCo_at hs) (ty := .long) rfl rfl hd (hk _ _ _ _ hz H locs ls hP hS hl)
            | kd + 2, hs => simp only [zop, heq, cond_false, hs] at hz; exact va_alen hx hb hK hP q 2 (zCo_at hs) (ty := .boolean) rfl rfl hd (hk _ _ _ _ hz H locs ls hP hS hl)
          · simp only [zop, heq, cond_false, hs] at hz; exact znn hz
  case astore =>
    rename_i x0
    simp only [zokO, Bool.and_eq_true, beq_iff_eq, decide_eq_true_eq] at hok
    obtain ⟨⟨hxa, rfl⟩, hlt⟩ := hok
    rcases st with _ | ⟨v, st⟩
    · exact znn hz
    · cases v <;> try exact znn hz
      exact lv_astore (lv' := (zst1 lv a (.ref _)).map (zq G)) hx hb (hxa ▸ hd) hl hlt (zst1_map G lv a (.ref _)).symm (fun ls' hl' => hk _ _ _ _ hz H locs ls' hP hS hl')
  case astore_n =>
    rename_i x0
    simp only [zokO, Bool.and_eq_true, beq_iff_eq, decide_eq_true_eq] at hok
    obtain ⟨⟨hxa, rfl⟩, hlt⟩ := hok
    rcases st with _ | ⟨v, st⟩
    · exact znn hz
    · cases v <;> try exact znn hz
      exact lv_astore_n (lv' := (zst1 lv a (.ref _)).map (zq G)) hx hb hd hxa hl hlt (zst1_map G lv a (.ref _)).symm (fun ls' hl' => hk _ _ _ _ hz H locs ls' hP hS hl')
  case athrow => exact znn hz
  case baload =>
    simp only [zokO, beq_iff_eq] at hok
    subst hok
    rcases st with _ | ⟨v1, _ | ⟨v2, st⟩⟩
    · exact znn hz
    · first | exact znn hz | (cases v1 <;> exact znn hz)
    · cases v1 <;> (try (first | exact znn hz | (cases v2 <;> exact znn hz)))
      cases v2 <;> (try exact znn hz)
      rename_i ix q
      cases hs : zSH[q]? with
      | none => simp only [zop, hs] at hz; exact znn hz
      | some s0 =>
        rcases s0 with ⟨kd, nn⟩ | s0
        · match kd, hs with
          | 0, hs => simp only [zop, hs] at hz; exact znn hz
          | 1, hs => simp only [zop, hs] at hz; exact znn hz
          | 2, hs => simp only [zop, hs] at hz; (obtain ⟨hin, hz⟩ := zin_ck hz; exact va_zald hx hb hK hP q 2 (zCo_at hs) rfl hin hd (hk _ _ _ _ hz H locs ls hP hS hl))
          | kd + 3, hs => simp only [zop, hs] at hz; exact znn hz
        · simp only [zop, hs] at hz; exact znn hz
  case bastore =>
    simp only [zokO, beq_iff_eq] at hok
    subst hok
    rcases st with _ | ⟨v1, _ | ⟨v2, _ | ⟨v3, st⟩⟩⟩
    · exact znn hz
    · first | exact znn hz | (cases v1 <;> exact znn hz)
    · first | exact znn hz | (cases v1 <;> exact znn hz) | (cases v1 <;> cases v2 <;> exact znn hz)
    · cases v1 <;> (try exact znn hz)
      cases v2 <;> (try exact znn hz)
      cases v3 <;> (try exact znn hz)
      rename_i q
      cases hs : zSH[q]? with
      | none => simp only [zop, hs] at hz; exact znn hz
      | some s0 =>
        rcases s0 with ⟨kd, nn⟩ | s0
        · match kd, hs with
          | 0, hs => simp only [zop, hs] at hz; exact znn hz
          | 1, hs => simp only [zop, hs] at hz; exact znn hz
          | 2, hs => simp only [zop, hs] at hz; (obtain ⟨hin, hz⟩ := zin_ck hz; obtain ⟨hbo, hz⟩ := zin_cb hz; exact va_zast hx hb hK hP hD hS q 2 (zCo_at hs) rfl hin hd (fun H1 locs1 hP1 _ hS1 => hk _ _ _ _ hz H1 locs1 ls (by unfold zput; rw [zCo_arrZ hs]; rw [(znar_b hbo).2.2] at hP1; exact hP1) hS1 hl))
          | kd + 3, hs => simp only [zop, hs] at hz; exact znn hz
        · simp only [zop, hs] at hz; exact znn hz
  case bipush =>
    rename_i x0
    simp only [zokO, Bool.and_eq_true, beq_iff_eq, decide_eq_true_eq] at hok
    obtain ⟨rfl, hv⟩ := hok
    exact lv_bipush hx hb hd hv (hk _ _ _ _ hz H locs ls hP hS hl)
  case caload => exact znn hz
  case castore => exact znn hz
  case checkcast => exact znn hz
  case d2f => exact znn hz
  case d2i => exact znn hz
  case d2l => exact znn hz
  case dadd => exact znn hz
  case daload => exact znn hz
  case dastore => exact znn hz
  case dcmp => exact znn hz
  case dconst => exact znn hz
  case ddiv => exact znn hz
  case dload => exact znn hz
  case dload_n => exact znn hz
  case dmul => exact znn hz
  case dneg => exact znn hz
  case drem => exact znn hz
  case dreturn => exact znn hz
  case dstore => exact znn hz
  case dstore_n => exact znn hz
  case dsub => exact znn hz
  case dup =>
    simp only [zokO, beq_iff_eq] at hok
    subst hok
    rcases st with _ | ⟨v1, st⟩
    · first | exact znn hz | exact znn hz
    · cases v1 <;> (try exact znn hz)
      all_goals exact lv_dup hx hb hd rfl (hk _ _ _ _ hz H locs ls hP hS hl)
  case dup_x1 => exact znn hz
  case dup_x2 => exact znn hz
  case dup2 =>
    simp only [zokO, beq_iff_eq] at hok
    subst hok
    rcases st with _ | ⟨v1, st⟩
    · exact znn hz
    · cases v1 <;> (try exact znn hz)
      · rcases st with _ | ⟨v2, st⟩
        · exact znn hz
        · cases v2 <;> (try exact znn hz)
          exact lv_dup2_11 hx hb hd rfl rfl (hk _ _ _ _ hz H locs ls hP hS hl)
      · exact lv_dup2_2 hx hb hd rfl (hk _ _ _ _ hz H locs ls hP hS hl)
  case dup2_x1 => exact znn hz
  case dup2_x2 => exact znn hz
  case f2d => exact znn hz
  case f2i => exact znn hz
  case f2l => exact znn hz
  case fadd => exact znn hz
  case faload => exact znn hz
  case fastore => exact znn hz
  case fcmp => exact znn hz
  case fconst => exact znn hz
  case fdiv => exact znn hz
  case fload => exact znn hz
  case fload_n => exact znn hz
  case fmul => exact znn hz
  case fneg => exact znn hz
  case frem => exact znn hz
  case freturn => exact znn hz
  case fstore => exact znn hz
  case fstore_n => exact znn hz
  case fsub => exact znn hz
  case getfield =>
    rename_i x0
    simp only [zokO, Bool.and_eq_true, beq_iff_eq] at hok
    obtain ⟨rfl, hok⟩ := hok
    rcases st with _ | ⟨v1, st⟩
    · exact znn hz
    · cases v1 <;> (try exact znn hz)
      rename_i q
      cases hs : zSH[q]? with
      | none => simp only [zop, hs] at hz; exact znn hz
      | some s0 =>
        rcases s0 with s0 | ⟨c0, fs⟩
        · simp only [zop, hs] at hz; exact znn hz
        · simp only [zop, hs] at hz
          cases hcc : (c0 == a) with
          | false => rw [hcc] at hz; exact znn hz
          | true =>
            rw [hcc] at hz
            simp only [cond_true] at hz
            cases hv : fs[b]? with
            | none => rw [hv] at hz; exact znn hz
            | some v =>
              rw [hv] at hz
              cases v <;> (try exact znn hz)
              all_goals exact zgetf_ok hF0 hok hd hs (eq_of_beq hcc) hv hP rfl (hk _ _ _ _ hz H locs ls hP hS hl)
  case getstatic =>
    rename_i x0
    simp only [zokO, Bool.and_eq_true, beq_iff_eq] at hok
    obtain ⟨rfl, hok⟩ := hok
    exact va_gets hx hb hSt.1 hS hown (hts _ (zwd_in hok)) (fun _ h => h) hd (hk _ _ _ _ hz H locs ls hP hS hl)
  case goto =>
    rename_i off
    simp only [zokO, Bool.and_eq_true, beq_iff_eq] at hok
    obtain ⟨rfl, hok⟩ := hok
    obtain ⟨bk, hbk, htg⟩ := zok_J hok
    exact lv_goto hx hb hd htg (hj _ _ _ _ _ _ hbk hz H locs ls hP hS hl)
  case goto_w => exact znn hz
  case i2b => exact znn hz
  case i2c => exact znn hz
  case i2d => exact znn hz
  case i2f => exact znn hz
  case i2l =>
    simp only [zokO, beq_iff_eq] at hok
    subst hok
    rcases st with _ | ⟨v1, st⟩
    · first | exact znn hz | exact znn hz
    · cases v1 <;> (try exact znn hz)
      all_goals exact lv_i2l hx hb hd rfl (hk _ _ _ _ hz H locs ls hP hS hl)
  case i2s => exact znn hz
  case iadd =>
    simp only [zokO, beq_iff_eq] at hok
    subst hok
    rcases st with _ | ⟨v1, _ | ⟨v2, st⟩⟩
    · first | exact znn hz | exact znn hz
    · first | exact znn hz | (cases v1 <;> exact znn hz)
    · cases v1 <;> (try exact znn hz)
      cases v2 <;> (try exact znn hz)
      all_goals exact lv_iadd hx hb hd (hk _ _ _ _ hz H locs ls hP hS hl)
  case iaload =>
    simp only [zokO, beq_iff_eq] at hok
    subst hok
    rcases st with _ | ⟨v1, _ | ⟨v2, st⟩⟩
    · exact znn hz
    · first | exact znn hz | (cases v1 <;> exact znn hz)
    · cases v1 <;> (try (first | exact znn hz | (cases v2 <;> exact znn hz)))
      cases v2 <;> (try exact znn hz)
      rename_i ix q
      cases heq : (q == 1000) with
      | true =>
        have hq := eq_of_beq heq
        subst hq
        cases hsc : sc with
        | none => simp only [zop, hsc, heq, cond_true] at hz; exact znn hz
        | some sx =>
          simp only [zop, hsc, heq, cond_true] at hz
          obtain ⟨hin, hz⟩ := zin_ck hz
          obtain ⟨hX1, hX2, hX3⟩ := hX sx.1 sx.2 hsc
          exact va_sld hx hb hX1 hX2 hX3 hS hin hd (hk _ _ _ _ hz H locs ls hP hS hl)
      | false =>
        cases hs : zSH[q]? with
        | none => simp only [zop, heq, cond_false, hs] at hz; exact znn hz
        | some s0 =>
          rcases s0 with ⟨kd, nn⟩ | s0
          · match kd, hs with
            | 0, hs => simp only [zop, heq, cond_false, hs] at hz; (obtain ⟨hin, hz⟩ := zin_ck hz; exact va_iald hx hb hK hP q 0 (zCo_at hs) rfl hin hd (hk _ _ _ _ hz H locs ls hP hS hl))
            | 1, hs => simp only [zop, heq, cond_false, hs] at hz; exact znn hz
            | 2, hs => simp only [zop, heq, cond_false, hs] at hz; exact znn hz
            | kd + 3, hs => simp only [zop, heq, cond_false, hs] at hz; exact znn hz
          · simp only [zop, heq, cond_false, hs] at hz; exact znn hz
  case iand =>
    simp only [zokO, beq_iff_eq] at hok
    subst hok
    rcases st with _ | ⟨v1, _ | ⟨v2, st⟩⟩
    · first | exact znn hz | exact znn hz
    · first | exact znn hz | (cases v1 <;> exact znn hz)
    · cases v1 <;> (try exact znn hz)
      cases v2 <;> (try exact znn hz)
      all_goals exact lv_iand hx hb hd (hk _ _ _ _ hz H locs ls hP hS hl)
  case iastore =>
    simp only [zokO, beq_iff_eq] at hok
    subst hok
    rcases st with _ | ⟨v1, _ | ⟨v2, _ | ⟨v3, st⟩⟩⟩
    · exact znn hz
    · first | exact znn hz | (cases v1 <;> exact znn hz)
    · first | exact znn hz | (cases v1 <;> exact znn hz) | (cases v1 <;> cases v2 <;> exact znn hz)
    · cases v1 <;> (try exact znn hz)
      cases v2 <;> (try exact znn hz)
      cases v3 <;> (try exact znn hz)
      rename_i q
      cases hs : zSH[q]? with
      | none => simp only [zop, hs] at hz; exact znn hz
      | some s0 =>
        rcases s0 with ⟨kd, nn⟩ | s0
        · match kd, hs with
          | 0, hs => simp only [zop, hs] at hz; (obtain ⟨hin, hz⟩ := zin_ck hz; exact va_iast hx hb hK hP hD hS q 0 (zCo_at hs) rfl hin hd (fun H1 locs1 hP1 _ hS1 => hk _ _ _ _ hz H1 locs1 ls (by unfold zput; rw [zCo_arrI hs]; exact hP1) hS1 hl))
          | 1, hs => simp only [zop, hs] at hz; exact znn hz
          | 2, hs => simp only [zop, hs] at hz; exact znn hz
          | kd + 3, hs => simp only [zop, hs] at hz; exact znn hz
        · simp only [zop, hs] at hz; exact znn hz
  case iconst =>
    rename_i x0
    simp only [zokO, Bool.and_eq_true, beq_iff_eq, decide_eq_true_eq] at hok
    obtain ⟨rfl, hv⟩ := hok
    exact lv_iconst hx hb hd hv (hk _ _ _ _ hz H locs ls hP hS hl)
  case idiv =>
    simp only [zokO, beq_iff_eq] at hok
    subst hok
    rcases st with _ | ⟨v1, _ | ⟨v2, st⟩⟩
    · exact znn hz
    · first | exact znn hz | (cases v1 <;> exact znn hz)
    · cases v1 <;> (try exact znn hz)
      cases v2 <;> (try exact znn hz)
      obtain ⟨hne, hz⟩ := zin_cd hz
      exact lv_idiv hx hb hd hne (hk _ _ _ _ hz H locs ls hP hS hl)
  case if_acmp => exact znn hz
  case if_icmp =>
    rename_i cc0 off
    simp only [zokO, Bool.and_eq_true, beq_iff_eq] at hok
    obtain ⟨rfl, hok⟩ := hok
    obtain ⟨bk, hbk, htg⟩ := zok_J hok
    rcases st with _ | ⟨v1, _ | ⟨v2, st⟩⟩
    · exact znn hz
    · first | exact znn hz | (cases v1 <;> exact znn hz)
    · cases v1 <;> (try (first | exact znn hz | (cases v2 <;> exact znn hz)))
      cases v2 <;> (try exact znn hz)
      cases cc0
      · exact lv_icmp_eq hx hb hd htg (fun h => hj _ _ _ _ _ _ hbk (by simpa only [zop, h, if_true] using hz) H locs ls hP hS hl) (fun h => hk _ _ _ _ (by simpa only [zop, h, if_false] using hz) H locs ls hP hS hl)
      · exact lv_icmp_ne hx hb hd htg (fun h => hj _ _ _ _ _ _ hbk (by simpa only [zop, h, if_false] using hz) H locs ls hP hS hl) (fun h => hk _ _ _ _ (by simpa only [zop, h, if_true] using hz) H locs ls hP hS hl)
      · exact lv_icmp_lt hx hb hd htg (fun h => hj _ _ _ _ _ _ hbk (by simpa only [zop, h, if_true] using hz) H locs ls hP hS hl) (fun h => hk _ _ _ _ (by simpa only [zop, h, if_false] using hz) H locs ls hP hS hl)
      · exact lv_icmp_ge hx hb hd htg (fun h => hj _ _ _ _ _ _ hbk (by simpa only [zop, h, if_true] using hz) H locs ls hP hS hl) (fun h => hk _ _ _ _ (by simpa only [zop, h, if_false] using hz) H locs ls hP hS hl)
      · exact lv_icmp_gt hx hb hd htg (fun h => hj _ _ _ _ _ _ hbk (by simpa only [zop, h, if_true] using hz) H locs ls hP hS hl) (fun h => hk _ _ _ _ (by simpa only [zop, h, if_false] using hz) H locs ls hP hS hl)
      · exact lv_icmp_le hx hb hd htg (fun h => hj _ _ _ _ _ _ hbk (by simpa only [zop, h, if_true] using hz) H locs ls hP hS hl) (fun h => hk _ _ _ _ (by simpa only [zop, h, if_false] using hz) H locs ls hP hS hl)
  case ifCond =>
    rename_i cc0 off
    simp only [zokO, Bool.and_eq_true, beq_iff_eq] at hok
    obtain ⟨rfl, hok⟩ := hok
    obtain ⟨bk, hbk, htg⟩ := zok_J hok
    rcases st with _ | ⟨v1, st⟩
    · exact znn hz
    · cases v1 <;> (try exact znn hz)
      cases cc0
      · exact lv_if_eq hx hb hd htg (fun h => hj _ _ _ _ _ _ hbk (by simpa only [zop, h, if_true] using hz) H locs ls hP hS hl) (fun h => hk _ _ _ _ (by simpa only [zop, h, if_false] using hz) H locs ls hP hS hl)
      · exact lv_if_ne hx hb hd htg (fun h => hj _ _ _ _ _ _ hbk (by simpa only [zop, h, if_false] using hz) H locs ls hP hS hl) (fun h => hk _ _ _ _ (by simpa only [zop, h, if_true] using hz) H locs ls hP hS hl)
      · exact lv_if_lt hx hb hd htg (fun h => hj _ _ _ _ _ _ hbk (by simpa only [zop, h, if_true] using hz) H locs ls hP hS hl) (fun h => hk _ _ _ _ (by simpa only [zop, h, if_false] using hz) H locs ls hP hS hl)
      · exact lv_if_ge hx hb hd htg (fun h => hj _ _ _ _ _ _ hbk (by simpa only [zop, h, if_true] using hz) H locs ls hP hS hl) (fun h => hk _ _ _ _ (by simpa only [zop, h, if_false] using hz) H locs ls hP hS hl)
      · exact lv_if_gt hx hb hd htg (fun h => hj _ _ _ _ _ _ hbk (by simpa only [zop, h, if_true] using hz) H locs ls hP hS hl) (fun h => hk _ _ _ _ (by simpa only [zop, h, if_false] using hz) H locs ls hP hS hl)
      · exact lv_if_le hx hb hd htg (fun h => hj _ _ _ _ _ _ hbk (by simpa only [zop, h, if_true] using hz) H locs ls hP hS hl) (fun h => hk _ _ _ _ (by simpa only [zop, h, if_false] using hz) H locs ls hP hS hl)
  case ifnonnull => exact znn hz
  case ifnull => exact znn hz
  case iinc =>
    rename_i x0 v0
    simp only [zokO, Bool.and_eq_true, beq_iff_eq, decide_eq_true_eq] at hok
    obtain ⟨⟨⟨hxa, rfl⟩, hlt⟩, hv⟩ := hok
    subst hxa
    cases h : zget lv x0 with
    | none => simp only [zop, h] at hz; exact znn hz
    | some v =>
      cases v <;> simp only [zop, h] at hz <;> try exact znn hz
      have hm : (x0, zV G _) ∈ lv.map (zq G) := List.mem_map.mpr ⟨_, zget_in h, rfl⟩
      obtain ⟨k0, hk0⟩ := List.getElem?_of_mem hm
      exact lv_iinc hx hb hd hl hk0 (by rw [hv]) hlt (zst1_map G lv x0 (.int _)).symm (fun ls' hl' => hk _ _ _ _ hz H locs ls' hP hS hl')
  case iload =>
    rename_i x0
    simp only [zokO, Bool.and_eq_true, beq_iff_eq] at hok
    obtain ⟨hxa, rfl⟩ := hok
    cases h : zget lv a with
    | none => simp only [zop, h] at hz; exact znn hz
    | some v =>
      cases v <;> simp only [zop, h] at hz <;> try exact znn hz
      exact lv_iload hx hb hd (hxa ▸ zget_at hl h) (hk _ _ _ _ hz H locs ls hP hS hl)
  case iload_n =>
    rename_i x0
    simp only [zokO, Bool.and_eq_true, beq_iff_eq] at hok
    obtain ⟨hxa, rfl⟩ := hok
    cases h : zget lv a with
    | none => simp only [zop, h] at hz; exact znn hz
    | some v =>
      cases v <;> simp only [zop, h] at hz <;> try exact znn hz
      exact lv_iload_n hx hb hd hxa (zget_at hl h) (hk _ _ _ _ hz H locs ls hP hS hl)
  case imul =>
    simp only [zokO, beq_iff_eq] at hok
    subst hok
    rcases st with _ | ⟨v1, _ | ⟨v2, st⟩⟩
    · first | exact znn hz | exact znn hz
    · first | exact znn hz | (cases v1 <;> exact znn hz)
    · cases v1 <;> (try exact znn hz)
      cases v2 <;> (try exact znn hz)
      all_goals exact lv_imul hx hb hd (hk _ _ _ _ hz H locs ls hP hS hl)
  case ineg =>
    simp only [zokO, beq_iff_eq] at hok
    subst hok
    rcases st with _ | ⟨v1, st⟩
    · first | exact znn hz | exact znn hz
    · cases v1 <;> (try exact znn hz)
      all_goals exact lv_ineg hx hb hd (hk _ _ _ _ hz H locs ls hP hS hl)
  case instanceof => exact znn hz
  case invokedynamic => exact znn hz
  case invokeinterface => exact znn hz
  case invokespecial => exact znn hz
  case invokestatic =>
    rename_i x0
    simp only [zokO, Bool.and_eq_true, beq_iff_eq] at hok
    obtain ⟨rfl, hok⟩ := hok
    by_cases h9 : ns.headD 0 = 9
    · simp only [h9] at hok
      rcases st with _ | ⟨v1, _ | ⟨v2, _ | ⟨v3, _ | ⟨v4, _ | ⟨v5, st⟩⟩⟩⟩⟩
      · simp only [zop, h9] at hz; exact znn hz
      · simp only [zop, h9] at hz; exact znn hz
      · simp only [zop, h9] at hz; exact znn hz
      · simp only [zop, h9] at hz; exact znn hz
      · simp only [zop, h9] at hz; exact znn hz
      · cases v1 <;> (try (simp only [zop, h9] at hz; exact znn hz))
        cases v2 <;> (try (simp only [zop, h9] at hz; exact znn hz))
        cases v3 <;> (try (simp only [zop, h9] at hz; exact znn hz))
        cases v4 <;> (try (simp only [zop, h9] at hz; exact znn hz))
        cases v5 <;> (try (simp only [zop, h9] at hz; exact znn hz))
        rename_i nn dp q1 sp q0
        cases h0 : zSH[q0]? with
        | none => simp only [zop, h9, h0] at hz; exact znn hz
        | some s0 =>
          cases h1 : zSH[q1]? with
          | none => simp only [zop, h9, h0, h1] at hz; rcases s0 with ⟨kd0, n0⟩ | s0 <;> first | exact znn hz | (match kd0, hz with | 0, hz => exact znn hz | kd + 1, hz => exact znn hz)
          | some s1 =>
            simp only [zop, h9, h0, h1] at hz
            rcases s0 with ⟨kd0, n0⟩ | s0
            · rcases s1 with ⟨kd1, n1⟩ | s1
              · match kd0, kd1, h0, h1, hz with
                | 0, 0, h0, h1, hz =>
                  cases hcat : Nat.ble (zcat st) 8 with
                  | false => simp only [hcat, cond_false] at hz; exact znn hz
                  | true =>
                    simp only [hcat, cond_true] at hz
                    obtain ⟨⟨rfl, rfl, hn0, hn1, hn2⟩, hz2⟩ := zin_cc hz
                    match ns, hok with
                    | [m0, w0, w1, w2, w3], hok =>
                      simp only [zokA, Bool.and_eq_true] at hok
                      obtain ⟨⟨⟨hw0, hw1⟩, hw2⟩, hw3⟩ := hok
                      have hcat2 := Nat.le_of_ble_eq_true hcat
                      refine va_copyi hx hb (hml.trans hl.1.symm) hown (hts _ (zwd_in hw0)) (hts _ (zwd_in hw1)) (hts _ (zwd_in hw2)) (hts _ (zwd_in hw3)) hK hP hD hS q0 q1 0 0 (zCo_at h0) (zCo_at h1) (ty := .int) rfl rfl rfl (by decide) (by decide) hn0 (by show 0 + nn.toNatClampNeg ≤ n0; omega) (by show 0 + nn.toNatClampNeg ≤ n1; omega) (fun _ _ => rfl) (by omega) ?_ hd (fun H1 locs1 hP1 _ hS1 => hk _ _ _ _ hz2 H1 locs1 ls (by unfold zcpy; rw [zCo_arrI h1]; exact hP1) hS1 hl)
                      show ((st.map (zV G)).map fun v => v.category).sum + _ ≤ _
                      rw [zcat_map]
                      have hnf : nativeFrameWords "java/lang/System" "arraycopy" 5 = 7 := by decide +kernel
                      rw [hnf]
                      omega
                | 0, k1 + 1, h0, h1, hz => exact znn hz
                | k0 + 1, _, h0, h1, hz => exact znn hz
              · match kd0, hz with
                | 0, hz => exact znn hz
                | k0 + 1, hz => exact znn hz
            · exact znn hz
    · have hok : zokC T own x0 a b ns true = true := by
        revert hok
        split
        · rename_i e; exact absurd e h9
        · exact fun h => h
      have hz : zcl C (fun st A L => k lv st A L) a b (ns.headD 0) st A L = some r := by
        revert hz
        simp only [zop]
        first
          | (intro hz; exact hz)
          | (split
             · rename_i e; exact absurd e h9
             · exact fun h => h)
      exact zcl_ok hF0 hok rfl hd hk hC (fun h => by cases h) hz H locs ls hP hS hl
  case invokevirtual =>
    rename_i x0
    simp only [zokO, Bool.and_eq_true, beq_iff_eq] at hok
    obtain ⟨rfl, hok⟩ := hok
    cases hrv : zrv st b (ns.getD 1 0) with
    | false => simp only [zop, hrv, cond_false] at hz; exact znn hz
    | true =>
      simp only [zop, hrv, cond_true] at hz
      exact zcl_ok hF0 hok rfl hd hk hC (fun _ => hrv) hz H locs ls hP hS hl
  case ior =>
    simp only [zokO, beq_iff_eq] at hok
    subst hok
    rcases st with _ | ⟨v1, _ | ⟨v2, st⟩⟩
    · first | exact znn hz | exact znn hz
    · first | exact znn hz | (cases v1 <;> exact znn hz)
    · cases v1 <;> (try exact znn hz)
      cases v2 <;> (try exact znn hz)
      all_goals exact lv_ior hx hb hd (hk _ _ _ _ hz H locs ls hP hS hl)
  case irem =>
    simp only [zokO, beq_iff_eq] at hok
    subst hok
    rcases st with _ | ⟨v1, _ | ⟨v2, st⟩⟩
    · exact znn hz
    · first | exact znn hz | (cases v1 <;> exact znn hz)
    · cases v1 <;> (try exact znn hz)
      cases v2 <;> (try exact znn hz)
      obtain ⟨hne, hz⟩ := zin_cd hz
      exact lv_irem hx hb hd hne (hk _ _ _ _ hz H locs ls hP hS hl)
  case ireturn =>
    simp only [zokO, Bool.and_eq_true, Bool.or_eq_true, beq_iff_eq, decide_eq_true_eq, Bool.not_eq_true'] at hok
    obtain ⟨rfl, hok⟩ := hok
    rcases st with _ | ⟨v1, _ | ⟨v2, st⟩⟩
    · exact znn hz
    · cases v1 <;> (try exact znn hz)
      rcases hok with ⟨rfl, hrt⟩ | ⟨hne, hrt⟩
      · cases hz
        exact hRi _ _ _ _ _ _ rfl hd (Or.inl hrt) hP hS
      · match a, hne, hz with
        | 0, hne, hz => exact absurd hne (by decide)
        | a + 1, hne, hz =>
          obtain ⟨hbo, hz⟩ := zin_cb hz
          cases hz
          exact hRi _ _ _ _ _ _ rfl hd (Or.inr ⟨hrt, hbo⟩) hP hS
    · cases v1 <;> exact znn hz
  case ishl =>
    simp only [zokO, beq_iff_eq] at hok
    subst hok
    rcases st with _ | ⟨v1, _ | ⟨v2, st⟩⟩
    · first | exact znn hz | exact znn hz
    · first | exact znn hz | (cases v1 <;> exact znn hz)
    · cases v1 <;> (try exact znn hz)
      cases v2 <;> (try exact znn hz)
      all_goals exact lv_ishl hx hb hd (hk _ _ _ _ hz H locs ls hP hS hl)
  case ishr =>
    simp only [zokO, beq_iff_eq] at hok
    subst hok
    rcases st with _ | ⟨v1, _ | ⟨v2, st⟩⟩
    · first | exact znn hz | exact znn hz
    · first | exact znn hz | (cases v1 <;> exact znn hz)
    · cases v1 <;> (try exact znn hz)
      cases v2 <;> (try exact znn hz)
      all_goals exact lv_ishr hx hb hd (hk _ _ _ _ hz H locs ls hP hS hl)
  case istore =>
    rename_i x0
    simp only [zokO, Bool.and_eq_true, beq_iff_eq, decide_eq_true_eq] at hok
    obtain ⟨⟨hxa, rfl⟩, hlt⟩ := hok
    rcases st with _ | ⟨v, st⟩
    · exact znn hz
    · cases v <;> try exact znn hz
      exact lv_istore (lv' := (zst1 lv a (.int _)).map (zq G)) hx hb (hxa ▸ hd) hl hlt (zst1_map G lv a (.int _)).symm (fun ls' hl' => hk _ _ _ _ hz H locs ls' hP hS hl')
  case istore_n =>
    rename_i x0
    simp only [zokO, Bool.and_eq_true, beq_iff_eq, decide_eq_true_eq] at hok
    obtain ⟨⟨hxa, rfl⟩, hlt⟩ := hok
    rcases st with _ | ⟨v, st⟩
    · exact znn hz
    · cases v <;> try exact znn hz
      exact lv_istore_n (lv' := (zst1 lv a (.int _)).map (zq G)) hx hb hd hxa hl hlt (zst1_map G lv a (.int _)).symm (fun ls' hl' => hk _ _ _ _ hz H locs ls' hP hS hl')
  case isub =>
    simp only [zokO, beq_iff_eq] at hok
    subst hok
    rcases st with _ | ⟨v1, _ | ⟨v2, st⟩⟩
    · first | exact znn hz | exact znn hz
    · first | exact znn hz | (cases v1 <;> exact znn hz)
    · cases v1 <;> (try exact znn hz)
      cases v2 <;> (try exact znn hz)
      all_goals exact lv_isub hx hb hd (hk _ _ _ _ hz H locs ls hP hS hl)
  case iushr =>
    simp only [zokO, beq_iff_eq] at hok
    subst hok
    rcases st with _ | ⟨v1, _ | ⟨v2, st⟩⟩
    · first | exact znn hz | exact znn hz
    · first | exact znn hz | (cases v1 <;> exact znn hz)
    · cases v1 <;> (try exact znn hz)
      cases v2 <;> (try exact znn hz)
      all_goals exact lv_iushr hx hb hd rfl (hk _ _ _ _ hz H locs ls hP hS hl)
  case ixor =>
    simp only [zokO, beq_iff_eq] at hok
    subst hok
    rcases st with _ | ⟨v1, _ | ⟨v2, st⟩⟩
    · first | exact znn hz | exact znn hz
    · first | exact znn hz | (cases v1 <;> exact znn hz)
    · cases v1 <;> (try exact znn hz)
      cases v2 <;> (try exact znn hz)
      all_goals exact lv_ixor hx hb hd (hk _ _ _ _ hz H locs ls hP hS hl)
  case jsr => exact znn hz
  case jsr_w => exact znn hz
  case l2d => exact znn hz
  case l2f => exact znn hz
  case l2i =>
    simp only [zokO, beq_iff_eq] at hok
    subst hok
    rcases st with _ | ⟨v1, st⟩
    · first | exact znn hz | exact znn hz
    · cases v1 <;> (try exact znn hz)
      all_goals exact lv_l2i hx hb hd rfl (hk _ _ _ _ hz H locs ls hP hS hl)
  case ladd =>
    simp only [zokO, beq_iff_eq] at hok
    subst hok
    rcases st with _ | ⟨v1, _ | ⟨v2, st⟩⟩
    · first | exact znn hz | exact znn hz
    · first | exact znn hz | (cases v1 <;> exact znn hz)
    · cases v1 <;> (try exact znn hz)
      cases v2 <;> (try exact znn hz)
      all_goals exact lv_ladd hx hb hd (hk _ _ _ _ hz H locs ls hP hS hl)
  case laload =>
    simp only [zokO, beq_iff_eq] at hok
    subst hok
    rcases st with _ | ⟨v1, _ | ⟨v2, st⟩⟩
    · exact znn hz
    · first | exact znn hz | (cases v1 <;> exact znn hz)
    · cases v1 <;> (try (first | exact znn hz | (cases v2 <;> exact znn hz)))
      cases v2 <;> (try exact znn hz)
      rename_i ix q
      cases heq : (q == 1001) with
      | true =>
        have hq := eq_of_beq heq
        subst hq
        simp only [zop, heq, cond_true] at hz
        obtain ⟨hin, hz⟩ := zin_ck hz
        exact va_tl hx hb hSt.2 hS hin rfl hd (hk _ _ _ _ hz H locs ls hP hS hl)
      | false =>
        cases hs : zSH[q]? with
        | none => simp only [zop, heq, cond_false, hs] at hz; exact znn hz
        | some s0 =>
          rcases s0 with ⟨kd, nn⟩ | s0
          · match kd, hs with
            | 0, hs => simp only [zop, heq, cond_false, hs] at hz; exact znn hz
            | 1, hs => simp only [zop, heq, cond_false, hs] at hz; (obtain ⟨hin, hz⟩ := zin_ck hz; exact va_lald hx hb hK hP q 1 (zCo_at hs) rfl hin hd (hk _ _ _ _ hz H locs ls hP hS hl))
            | 2, hs => simp only [zop, heq, cond_false, hs] at hz; exact znn hz
            | kd + 3, hs => simp only [zop, heq, cond_false, hs] at hz; exact znn hz
          · simp only [zop, heq, cond_false, hs] at hz; exact znn hz
  case land =>
    simp only [zokO, beq_iff_eq] at hok
    subst hok
    rcases st with _ | ⟨v1, _ | ⟨v2, st⟩⟩
    · first | exact znn hz | exact znn hz
    · first | exact znn hz | (cases v1 <;> exact znn hz)
    · cases v1 <;> (try exact znn hz)
      cases v2 <;> (try exact znn hz)
      all_goals exact lv_land hx hb hd (hk _ _ _ _ hz H locs ls hP hS hl)
  case lastore =>
    simp only [zokO, beq_iff_eq] at hok
    subst hok
    rcases st with _ | ⟨v1, _ | ⟨v2, _ | ⟨v3, st⟩⟩⟩
    · exact znn hz
    · first | exact znn hz | (cases v1 <;> exact znn hz)
    · first | exact znn hz | (cases v1 <;> exact znn hz) | (cases v1 <;> cases v2 <;> exact znn hz)
    · cases v1 <;> (try exact znn hz)
      cases v2 <;> (try exact znn hz)
      cases v3 <;> (try exact znn hz)
      rename_i q
      cases hs : zSH[q]? with
      | none => simp only [zop, hs] at hz; exact znn hz
      | some s0 =>
        rcases s0 with ⟨kd, nn⟩ | s0
        · match kd, hs with
          | 0, hs => simp only [zop, hs] at hz; exact znn hz
          | 1, hs => simp only [zop, hs] at hz; (obtain ⟨hin, hz⟩ := zin_ck hz; exact va_last hx hb hK hP hD hS q 1 (zCo_at hs) rfl hin hd (fun H1 locs1 hP1 _ hS1 => hk _ _ _ _ hz H1 locs1 ls (by unfold zputL; rw [zCo_arrL hs]; exact hP1) hS1 hl))
          | 2, hs => simp only [zop, hs] at hz; exact znn hz
          | kd + 3, hs => simp only [zop, hs] at hz; exact znn hz
        · simp only [zop, hs] at hz; exact znn hz
  case lcmp =>
    simp only [zokO, beq_iff_eq] at hok
    subst hok
    rcases st with _ | ⟨v1, _ | ⟨v2, st⟩⟩
    · first | exact znn hz | exact znn hz
    · first | exact znn hz | (cases v1 <;> exact znn hz)
    · cases v1 <;> (try exact znn hz)
      cases v2 <;> (try exact znn hz)
      all_goals exact W.lcmp hx hb hd (hk _ _ _ _ hz H locs ls hP hS hl)
  case lconst =>
    rename_i x0
    simp only [zokO, Bool.and_eq_true, beq_iff_eq, decide_eq_true_eq] at hok
    obtain ⟨rfl, hv⟩ := hok
    exact lv_lconst hx hb hd hv (hk _ _ _ _ hz H locs ls hP hS hl)
  case ldc =>
    rename_i x0
    simp only [zokO, Bool.and_eq_true, beq_iff_eq] at hok
    obtain ⟨rfl, hv⟩ := hok
    exact lv_ldc hx hb hown (hts _ (zwd_in hv)) hd (hk _ _ _ _ hz H locs ls hP hS hl)
  case ldc_w =>
    rename_i x0
    simp only [zokO, Bool.and_eq_true, beq_iff_eq] at hok
    obtain ⟨rfl, hv⟩ := hok
    exact lv_ldcw hx hb hown (hts _ (zwd_in hv)) hd (hk _ _ _ _ hz H locs ls hP hS hl)
  case ldc2_w =>
    rename_i x0
    simp only [zokO, Bool.and_eq_true, beq_iff_eq] at hok
    obtain ⟨rfl, hv⟩ := hok
    exact lv_ldc2 hx hb hown (hts _ (zwd_in hv)) hd (hk _ _ _ _ hz H locs ls hP hS hl)
  case ldiv => exact znn hz
  case lload =>
    rename_i x0
    simp only [zokO, Bool.and_eq_true, beq_iff_eq] at hok
    obtain ⟨hxa, rfl⟩ := hok
    cases h : zget lv a with
    | none => simp only [zop, h] at hz; exact znn hz
    | some v =>
      cases v <;> simp only [zop, h] at hz <;> try exact znn hz
      exact lv_lload hx hb hd (hxa ▸ zget_at hl h) (hk _ _ _ _ hz H locs ls hP hS hl)
  case lload_n =>
    rename_i x0
    simp only [zokO, Bool.and_eq_true, beq_iff_eq] at hok
    obtain ⟨hxa, rfl⟩ := hok
    cases h : zget lv a with
    | none => simp only [zop, h] at hz; exact znn hz
    | some v =>
      cases v <;> simp only [zop, h] at hz <;> try exact znn hz
      exact lv_lload_n hx hb hd hxa (zget_at hl h) (hk _ _ _ _ hz H locs ls hP hS hl)
  case lmul => exact znn hz
  case lneg => exact znn hz
  case lookupswitch =>
    rename_i df prs
    simp only [zokO, Bool.and_eq_true] at hok
    obtain ⟨⟨hdf, hps⟩, hall⟩ := hok
    rcases st with _ | ⟨v1, st⟩
    · exact znn hz
    · cases v1 <;> (try exact znn hz)
      rename_i x1
      have hz : zsw x1 ps (fun b => j b lv st A L) (j a lv st A L) = some r := hz
      rcases zsw_L (df := df) hps hz with ⟨h1, h2⟩ | ⟨off, bk, q, h1, h3, h4, h5⟩
      · obtain ⟨bk, hbk, htg⟩ := zok_J hdf
        exact lv_lookup hx hb hd hall h1 htg (hj _ _ _ _ _ _ hbk h2 H locs ls hP hS hl)
      · exact lv_lookup hx hb hd hall h1 h4 (hj _ _ _ _ _ _ h3 h5 H locs ls hP hS hl)
  case lor =>
    simp only [zokO, beq_iff_eq] at hok
    subst hok
    rcases st with _ | ⟨v1, _ | ⟨v2, st⟩⟩
    · first | exact znn hz | exact znn hz
    · first | exact znn hz | (cases v1 <;> exact znn hz)
    · cases v1 <;> (try exact znn hz)
      cases v2 <;> (try exact znn hz)
      all_goals exact lv_lor hx hb hd (hk _ _ _ _ hz H locs ls hP hS hl)
  case lrem => exact znn hz
  case lreturn =>
    simp only [zokO, Bool.and_eq_true, beq_iff_eq, decide_eq_true_eq] at hok
    obtain ⟨rfl, hok⟩ := hok
    rcases st with _ | ⟨v1, _ | ⟨v2, st⟩⟩
    · exact znn hz
    · cases v1 <;> (try exact znn hz)
      cases hz
      exact hRl _ _ _ _ _ _ rfl hd hok hP hS
    · cases v1 <;> exact znn hz
  case lshl =>
    simp only [zokO, beq_iff_eq] at hok
    subst hok
    rcases st with _ | ⟨v1, _ | ⟨v2, st⟩⟩
    · first | exact znn hz | exact znn hz
    · first | exact znn hz | (cases v1 <;> exact znn hz)
    · cases v1 <;> (try exact znn hz)
      cases v2 <;> (try exact znn hz)
      all_goals exact lv_lshl hx hb hd rfl (hk _ _ _ _ hz H locs ls hP hS hl)
  case lshr => exact znn hz
  case lstore =>
    rename_i x0
    simp only [zokO, Bool.and_eq_true, beq_iff_eq, decide_eq_true_eq] at hok
    obtain ⟨⟨hxa, rfl⟩, hlt⟩ := hok
    rcases st with _ | ⟨v, st⟩
    · exact znn hz
    · cases v <;> try exact znn hz
      exact lv_lstore (lv' := (zst2 lv a (.long _)).map (zq G)) hx hb (hxa ▸ hd) hl hlt (zst2_map G lv a (.long _)).symm (fun ls' hl' => hk _ _ _ _ hz H locs ls' hP hS hl')
  case lstore_n =>
    rename_i x0
    simp only [zokO, Bool.and_eq_true, beq_iff_eq, decide_eq_true_eq] at hok
    obtain ⟨⟨hxa, rfl⟩, hlt⟩ := hok
    rcases st with _ | ⟨v, st⟩
    · exact znn hz
    · cases v <;> try exact znn hz
      exact lv_lstore_n (lv' := (zst2 lv a (.long _)).map (zq G)) hx hb hd hxa hl hlt (zst2_map G lv a (.long _)).symm (fun ls' hl' => hk _ _ _ _ hz H locs ls' hP hS hl')
  case lsub =>
    simp only [zokO, beq_iff_eq] at hok
    subst hok
    rcases st with _ | ⟨v1, _ | ⟨v2, st⟩⟩
    · first | exact znn hz | exact znn hz
    · first | exact znn hz | (cases v1 <;> exact znn hz)
    · cases v1 <;> (try exact znn hz)
      cases v2 <;> (try exact znn hz)
      all_goals exact lv_lsub hx hb hd (hk _ _ _ _ hz H locs ls hP hS hl)
  case lushr =>
    simp only [zokO, beq_iff_eq] at hok
    subst hok
    rcases st with _ | ⟨v1, _ | ⟨v2, st⟩⟩
    · first | exact znn hz | exact znn hz
    · first | exact znn hz | (cases v1 <;> exact znn hz)
    · cases v1 <;> (try exact znn hz)
      cases v2 <;> (try exact znn hz)
      all_goals exact lv_lushr hx hb hd rfl (hk _ _ _ _ hz H locs ls hP hS hl)
  case lxor =>
    simp only [zokO, beq_iff_eq] at hok
    subst hok
    rcases st with _ | ⟨v1, _ | ⟨v2, st⟩⟩
    · first | exact znn hz | exact znn hz
    · first | exact znn hz | (cases v1 <;> exact znn hz)
    · cases v1 <;> (try exact znn hz)
      cases v2 <;> (try exact znn hz)
      all_goals exact lv_lxor hx hb hd (hk _ _ _ _ hz H locs ls hP hS hl)
  case monitorenter => exact znn hz
  case monitorexit => exact znn hz
  case multianewarray => exact znn hz
  case new => exact znn hz
  case newarray => exact znn hz
  case nop => exact znn hz
  case pop =>
    simp only [zokO, beq_iff_eq] at hok
    subst hok
    rcases st with _ | ⟨v1, st⟩
    · first | exact znn hz | exact znn hz
    · cases v1 <;> (try exact znn hz)
      all_goals exact lv_pop hx hb hd rfl (hk _ _ _ _ hz H locs ls hP hS hl)
  case pop2 => exact znn hz
  case putfield =>
    rename_i x0
    simp only [zokO, Bool.and_eq_true, beq_iff_eq] at hok
    obtain ⟨⟨rfl, hok⟩, hok2⟩ := hok
    rcases st with _ | ⟨v1, _ | ⟨v2, st⟩⟩
    · exact znn hz
    · first | exact znn hz | (cases v1 <;> exact znn hz)
    · cases v2 <;> (try (first | exact znn hz | (cases v1 <;> exact znn hz)))
      rename_i q
      cases v1 <;> (try exact znn hz)
      · cases hs : zSH[q]? with
        | none => simp only [zop, hs] at hz; exact znn hz
        | some s0 =>
          rcases s0 with s0 | ⟨c0, fs⟩
          · simp only [zop, hs] at hz; exact znn hz
          · simp only [zop, hs] at hz
            cases hcc : (c0 == a) with
            | false => rw [hcc] at hz; exact znn hz
            | true =>
              rw [hcc] at hz
              simp only [cond_true] at hz
              cases hv : fs[b]? with
              | none => rw [hv] at hz; exact znn hz
              | some v =>
                rw [hv] at hz
                cases v <;> (try exact znn hz)
                · exact zputf_ok hF0 hok hok2 hd hs (eq_of_beq hcc) hv (fun t h => by cases h) zp_I rfl rfl (zCo_putI hs hv (Or.inl ⟨_, rfl⟩)) hP hS (fun H1 locs1 hP1 hS1 => hk _ _ _ _ hz H1 locs1 ls hP1 hS1 hl)
                · obtain ⟨hbo, hz⟩ := zin_cb hz
                  exact zputf_ok hF0 hok hok2 hd hs (eq_of_beq hcc) hv (fun t h => by cases h) zp_Z (znar_b hbo).1 (znar_b hbo).2.1 (zCo_putI hs hv (Or.inr ⟨_, rfl⟩)) hP hS (fun H1 locs1 hP1 hS1 => hk _ _ _ _ hz H1 locs1 ls hP1 hS1 hl)
      · cases hs : zSH[q]? with
        | none => simp only [zop, hs] at hz; exact znn hz
        | some s0 =>
          rcases s0 with s0 | ⟨c0, fs⟩
          · simp only [zop, hs] at hz; exact znn hz
          · simp only [zop, hs] at hz
            cases hcc : (c0 == a) with
            | false => rw [hcc] at hz; exact znn hz
            | true =>
              rw [hcc] at hz
              simp only [cond_true] at hz
              cases hv : fs[b]? with
              | none => rw [hv] at hz; exact znn hz
              | some v =>
                rw [hv] at hz
                cases v <;> (try exact znn hz)
                exact zputf_ok hF0 hok hok2 hd hs (eq_of_beq hcc) hv (fun t h => by cases h) zp_J rfl rfl (zCo_putL hs hv) hP hS (fun H1 locs1 hP1 hS1 => hk _ _ _ _ hz H1 locs1 ls hP1 hS1 hl)
  case putstatic => exact znn hz
  case ret => exact znn hz
  case return_ =>
    simp only [zokO, Bool.and_eq_true, beq_iff_eq, decide_eq_true_eq] at hok
    obtain ⟨rfl, hok⟩ := hok
    rcases st with _ | ⟨v1, st⟩
    · cases hz
      exact hRv _ _ _ _ _ rfl hd hok hP hS
    · exact znn hz
  case saload => exact znn hz
  case sastore => exact znn hz
  case sipush =>
    rename_i x0
    simp only [zokO, Bool.and_eq_true, beq_iff_eq, decide_eq_true_eq] at hok
    obtain ⟨rfl, hv⟩ := hok
    exact lv_sipush hx hb hd hv (hk _ _ _ _ hz H locs ls hP hS hl)
  case swap => exact znn hz
  case tableswitch =>
    rename_i df lo hi offs
    simp only [zokO, Bool.and_eq_true, decide_eq_true_eq] at hok
    obtain ⟨⟨hdf, hsz⟩, hps⟩ := hok
    rcases st with _ | ⟨v1, st⟩
    · exact znn hz
    · cases v1 <;> (try exact znn hz)
      rename_i x1
      have hz : zsw x1 ps (fun b => j b lv st A L) (j a lv st A L) = some r := hz
      rcases zsw_T hps hz with ⟨h1, h2⟩ | ⟨i0, off, bk, q, h1, h2, h3, h4, h5⟩
      · obtain ⟨bk, hbk, htg⟩ := zok_J hdf
        refine lv_tableOut hx hb hd ?_ htg (hj _ _ _ _ _ _ hbk h2 H locs ls hP hS hl)
        omega
      · refine lv_tableIn hx hb hd (by omega) ?_ (off := off) ?_ h4 (hj _ _ _ _ _ _ h3 h5 H locs ls hP hS hl)
        · have := (List.getElem?_eq_some_iff.mp h2).1
          omega
        · rw [h1, show (lo + (i0 : Int) - lo).toNat = i0 by omega, ← Array.getElem?_toList]
          exact h2
end ZO
