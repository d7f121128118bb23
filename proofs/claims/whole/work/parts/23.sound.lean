/-! ===== the small machine is sound: what it answers, the methods answer ===== -/
theorem znn {r : zR} {P : Prop} (h : (none : Option zR) = some r) : P := by cases h
theorem Met_ofWF {l : Launch} {y : MethodName} {ws ws' : List Jvm.Cond} {rm : Room} {Pc : Array Value → State → Prop} {Qc : Array Value → State → Outcome → State → Prop} {mc ms : Nat} {free : Addr → Prop} {cc : ByteArray} {maxL : Nat} {ret : Option FieldType}
    (hy : plainFor y = true) (hw : ws = Jvm.Cond.code y cc maxL ret :: ws')
    (body : ∀ p e s m args below meth c s₁, BodyLoose p l y (headSpec ws rm) cc maxL ret e s m args below meth c s₁ → c.maxLocals = maxL → Pc args s →
      W p l e (headSpec ws rm).room s m args below meth c s.heap [] 0 0 (MQ below Qc args s mc ms free) (entryFrame m args maxL)) : Met l y ws rm Pc Qc mc ms free := by
  refine MetFree.of_bodySF (code := cc) (maxLocals := maxL) (ret := ret) hy ?_ ?_
  · intro args s m h hn
    obtain ⟨meth, c, h1, h2, h3, h4, h5, h6, -, -⟩ := Jvm.Cond.code_spec hn (atoms_spec (ws := ws) h _ (by rw [hw]; exact List.mem_cons_self))
    exact ⟨meth, c, h1, h2, h3, h4, h5, h6⟩
  · intro p e s m args below meth c s₁ B hml hP _
    have hh0 : s₁.heap = s.heap := by rw [B.state]; rfl
    obtain ⟨t, a1, o, b1, b2, b3⟩ := body p e s m args below meth c s₁ B hml hP s₁ hh0 (Stand.of_body B)
    exact ⟨t, o, a1, b1, b2, ⟨b3.1, b3.2⟩⟩
/-- the static row of the class -/
def zSt (G : zG) (A : Nat → Prop) (U : State) (H : Heap) : Prop := va_Z "EverySecondWord$Grammar" "MEANINGS_WITHOUT" "[J" (.ref (G.1 1001)) A U H ∧ va_T .long (G.1 1001) 6 (fun j => .long (zMW j)) A U H
def zty (G : zG) : List (ClassId × FieldType) := [(G.2.1, .int), (G.2.2.1, .long), (G.2.2.2, .boolean)]
def zNN (U : State) : Prop := ∀ w ∈ zNs, va_Nw w U
/-- what a method finds: the world -/
def zB (D : va_G) (G : zG) (A : zA) (L : zL) (U : State) : Prop := va_P D vwCl (zCo G A L) U.heap ∧ va_K D vwCl (zty G) U ∧ zSt G (zZ G) U U.heap ∧ zNN U
def zQr (D : va_G) (G : zG) (r : zR) : Array Value → State → Outcome → State → Prop := match r with
  | (none, A, L) => va_Qv (fun _ : Unit => True) (fun _ t => va_P D vwCl (zCo G A L) t.heap) (zZ G)
  | (some (.int v), A, L) => va_Qi (fun x (_ : Unit) => x = v) (fun _ t => va_P D vwCl (zCo G A L) t.heap) (zZ G)
  | (some (.long v), A, L) => va_Ql (fun x (_ : Unit) => x = v) (fun _ t => va_P D vwCl (zCo G A L) t.heap) (zZ G)
  | _ => fun _ _ _ _ => False
def zrm (d : Nat) : Room := { frames := d + 1, cells := 0, slots := 0, locals := 100 * (d + 1) }
/-- the contract of a method at a depth, for a world and what comes of it -/
def zMet (T : List zM) (l : Launch) (D : va_G) (G : zG) (d k : Nat) (as : List Value) (A : zA) (L : zL) (r : zR) : Prop := ∀ M, T[k]? = some M →
  Met l M.1 (Jvm.Cond.code M.1 M.2.1 M.2.2.1 M.2.2.2.1 :: zTb) (zrm d) (va_Pc (as.map (zV G)) (zB D G A L)) (zQr D G r) 0 0 (zZ G)
theorem zB_blind (D : va_G) (G : zG) (A : zA) (L : zL) (av : List Value) : FrameBlind (va_Pc av (zB D G A L)) := by
  intro a U g mk ⟨h1, h2, h3, h4, h5⟩
  refine ⟨h1, h2, va_K.moved (u := U) (U := U.calling g mk a) (Vm.Alike.refl U.vm) h3, ⟨?_, ?_⟩, fun w hw => ?_⟩
  · exact va_Z.moved (u := U) (U := U.calling g mk a) (Vm.Alike.refl U.vm) h4.1
  · exact va_T.moved (u := U) (U := U.calling g mk a) (Vm.Alike.refl U.vm) h4.2
  · have hn : w.onTables = true := by
      have := (List.mem_filter.mp hw).2
      cases w <;> first | rfl | (simp [znest] at this)
    exact va_Nw.same (u := U) (U := U.calling g mk a) hn rfl (h5 w hw)
theorem zNN_warm {s U : State} (hW : s.WarmedH U.vm) (h : zNN s) : zNN U := by
  intro w hw
  have h0 := h w hw
  have := (List.mem_filter.mp hw).2
  cases w <;> first | exact va_Nw.warmF hW h0 | exact va_Nw.warmM hW h0 | (simp [znest] at this)
theorem zpick_in {lv : zLv} : ∀ {is : List Nat} {lv' : zLv}, zpick lv is = some lv' → ∀ q ∈ lv', zget lv q.1 = some q.2
  | [], lv', h, q, hq => by cases h; cases hq
  | i :: r, lv', h, q, hq => by
    unfold zpick at h
    cases hg : zget lv i with
    | none => rw [hg] at h; cases h
    | some v =>
      rw [hg] at h
      cases hp : zpick lv r with
      | none => simp only [hp] at h; cases h
      | some vs =>
        simp only [hp] at h
        cases h
        rcases List.mem_cons.mp hq with rfl | hq
        · exact hg
        · exact zpick_in hp q hq
theorem zget_in : ∀ {lv : zLv} {i : Nat} {v : Value}, zget lv i = some v → (i, v) ∈ lv
  | [], i, v, h => by cases h
  | q :: r, i, v, h => by
    unfold zget at h
    by_cases hq : q.1 = i
    · have e : (q.1 == i) = true := by simp [hq]
      rw [e] at h
      simp only [cond_true] at h
      cases h
      rw [← hq]
      exact List.mem_cons_self
    · have e : (q.1 == i) = false := by simp [hq]
      rw [e] at h
      simp only [cond_false] at h
      exact List.mem_cons_of_mem _ (zget_in h)
theorem zget_at {G : zG} {lv : zLv} {i nL : Nat} {v : Value} {ls : Array Slot} (hl : lv_has ls nL (lv.map (zq G))) (h : zget lv i = some v) : ls[i]? = some (.val (zV G v)) :=
  hl.2.2 (i, zV G v) (List.mem_map.mpr ⟨(i, v), zget_in h, rfl⟩)
theorem zst1_map (G : zG) (lv : zLv) (i : Nat) (v : Value) : (zst1 lv i v).map (zq G) = (i, zV G v) :: (lv.map (zq G)).filter (fun q => !(q.1 == i) && !(q.1 + 1 == i && q.2.category == 2)) := by
  unfold zst1
  rw [List.map_cons, List.filter_map]
  congr 2
  apply List.filter_congr
  intro q _
  simp [zq, Function.comp, zV_cat]
theorem zst2_map (G : zG) (lv : zLv) (i : Nat) (v : Value) : (zst2 lv i v).map (zq G) = (i, zV G v) :: (lv.map (zq G)).filter (fun q => !(q.1 == i) && (!(q.1 == i + 1) && !(q.1 + 1 == i && q.2.category == 2))) := by
  unfold zst2
  rw [List.map_cons, List.filter_map]
  congr 2
  apply List.filter_congr
  intro q _
  simp [zq, Function.comp, zV_cat]
section ZS
variable {T : List zM} {p : Program} {l : Launch} {e : Env} {R : Room} {s : State} {m : MethodId} {args : Array Value} {below : List Frame} {meth : Method} {c : Code} {Q : State → Prop}
variable {cc : ByteArray} {nL cs sl : Nat} {own : String} {rt : Option FieldType} {D : va_G} {G : zG} {A0 : Nat → Prop} {sc : Option (Nat × (Nat → Int32))}
/-- what stays while a method is walked -/
def zFx (p : Program) (R : Room) (s : State) (m : MethodId) (args : Array Value) (c : Code) (cc : ByteArray) (nL cs sl : Nat) (own : String) (D : va_G) (G : zG) (A0 : Nat → Prop) (sc : Option (Nat × (Nat → Int32))) (d : Nat) : Prop :=
  p.tables.exec = Jvm.exec ∧ c.code = cc ∧ c.maxLocals = nL ∧ s.vm.findClass own = some m.cls ∧ (∀ w ∈ zTb, w.before args s = true) ∧ va_K D vwCl (zty G) s ∧ zInj G ∧ (∀ q, zZ G q → A0 q) ∧ zSt G A0 s s.heap ∧ zNN s ∧ cs ≤ R.cells ∧ sl ≤ R.slots ∧ d + 1 ≤ R.frames ∧ 100 * (d + 1) ≤ R.locals ∧
  ∀ N xs, sc = some (N, xs) → va_X (G.1 1000) N xs s s.heap ∧ G.1 1000 < s.heap.size ∧ ¬ A0 (G.1 1000)
/-- from such a place of the machine the method comes to its end -/
def zWf (p : Program) (l : Launch) (e : Env) (R : Room) (s : State) (m : MethodId) (args : Array Value) (below : List Frame) (meth : Method) (c : Code) (Q : State → Prop) (nL cs sl : Nat) (D : va_G) (G : zG) (A0 : Nat → Prop) (pc : Nat) (lv : zLv) (st : List Value) (A : zA) (L : zL) : Prop :=
  ∀ (H : Heap) (locs : List Loc) (ls : Array Slot), va_P D vwCl (zCo G A L) H → va_S A0 s.heap H locs → lv_has ls nL (lv.map (zq G)) → W p l e R s m args below meth c H locs cs sl Q (F0 m pc ls (st.map (zV G)))
theorem zSt_at {H : Heap} {locs : List Loc} (h : zSt G A0 s s.heap) (hS : va_S A0 s.heap H locs) (hZA : ∀ q, zZ G q → A0 q) {U : State} (hU : U.heap = H) (hvm : s.vm.Alike U.vm) : zSt G (zZ G) U U.heap := by
  have hk : ∀ a : Nat, a < s.heap.size → ¬ A0 a → H[a]? = s.heap[a]? := fun a h1 h2 => hS.2.1 a h1 h2
  rw [hU]
  exact ⟨va_Z.moved hvm ((h.1.kept hk).narrow hZA), va_T.moved hvm ((h.2.kept hk).narrow hZA)⟩
end ZS
