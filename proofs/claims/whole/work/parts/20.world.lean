/-! ===== the machine's world in the kit's words ===== -/
/-- where the cells lie, and the classes of the int, long and boolean rows -/
abbrev zG : Type := (Nat → Nat) × ClassId × ClassId × ClassId
def zV (G : zG) (v : Value) : Value := match v with
  | .ref a => .ref (G.1 a)
  | v => v
def zq (G : zG) (q : Nat × Value) : Nat × Value := (q.1, zV G q.2)
theorem zV_cat (G : zG) (v : Value) : (zV G v).category = v.category := by cases v <;> rfl
theorem zcat_map (G : zG) (st : List Value) : ((st.map (zV G)).map fun v => v.category).sum = zcat st := by
  unfold zcat
  congr 1
  rw [List.map_map]
  exact List.map_congr_left (fun v _ => zV_cat G v)
def zFe (G : zG) (a : Nat → Int32) (l : Nat → Int64) (k : Nat) (v : Value) : Value := match v with
  | .int _ => .int (a k)
  | .float _ => .int (a k)
  | .long _ => .long (l k)
  | .ref t => .ref (G.1 t)
  | v => v
def zFs (G : zG) (a : Nat → Int32) (l : Nat → Int64) (k : Nat) (fs : List Value) : List Value := match fs with
  | [] => []
  | v :: r => zFe G a l k v :: zFs G a l (k + 1) r
theorem zFs_get (G : zG) (a : Nat → Int32) (l : Nat → Int64) : ∀ (fs : List Value) (k j : Nat), (zFs G a l k fs)[j]? = fs[j]?.map (zFe G a l (k + j))
  | [], k, j => by simp [zFs]
  | v :: r, k, 0 => by simp [zFs]
  | v :: r, k, j + 1 => by
    simp only [zFs, List.getElem?_cons_succ, zFs_get G a l r (k + 1) j]
    rw [show k + 1 + j = k + (j + 1) by omega]
theorem zFs_len (G : zG) (a : Nat → Int32) (l : Nat → Int64) : ∀ (fs : List Value) (k : Nat), (zFs G a l k fs).length = fs.length
  | [], k => rfl
  | v :: r, k => by simp [zFs, zFs_len G a l r (k + 1)]
def zEn (G : zG) (A : zA) (L : zL) (i : Nat) (s : zS) : Nat × va_E := (G.1 i, match s with
  | .inl (0, n) => .inl (G.2.1, n, .inl (A i))
  | .inl (1, n) => .inl (G.2.2.1, n, .inr (.inl (L i)))
  | .inl (_, n) => .inl (G.2.2.2, n, .inl (A i))
  | .inr (c, fs) => .inr (c, zFs G (A i) (L i) 0 fs))
def zCs (G : zG) (A : zA) (L : zL) (i : Nat) (ss : List zS) : va_W := match ss with
  | [] => []
  | s :: r => zEn G A L i s :: zCs G A L (i + 1) r
theorem zCs_get (G : zG) (A : zA) (L : zL) : ∀ (ss : List zS) (i j : Nat), (zCs G A L i ss)[j]? = ss[j]?.map (zEn G A L (i + j))
  | [], i, j => by simp [zCs]
  | s :: r, i, 0 => by simp [zCs]
  | s :: r, i, j + 1 => by
    simp only [zCs, List.getElem?_cons_succ, zCs_get G A L r (i + 1) j]
    rw [show i + 1 + j = i + (j + 1) by omega]
def zCo (G : zG) (A : zA) (L : zL) : va_W := zCs G A L 0 zSH
theorem zCo_get (G : zG) (A : zA) (L : zL) (j : Nat) : (zCo G A L)[j]? = zSH[j]?.map (zEn G A L j) := by
  unfold zCo
  rw [zCs_get, Nat.zero_add]
theorem zCo_at {G : zG} {A : zA} {L : zL} {q : Nat} {s : zS} (h : zSH[q]? = some s) : (zCo G A L)[q]? = some (zEn G A L q s) := by
  rw [zCo_get, h]; rfl
theorem zEn_eq {G : zG} {A A' : zA} {L L' : zL} {i : Nat} (hA : A' i = A i) (hL : L' i = L i) (s : zS) : zEn G A' L' i s = zEn G A L i s := by
  rcases s with ⟨k, n⟩ | ⟨c, fs⟩
  · match k with
    | 0 => simp [zEn, hA]
    | 1 => simp [zEn, hL]
    | k + 2 => simp [zEn, hA]
  · simp [zEn, hA, hL]
theorem zCo_set {G : zG} {A A' : zA} {L L' : zL} {q : Nat} {s : zS} (h : zSH[q]? = some s) (hA : ∀ i, i ≠ q → A' i = A i) (hL : ∀ i, i ≠ q → L' i = L i) : zCo G A' L' = (zCo G A L).set q (zEn G A' L' q s) := by
  apply List.ext_getElem?
  intro j
  rw [List.getElem?_set]
  by_cases hj : q = j
  · subst hj
    have hl : q < (zCo G A L).length := (List.getElem?_eq_some_iff.mp (zCo_at (G := G) (A := A) (L := L) h)).1
    rw [if_pos rfl, if_pos hl]
    exact zCo_at h
  · rw [if_neg hj, zCo_get, zCo_get]
    cases zSH[j]? with
    | none => rfl
    | some t =>
      show some (zEn G A' L' j t) = some (zEn G A L j t)
      rw [zEn_eq (hA j (fun e => hj e.symm)) (hL j (fun e => hj e.symm))]
theorem zput_n {A : zA} {c k : Nat} {v : Int32} : ∀ i, i ≠ c → zput A c k v i = A i := fun i h => zset_n h
theorem zputL_n {L : zL} {c k : Nat} {v : Int64} : ∀ i, i ≠ c → zputL L c k v i = L i := fun i h => zsetL_n h
theorem zcpy_n {A : zA} {a c n : Nat} : ∀ i, i ≠ c → zcpy A a c n i = A i := fun i h => zset_n h
theorem zFs_putI (G : zG) (a : Nat → Int32) (l : Nat → Int64) (x : Int32) : ∀ (fs : List Value) (k b : Nat), (∃ v, fs[b]? = some v ∧ ((∃ m, v = .int m) ∨ ∃ m, v = .float m)) → zFs G (upd a (k + b) x) l k fs = (zFs G a l k fs).set b (.int x) := by
  intro fs k b ⟨v, hv, hm⟩
  apply List.ext_getElem?
  intro j
  rw [zFs_get, List.getElem?_set]
  by_cases hj : b = j
  · subst hj
    have hl : b < (zFs G a l k fs).length := by rw [zFs_len]; exact (List.getElem?_eq_some_iff.mp hv).1
    rw [if_pos rfl, if_pos hl, hv]
    rcases hm with ⟨m, rfl⟩ | ⟨m, rfl⟩ <;> simp [zFe, upd]
  · rw [if_neg hj, zFs_get]
    cases fs[j]? with
    | none => rfl
    | some w =>
      show some _ = some _
      congr 1
      cases w <;> simp [zFe, upd] <;> omega
theorem zFs_putL (G : zG) (a : Nat → Int32) (l : Nat → Int64) (x : Int64) : ∀ (fs : List Value) (k b : Nat), (∃ m, fs[b]? = some (.long m)) → zFs G a (vp_updL l (k + b) x) k fs = (zFs G a l k fs).set b (.long x) := by
  intro fs k b ⟨m, hv⟩
  apply List.ext_getElem?
  intro j
  rw [zFs_get, List.getElem?_set]
  by_cases hj : b = j
  · subst hj
    have hl : b < (zFs G a l k fs).length := by rw [zFs_len]; exact (List.getElem?_eq_some_iff.mp hv).1
    rw [if_pos rfl, if_pos hl, hv]
    simp [zFe, vp_updL]
  · rw [if_neg hj, zFs_get]
    cases fs[j]? with
    | none => rfl
    | some w =>
      show some _ = some _
      congr 1
      cases w <;> simp [zFe, vp_updL] <;> omega
theorem zCo_putI {G : zG} {A : zA} {L : zL} {q b ci : Nat} {fs : List Value} {v : Value} {x : Int32} (h : zSH[q]? = some (.inr (ci, fs))) (hv : fs[b]? = some v) (hm : (∃ m, v = .int m) ∨ ∃ m, v = .float m) :
    zCo G (zput A q b x) L = (zCo G A L).set q (G.1 q, .inr (ci, (zFs G (A q) (L q) 0 fs).set b (.int x))) := by
  rw [zCo_set (A := A) (L := L) h zput_n (fun _ _ => rfl)]
  congr 1
  have e := zFs_putI G (A q) (L q) x fs 0 b ⟨v, hv, hm⟩
  rw [Nat.zero_add] at e
  simp only [zEn, zput, zset_s, e]
theorem zCo_putL {G : zG} {A : zA} {L : zL} {q b ci : Nat} {fs : List Value} {m : Int64} {x : Int64} (h : zSH[q]? = some (.inr (ci, fs))) (hv : fs[b]? = some (.long m)) :
    zCo G A (zputL L q b x) = (zCo G A L).set q (G.1 q, .inr (ci, (zFs G (A q) (L q) 0 fs).set b (.long x))) := by
  rw [zCo_set (A := A) (L := L) h (fun _ _ => rfl) zputL_n]
  congr 1
  have e := zFs_putL G (A q) (L q) x fs 0 b ⟨m, hv⟩
  rw [Nat.zero_add] at e
  simp only [zEn, zputL, zsetL_s, e]
theorem zCo_arrI {G : zG} {A : zA} {L : zL} {q n : Nat} {f : Nat → Int32} (h : zSH[q]? = some (.inl (0, n))) : zCo G (zset A q f) L = (zCo G A L).set q (G.1 q, .inl (G.2.1, n, .inl f)) := by
  rw [zCo_set (A := A) (L := L) h (fun i hi => zset_n hi) (fun _ _ => rfl)]
  simp only [zEn, zset_s]
theorem zCo_arrZ {G : zG} {A : zA} {L : zL} {q n : Nat} {f : Nat → Int32} (h : zSH[q]? = some (.inl (2, n))) : zCo G (zset A q f) L = (zCo G A L).set q (G.1 q, .inl (G.2.2.2, n, .inl f)) := by
  rw [zCo_set (A := A) (L := L) h (fun i hi => zset_n hi) (fun _ _ => rfl)]
  simp only [zEn, zset_s]
theorem zCo_arrL {G : zG} {A : zA} {L : zL} {q n : Nat} {f : Nat → Int64} (h : zSH[q]? = some (.inl (1, n))) : zCo G A (zsetL L q f) = (zCo G A L).set q (G.1 q, .inl (G.2.2.1, n, .inr (.inl f))) := by
  rw [zCo_set (A := A) (L := L) h (fun _ _ => rfl) (fun i hi => zsetL_n hi)]
  simp only [zEn, zsetL_s]
/-- the cells' addresses, and that they are apart -/
def zZ (G : zG) : Nat → Prop := fun q => ∃ i, i < 93 ∧ q = G.1 i
def zInj (G : zG) : Prop := ∀ i j, i < 93 → j < 93 → G.1 i = G.1 j → i = j
theorem zSH_len : zSH.length = 93 := rfl
theorem zCo_key {G : zG} {A : zA} {L : zL} {i : Nat} {p : Nat × va_E} (h : (zCo G A L)[i]? = some p) : i < 93 ∧ p.1 = G.1 i := by
  rw [zCo_get] at h
  cases hs : zSH[i]? with
  | none => rw [hs] at h; cases h
  | some s =>
    rw [hs] at h
    have hi := (List.getElem?_eq_some_iff.mp hs).1
    rw [zSH_len] at hi
    cases h
    exact ⟨hi, rfl⟩
theorem zCo_D {G : zG} (hI : zInj G) (A : zA) (L : zL) : va_D (zZ G) (zCo G A L) :=
  ⟨fun i j p q hp hq h => by
    obtain ⟨h1, e1⟩ := zCo_key hp
    obtain ⟨h2, e2⟩ := zCo_key hq
    exact hI i j h1 h2 (by rw [← e1, ← e2, h]), fun k q hk => ⟨k, (zCo_key hk).1, (zCo_key hk).2⟩⟩
/-- what is told of the classes -/
def zdesc (v : Value) : String := match v with
  | .int _ => "I"
  | .float _ => "Z"
  | .long _ => "J"
  | _ => ""
def zshO (s : zS) : Bool := match s with
  | .inl _ => true
  | .inr (ci, fs) => match vwCl[ci]? with
    | some C => fs.length == C.2.2 && (List.range fs.length).all (fun b => match fs[b]? with
      | some (.ref _) => true
      | some v => (C.2.1 b).2.2.1 == zdesc v
      | none => false)
    | none => false
theorem zshO_all : zSH.all zshO = true := by decide +kernel
theorem zsh_len {q ci : Nat} {fs : List Value} {C : vw_C} (h : zSH[q]? = some (.inr (ci, fs))) (hc : vwCl[ci]? = some C) : fs.length = C.2.2 := by
  have h1 := List.all_eq_true.mp zshO_all _ (List.mem_of_getElem? h)
  simp only [zshO, hc, Bool.and_eq_true, beq_iff_eq] at h1
  exact h1.1
theorem zsh_desc {q ci b : Nat} {fs : List Value} {C : vw_C} {v : Value} (h : zSH[q]? = some (.inr (ci, fs))) (hc : vwCl[ci]? = some C) (hb : fs[b]? = some v) (hv : ∀ t, v ≠ .ref t) : (C.2.1 b).2.2.1 = zdesc v := by
  have h1 := List.all_eq_true.mp zshO_all _ (List.mem_of_getElem? h)
  simp only [zshO, hc, Bool.and_eq_true, beq_iff_eq] at h1
  have h2 := List.all_eq_true.mp h1.2 b (List.mem_range.mpr (List.getElem?_eq_some_iff.mp hb).1)
  rw [hb] at h2
  cases v <;> first | exact absurd rfl (hv _) | exact eq_of_beq h2
theorem zp_I : parseFieldDescriptor "I" = some .int := by decide +kernel
theorem zp_Z : parseFieldDescriptor "Z" = some .boolean := by decide +kernel
theorem zp_J : parseFieldDescriptor "J" = some .long := by decide +kernel
/-- the words that go from a method to its callees -/
def zTb : List Jvm.Cond := lw_tbl.filter goodWord
def zwd (p : Nat) (w : Jvm.Cond) : Bool := decide (lw_tbl[p]? = some w) && goodWord w
theorem zwd_in {p : Nat} {w : Jvm.Cond} (h : zwd p w = true) : w ∈ zTb := by
  simp only [zwd, Bool.and_eq_true, decide_eq_true_eq] at h
  exact List.mem_filter.mpr ⟨List.mem_of_getElem? h.1, h.2⟩
/-- the words of nest mates: they go with the world -/
def znest (w : Jvm.Cond) : Bool := match w with
  | .fieldLinkNest _ _ _ _ _ _ => true
  | .methodLinkNest _ _ _ _ => true
  | _ => false
def zNs : List Jvm.Cond := lw_tbl.filter znest
def zwn (p : Nat) (w : Jvm.Cond) : Bool := decide (lw_tbl[p]? = some w) && znest w
theorem zwn_in {p : Nat} {w : Jvm.Cond} (h : zwn p w = true) : w ∈ zNs := by
  simp only [zwn, Bool.and_eq_true, decide_eq_true_eq] at h
  exact List.mem_filter.mpr ⟨List.mem_of_getElem? h.1, h.2⟩
theorem zTb_good {w : Jvm.Cond} (h : w ∈ zTb) : (w.onTables && w.keeps) = true ∨ ∃ ty, w = .arrayClass ty := good_of_word (List.mem_filter.mp h).2
theorem zTb_tbl {w : Jvm.Cond} (h : w ∈ zTb) : w ∈ lw_tbl := (List.mem_filter.mp h).1
theorem zin_0 : ∀ w ∈ u_ws RX0 TX0 3, w ∈ zTb := by decide +kernel
theorem zin_1 : ∀ w ∈ u_ws RX1 TX1 8, w ∈ zTb := by decide +kernel
theorem zin_2 : ∀ w ∈ u_ws RX2 TX2 5, w ∈ zTb := by decide +kernel
theorem zin_3 : ∀ w ∈ u_ws RX3 TX3 5, w ∈ zTb := by decide +kernel
theorem zin_4 : ∀ w ∈ u_ws RX4 TX4 8, w ∈ zTb := by decide +kernel
theorem zin_5 : ∀ w ∈ u_ws RX5 TX5 4, w ∈ zTb := by decide +kernel
theorem zin_6 : ∀ w ∈ u_ws RX6 TX6 4, w ∈ zTb := by decide +kernel
theorem zin_7 : ∀ w ∈ u_ws RX7 TX7 4, w ∈ zTb := by decide +kernel
theorem zin_8 : ∀ w ∈ u_ws RX8 TX8 5, w ∈ zTb := by decide +kernel
theorem zin_9 : ∀ w ∈ u_ws RX9 TX9 11, w ∈ zTb := by decide +kernel
theorem zin_10 : ∀ w ∈ u_ws RX10 TX10 47, w ∈ zTb := by decide +kernel
/-- of each class: its fields' types, names, words -/
theorem zcls : ∀ (ci : Nat) (q : vw_C), vwCl[ci]? = some q → (∃ ty : Nat → FieldType, ∀ k, k < q.2.2 → parseFieldDescriptor (q.2.1 k).2.2.1 = some (ty k)) ∧ (∀ a, a < q.2.2 → ∀ b, b < q.2.2 → a ≠ b → (q.2.1 a).2.1 ≠ (q.2.1 b).2.1) ∧ ∀ w ∈ u_ws q.1 q.2.1 q.2.2, w ∈ zTb
  | 0, q, h => by cases h; exact ⟨⟨tyX0, tyX0_ok⟩, nmX0, zin_0⟩
  | 1, q, h => by cases h; exact ⟨⟨tyX1, tyX1_ok⟩, nmX1, zin_1⟩
  | 2, q, h => by cases h; exact ⟨⟨tyX2, tyX2_ok⟩, nmX2, zin_2⟩
  | 3, q, h => by cases h; exact ⟨⟨tyX3, tyX3_ok⟩, nmX3, zin_3⟩
  | 4, q, h => by cases h; exact ⟨⟨tyX4, tyX4_ok⟩, nmX4, zin_4⟩
  | 5, q, h => by cases h; exact ⟨⟨tyX5, tyX5_ok⟩, nmX5, zin_5⟩
  | 6, q, h => by cases h; exact ⟨⟨tyX6, tyX6_ok⟩, nmX6, zin_6⟩
  | 7, q, h => by cases h; exact ⟨⟨tyX7, tyX7_ok⟩, nmX7, zin_7⟩
  | 8, q, h => by cases h; exact ⟨⟨tyX8, tyX8_ok⟩, nmX8, zin_8⟩
  | 9, q, h => by cases h; exact ⟨⟨tyX9, tyX9_ok⟩, nmX9, zin_9⟩
  | 10, q, h => by cases h; exact ⟨⟨tyX10, tyX10_ok⟩, nmX10, zin_10⟩
  | ci + 11, q, h => by simp [vwCl] at h
