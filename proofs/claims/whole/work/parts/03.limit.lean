/-! ===== the machine's limit: 'zrun' is what 'zex' comes to, and it goes by blocks ===== -/
/-- F goes on answering what it answers, and f answers just what F answers from some place on -/
def zLm (F : Nat → Option zR) (f : Option zR) : Prop := (∀ n r, F n = some r → F (n + 1) = some r) ∧ ∀ r, f = some r ↔ ∃ N, F N = some r
theorem zLm.up {F : Nat → Option zR} {f : Option zR} (h : zLm F f) {n m : Nat} {r : zR} (hr : F n = some r) (hm : n ≤ m) : F m = some r := by
  induction hm with
  | refl => exact hr
  | step _ ih => exact h.1 _ _ ih
theorem zLm_c (x : Option zR) : zLm (fun _ => x) x := ⟨fun _ _ h => h, fun r => ⟨fun h => ⟨0, h⟩, fun ⟨_, h⟩ => h⟩⟩
theorem zLm_if {c : Prop} [Decidable c] {F G : Nat → Option zR} {f g : Option zR} (h1 : zLm F f) (h2 : zLm G g) : zLm (fun n => if c then F n else G n) (if c then f else g) := by
  by_cases h : c
  · simp only [h, if_true]; exact h1
  · simp only [h, if_false]; exact h2
theorem zLm_b {c : Bool} {F G : Nat → Option zR} {f g : Option zR} (h1 : zLm F f) (h2 : zLm G g) : zLm (fun n => bif c then F n else G n) (bif c then f else g) := by
  cases c
  · exact h2
  · exact h1
theorem zLm_ck {i : Int32} {m : Nat} {F : Nat → Option zR} {f : Option zR} (h1 : zLm F f) : zLm (fun n => zck i m (F n)) (zck i m f) := zLm_if (zLm_c _) h1
theorem zLm_cb {x : Int32} {F : Nat → Option zR} {f : Option zR} (h1 : zLm F f) : zLm (fun n => zcb x (F n)) (zcb x f) := zLm_if h1 (zLm_c _)
theorem zLm_cd {x : Int32} {F : Nat → Option zR} {f : Option zR} (h1 : zLm F f) : zLm (fun n => zcd x (F n)) (zcd x f) := zLm_if (zLm_c _) h1
theorem zLm_cc {sp dp m : Int32} {n0 n1 : Nat} {F : Nat → Option zR} {f : Option zR} (h1 : zLm F f) : zLm (fun n => zcc sp dp m n0 n1 (F n)) (zcc sp dp m n0 n1 f) := zLm_if h1 (zLm_c _)
/-- what is bound to an answer: 'p' takes an answer apart -/
theorem zLm_bind {α : Type} {C : Nat → Option zR} {c : Option zR} (p : zR → Option α) {K : Nat → α → Option zR} {k : α → Option zR} (B : Option zR → (α → Option zR) → Option zR)
    (hB : ∀ (x : Option zR) (g : α → Option zR) (r : zR), B x g = some r ↔ ∃ y a, x = some y ∧ p y = some a ∧ g a = some r) (hC : zLm C c) (hK : ∀ a, zLm (fun n => K n a) (k a)) : zLm (fun n => B (C n) (K n)) (B c k) := by
  constructor
  · intro n r h
    obtain ⟨y, a, h1, h2, h3⟩ := (hB _ _ _).mp h
    exact (hB _ _ _).mpr ⟨y, a, hC.1 n y h1, h2, (hK a).1 n r h3⟩
  · intro r
    constructor
    · intro h
      obtain ⟨y, a, h1, h2, h3⟩ := (hB _ _ _).mp h
      obtain ⟨N1, g1⟩ := (hC.2 y).mp h1
      obtain ⟨N2, g2⟩ := ((hK a).2 r).mp h3
      exact ⟨max N1 N2, (hB _ _ _).mpr ⟨y, a, hC.up g1 (Nat.le_max_left _ _), h2, (hK a).up g2 (Nat.le_max_right _ _)⟩⟩
    · intro ⟨N, h⟩
      obtain ⟨y, a, h1, h2, h3⟩ := (hB _ _ _).mp h
      exact (hB _ _ _).mpr ⟨y, a, (hC.2 y).mpr ⟨N, h1⟩, h2, ((hK a).2 r).mpr ⟨N, h3⟩⟩
theorem zLm_bv {C : Nat → Option zR} {c : Option zR} {K : Nat → zA → zL → Option zR} {k : zA → zL → Option zR} (hC : zLm C c) (hK : ∀ A L, zLm (fun n => K n A L) (k A L)) : zLm (fun n => zbv (C n) (K n)) (zbv c k) := by
  have h := zLm_bind (α := zA × zL) (fun y => match y with | (none, A, L) => some (A, L) | _ => none) (K := fun n a => K n a.1 a.2) (k := fun a => k a.1 a.2) (fun x g => zbv x (fun A L => g (A, L))) (fun x g r => by
    rcases x with _ | ⟨_ | v, A, L⟩ <;> simp [zbv]) hC (fun a => hK a.1 a.2)
  exact h
theorem zLm_bi {C : Nat → Option zR} {c : Option zR} {K : Nat → Int32 → zA → zL → Option zR} {k : Int32 → zA → zL → Option zR} (hC : zLm C c) (hK : ∀ v A L, zLm (fun n => K n v A L) (k v A L)) : zLm (fun n => zbi (C n) (K n)) (zbi c k) := by
  have h := zLm_bind (α := Int32 × zA × zL) (fun y => match y with | (some (.int v), A, L) => some (v, A, L) | _ => none) (K := fun n a => K n a.1 a.2.1 a.2.2) (k := fun a => k a.1 a.2.1 a.2.2) (fun x g => zbi x (fun v A L => g (v, A, L))) (fun x g r => by
    rcases x with _ | ⟨_ | v, A, L⟩ <;> first | (simp [zbi]; done) | (cases v <;> simp [zbi])) hC (fun a => hK a.1 a.2.1 a.2.2)
  exact h
theorem zLm_bl {C : Nat → Option zR} {c : Option zR} {K : Nat → Int64 → zA → zL → Option zR} {k : Int64 → zA → zL → Option zR} (hC : zLm C c) (hK : ∀ v A L, zLm (fun n => K n v A L) (k v A L)) : zLm (fun n => zbl (C n) (K n)) (zbl c k) := by
  have h := zLm_bind (α := Int64 × zA × zL) (fun y => match y with | (some (.long v), A, L) => some (v, A, L) | _ => none) (K := fun n a => K n a.1 a.2.1 a.2.2) (k := fun a => k a.1 a.2.1 a.2.2) (fun x g => zbl x (fun v A L => g (v, A, L))) (fun x g r => by
    rcases x with _ | ⟨_ | v, A, L⟩ <;> first | (simp [zbl]; done) | (cases v <;> simp [zbl])) hC (fun a => hK a.1 a.2.1 a.2.2)
  exact h
theorem zLm_sw {x : Int32} {F : Nat → Nat → Option zR} {f : Nat → Option zR} {G : Nat → Option zR} {g : Option zR} (hF : ∀ b, zLm (fun n => F n b) (f b)) (hG : zLm G g) : ∀ ps : List (Int32 × Nat), zLm (fun n => zsw x ps (F n) (G n)) (zsw x ps f g)
  | [] => hG
  | q :: r => zLm_if (hF q.2) (zLm_sw hF hG r)
abbrev zK : Type := zLv → List Value → zA → zL → Option zR
theorem zLm_cl {C : Nat → Nat → List Value → zA → zL → Option zR} {c : Nat → List Value → zA → zL → Option zR} {K : Nat → List Value → zA → zL → Option zR} {k : List Value → zA → zL → Option zR} (hC : ∀ a as A L, zLm (fun n => C n a as A L) (c a as A L)) (hK : ∀ st A L, zLm (fun n => K n st A L) (k st A L)) (a b r : Nat) (st : List Value) (A : zA) (L : zL) :
    zLm (fun n => zcl (C n) (K n) a b r st A L) (zcl c k a b r st A L) := by
  unfold zcl
  refine zLm_b ?_ (zLm_c _)
  match r with
  | 0 => exact zLm_bv (hC _ _ _ _) (fun A L => hK _ A L)
  | 1 => exact zLm_bi (hC _ _ _ _) (fun v A L => hK _ A L)
  | r + 2 => exact zLm_bl (hC _ _ _ _) (fun v A L => hK _ A L)
theorem zLm_op (sc : Option (Nat × (Nat → Int32))) (o : zO) (lv : zLv) (st : List Value) (A : zA) (L : zL) {K : Nat → zK} {k : zK} {J : Nat → Nat → zK} {j : Nat → zK} {C : Nat → Nat → List Value → zA → zL → Option zR} {c : Nat → List Value → zA → zL → Option zR}
    (hk : ∀ lv st A L, zLm (fun n => K n lv st A L) (k lv st A L)) (hj : ∀ b lv st A L, zLm (fun n => J n b lv st A L) (j b lv st A L)) (hC : ∀ a as A L, zLm (fun n => C n a as A L) (c a as A L)) :
    zLm (fun n => zop sc o lv st A L (K n) (J n) (C n)) (zop sc o lv st A L k j c) := by
  obtain ⟨i, len, a, b, ns, ps, ci, cl⟩ := o
  have hz : ∀ i' : Instr, zLm (fun n => match zpure i' ci cl st with | some st => K n lv st A L | none => none) (match zpure i' ci cl st with | some st => k lv st A L | none => none) := by
    intro i'
    cases zpure i' ci cl st with
    | none => exact zLm_c _
    | some st => exact hk _ _ _ _
  cases i
  case iload =>
    cases h : zget lv a with
    | none => simp only [zop, h]; exact zLm_c _
    | some v => cases v <;> simp only [zop, h] <;> first | exact hk _ _ _ _ | exact zLm_c _
  case iload_n =>
    cases h : zget lv a with
    | none => simp only [zop, h]; exact zLm_c _
    | some v => cases v <;> simp only [zop, h] <;> first | exact hk _ _ _ _ | exact zLm_c _
  case lload =>
    cases h : zget lv a with
    | none => simp only [zop, h]; exact zLm_c _
    | some v => cases v <;> simp only [zop, h] <;> first | exact hk _ _ _ _ | exact zLm_c _
  case lload_n =>
    cases h : zget lv a with
    | none => simp only [zop, h]; exact zLm_c _
    | some v => cases v <;> simp only [zop, h] <;> first | exact hk _ _ _ _ | exact zLm_c _
  case aload =>
    cases h : zget lv a with
    | none => simp only [zop, h]; exact zLm_c _
    | some v => cases v <;> simp only [zop, h] <;> first | exact hk _ _ _ _ | exact zLm_c _
  case aload_n =>
    cases h : zget lv a with
    | none => simp only [zop, h]; exact zLm_c _
    | some v => cases v <;> simp only [zop, h] <;> first | exact hk _ _ _ _ | exact zLm_c _
  case iinc =>
    cases h : zget lv a with
    | none => simp only [zop, h]; exact zLm_c _
    | some v => cases v <;> simp only [zop, h] <;> first | exact hk _ _ _ _ | exact zLm_c _
  case istore =>
    rcases st with _ | ⟨v, st⟩
    · exact zLm_c _
    · cases v <;> first | exact hk _ _ _ _ | exact zLm_c _
  case istore_n =>
    rcases st with _ | ⟨v, st⟩
    · exact zLm_c _
    · cases v <;> first | exact hk _ _ _ _ | exact zLm_c _
  case astore =>
    rcases st with _ | ⟨v, st⟩
    · exact zLm_c _
    · cases v <;> first | exact hk _ _ _ _ | exact zLm_c _
  case astore_n =>
    rcases st with _ | ⟨v, st⟩
    · exact zLm_c _
    · cases v <;> first | exact hk _ _ _ _ | exact zLm_c _
  case lstore =>
    rcases st with _ | ⟨v, st⟩
    · exact zLm_c _
    · cases v <;> first | exact hk _ _ _ _ | exact zLm_c _
  case lstore_n =>
    rcases st with _ | ⟨v, st⟩
    · exact zLm_c _
    · cases v <;> first | exact hk _ _ _ _ | exact zLm_c _
  case idiv =>
    rcases st with _ | ⟨v, _ | ⟨w, st⟩⟩
    · exact zLm_c _
    · cases v <;> exact zLm_c _
    · cases v <;> cases w <;> first | exact zLm_cd (hk _ _ _ _) | exact zLm_c _
  case irem =>
    rcases st with _ | ⟨v, _ | ⟨w, st⟩⟩
    · exact zLm_c _
    · cases v <;> exact zLm_c _
    · cases v <;> cases w <;> first | exact zLm_cd (hk _ _ _ _) | exact zLm_c _
  case getfield =>
    rcases st with _ | ⟨v, st⟩
    · exact zLm_c _
    · cases v <;> try exact zLm_c _
      rename_i q
      cases h : zSH[q]? with
      | none => simp only [zop, h]; exact zLm_c _
      | some s => 
        rcases s with s | ⟨c', fs⟩
        · simp only [zop, h]; exact zLm_c _
        · simp only [zop, h]
          refine zLm_b ?_ (zLm_c _)
          cases h2 : fs[b]? with
          | none => exact zLm_c _
          | some v => cases v <;> first | exact hk _ _ _ _ | exact zLm_c _
  case putfield =>
    rcases st with _ | ⟨v, _ | ⟨w, st⟩⟩
    · exact zLm_c _
    · cases v <;> exact zLm_c _
    · cases w <;> (try (cases v <;> exact zLm_c _))
      rename_i q
      cases v <;> try exact zLm_c _
      · cases h : zSH[q]? with
        | none => simp only [zop, h]; exact zLm_c _
        | some s => 
          rcases s with s | ⟨c', fs⟩
          · simp only [zop, h]; exact zLm_c _
          · simp only [zop, h]
            refine zLm_b ?_ (zLm_c _)
            cases h2 : fs[b]? with
            | none => exact zLm_c _
            | some v => cases v <;> first | exact hk _ _ _ _ | exact zLm_cb (hk _ _ _ _) | exact zLm_c _
      · cases h : zSH[q]? with
        | none => simp only [zop, h]; exact zLm_c _
        | some s => 
          rcases s with s | ⟨c', fs⟩
          · simp only [zop, h]; exact zLm_c _
          · simp only [zop, h]
            refine zLm_b ?_ (zLm_c _)
            cases h2 : fs[b]? with
            | none => exact zLm_c _
            | some v => cases v <;> first | exact hk _ _ _ _ | exact zLm_c _
  case getstatic =>
    exact hk _ _ _ _
  case iaload =>
    rcases st with _ | ⟨v, _ | ⟨w, st⟩⟩
    · exact zLm_c _
    · cases v <;> exact zLm_c _
    · cases v <;> (try (cases w <;> exact zLm_c _))
      cases w <;> try exact zLm_c _
      rename_i q
      refine zLm_b (by first | exact zLm_ck (hk _ _ _ _) | (cases sc with | none => exact zLm_c _ | some s => exact zLm_ck (hk _ _ _ _))) ?_
      cases h : zSH[q]? with
      | none => exact zLm_c _
      | some s =>
        rcases s with ⟨kd, n⟩ | s
        · match kd with
          | 0 => first | exact zLm_ck (hk _ _ _ _) | exact zLm_c _
          | 1 => first | exact zLm_ck (hk _ _ _ _) | exact zLm_c _
          | 2 => first | exact zLm_ck (hk _ _ _ _) | exact zLm_c _
          | kd + 3 => exact zLm_c _
        · exact zLm_c _
  case laload =>
    rcases st with _ | ⟨v, _ | ⟨w, st⟩⟩
    · exact zLm_c _
    · cases v <;> exact zLm_c _
    · cases v <;> (try (cases w <;> exact zLm_c _))
      cases w <;> try exact zLm_c _
      rename_i q
      refine zLm_b (by first | exact zLm_ck (hk _ _ _ _) | (cases sc with | none => exact zLm_c _ | some s => exact zLm_ck (hk _ _ _ _))) ?_
      cases h : zSH[q]? with
      | none => exact zLm_c _
      | some s =>
        rcases s with ⟨kd, n⟩ | s
        · match kd with
          | 0 => first | exact zLm_ck (hk _ _ _ _) | exact zLm_c _
          | 1 => first | exact zLm_ck (hk _ _ _ _) | exact zLm_c _
          | 2 => first | exact zLm_ck (hk _ _ _ _) | exact zLm_c _
          | kd + 3 => exact zLm_c _
        · exact zLm_c _
  case baload =>
    rcases st with _ | ⟨v, _ | ⟨w, st⟩⟩
    · exact zLm_c _
    · cases v <;> exact zLm_c _
    · cases v <;> (try (cases w <;> exact zLm_c _))
      cases w <;> try exact zLm_c _
      rename_i q
      cases h : zSH[q]? with
      | none => simp only [zop, h]; exact zLm_c _
      | some s =>
        rcases s with ⟨kd, n⟩ | s
        · simp only [zop, h]; match kd with
          | 0 => first | exact zLm_ck (hk _ _ _ _) | exact zLm_c _
          | 1 => first | exact zLm_ck (hk _ _ _ _) | exact zLm_c _
          | 2 => first | exact zLm_ck (hk _ _ _ _) | exact zLm_c _
          | kd + 3 => exact zLm_c _
        · simp only [zop, h]; exact zLm_c _
  case iastore =>
    rcases st with _ | ⟨v, _ | ⟨w, _ | ⟨u, st⟩⟩⟩
    · exact zLm_c _
    · cases v <;> exact zLm_c _
    · cases v <;> first | exact zLm_c _ | (cases w <;> exact zLm_c _)
    · cases v <;> (try exact zLm_c _)
      cases w <;> (try exact zLm_c _)
      cases u <;> (try exact zLm_c _)
      rename_i q
      cases h : zSH[q]? with
      | none => simp only [zop, h]; exact zLm_c _
      | some s =>
        rcases s with ⟨kd, n⟩ | s
        · simp only [zop, h]; match kd with
          | 0 => first | exact zLm_ck (hk _ _ _ _) | exact zLm_c _
          | 1 => first | exact zLm_ck (hk _ _ _ _) | exact zLm_c _
          | 2 => first | exact zLm_ck (zLm_cb (hk _ _ _ _)) | exact zLm_c _
          | kd + 3 => exact zLm_c _
        · simp only [zop, h]; exact zLm_c _
  case bastore =>
    rcases st with _ | ⟨v, _ | ⟨w, _ | ⟨u, st⟩⟩⟩
    · exact zLm_c _
    · cases v <;> exact zLm_c _
    · cases v <;> first | exact zLm_c _ | (cases w <;> exact zLm_c _)
    · cases v <;> (try exact zLm_c _)
      cases w <;> (try exact zLm_c _)
      cases u <;> (try exact zLm_c _)
      rename_i q
      cases h : zSH[q]? with
      | none => simp only [zop, h]; exact zLm_c _
      | some s =>
        rcases s with ⟨kd, n⟩ | s
        · simp only [zop, h]; match kd with
          | 0 => first | exact zLm_ck (hk _ _ _ _) | exact zLm_c _
          | 1 => first | exact zLm_ck (hk _ _ _ _) | exact zLm_c _
          | 2 => first | exact zLm_ck (zLm_cb (hk _ _ _ _)) | exact zLm_c _
          | kd + 3 => exact zLm_c _
        · simp only [zop, h]; exact zLm_c _
  case lastore =>
    rcases st with _ | ⟨v, _ | ⟨w, _ | ⟨u, st⟩⟩⟩
    · exact zLm_c _
    · cases v <;> exact zLm_c _
    · cases v <;> first | exact zLm_c _ | (cases w <;> exact zLm_c _)
    · cases v <;> (try exact zLm_c _)
      cases w <;> (try exact zLm_c _)
      cases u <;> (try exact zLm_c _)
      rename_i q
      cases h : zSH[q]? with
      | none => simp only [zop, h]; exact zLm_c _
      | some s =>
        rcases s with ⟨kd, n⟩ | s
        · simp only [zop, h]; match kd with
          | 0 => first | exact zLm_ck (hk _ _ _ _) | exact zLm_c _
          | 1 => first | exact zLm_ck (hk _ _ _ _) | exact zLm_c _
          | 2 => first | exact zLm_ck (zLm_cb (hk _ _ _ _)) | exact zLm_c _
          | kd + 3 => exact zLm_c _
        · simp only [zop, h]; exact zLm_c _
  case arraylength =>
    rcases st with _ | ⟨v, st⟩
    · exact zLm_c _
    · cases v <;> try exact zLm_c _
      rename_i q
      refine zLm_b (by cases sc with | none => exact zLm_c _ | some s => exact hk _ _ _ _) ?_
      cases h : zSH[q]? with
      | none => exact zLm_c _
      | some s =>
        rcases s with ⟨kd, n⟩ | s
        · exact hk _ _ _ _
        · exact zLm_c _
  case ifCond =>
    rename_i cc off
    rcases st with _ | ⟨v, st⟩
    · exact zLm_c _
    · cases v <;> try exact zLm_c _
      cases cc <;> first | exact zLm_if (hj _ _ _ _ _) (hk _ _ _ _) | exact zLm_if (hk _ _ _ _) (hj _ _ _ _ _)
  case if_icmp =>
    rename_i cc off
    rcases st with _ | ⟨v, _ | ⟨w, st⟩⟩
    · exact zLm_c _
    · cases v <;> exact zLm_c _
    · cases v <;> cases w <;> try exact zLm_c _
      cases cc <;> first | exact zLm_if (hj _ _ _ _ _) (hk _ _ _ _) | exact zLm_if (hk _ _ _ _) (hj _ _ _ _ _)
  case goto =>
    exact hj _ _ _ _ _
  case tableswitch =>
    rcases st with _ | ⟨v, st⟩
    · exact zLm_c _
    · cases v <;> first | exact zLm_sw (fun b => hj _ _ _ _ _) (hj _ _ _ _ _) ps | exact zLm_c _
  case lookupswitch =>
    rcases st with _ | ⟨v, st⟩
    · exact zLm_c _
    · cases v <;> first | exact zLm_sw (fun b => hj _ _ _ _ _) (hj _ _ _ _ _) ps | exact zLm_c _
  case ireturn =>
    exact zLm_c _
  case lreturn =>
    exact zLm_c _
  case return_ =>
    exact zLm_c _
  case invokevirtual =>
    refine zLm_b ?_ (zLm_c _)
    exact zLm_cl (K := fun n st A L => K n lv st A L) (k := fun st A L => k lv st A L) hC (fun st A L => hk lv st A L) a b (ns.headD 0) st A L
  case invokestatic =>
    by_cases h9 : ns.headD 0 = 9
    · rcases st with _ | ⟨v1, _ | ⟨v2, _ | ⟨v3, _ | ⟨v4, _ | ⟨v5, st⟩⟩⟩⟩⟩
      · simp only [zop, h9]; exact zLm_c _
      · simp only [zop, h9]; exact zLm_c _
      · simp only [zop, h9]; exact zLm_c _
      · simp only [zop, h9]; exact zLm_c _
      · simp only [zop, h9]; exact zLm_c _
      · cases v1 <;> (try (simp only [zop, h9]; exact zLm_c _))
        cases v2 <;> (try (simp only [zop, h9]; exact zLm_c _))
        cases v3 <;> (try (simp only [zop, h9]; exact zLm_c _))
        cases v4 <;> (try (simp only [zop, h9]; exact zLm_c _))
        cases v5 <;> (try (simp only [zop, h9]; exact zLm_c _))
        rename_i q1 _ q0
        cases h0 : zSH[q0]? with
        | none => simp only [zop, h9, h0]; exact zLm_c _
        | some s0 =>
          cases h1 : zSH[q1]? with
          | none => simp only [zop, h9, h0, h1]; rcases s0 with ⟨kd0, n0⟩ | s0 <;> first | exact zLm_c _ | (match kd0 with | 0 => exact zLm_c _ | kd + 1 => exact zLm_c _)
          | some s1 =>
            simp only [zop, h9, h0, h1]
            rcases s0 with ⟨kd0, n0⟩ | s0
            · rcases s1 with ⟨kd1, n1⟩ | s1
              · match kd0, kd1 with
                | 0, 0 => exact zLm_b (zLm_cc (hk _ _ _ _)) (zLm_c _)
                | 0, k1 + 1 => exact zLm_c _
                | k0 + 1, _ => exact zLm_c _
              · match kd0 with
                | 0 => exact zLm_c _
                | k0 + 1 => exact zLm_c _
            · exact zLm_c _
    · have e : ∀ (k : zK) (j : Nat → zK) (c : Nat → List Value → zA → zL → Option zR) x, zop sc (Instr.invokestatic x, len, a, b, ns, ps, ci, cl) lv st A L k j c = zcl c (fun st A L => k lv st A L) a b (ns.headD 0) st A L := by
        intro k j c x
        first
          | (simp only [zop]; done)
          | (simp only [zop]; split
             · rename_i e; exact absurd e h9
             · rfl)
      simp only [e]
      exact zLm_cl (K := fun n st A L => K n lv st A L) (k := fun st A L => k lv st A L) hC (fun st A L => hk lv st A L) a b (ns.headD 0) st A L
  case aaload => exact hz (Instr.aaload )
  case aastore => exact hz (Instr.aastore )
  case aconst_null => exact hz (Instr.aconst_null )
  case anewarray x0 => exact hz (Instr.anewarray x0)
  case areturn => exact hz (Instr.areturn )
  case athrow => exact hz (Instr.athrow )
  case bipush x0 => exact hz (Instr.bipush x0)
  case caload => exact hz (Instr.caload )
  case castore => exact hz (Instr.castore )
  case checkcast x0 => exact hz (Instr.checkcast x0)
  case d2f => exact hz (Instr.d2f )
  case d2i => exact hz (Instr.d2i )
  case d2l => exact hz (Instr.d2l )
  case dadd => exact hz (Instr.dadd )
  case daload => exact hz (Instr.daload )
  case dastore => exact hz (Instr.dastore )
  case dcmp x0 => exact hz (Instr.dcmp x0)
  case dconst x0 => exact hz (Instr.dconst x0)
  case ddiv => exact hz (Instr.ddiv )
  case dload x0 => exact hz (Instr.dload x0)
  case dload_n x0 => exact hz (Instr.dload_n x0)
  case dmul => exact hz (Instr.dmul )
  case dneg => exact hz (Instr.dneg )
  case drem => exact hz (Instr.drem )
  case dreturn => exact hz (Instr.dreturn )
  case dstore x0 => exact hz (Instr.dstore x0)
  case dstore_n x0 => exact hz (Instr.dstore_n x0)
  case dsub => exact hz (Instr.dsub )
  case dup => exact hz (Instr.dup )
  case dup_x1 => exact hz (Instr.dup_x1 )
  case dup_x2 => exact hz (Instr.dup_x2 )
  case dup2 => exact hz (Instr.dup2 )
  case dup2_x1 => exact hz (Instr.dup2_x1 )
  case dup2_x2 => exact hz (Instr.dup2_x2 )
  case f2d => exact hz (Instr.f2d )
  case f2i => exact hz (Instr.f2i )
  case f2l => exact hz (Instr.f2l )
  case fadd => exact hz (Instr.fadd )
  case faload => exact hz (Instr.faload )
  case fastore => exact hz (Instr.fastore )
  case fcmp x0 => exact hz (Instr.fcmp x0)
  case fconst x0 => exact hz (Instr.fconst x0)
  case fdiv => exact hz (Instr.fdiv )
  case fload x0 => exact hz (Instr.fload x0)
  case fload_n x0 => exact hz (Instr.fload_n x0)
  case fmul => exact hz (Instr.fmul )
  case fneg => exact hz (Instr.fneg )
  case frem => exact hz (Instr.frem )
  case freturn => exact hz (Instr.freturn )
  case fstore x0 => exact hz (Instr.fstore x0)
  case fstore_n x0 => exact hz (Instr.fstore_n x0)
  case fsub => exact hz (Instr.fsub )
  case goto_w x0 => exact hz (Instr.goto_w x0)
  case i2b => exact hz (Instr.i2b )
  case i2c => exact hz (Instr.i2c )
  case i2d => exact hz (Instr.i2d )
  case i2f => exact hz (Instr.i2f )
  case i2l => exact hz (Instr.i2l )
  case i2s => exact hz (Instr.i2s )
  case iadd => exact hz (Instr.iadd )
  case iand => exact hz (Instr.iand )
  case iconst x0 => exact hz (Instr.iconst x0)
  case if_acmp x0 x1 => exact hz (Instr.if_acmp x0 x1)
  case ifnonnull x0 => exact hz (Instr.ifnonnull x0)
  case ifnull x0 => exact hz (Instr.ifnull x0)
  case imul => exact hz (Instr.imul )
  case ineg => exact hz (Instr.ineg )
  case instanceof x0 => exact hz (Instr.instanceof x0)
  case invokedynamic x0 => exact hz (Instr.invokedynamic x0)
  case invokeinterface x0 x1 => exact hz (Instr.invokeinterface x0 x1)
  case invokespecial x0 => exact hz (Instr.invokespecial x0)
  case ior => exact hz (Instr.ior )
  case ishl => exact hz (Instr.ishl )
  case ishr => exact hz (Instr.ishr )
  case isub => exact hz (Instr.isub )
  case iushr => exact hz (Instr.iushr )
  case ixor => exact hz (Instr.ixor )
  case jsr x0 => exact hz (Instr.jsr x0)
  case jsr_w x0 => exact hz (Instr.jsr_w x0)
  case l2d => exact hz (Instr.l2d )
  case l2f => exact hz (Instr.l2f )
  case l2i => exact hz (Instr.l2i )
  case ladd => exact hz (Instr.ladd )
  case land => exact hz (Instr.land )
  case lcmp => exact hz (Instr.lcmp )
  case lconst x0 => exact hz (Instr.lconst x0)
  case ldc x0 => exact hz (Instr.ldc x0)
  case ldc_w x0 => exact hz (Instr.ldc_w x0)
  case ldc2_w x0 => exact hz (Instr.ldc2_w x0)
  case ldiv => exact hz (Instr.ldiv )
  case lmul => exact hz (Instr.lmul )
  case lneg => exact hz (Instr.lneg )
  case lor => exact hz (Instr.lor )
  case lrem => exact hz (Instr.lrem )
  case lshl => exact hz (Instr.lshl )
  case lshr => exact hz (Instr.lshr )
  case lsub => exact hz (Instr.lsub )
  case lushr => exact hz (Instr.lushr )
  case lxor => exact hz (Instr.lxor )
  case monitorenter => exact hz (Instr.monitorenter )
  case monitorexit => exact hz (Instr.monitorexit )
  case multianewarray x0 x1 => exact hz (Instr.multianewarray x0 x1)
  case new x0 => exact hz (Instr.new x0)
  case newarray x0 => exact hz (Instr.newarray x0)
  case nop => exact hz (Instr.nop )
  case pop => exact hz (Instr.pop )
  case pop2 => exact hz (Instr.pop2 )
  case putstatic x0 => exact hz (Instr.putstatic x0)
  case ret x0 => exact hz (Instr.ret x0)
  case saload => exact hz (Instr.saload )
  case sastore => exact hz (Instr.sastore )
  case sipush x0 => exact hz (Instr.sipush x0)
  case swap => exact hz (Instr.swap )
theorem zLm_jmp {J : Nat → Nat → zK} {j : Nat → zK} (hj : ∀ b lv st A L, zLm (fun n => J n b lv st A L) (j b lv st A L)) (bs : List zBk) (b : Nat) (lv : zLv) (st : List Value) (A : zA) (L : zL) : zLm (fun n => zjmp (J n) bs b lv st A L) (zjmp j bs b lv st A L) := by
  unfold zjmp
  cases bs[b]? with
  | none => exact zLm_c _
  | some bk =>
    cases h : zpick lv bk.2.1 with
    | none => simp only [h]; exact zLm_c _
    | some lv => simp only [h]; exact hj _ _ _ _ _
theorem zLm_go (sc : Option (Nat × (Nat → Int32))) {J : Nat → Nat → zK} {j : Nat → zK} {C : Nat → Nat → List Value → zA → zL → Option zR} {c : Nat → List Value → zA → zL → Option zR}
    (hj : ∀ b lv st A L, zLm (fun n => J n b lv st A L) (j b lv st A L)) (hC : ∀ a as A L, zLm (fun n => C n a as A L) (c a as A L)) (bs : List zBk) (nx : Nat) :
    ∀ (os : List zO) (lv : zLv) (st : List Value) (A : zA) (L : zL), zLm (fun n => zgo sc (J n) (C n) bs nx os lv st A L) (zgo sc j c bs nx os lv st A L)
  | [], lv, st, A, L => zLm_jmp hj bs nx lv st A L
  | o :: r, lv, st, A, L => zLm_op sc o lv st A L (fun lv st A L => zLm_go sc hj hC bs nx r lv st A L) (fun b lv st A L => zLm_jmp hj bs b lv st A L) hC
/-- the callees of a depth -/
def zcx (T : List zM) (n d k : Nat) (as : List Value) (A : zA) (L : zL) : Option zR := match d with
  | 0 => none
  | d + 1 => bif zfit T k as then zex T n d k 0 (lv_args 0 as) [] A L else none
theorem zex_s (T : List zM) (n d m b : Nat) (lv : zLv) (st : List Value) (A : zA) (L : zL) : zex T (n + 1) d m b lv st A L = match T[m]? with
    | some M => match M.2.2.2.2[b]? with
      | some bk => zgo zno (zex T n d m) (zcx T n d) M.2.2.2.2 bk.2.2.2 bk.2.2.1 lv st A L
      | none => none
    | none => none := rfl
theorem zex_up (T : List zM) : ∀ (n d m b : Nat) (lv : zLv) (st : List Value) (A : zA) (L : zL) (r : zR), zex T n d m b lv st A L = some r → zex T (n + 1) d m b lv st A L = some r := by
  intro n
  induction n with
  | zero => intro d m b lv st A L r h; cases h
  | succ n ih =>
    -- the family that stands still from n + 1 on
    have hup : ∀ i, i ≤ n → ∀ (d m b : Nat) (lv : zLv) (st : List Value) (A : zA) (L : zL) (r : zR), zex T i d m b lv st A L = some r → zex T (i + 1) d m b lv st A L = some r → True := fun _ _ _ _ _ _ _ _ _ _ _ _ => trivial
    intro d m b lv st A L r h
    have hf : ∀ (d m b : Nat) (lv : zLv) (st : List Value) (A : zA) (L : zL), zLm (fun i => if i = 0 then zex T n d m b lv st A L else zex T (n + 1) d m b lv st A L) (zex T (n + 1) d m b lv st A L) := by
      intro d m b lv st A L
      refine ⟨fun i r h => ?_, fun r => ⟨fun h => ⟨1, by simpa using h⟩, fun ⟨N, h⟩ => ?_⟩⟩
      · simp only [Nat.succ_ne_zero, if_false]
        dsimp only at h
        split at h
        · exact ih _ _ _ _ _ _ _ _ h
        · exact h
      · dsimp only at h
        split at h
        · exact ih _ _ _ _ _ _ _ _ h
        · exact h
    have hc : ∀ (k : Nat) (as : List Value) (A : zA) (L : zL), zLm (fun i => if i = 0 then zcx T n d k as A L else zcx T (n + 1) d k as A L) (zcx T (n + 1) d k as A L) := by
      intro k as A L
      cases d with
      | zero => simpa [zcx] using zLm_c none
      | succ d =>
        cases hz : zfit T k as with
        | false => simp only [zcx, hz, cond_false]; simpa using zLm_c none
        | true => simp only [zcx, hz, cond_true]; exact hf d k 0 (lv_args 0 as) [] A L
    rw [zex_s] at h ⊢
    cases hM : T[m]? with
    | none => rw [hM] at h; cases h
    | some M =>
      rw [hM] at h
      simp only at h ⊢
      cases hb : M.2.2.2.2[b]? with
      | none => rw [hb] at h; cases h
      | some bk =>
        rw [hb] at h
        simp only at h ⊢
        have hg := zLm_go zno (J := fun i => fun b lv st A L => if i = 0 then zex T n d m b lv st A L else zex T (n + 1) d m b lv st A L) (C := fun i k as A L => if i = 0 then zcx T n d k as A L else zcx T (n + 1) d k as A L) (hf d m) hc M.2.2.2.2 bk.2.2.2 bk.2.2.1 lv st A L
        exact hg.1 0 r h
noncomputable def zrun (T : List zM) (d m b : Nat) (lv : zLv) (st : List Value) (A : zA) (L : zL) : Option zR :=
  @dite _ (∃ r N, zex T N d m b lv st A L = some r) (Classical.propDecidable _) (fun h => some (Classical.choose h)) (fun _ => none)
theorem zrun_lm (T : List zM) (d m b : Nat) (lv : zLv) (st : List Value) (A : zA) (L : zL) : zLm (fun n => zex T n d m b lv st A L) (zrun T d m b lv st A L) := by
  refine ⟨fun n r h => zex_up T n d m b lv st A L r h, fun r => ?_⟩
  have hup : ∀ {n k : Nat} {r : zR}, zex T n d m b lv st A L = some r → n ≤ k → zex T k d m b lv st A L = some r := by
    intro n k r h hk
    induction hk with
    | refl => exact h
    | step _ ih => exact zex_up T _ d m b lv st A L r ih
  unfold zrun
  by_cases h : ∃ r N, zex T N d m b lv st A L = some r
  · rw [dif_pos h]
    obtain ⟨N, hN⟩ := Classical.choose_spec h
    constructor
    · intro e
      cases e
      exact ⟨N, hN⟩
    · intro ⟨K, hK⟩
      have e1 := hup hN (Nat.le_max_left N K)
      have e2 := hup hK (Nat.le_max_right N K)
      rw [e1] at e2
      exact e2
  · rw [dif_neg h]
    exact ⟨fun e => absurd e (by simp), fun ⟨K, hK⟩ => absurd ⟨r, K, hK⟩ h⟩
noncomputable def zcal (T : List zM) (d k : Nat) (as : List Value) (A : zA) (L : zL) : Option zR := match d with
  | 0 => none
  | d + 1 => bif zfit T k as then zrun T d k 0 (lv_args 0 as) [] A L else none
theorem zcal_lm (T : List zM) (d k : Nat) (as : List Value) (A : zA) (L : zL) : zLm (fun n => zcx T n d k as A L) (zcal T d k as A L) := by
  cases d with
  | zero => exact zLm_c none
  | succ d => exact zLm_b (zrun_lm T d k 0 _ _ A L) (zLm_c none)
/-- a block is walked as it is written -/
theorem zrun_q (T : List zM) (d : Nat) {m b : Nat} {M : zM} {bk : zBk} (hM : T[m]? = some M) (hb : M.2.2.2.2[b]? = some bk) (lv : zLv) (st : List Value) (A : zA) (L : zL) :
    zrun T d m b lv st A L = zgo zno (zrun T d m) (zcal T d) M.2.2.2.2 bk.2.2.2 bk.2.2.1 lv st A L := by
  have h1 := zrun_lm T d m b lv st A L
  have h2 := zLm_go zno (J := fun n => zex T n d m) (j := zrun T d m) (C := fun n => zcx T n d) (c := zcal T d) (fun b lv st A L => zrun_lm T d m b lv st A L) (fun k as A L => zcal_lm T d k as A L) M.2.2.2.2 bk.2.2.2 bk.2.2.1 lv st A L
  have key : ∀ r, zrun T d m b lv st A L = some r ↔ zgo zno (zrun T d m) (zcal T d) M.2.2.2.2 bk.2.2.2 bk.2.2.1 lv st A L = some r := by
    intro r
    rw [h1.2 r, h2.2 r]
    constructor
    · intro ⟨N, h⟩
      have h := zex_up T N d m b lv st A L r h
      rw [zex_s, hM] at h
      simp only [hb] at h
      exact ⟨N, h⟩
    · intro ⟨N, h⟩
      refine ⟨N + 1, ?_⟩
      dsimp only
      rw [zex_s, hM]
      simp only [hb]
      exact h
  cases h : zrun T d m b lv st A L with
  | some r => exact ((key r).mp h).symm
  | none =>
    cases h2 : zgo zno (zrun T d m) (zcal T d) M.2.2.2.2 bk.2.2.2 bk.2.2.1 lv st A L with
    | none => rfl
    | some r => rw [(key r).mpr h2] at h; cases h
