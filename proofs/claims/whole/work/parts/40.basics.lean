/-! ===== numbers, looks, rows: what the walks of the blocks stand on ===== -/
theorem zck_l {i : Int32} {n : Nat} {k : Option zR} (h : ¬ (i < 0 ∨ n ≤ i.toNatClampNeg)) : zck i n k = k := by
  unfold zck; rw [if_neg h]
theorem zck_n {i n : Nat} {k : Option zR} (h : i < n) (hn : n ≤ 65536) : zck (nI i) n k = k := zck_l (nI_in h (by omega))
theorem zcb_0 (k : Option zR) : zcb 0 k = k := by simp [zcb]
theorem zcb_1 (k : Option zR) : zcb 1 k = k := by simp [zcb]
theorem zcb_i (c : Prop) [Decidable c] (k : Option zR) : zcb (if c then 1 else 0) k = k := by split <;> simp [zcb]
theorem zcd_n {n : Nat} {k : Option zR} (h : 0 < n) (hn : n < 2 ^ 31) : zcd (nI n) k = k := by
  unfold zcd; rw [if_neg (nI_ne0 h hn)]
theorem zbi_s (v : Int32) (A : zA) (L : zL) (k : Int32 → zA → zL → Option zR) : zbi (some (some (.int v), A, L)) k = k v A L := rfl
theorem zbl_s (v : Int64) (A : zA) (L : zL) (k : Int64 → zA → zL → Option zR) : zbl (some (some (.long v), A, L)) k = k v A L := rfl
theorem zbv_s (A : zA) (L : zL) (k : zA → zL → Option zR) : zbv (some (none, A, L)) k = k A L := rfl
theorem zput_s (A : zA) (c k : Nat) (v : Int32) : zput A c k v c = upd (A c) k v := zset_s _ _ _
theorem zput_o {A : zA} {c k i : Nat} {v : Int32} (h : i ≠ c) : zput A c k v i = A i := zset_n h
theorem zputL_s (L : zL) (c k : Nat) (v : Int64) : zputL L c k v c = vp_updL (L c) k v := zsetL_s _ _ _
theorem zputL_o {L : zL} {c k i : Nat} {v : Int64} (h : i ≠ c) : zputL L c k v i = L i := zsetL_n h
theorem zcpy_s (A : zA) (a c n : Nat) : zcpy A a c n c = va_cpy (A a) (A c) 0 0 n := zset_s _ _ _
theorem zcpy_o {A : zA} {a c n i : Nat} (h : i ≠ c) : zcpy A a c n i = A i := zset_n h
theorem upd_s (f : Nat → Int32) (k : Nat) (x : Int32) : upd f k x k = x := by simp [upd]
theorem upd_o {f : Nat → Int32} {k j : Nat} {x : Int32} (h : j ≠ k) : upd f k x j = f j := by simp [upd, h]
theorem updL_s (f : Nat → Int64) (k : Nat) (x : Int64) : vp_updL f k x k = x := by simp [vp_updL]
theorem updL_o {f : Nat → Int64} {k j : Nat} {x : Int64} (h : j ≠ k) : vp_updL f k x j = f j := by simp [vp_updL, h]
theorem upd_id {f : Nat → Int32} {k : Nat} {x : Int32} (h : f k = x) : upd f k x = f := by
  funext j; unfold upd; split
  · rename_i e; rw [e, h]
  · rfl
theorem upd_uu (f : Nat → Int32) (k : Nat) (x y : Int32) : upd (upd f k x) k y = upd f k y := by
  funext j; unfold upd; split <;> rfl
theorem upd_comm (f : Nat → Int32) {i j : Nat} (h : i ≠ j) (x y : Int32) : upd (upd f i x) j y = upd (upd f j y) i x := by
  funext k; unfold upd
  by_cases h1 : k = j
  · subst h1; rw [if_pos rfl, if_neg (fun e => h e.symm), if_pos rfl]
  · rw [if_neg h1, if_neg h1]
theorem nI_lit (n : Nat) : (OfNat.ofNat n : Int32) = nI n := rfl
theorem nI_and (a b : Nat) : nI a &&& nI b = nI (a &&& b) := by
  apply Int32.toBitVec_inj.1
  show BitVec.ofNat 32 a &&& BitVec.ofNat 32 b = BitVec.ofNat 32 (a &&& b)
  apply BitVec.eq_of_getLsbD_eq
  intro i hi
  simp [hi]
theorem nI_or (a b : Nat) : nI a ||| nI b = nI (a ||| b) := by
  apply Int32.toBitVec_inj.1
  show BitVec.ofNat 32 a ||| BitVec.ofNat 32 b = BitVec.ofNat 32 (a ||| b)
  apply BitVec.eq_of_getLsbD_eq
  intro i hi
  simp [hi]
theorem nI_xor (a b : Nat) : nI a ^^^ nI b = nI (a ^^^ b) := by
  apply Int32.toBitVec_inj.1
  show BitVec.ofNat 32 a ^^^ BitVec.ofNat 32 b = BitVec.ofNat 32 (a ^^^ b)
  apply BitVec.eq_of_getLsbD_eq
  intro i hi
  simp [hi]
theorem nI_sm : ∀ k, k < 32 → ((nI k &&& 31).toBitVec.smod 32).toNat = k := by decide +kernel
theorem nI_sm2 : ∀ k, k < 32 → (((nI k).toUInt32 &&& Int32.toUInt32 31).toBitVec % 32).toNat = k := by decide +kernel
theorem zshl_n {a k : Nat} (h : a * 2 ^ k < 2 ^ 32) (hk : k < 32) : zshl (nI a) (nI k) = nI (a * 2 ^ k) := pk_shlN _ k (nI_sm k hk) h
theorem zshr_n {a k : Nat} (h : a < 2 ^ 31) (hk : k < 32) : zshr (nI a) (nI k) = nI (a / 2 ^ k) := pk_shrN h _ k (nI_sm k hk)
theorem zushr_n {a k : Nat} (h : a < 2 ^ 32) (hk : k < 32) : zushr (nI a) (nI k) = nI (a / 2 ^ k) := pk_ushrN h _ k (nI_sm2 k hk)
theorem zrem_n {a b : Nat} (ha : a < 2 ^ 31) (h0 : 0 < b) (hb : b < 2 ^ 31) : zrem (nI a) (nI b) = nI (a % b) := pk_rem ha h0 hb
theorem nI_mask (n k : Nat) : n &&& (2 ^ k - 1) = n % 2 ^ k := Nat.and_two_pow_sub_one_eq_mod n k
theorem nI_and1 (a : Nat) : nI a &&& 1 = nI (a % 2) := by
  rw [show (1 : Int32) = nI 1 from rfl, nI_and]
  exact congrArg nI (nI_mask a 1)
theorem nI_and7 (a : Nat) : nI a &&& 7 = nI (a % 8) := by
  rw [show (7 : Int32) = nI 7 from rfl, nI_and]
  exact congrArg nI (nI_mask a 3)
theorem nI_and63 (a : Nat) : nI a &&& 63 = nI (a % 64) := by
  rw [show (63 : Int32) = nI 63 from rfl, nI_and]
  exact congrArg nI (nI_mask a 6)
theorem nI_and255 (a : Nat) : nI a &&& 255 = nI (a % 256) := by
  rw [show (255 : Int32) = nI 255 from rfl, nI_and]
  exact congrArg nI (nI_mask a 8)
/-- one bit of a mask -/
theorem zbit {a k : Nat} (h : a < 2 ^ 31) (hk : k < 32) : zshr (nI a) (nI k) &&& 1 = if a.testBit k then 1 else 0 := by
  rw [zshr_n h hk, nI_and1, Nat.testBit_eq_decide_div_mod_eq]
  rcases Nat.mod_two_eq_zero_or_one (a / 2 ^ k) with e | e <;> simp [e, nI]
theorem zbit0 {a k : Nat} (h : a < 2 ^ 31) (hk : k < 32) : (zshr (nI a) (nI k) &&& 1 = 0) = (a.testBit k = false) := by
  rw [zbit h hk]
  cases a.testBit k <;> simp
theorem zbit1 {a k : Nat} (h : a < 2 ^ 31) (hk : k < 32) : (zshr (nI a) (nI k) &&& 1 = 1) = (a.testBit k = true) := by
  rw [zbit h hk]
  cases a.testBit k <;> simp
theorem zpow {k : Nat} (hk : k < 31) : zshl 1 (nI k) = nI (2 ^ k) := by
  have h := zshl_n (a := 1) (k := k) (by have := Nat.pow_lt_pow_right (a := 2) (by omega) hk; omega) (by omega)
  rw [Nat.one_mul] at h
  exact h
/-- a number of the machine that is below b -/
def zIs (b : Nat) (x : Int32) : Prop := ∃ n, n < b ∧ x = nI n
theorem zIs.clamp {b : Nat} {x : Int32} (h : zIs b x) (hb : b ≤ 2 ^ 31) : x = nI x.toNatClampNeg ∧ x.toNatClampNeg < b := by
  obtain ⟨n, hn, rfl⟩ := h
  rw [nI_clamp (by omega)]
  exact ⟨rfl, hn⟩
theorem zIs_n {b n : Nat} (h : n < b) : zIs b (nI n) := ⟨n, h, rfl⟩
theorem zIs.mono {b c : Nat} {x : Int32} (h : zIs b x) (hc : b ≤ c) : zIs c x := by
  obtain ⟨n, hn, e⟩ := h
  exact ⟨n, by omega, e⟩
/-- an int is below, at, or above 0 .. b-1 -/
theorem zIs_or (x : Int32) {b : Nat} (hb : b < 2 ^ 31) : x < 0 ∨ nI b ≤ x ∨ zIs b x := by
  rcases pk_ix x hb with h | h | ⟨j, h1, h2⟩
  · exact Or.inl h
  · exact Or.inr (Or.inl h)
  · exact Or.inr (Or.inr ⟨j, h1, h2⟩)
theorem zneg_nle {x : Int32} {b : Nat} (hb : b < 2 ^ 31) (h : x < 0) : ¬ nI b ≤ x := by
  intro h2
  have h3 := Int32.lt_iff_toInt_lt.mp h
  have h4 := Int32.le_iff_toInt_le.mp h2
  rw [nI_toInt hb] at h4
  have : (0 : Int32).toInt = 0 := by decide
  omega
theorem zge_nneg {x : Int32} {b : Nat} (hb : b < 2 ^ 31) (h : nI b ≤ x) : ¬ x < 0 := fun h2 => zneg_nle hb h2 h
/-- a place of a talk in one number -/
def zsp (n s m : Nat) : Nat := 64 * (8 * n + s) + m
theorem zsp_n {n s m : Nat} (hs : s < 8) (hm : m < 64) : zsp n s m / 512 = n := by unfold zsp; omega
theorem zsp_s {n s m : Nat} (hs : s < 8) (hm : m < 64) : zsp n s m / 64 % 8 = s := by unfold zsp; omega
theorem zsp_m {n s m : Nat} (hm : m < 64) : zsp n s m % 64 = m := by unfold zsp; omega
theorem zsp_lt {n s m b : Nat} (hn : n < b) (hs : s < 8) (hm : m < 64) : zsp n s m < 512 * b := by unfold zsp; omega
theorem zor_add {a b k : Nat} (h : b < 2 ^ k) : 2 ^ k * a ||| b = 2 ^ k * a + b := (Nat.two_pow_add_eq_or_of_lt h a).symm
theorem zsp_or {n s m : Nat} (hs : s < 8) (hm : m < 64) : (512 * n ||| 64 * s) ||| m = zsp n s m := by
  have h1 : 512 * n ||| 64 * s = 512 * n + 64 * s := zor_add (k := 9) (by omega)
  rw [h1, show 512 * n + 64 * s = 2 ^ 6 * (8 * n + s) by omega, zor_add (k := 6) hm]
  rfl
theorem zifc {c e : Prop} [Decidable c] [Decidable e] {α : Sort _} {a b : α} (h : c = e) : (if c then a else b) = if e then a else b := by
  subst h
  congr
theorem zifi {c e : Prop} [Decidable c] [Decidable e] {α : Sort _} {a b : α} (h : c ↔ e) : (if c then a else b) = if e then a else b := zifc (propext h)
theorem nI_g4 {s : Nat} (h : s < 4) : ¬ (4 : Int32) ≤ nI s := nI_ge h (by decide)
theorem nI_g6 {s : Nat} (h : s < 6) : ¬ (6 : Int32) ≤ nI s := nI_ge h (by decide)
theorem nI_g7 {s : Nat} (h : s < 7) : ¬ (7 : Int32) ≤ nI s := nI_ge h (by decide)
theorem nI_g8 {s : Nat} (h : s < 8) : ¬ (8 : Int32) ≤ nI s := nI_ge h (by decide)
theorem nI_g24 {s : Nat} (h : s < 24) : ¬ (24 : Int32) ≤ nI s := nI_ge h (by decide)
theorem nI_g64 {s : Nat} (h : s < 64) : ¬ (64 : Int32) ≤ nI s := nI_ge h (by decide)
theorem nI_g65 {s : Nat} (h : s < 65) : ¬ (65 : Int32) ≤ nI s := nI_ge h (by decide)
theorem nI_g4096 {s : Nat} (h : s < 4096) : ¬ (4096 : Int32) ≤ nI s := nI_ge h (by decide)
theorem nI_l8 {s : Nat} (h : s < 8) : nI s < (8 : Int32) := nI_lt h (by decide)
theorem nI_l24 {s : Nat} (h : s < 24) : nI s < (24 : Int32) := nI_lt h (by decide)
theorem nI_l64 {s : Nat} (h : s < 64) : nI s < (64 : Int32) := nI_lt h (by decide)
theorem nI_l4096 {s : Nat} (h : s < 4096) : nI s < (4096 : Int32) := nI_lt h (by decide)
theorem nI_n8 {s : Nat} (h : s ≤ 8) : ¬ (8 : Int32) < nI s := nI_nlt h (by decide)
theorem ite_ft {α : Sort _} {a b : α} : (if false = true then a else b) = b := if_neg (by decide)
theorem ite_tt {α : Sort _} {a b : α} : (if true = true then a else b) = a := if_pos rfl
theorem nI_ne {a b : Nat} (h : a ≠ b) (ha : a < 2 ^ 31) (hb : b < 2 ^ 31) : ¬ nI a = nI b := fun e => h ((nI_eq ha hb).mp e)
theorem nI_ne9 {a : Nat} (ha : a < 2 ^ 31) : ¬ nI a = -9 := fun e => by
  have h := congrArg Int32.toInt e
  rw [nI_toInt ha] at h
  have : (-9 : Int32).toInt = -9 := by decide
  omega
