/-! a block is as it is written, by program -/
set_option maxRecDepth 20000 in
theorem zD_dreamFrom_4_q (d : Nat) (v2 : Int32) (A : zA) (L : zL) : zD_dreamFrom_4 d v2 A L = zck v2 4096 (some (some (.int ((A 53 (v2).toNatClampNeg) &&& (2047 : Int32))), A, L)) := (zrun_q zT d (M := zt_X2_dreamFrom) (bk := zb_X2_dreamFrom_4) rfl rfl _ _ _ _).trans rfl
set_option maxRecDepth 20000 in
theorem zO_withEnd_5_q (d : Nat) (A : zA) (L : zL) : zO_withEnd_5 d A L = if (A 56 6) = 0 then zO_withEnd_6 d A L else zO_withEnd_7 d (-1 : Int64) A L := (zrun_q zT d (M := zt_X4_withEnd) (bk := zb_X4_withEnd_5) rfl rfl _ _ _ _).trans rfl
set_option maxRecDepth 20000 in
theorem zO_withEnd_7_q (d : Nat) (s0 : Int64) (A : zA) (L : zL) : zO_withEnd_7 d s0 A L = some (some (.long s0), A, L) := (zrun_q zT d (M := zt_X4_withEnd) (bk := zb_X4_withEnd_7) rfl rfl _ _ _ _).trans rfl
set_option maxRecDepth 20000 in
theorem zO_withEnd_2_q (d : Nat) (v1 : Int64) (A : zA) (L : zL) : zO_withEnd_2 d v1 A L = zO_withEnd_3 d (v1 &&& (L 56 5)) A L := (zrun_q zT d (M := zt_X4_withEnd) (bk := zb_X4_withEnd_2) rfl rfl _ _ _ _).trans rfl
set_option maxRecDepth 20000 in
theorem zO_withEnd_6_q (d : Nat) (A : zA) (L : zL) : zO_withEnd_6 d A L = zO_withEnd_7 d (0 : Int64) A L := (zrun_q zT d (M := zt_X4_withEnd) (bk := zb_X4_withEnd_6) rfl rfl _ _ _ _).trans rfl
