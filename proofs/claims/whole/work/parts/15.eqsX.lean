/-! a block is as it is written, by program -/
set_option maxRecDepth 20000 in
theorem zO_fillLengths_17_q (d : Nat) (v1 : Int32) (v2 : Int32) (v4 : Int32) (v7 : Int32) (v8 : Int32) (s1 : Int32) (A : zA) (L : zL) : zO_fillLengths_17 d v1 v2 v4 v7 v8 s1 A L = zO_fillLengths_18 d v1 v2 v4 v7 v8 s1 v1 A L := (zrun_q zT d (M := zt_X4_fillLengths) (bk := zb_X4_fillLengths_17) rfl rfl _ _ _ _).trans rfl
set_option maxRecDepth 20000 in
theorem zO_fillLengths_18_q (d : Nat) (v1 : Int32) (v2 : Int32) (v4 : Int32) (v7 : Int32) (v8 : Int32) (s1 : Int32) (s2 : Int32) (A : zA) (L : zL) : zO_fillLengths_18 d v1 v2 v4 v7 v8 s1 s2 A L = zck s1 16 (zO_fillLengths_12 d v1 v2 v4 v7 (v8 + 1) (zput A 58 (s1).toNatClampNeg s2) L) := (zrun_q zT d (M := zt_X4_fillLengths) (bk := zb_X4_fillLengths_18) rfl rfl _ _ _ _).trans rfl
set_option maxRecDepth 20000 in
theorem zD_dreamFrom_3_q (d : Nat) (v1 : Int32) (v2 : Int32) (v3 : Int32) (A : zA) (L : zL) : zD_dreamFrom_3 (d + 1) v1 v2 v3 A L = zck v2 4096 (if (zushr (A 53 (v2).toNatClampNeg) (11 : Int32)) = (A 51 4) then zD_dreamFrom_4 (d + 1) v2 A L else zbi (zD_bestDeed d v2 v3 v1 (4 : Int32) A L) (fun r1 A1 L1 => zbi (zD_dreamAfter d v1 v2 r1 A1 L1) (fun r2 A2 L2 => zck v2 4096 (zD_dreamFrom_4 (d + 1) v2 (zput A2 53 (v2).toNatClampNeg ((zshl (A2 51 4) (11 : Int32)) ||| r2)) L2)))) := (zrun_q zT (d + 1) (M := zt_X2_dreamFrom) (bk := zb_X2_dreamFrom_3) rfl rfl _ _ _ _).trans rfl
set_option maxRecDepth 20000 in
theorem zO_withEnd_4_q (d : Nat) (v6 : Int32) (A : zA) (L : zL) : zO_withEnd_4 d v6 A L = if v6 = 0 then zO_withEnd_5 d A L else zO_withEnd_7 d (L 56 5) A L := (zrun_q zT d (M := zt_X4_withEnd) (bk := zb_X4_withEnd_4) rfl rfl _ _ _ _).trans rfl
set_option maxRecDepth 20000 in
theorem zO_withEnd_1_q (d : Nat) (v1 : Int64) (v5 : Int32) (A : zA) (L : zL) : zO_withEnd_1 d v1 v5 A L = if v5 = 0 then zO_withEnd_2 d v1 A L else zO_withEnd_3 d (v1 ||| (L 56 5)) A L := (zrun_q zT d (M := zt_X4_withEnd) (bk := zb_X4_withEnd_1) rfl rfl _ _ _ _).trans rfl
set_option maxRecDepth 20000 in
theorem zO_withEnd_3_q (d : Nat) (s0 : Int64) (A : zA) (L : zL) : zO_withEnd_3 d s0 A L = some (some (.long s0), A, L) := (zrun_q zT d (M := zt_X4_withEnd) (bk := zb_X4_withEnd_3) rfl rfl _ _ _ _).trans rfl
set_option maxRecDepth 20000 in
theorem zD_dreamFrom_4_q (d : Nat) (v2 : Int32) (A : zA) (L : zL) : zD_dreamFrom_4 d v2 A L = zck v2 4096 (some (some (.int ((A 53 (v2).toNatClampNeg) &&& (2047 : Int32))), A, L)) := (zrun_q zT d (M := zt_X2_dreamFrom) (bk := zb_X2_dreamFrom_4) rfl rfl _ _ _ _).trans rfl
set_option maxRecDepth 20000 in
theorem zO_withEnd_5_q (d : Nat) (A : zA) (L : zL) : zO_withEnd_5 d A L = if (A 56 6) = 0 then zO_withEnd_6 d A L else zO_withEnd_7 d (-1 : Int64) A L := (zrun_q zT d (M := zt_X4_withEnd) (bk := zb_X4_withEnd_5) rfl rfl _ _ _ _).trans rfl
set_option maxRecDepth 20000 in
theorem zO_withEnd_7_q (d : Nat) (s0 : Int64) (A : zA) (L : zL) : zO_withEnd_7 d s0 A L = some (some (.long s0), A, L) := (zrun_q zT d (M := zt_X4_withEnd) (bk := zb_X4_withEnd_7) rfl rfl _ _ _ _).trans rfl
set_option maxRecDepth 20000 in
theorem zO_withEnd_2_q (d : Nat) (v1 : Int64) (A : zA) (L : zL) : zO_withEnd_2 d v1 A L = zO_withEnd_3 d (v1 &&& (L 56 5)) A L := (zrun_q zT d (M := zt_X4_withEnd) (bk := zb_X4_withEnd_2) rfl rfl _ _ _ _).trans rfl
set_option maxRecDepth 20000 in
theorem zO_withEnd_6_q (d : Nat) (A : zA) (L : zL) : zO_withEnd_6 d A L = zO_withEnd_7 d (0 : Int64) A L := (zrun_q zT d (M := zt_X4_withEnd) (bk := zb_X4_withEnd_6) rfl rfl _ _ _ _).trans rfl
