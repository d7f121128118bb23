/-! a block is as it is written, by program -/
set_option maxRecDepth 20000 in
theorem zP_orderDigits_1_q (d : Nat) (v1 : Int32) (v2 : Int32) (A : zA) (L : zL) : zP_orderDigits_1 d v1 v2 A L = if v2 < 0 then zP_orderDigits_4 d v1 A L else if (A 9 4) ≤ v2 then zP_orderDigits_2 d v1 v2 A L else zck v2 4 (zP_orderDigits_3 d v2 ((v1 * (10 : Int32)) + (A 13 (v2).toNatClampNeg)) A L) := (zrun_q zT d (M := zt_X3_orderDigits) (bk := zb_X3_orderDigits_1) rfl rfl _ _ _ _).trans rfl
set_option maxRecDepth 20000 in
theorem zP_putOrder_1_q (d : Nat) (v2 : Int32) (v3 : Int32) (A : zA) (L : zL) : zP_putOrder_1 d v2 v3 A L = if (A 9 4) ≤ v3 then zP_putOrder_2 d A L else if (4 : Int32) ≤ v3 then zP_putOrder_2 d A L else zcd (10 : Int32) (zck v3 4 (zcd (10 : Int32) (zP_putOrder_1 d (v2 / (10 : Int32)) (v3 + 1) (zput A 13 (v3).toNatClampNeg (zrem v2 (10 : Int32))) L))) := (zrun_q zT d (M := zt_X3_putOrder) (bk := zb_X3_putOrder_1) rfl rfl _ _ _ _).trans rfl
set_option maxRecDepth 20000 in
theorem zW_after_q (d : Nat) (v1 : Int32) (v2 : Int32) (A : zA) (L : zL) : zW_after (d + 1) v1 v2 A L = zbi (zG_spotBehind d v1 v2 A L) (fun r1 A1 L1 => some (some (.int r1), A1, L1)) := (zrun_q zT (d + 1) (M := zt_X8_after) (bk := zb_X8_after_0) rfl rfl _ _ _ _).trans rfl
set_option maxRecDepth 20000 in
theorem zT_add_q (d : Nat) (v1 : Int32) (v2 : Int32) (A : zA) (L : zL) : zT_add d v1 v2 A L = if (A 14 2) < 0 then zT_add_1 d A L else if (8 : Int32) ≤ (A 14 2) then zT_add_1 d A L else zck (A 14 2) 8 (zck ((zput (zput A 15 ((A 14 2)).toNatClampNeg v1) 14 2 (((zput A 15 ((A 14 2)).toNatClampNeg v1) 14 2) + (1 : Int32))) 14 2) 9 (zT_add_1 d (zput (zput (zput A 15 ((A 14 2)).toNatClampNeg v1) 14 2 (((zput A 15 ((A 14 2)).toNatClampNeg v1) 14 2) + (1 : Int32))) 16 (((zput (zput A 15 ((A 14 2)).toNatClampNeg v1) 14 2 (((zput A 15 ((A 14 2)).toNatClampNeg v1) 14 2) + (1 : Int32))) 14 2)).toNatClampNeg v2) L)) := (zrun_q zT d (M := zt_X7_add) (bk := zb_X7_add_0) rfl rfl _ _ _ _).trans rfl
set_option maxRecDepth 20000 in
theorem zW_wordsAt_q (d : Nat) (v1 : Int32) (A : zA) (L : zL) : zW_wordsAt (d + 1) v1 A L = if (A 1 3) ≤ v1 then zW_wordsAt_1 (d + 1) A L else zbi (zP_atTurn d v1 A L) (fun r1 A1 L1 => zbi (zP_wordsOf d r1 A1 L1) (fun r2 A2 L2 => zW_wordsAt_2 (d + 1) r2 A2 L2)) := (zrun_q zT (d + 1) (M := zt_X8_wordsAt) (bk := zb_X8_wordsAt_0) rfl rfl _ _ _ _).trans rfl
set_option maxRecDepth 20000 in
theorem zG_wordsFrom_q (d : Nat) (v1 : Int32) (A : zA) (L : zL) : zG_wordsFrom (d + 1) v1 A L = zbi (zG_isState d v1 A L) (fun r1 A1 L1 => if r1 = 0 then zG_wordsFrom_1 (d + 1) A1 L1 else zck v1 8 (zG_wordsFrom_2 (d + 1) (A1 8 (v1).toNatClampNeg) A1 L1)) := (zrun_q zT (d + 1) (M := zt_X1_wordsFrom) (bk := zb_X1_wordsFrom_0) rfl rfl _ _ _ _).trans rfl
set_option maxRecDepth 20000 in
theorem zW_options_1_q (d : Nat) (v3 : Int32) (A : zA) (L : zL) : zW_options_1 d v3 A L = zW_options_2 d v3 A L := (zrun_q zT d (M := zt_X8_options) (bk := zb_X8_options_1) rfl rfl _ _ _ _).trans rfl
set_option maxRecDepth 20000 in
theorem zW_options_2_q (d : Nat) (s0 : Int32) (A : zA) (L : zL) : zW_options_2 d s0 A L = some (some (.int s0), A, L) := (zrun_q zT d (M := zt_X8_options) (bk := zb_X8_options_2) rfl rfl _ _ _ _).trans rfl
set_option maxRecDepth 20000 in
theorem zX_howTheTalkStands_2_q (d : Nat) (A : zA) (L : zL) : zX_howTheTalkStands_2 d A L = zX_howTheTalkStands_4 d (1 : Int32) A L := (zrun_q zT d (M := zt_X9_howTheTalkStands) (bk := zb_X9_howTheTalkStands_2) rfl rfl _ _ _ _).trans rfl
set_option maxRecDepth 20000 in
theorem zX_howTheTalkStands_3_q (d : Nat) (A : zA) (L : zL) : zX_howTheTalkStands_3 d A L = zX_howTheTalkStands_4 d (2 : Int32) A L := (zrun_q zT d (M := zt_X9_howTheTalkStands) (bk := zb_X9_howTheTalkStands_3) rfl rfl _ _ _ _).trans rfl
set_option maxRecDepth 20000 in
theorem zW_sayer_q (d : Nat) (v1 : Int32) (A : zA) (L : zL) : zW_sayer (d + 1) v1 A L = zbi (zX_countAt d v1 A L) (fun r1 A1 L1 => zbi (zP_atTurn d r1 A1 L1) (fun r2 A2 L2 => some (some (.int r2), A2, L2))) := (zrun_q zT (d + 1) (M := zt_X8_sayer) (bk := zb_X8_sayer_0) rfl rfl _ _ _ _).trans rfl
set_option maxRecDepth 20000 in
theorem zD_weighAllEnds_1_q (d : Nat) (v1 : Int32) (v2 : Int32) (A : zA) (L : zL) : zD_weighAllEnds_1 d v1 v2 A L = if (65 : Int32) ≤ v2 then zD_weighAllEnds_6 d A L else zD_weighAllEnds_2 d v1 v2 (0 : Int32) (0 : Int32) A L := (zrun_q zT d (M := zt_X2_weighAllEnds) (bk := zb_X2_weighAllEnds_1) rfl rfl _ _ _ _).trans rfl
set_option maxRecDepth 20000 in
theorem zD_deedAt_1_q (d : Nat) (v1 : Int32) (v2 : Int32) (A : zA) (L : zL) : zD_deedAt_1 (d + 1) v1 v2 A L = zbi (zW_sayer d v1 A L) (fun r1 A1 L1 => zbi (zP_kindOf d r1 A1 L1) (fun r2 A2 L2 => if r2 = (5 : Int32) then if ((zshr v2 (8 : Int32)) &&& (1 : Int32)) = 0 then zD_deedAt_2 (d + 1) v1 v2 r1 r2 A2 L2 else some (some (.int (8 : Int32)), A2, L2) else zD_deedAt_2 (d + 1) v1 v2 r1 r2 A2 L2)) := (zrun_q zT (d + 1) (M := zt_X2_deedAt) (bk := zb_X2_deedAt_1) rfl rfl _ _ _ _).trans rfl
set_option maxRecDepth 20000 in
theorem zX_ends_5_q (d : Nat) (v2 : Int32) (A : zA) (L : zL) : zX_ends_5 (d + 1) v2 A L = zbi (zX_endCount d v2 A L) (fun r1 A1 L1 => zX_ends_6 (d + 1) r1 A1 L1) := (zrun_q zT (d + 1) (M := zt_X9_ends) (bk := zb_X9_ends_5) rfl rfl _ _ _ _).trans rfl
set_option maxRecDepth 20000 in
theorem zX_ends_6_q (d : Nat) (s0 : Int32) (A : zA) (L : zL) : zX_ends_6 d s0 A L = some (some (.int s0), A, L) := (zrun_q zT d (M := zt_X9_ends) (bk := zb_X9_ends_6) rfl rfl _ _ _ _).trans rfl
set_option maxRecDepth 20000 in
theorem zD_endFrom_q (d : Nat) (v1 : Int32) (A : zA) (L : zL) : zD_endFrom d v1 A L = if v1 < 0 then zD_endFrom_1 d v1 A L else if v1 < (4096 : Int32) then zD_endFrom_2 d v1 A L else zD_endFrom_1 d v1 A L := (zrun_q zT d (M := zt_X2_endFrom) (bk := zb_X2_endFrom_0) rfl rfl _ _ _ _).trans rfl
set_option maxRecDepth 20000 in
theorem zX_endOf_q (d : Nat) (v0 : Int32) (v1 : Int32) (v2 : Int32) (A : zA) (L : zL) : zX_endOf d v0 v1 v2 A L = if v1 = 0 then zX_endOf_1 d v2 (zshl v0 (7 : Int32)) A L else zX_endOf_2 d v2 (zshl v0 (7 : Int32)) (64 : Int32) A L := (zrun_q zT d (M := zt_X9_endOf) (bk := zb_X9_endOf_0) rfl rfl _ _ _ _).trans rfl
set_option maxRecDepth 20000 in
theorem zD_worthAt_q (d : Nat) (v1 : Int32) (v2 : Int32) (A : zA) (L : zL) : zD_worthAt d v1 v2 A L = if ((v1 * (65 : Int32)) + v2) < 0 then zD_worthAt_1 d A L else if (nI 325) ≤ ((v1 * (65 : Int32)) + v2) then zD_worthAt_1 d A L else zck ((v1 * (65 : Int32)) + v2) 325 (zD_worthAt_2 d (A 54 (((v1 * (65 : Int32)) + v2)).toNatClampNeg) A L) := (zrun_q zT d (M := zt_X2_worthAt) (bk := zb_X2_worthAt_0) rfl rfl _ _ _ _).trans rfl
set_option maxRecDepth 20000 in
theorem zG_meaningsWithout_1_q (d : Nat) (A : zA) (L : zL) : zG_meaningsWithout_1 d A L = zG_meaningsWithout_2 d (-1 : Int64) A L := (zrun_q zT d (M := zt_X1_meaningsWithout) (bk := zb_X1_meaningsWithout_1) rfl rfl _ _ _ _).trans rfl
set_option maxRecDepth 20000 in
theorem zG_meaningsWithout_2_q (d : Nat) (s0 : Int64) (A : zA) (L : zL) : zG_meaningsWithout_2 d s0 A L = some (some (.long s0), A, L) := (zrun_q zT d (M := zt_X1_meaningsWithout) (bk := zb_X1_meaningsWithout_2) rfl rfl _ _ _ _).trans rfl
set_option maxRecDepth 20000 in
theorem zO_ensuresFrom_q (d : Nat) (v1 : Int32) (A : zA) (L : zL) : zO_ensuresFrom (d + 1) v1 A L = zbi (zX_countAt d v1 A L) (fun r1 A1 L1 => zbi (zJM_max d r1 (A1 1 3) A1 L1) (fun r2 A2 L2 => zO_ensuresFrom_1 (d + 1) v1 r1 r2 A2 L2)) := (zrun_q zT (d + 1) (M := zt_X4_ensuresFrom) (bk := zb_X4_ensuresFrom_0) rfl rfl _ _ _ _).trans rfl
set_option maxRecDepth 20000 in
theorem zJM_max_q (d : Nat) (v0 : Int32) (v1 : Int32) (A : zA) (L : zL) : zJM_max d v0 v1 A L = if v0 < v1 then zJM_max_1 d v1 A L else zJM_max_2 d v0 A L := (zrun_q zT d (M := zt_J9_max_7cf53) (bk := zb_J9_max_7cf53_0) rfl rfl _ _ _ _).trans rfl
set_option maxRecDepth 20000 in
theorem zO_mostWords_2_q (d : Nat) (v2 : Int32) (v3 : Int32) (v4 : Int32) (A : zA) (L : zL) : zO_mostWords_2 (d + 1) v2 v3 v4 A L = if v4 < v3 then zO_mostWords_3 (d + 1) v2 v3 A L else zbv (zO_fillLengths d v4 A L) (fun A1 L1 => zO_mostWords_2 (d + 1) v2 v3 (v4 + (-1)) A1 L1) := (zrun_q zT (d + 1) (M := zt_X4_mostWords) (bk := zb_X4_mostWords_2) rfl rfl _ _ _ _).trans rfl
set_option maxRecDepth 20000 in
theorem zO_surestWorth_6_q (d : Nat) (v2 : Int32) (A : zA) (L : zL) : zO_surestWorth_6 d v2 A L = some (some (.int v2), A, L) := (zrun_q zT d (M := zt_X4_surestWorth) (bk := zb_X4_surestWorth_6) rfl rfl _ _ _ _).trans rfl
set_option maxRecDepth 20000 in
theorem zJM_floorDiv_q (d : Nat) (v0 : Int32) (v1 : Int32) (A : zA) (L : zL) : zJM_floorDiv d v0 v1 A L = zcd v1 (if 0 ≤ (v0 ^^^ v1) then zJM_floorDiv_1 d (v0 / v1) A L else if ((v0 / v1) * v1) = v0 then zJM_floorDiv_1 d (v0 / v1) A L else some (some (.int ((v0 / v1) - (1 : Int32))), A, L)) := (zrun_q zT d (M := zt_J9_floorDiv_7cf53) (bk := zb_J9_floorDiv_7cf53_0) rfl rfl _ _ _ _).trans rfl
set_option maxRecDepth 20000 in
theorem zO_meaningsWorth_q (d : Nat) (v1 : Int32) (v2 : Int32) (A : zA) (L : zL) : zO_meaningsWorth d v1 v2 A L = zO_meaningsWorth_1 d v1 v2 (0 : Int64) (0 : Int32) A L := (zrun_q zT d (M := zt_X4_meaningsWorth) (bk := zb_X4_meaningsWorth_0) rfl rfl _ _ _ _).trans rfl
set_option maxRecDepth 20000 in
theorem zO_surestWorth_2_q (d : Nat) (v1 : Int32) (v2 : Int32) (v3 : Int32) (v4 : Int32) (v5 : Int32) (s1 : Int32) (s2 : Int64) (A : zA) (L : zL) : zO_surestWorth_2 d v1 v2 v3 v4 v5 s1 s2 A L = zO_surestWorth_3 d v1 v2 v3 v4 v5 s1 s2 (0 : Int32) A L := (zrun_q zT d (M := zt_X4_surestWorth) (bk := zb_X4_surestWorth_2) rfl rfl _ _ _ _).trans rfl
set_option maxRecDepth 20000 in
theorem zO_surestWorth_3_q (d : Nat) (v1 : Int32) (v2 : Int32) (v3 : Int32) (v4 : Int32) (v5 : Int32) (s1 : Int32) (s2 : Int64) (s3 : Int32) (A : zA) (L : zL) : zO_surestWorth_3 (d + 1) v1 v2 v3 v4 v5 s1 s2 s3 A L = zbi (zO_ensuresNow d s1 s2 s3 A L) (fun r1 A1 L1 => if r1 = 0 then zO_surestWorth_4 (d + 1) v1 v2 v4 v5 A1 L1 else zO_surestWorth_5 (d + 1) v1 v5 v3 v4 A1 L1) := (zrun_q zT (d + 1) (M := zt_X4_surestWorth) (bk := zb_X4_surestWorth_3) rfl rfl _ _ _ _).trans rfl
set_option maxRecDepth 20000 in
theorem zX_bitInRow_q (d : Nat) (v0 : Int64) (v2 : Int32) (A : zA) (L : zL) : zX_bitInRow d v0 v2 A L = zX_bitInRow_1 d v0 v2 (0 : Int32) A L := (zrun_q zT d (M := zt_X9_bitInRow) (bk := zb_X9_bitInRow_0) rfl rfl _ _ _ _).trans rfl
set_option maxRecDepth 20000 in
theorem zH_look_2_q (d : Nat) (v1 : Int32) (v2 : Int32) (v3 : Int32) (A : zA) (L : zL) : zH_look_2 d v1 v2 v3 A L = if (16 : Int32) ≤ v3 then zH_look_3 d v1 v2 A L else zck v3 16 (zH_look_2 d v1 v2 (v3 + 1) A (zputL L 60 (v3).toNatClampNeg (0 : Int64))) := (zrun_q zT d (M := zt_X5_look) (bk := zb_X5_look_2) rfl rfl _ _ _ _).trans rfl
set_option maxRecDepth 20000 in
theorem zB_bestTurning_3_q (d : Nat) (v2 : Int32) (A : zA) (L : zL) : zB_bestTurning_3 (d + 1) v2 A L = zbv (zP_turnByOne d A L) (fun A1 L1 => some (some (.int v2), A1, L1)) := (zrun_q zT (d + 1) (M := zt_X0_bestTurning) (bk := zb_X0_bestTurning_3) rfl rfl _ _ _ _).trans rfl
set_option maxRecDepth 20000 in
theorem zP_turnByOne_q (d : Nat) (A : zA) (L : zL) : zP_turnByOne d A L = zck (0 : Int32) 4 (zP_turnByOne_1 d (A 13 ((0 : Int32)).toNatClampNeg) (1 : Int32) A L) := (zrun_q zT d (M := zt_X3_turnByOne) (bk := zb_X3_turnByOne_0) rfl rfl _ _ _ _).trans rfl
set_option maxRecDepth 20000 in
theorem zB_bestTurning_2_q (d : Nat) (v1 : Int32) (v2 : Int32) (v3 : Int32) (v4 : Int32) (A : zA) (L : zL) : zB_bestTurning_2 d v1 v2 v3 v4 A L = zB_bestTurning_1 d v1 v2 v3 (v4 + 1) A L := (zrun_q zT d (M := zt_X0_bestTurning) (bk := zb_X0_bestTurning_2) rfl rfl _ _ _ _).trans rfl
set_option maxRecDepth 20000 in
theorem zJM_min_1_q (d : Nat) (v1 : Int32) (A : zA) (L : zL) : zJM_min_1 d v1 A L = zJM_min_2 d v1 A L := (zrun_q zT d (M := zt_J9_min_7cf53) (bk := zb_J9_min_7cf53_1) rfl rfl _ _ _ _).trans rfl
set_option maxRecDepth 20000 in
theorem zJM_min_2_q (d : Nat) (s0 : Int32) (A : zA) (L : zL) : zJM_min_2 d s0 A L = some (some (.int s0), A, L) := (zrun_q zT d (M := zt_J9_min_7cf53) (bk := zb_J9_min_7cf53_2) rfl rfl _ _ _ _).trans rfl
set_option maxRecDepth 20000 in
theorem zB_bestOrder_4_q (d : Nat) (v2 : Int32) (v3 : Int32) (A : zA) (L : zL) : zB_bestOrder_4 (d + 1) v2 v3 A L = zbv (zP_putOrder d v2 A L) (fun A1 L1 => some (some (.int v3), A1, L1)) := (zrun_q zT (d + 1) (M := zt_X0_bestOrder) (bk := zb_X0_bestOrder_4) rfl rfl _ _ _ _).trans rfl
set_option maxRecDepth 20000 in
theorem zB_digitsOf_q (d : Nat) (v1 : Int32) (A : zA) (L : zL) : zB_digitsOf d v1 A L = zB_digitsOf_1 d v1 (0 : Int32) (0 : Int32) A L := (zrun_q zT d (M := zt_X0_digitsOf) (bk := zb_X0_digitsOf_0) rfl rfl _ _ _ _).trans rfl
set_option maxRecDepth 20000 in
theorem zB_bestOrder_3_q (d : Nat) (v1 : Int32) (v2 : Int32) (v3 : Int32) (v4 : Int32) (v5 : Int32) (v6 : Int32) (A : zA) (L : zL) : zB_bestOrder_3 d v1 v2 v3 v4 v5 v6 A L = zB_bestOrder_1 d v1 v2 v3 v4 v5 (v6 + 1) A L := (zrun_q zT d (M := zt_X0_bestOrder) (bk := zb_X0_bestOrder_3) rfl rfl _ _ _ _).trans rfl
set_option maxRecDepth 20000 in
theorem zB_bestOrder_2_q (d : Nat) (v1 : Int32) (v2 : Int32) (v5 : Int32) (v6 : Int32) (v7 : Int32) (v8 : Int32) (A : zA) (L : zL) : zB_bestOrder_2 d v1 v2 v5 v6 v7 v8 A L = zB_bestOrder_3 d v1 v2 v7 v8 v5 v6 A L := (zrun_q zT d (M := zt_X0_bestOrder) (bk := zb_X0_bestOrder_2) rfl rfl _ _ _ _).trans rfl
set_option maxRecDepth 20000 in
theorem zB_bestWord_3_q (d : Nat) (v2 : Int32) (A : zA) (L : zL) : zB_bestWord_3 d v2 A L = some (some (.int v2), A, L) := (zrun_q zT d (M := zt_X0_bestWord) (bk := zb_X0_bestWord_3) rfl rfl _ _ _ _).trans rfl
set_option maxRecDepth 20000 in
theorem zB_bestWord_2_q (d : Nat) (v1 : Int32) (v2 : Int32) (v3 : Int32) (v4 : Int32) (A : zA) (L : zL) : zB_bestWord_2 d v1 v2 v3 v4 A L = zB_bestWord_1 d v1 v2 v3 (v4 + 1) A L := (zrun_q zT d (M := zt_X0_bestWord) (bk := zb_X0_bestWord_2) rfl rfl _ _ _ _).trans rfl
set_option maxRecDepth 20000 in
theorem zB_gain_2_q (d : Nat) (v1 : Int32) (v4 : Int32) (s1 : Int32) (s2 : Int32) (A : zA) (L : zL) : zB_gain_2 d v1 v4 s1 s2 A L = zB_gain_3 d v1 v4 s1 s2 (0 : Int32) A L := (zrun_q zT d (M := zt_X0_gain) (bk := zb_X0_gain_2) rfl rfl _ _ _ _).trans rfl
set_option maxRecDepth 20000 in
theorem zB_gain_3_q (d : Nat) (v1 : Int32) (v4 : Int32) (s1 : Int32) (s2 : Int32) (s3 : Int32) (A : zA) (L : zL) : zB_gain_3 (d + 1) v1 v4 s1 s2 s3 A L = zbi (zP_putWord d s1 s2 s3 A L) (fun r1 A1 L1 => zbi (zD_worthFromBeginning d v1 A1 L1) (fun r2 A2 L2 => some (some (.int (v4 - r2)), A2, L2))) := (zrun_q zT (d + 1) (M := zt_X0_gain) (bk := zb_X0_gain_3) rfl rfl _ _ _ _).trans rfl
set_option maxRecDepth 20000 in
theorem zB_gainOfSight_3_q (d : Nat) (v1 : Int32) (v2 : Int32) (v3 : Int32) (A : zA) (L : zL) : zB_gainOfSight_3 (d + 1) v1 v2 v3 A L = zbi (zD_worthFromBeginning d v1 A L) (fun r1 A1 L1 => zB_gainOfSight_4 (d + 1) v2 v3 r1 (0 : Int32) A1 L1) := (zrun_q zT (d + 1) (M := zt_X0_gainOfSight) (bk := zb_X0_gainOfSight_3) rfl rfl _ _ _ _).trans rfl
set_option maxRecDepth 20000 in
theorem zB_gainOfSight_2_q (d : Nat) (v1 : Int32) (v2 : Int32) (v3 : Int32) (v4 : Int32) (A : zA) (L : zL) : zB_gainOfSight_2 d v1 v2 v3 v4 A L = zB_gainOfSight_1 d v1 v2 v3 (v4 + 1) A L := (zrun_q zT d (M := zt_X0_gainOfSight) (bk := zb_X0_gainOfSight_2) rfl rfl _ _ _ _).trans rfl
set_option maxRecDepth 20000 in
theorem zB_bestKind_4_q (d : Nat) (v1 : Int32) (v2 : Int32) (v3 : Int32) (A : zA) (L : zL) : zB_bestKind_4 (d + 1) v1 v2 v3 A L = zbv (zP_putKind d v1 v2 A L) (fun A1 L1 => some (some (.int v3), A1, L1)) := (zrun_q zT (d + 1) (M := zt_X0_bestKind) (bk := zb_X0_bestKind_4) rfl rfl _ _ _ _).trans rfl
set_option maxRecDepth 20000 in
theorem zB_bestKind_2_q (d : Nat) (v1 : Int32) (v2 : Int32) (v5 : Int32) (v6 : Int32) (A : zA) (L : zL) : zB_bestKind_2 d v1 v2 v5 v6 A L = zB_bestKind_3 d v1 v2 v5 v6 v5 A L := (zrun_q zT d (M := zt_X0_bestKind) (bk := zb_X0_bestKind_2) rfl rfl _ _ _ _).trans rfl
set_option maxRecDepth 20000 in
theorem zB_bestKind_3_q (d : Nat) (v1 : Int32) (v2 : Int32) (v3 : Int32) (v4 : Int32) (v5 : Int32) (A : zA) (L : zL) : zB_bestKind_3 d v1 v2 v3 v4 v5 A L = zB_bestKind_1 d v1 v2 v3 v4 (v5 + 1) A L := (zrun_q zT d (M := zt_X0_bestKind) (bk := zb_X0_bestKind_3) rfl rfl _ _ _ _).trans rfl
set_option maxRecDepth 20000 in
theorem zO_fewestRules_2_q (d : Nat) (v3 : Int32) (A : zA) (L : zL) : zO_fewestRules_2 (d + 1) v3 A L = if (A 2 6) ≤ v3 then zO_fewestRules_4 (d + 1) A L else zbi (zO_ensuresWithout d (zshl (1 : Int32) v3) A L) (fun r1 A1 L1 => if r1 = 0 then some (some (.int (zshl (1 : Int32) v3)), A1, L1) else zO_fewestRules_3 (d + 1) v3 A1 L1) := (zrun_q zT (d + 1) (M := zt_X4_fewestRules) (bk := zb_X4_fewestRules_2) rfl rfl _ _ _ _).trans rfl
set_option maxRecDepth 20000 in
theorem zD_kindsFitting_4_q (d : Nat) (v1 : Int32) (v2 : Int32) (v3 : Int32) (A : zA) (L : zL) : zD_kindsFitting_4 (d + 1) v1 v2 v3 A L = zbv (zP_putKind d v1 v2 A L) (fun A1 L1 => some (some (.int v3), A1, L1)) := (zrun_q zT (d + 1) (M := zt_X2_kindsFitting) (bk := zb_X2_kindsFitting_4) rfl rfl _ _ _ _).trans rfl
set_option maxRecDepth 20000 in
theorem zD_fits_q (d : Nat) (v1 : Int32) (A : zA) (L : zL) : zD_fits d v1 A L = zD_fits_1 d v1 (0 : Int32) A L := (zrun_q zT d (M := zt_X2_fits) (bk := zb_X2_fits_0) rfl rfl _ _ _ _).trans rfl
set_option maxRecDepth 20000 in
theorem zD_kindsFitting_2_q (d : Nat) (v1 : Int32) (v2 : Int32) (v4 : Int32) (s0 : Int32) (A : zA) (L : zL) : zD_kindsFitting_2 d v1 v2 v4 s0 A L = zD_kindsFitting_3 d v1 v2 v4 s0 (0 : Int32) A L := (zrun_q zT d (M := zt_X2_kindsFitting) (bk := zb_X2_kindsFitting_2) rfl rfl _ _ _ _).trans rfl
set_option maxRecDepth 20000 in
theorem zD_kindsFitting_3_q (d : Nat) (v1 : Int32) (v2 : Int32) (v4 : Int32) (s0 : Int32) (s1 : Int32) (A : zA) (L : zL) : zD_kindsFitting_3 d v1 v2 v4 s0 s1 A L = zD_kindsFitting_1 d v1 v2 (s0 ||| s1) (v4 + 1) A L := (zrun_q zT d (M := zt_X2_kindsFitting) (bk := zb_X2_kindsFitting_3) rfl rfl _ _ _ _).trans rfl
set_option maxRecDepth 20000 in
theorem zB_sumOfTalks_q (d : Nat) (v1 : Int32) (v2 : Int32) (v3 : Int32) (A : zA) (L : zL) : zB_sumOfTalks (d + 1) v1 v2 v3 A L = zbv (zD_renew d A L) (fun A1 L1 => zB_sumOfTalks_1 (d + 1) v1 v2 (0 : Int32) (0 : Int32) (zput A1 55 2 v3) L1) := (zrun_q zT (d + 1) (M := zt_X0_sumOfTalks) (bk := zb_X0_sumOfTalks_0) rfl rfl _ _ _ _).trans rfl
set_option maxRecDepth 20000 in
theorem zR_take_q (d : Nat) (v1 : Int32) (v2 : Int32) (A : zA) (L : zL) : zR_take (d + 1) v1 v2 A L = if (A 33 2) ≤ (A 33 3) then zR_take_1 (d + 1) A L else zbi (zR_letter d (A 33 3) A L) (fun r1 A1 L1 => if r1 < v1 then zR_take_1 (d + 1) A1 L1 else zbi (zR_letter d (A1 33 3) A1 L1) (fun r2 A2 L2 => if r2 ≤ v2 then zR_take_2 (d + 1) A2 L2 else zR_take_1 (d + 1) A2 L2)) := (zrun_q zT (d + 1) (M := zt_X6_take) (bk := zb_X6_take_0) rfl rfl _ _ _ _).trans rfl
set_option maxRecDepth 20000 in
theorem zR_isStatement_3_q (d : Nat) (A : zA) (L : zL) : zR_isStatement_3 (d + 1) A L = zbi (zR_take d (101 : Int32) (101 : Int32) A L) (fun r1 A1 L1 => if r1 = 0 then zbi (zR_take d (108 : Int32) (108 : Int32) A1 L1) (fun r2 A2 L2 => if r2 = 0 then zR_isStatement_7 (d + 1) A2 L2 else zR_isStatement_4 (d + 1) A2 L2) else zR_isStatement_4 (d + 1) A1 L1) := (zrun_q zT (d + 1) (M := zt_X6_isStatement) (bk := zb_X6_isStatement_3) rfl rfl _ _ _ _).trans rfl
set_option maxRecDepth 20000 in
theorem zR_isStatement_1_q (d : Nat) (A : zA) (L : zL) : zR_isStatement_1 d A L = zR_isStatement_2 d (0 : Int32) A L := (zrun_q zT d (M := zt_X6_isStatement) (bk := zb_X6_isStatement_1) rfl rfl _ _ _ _).trans rfl
set_option maxRecDepth 20000 in
theorem zR_isEndOfRule_q (d : Nat) (A : zA) (L : zL) : zR_isEndOfRule (d + 1) A L = zbi (zR_take d (65 : Int32) (70 : Int32) A L) (fun r1 A1 L1 => zbi (zR_take d (59 : Int32) (59 : Int32) A1 L1) (fun r2 A2 L2 => zcb r2 (some (some (.int r2), A2, L2)))) := (zrun_q zT (d + 1) (M := zt_X6_isEndOfRule) (bk := zb_X6_isEndOfRule_0) rfl rfl _ _ _ _).trans rfl
set_option maxRecDepth 20000 in
theorem zR_isStatement_2_q (d : Nat) (s0 : Int32) (A : zA) (L : zL) : zR_isStatement_2 d s0 A L = zcb s0 (some (some (.int s0), A, L)) := (zrun_q zT d (M := zt_X6_isStatement) (bk := zb_X6_isStatement_2) rfl rfl _ _ _ _).trans rfl
set_option maxRecDepth 20000 in
theorem zR_isWellFormed_2_q (d : Nat) (v1 : Int32) (A : zA) (L : zL) : zR_isWellFormed_2 d v1 A L = zcb v1 (some (some (.int v1), A, L)) := (zrun_q zT d (M := zt_X6_isWellFormed) (bk := zb_X6_isWellFormed_2) rfl rfl _ _ _ _).trans rfl
set_option maxRecDepth 20000 in
theorem zR_applyAll_4_q (d : Nat) (v1 : Int32) (A : zA) (L : zL) : zR_applyAll_4 d v1 A L = some (some (.int v1), A, L) := (zrun_q zT d (M := zt_X6_applyAll) (bk := zb_X6_applyAll_4) rfl rfl _ _ _ _).trans rfl
set_option maxRecDepth 20000 in
theorem zR_letter_q (d : Nat) (v1 : Int32) (A : zA) (L : zL) : zR_letter d v1 A L = if v1 < 0 then zR_letter_1 d A L else if (64 : Int32) ≤ v1 then zR_letter_1 d A L else zck v1 64 (zR_letter_2 d (A 34 (v1).toNatClampNeg) A L) := (zrun_q zT d (M := zt_X6_letter) (bk := zb_X6_letter_0) rfl rfl _ _ _ _).trans rfl
set_option maxRecDepth 20000 in
theorem zR_applyAll_3_q (d : Nat) (v1 : Int32) (v2 : Int32) (v3 : Int32) (A : zA) (L : zL) : zR_applyAll_3 d v1 v2 v3 A L = zR_applyAll_1 d v1 v2 (v3 + 1) A L := (zrun_q zT d (M := zt_X6_applyAll) (bk := zb_X6_applyAll_3) rfl rfl _ _ _ _).trans rfl
set_option maxRecDepth 20000 in
theorem zR_applies_q (d : Nat) (v1 : Int32) (A : zA) (L : zL) : zR_applies (d + 1) v1 A L = zbi (zR_letter d (v1 + (1 : Int32)) A L) (fun r1 A1 L1 => zbi (zR_letter d v1 A1 L1) (fun r2 A2 L2 => if r2 = 101 then zR_applies_2 (d + 1) (r1 - (48 : Int32)) A2 L2 else if r2 = 112 then zR_applies_3 (d + 1) v1 (r1 - (48 : Int32)) A2 L2 else if r2 = 114 then zR_applies_1 (d + 1) v1 (r1 - (48 : Int32)) A2 L2 else if r2 = 118 then zR_applies_4 (d + 1) v1 (r1 - (48 : Int32)) A2 L2 else zR_applies_5 (d + 1) (r1 - (48 : Int32)) A2 L2)) := (zrun_q zT (d + 1) (M := zt_X6_applies) (bk := zb_X6_applies_0) rfl rfl _ _ _ _).trans rfl
set_option maxRecDepth 20000 in
theorem zR_applyAll_2_q (d : Nat) (v1 : Int32) (v3 : Int32) (A : zA) (L : zL) : zR_applyAll_2 d v1 v3 A L = zR_applyAll_3 d (v1 + 1) (v3 + (1 : Int32)) v3 A L := (zrun_q zT d (M := zt_X6_applyAll) (bk := zb_X6_applyAll_2) rfl rfl _ _ _ _).trans rfl
set_option maxRecDepth 20000 in
theorem zG_tells_3_q (d : Nat) (v1 : Int32) (A : zA) (L : zL) : zG_tells_3 d v1 A L = zck v1 24 (some (some (.int (A 3 (v1).toNatClampNeg)), A, L)) := (zrun_q zT d (M := zt_X1_tells) (bk := zb_X1_tells_3) rfl rfl _ _ _ _).trans rfl
set_option maxRecDepth 20000 in
theorem zG_tells_4_q (d : Nat) (v1 : Int32) (A : zA) (L : zL) : zG_tells_4 d v1 A L = zck v1 24 (some (some (.int (A 4 (v1).toNatClampNeg)), A, L)) := (zrun_q zT d (M := zt_X1_tells) (bk := zb_X1_tells_4) rfl rfl _ _ _ _).trans rfl
set_option maxRecDepth 20000 in
theorem zG_tells_5_q (d : Nat) (v1 : Int32) (A : zA) (L : zL) : zG_tells_5 d v1 A L = zck v1 24 (some (some (.int (A 5 (v1).toNatClampNeg)), A, L)) := (zrun_q zT d (M := zt_X1_tells) (bk := zb_X1_tells_5) rfl rfl _ _ _ _).trans rfl
set_option maxRecDepth 20000 in
theorem zG_tells_6_q (d : Nat) (v1 : Int32) (A : zA) (L : zL) : zG_tells_6 d v1 A L = zck v1 24 (some (some (.int (A 6 (v1).toNatClampNeg)), A, L)) := (zrun_q zT d (M := zt_X1_tells) (bk := zb_X1_tells_6) rfl rfl _ _ _ _).trans rfl
set_option maxRecDepth 20000 in
theorem zP_placeOf_3_q (d : Nat) (A : zA) (L : zL) : zP_placeOf_3 d A L = some (some (.int (-9 : Int32)), A, L) := (zrun_q zT d (M := zt_X3_placeOf) (bk := zb_X3_placeOf_3) rfl rfl _ _ _ _).trans rfl
set_option maxRecDepth 20000 in
theorem zP_placeOf_2_q (d : Nat) (v1 : Int32) (v2 : Int32) (A : zA) (L : zL) : zP_placeOf_2 d v1 v2 A L = zP_placeOf_1 d v1 (v2 + 1) A L := (zrun_q zT d (M := zt_X3_placeOf) (bk := zb_X3_placeOf_2) rfl rfl _ _ _ _).trans rfl
set_option maxRecDepth 20000 in
theorem zP_putWorth_1_q (d : Nat) (A : zA) (L : zL) : zP_putWorth_1 d A L = zcb (0 : Int32) (some (some (.int (0 : Int32)), A, L)) := (zrun_q zT d (M := zt_X3_putWorth) (bk := zb_X3_putWorth_1) rfl rfl _ _ _ _).trans rfl
set_option maxRecDepth 20000 in
theorem zP_putWorth_2_q (d : Nat) (v1 : Int32) (v2 : Int32) (v3 : Int32) (A : zA) (L : zL) : zP_putWorth_2 d v1 v2 v3 A L = zck ((v1 * (6 : Int32)) + v2) 24 (zcb (1 : Int32) (some (some (.int (1 : Int32)), (zput A 12 (((v1 * (6 : Int32)) + v2)).toNatClampNeg v3), L))) := (zrun_q zT d (M := zt_X3_putWorth) (bk := zb_X3_putWorth_2) rfl rfl _ _ _ _).trans rfl
set_option maxRecDepth 20000 in
theorem zX_set_7_q (d : Nat) (v1 : Int32) (v2 : Int32) (A : zA) (L : zL) : zX_set_7 d v1 v2 A L = if v1 = 0 then zX_set_9 d v1 v2 (A 1 3) A L else zX_set_8 d v1 v2 A L := (zrun_q zT d (M := zt_X9_set) (bk := zb_X9_set_7) rfl rfl _ _ _ _).trans rfl
set_option maxRecDepth 20000 in
theorem zP_orderDigits_4_q (d : Nat) (v1 : Int32) (A : zA) (L : zL) : zP_orderDigits_4 d v1 A L = some (some (.int v1), A, L) := (zrun_q zT d (M := zt_X3_orderDigits) (bk := zb_X3_orderDigits_4) rfl rfl _ _ _ _).trans rfl
set_option maxRecDepth 20000 in
theorem zP_orderDigits_2_q (d : Nat) (v1 : Int32) (v2 : Int32) (A : zA) (L : zL) : zP_orderDigits_2 d v1 v2 A L = zP_orderDigits_3 d v2 v1 A L := (zrun_q zT d (M := zt_X3_orderDigits) (bk := zb_X3_orderDigits_2) rfl rfl _ _ _ _).trans rfl
set_option maxRecDepth 20000 in
theorem zP_orderDigits_3_q (d : Nat) (v2 : Int32) (s0 : Int32) (A : zA) (L : zL) : zP_orderDigits_3 d v2 s0 A L = zP_orderDigits_1 d s0 (v2 + (-1)) A L := (zrun_q zT d (M := zt_X3_orderDigits) (bk := zb_X3_orderDigits_3) rfl rfl _ _ _ _).trans rfl
set_option maxRecDepth 20000 in
theorem zP_putOrder_2_q (d : Nat) (A : zA) (L : zL) : zP_putOrder_2 d A L = some (none, A, L) := (zrun_q zT d (M := zt_X3_putOrder) (bk := zb_X3_putOrder_2) rfl rfl _ _ _ _).trans rfl
set_option maxRecDepth 20000 in
theorem zG_spotBehind_q (d : Nat) (v1 : Int32) (v2 : Int32) (A : zA) (L : zL) : zG_spotBehind (d + 1) v1 v2 A L = zbi (zX_stateAt d v1 A L) (fun r1 A1 L1 => if v2 < 0 then zG_spotBehind_1 (d + 1) v1 r1 A1 L1 else if (8 : Int32) ≤ v2 then zG_spotBehind_1 (d + 1) v1 r1 A1 L1 else zck ((r1 * (8 : Int32)) + v2) 64 (zG_spotBehind_2 (d + 1) v1 r1 (A1 7 (((r1 * (8 : Int32)) + v2)).toNatClampNeg) A1 L1)) := (zrun_q zT (d + 1) (M := zt_X1_spotBehind) (bk := zb_X1_spotBehind_0) rfl rfl _ _ _ _).trans rfl
set_option maxRecDepth 20000 in
theorem zT_add_1_q (d : Nat) (A : zA) (L : zL) : zT_add_1 d A L = some (none, A, L) := (zrun_q zT d (M := zt_X7_add) (bk := zb_X7_add_1) rfl rfl _ _ _ _).trans rfl
set_option maxRecDepth 20000 in
theorem zW_wordsAt_1_q (d : Nat) (A : zA) (L : zL) : zW_wordsAt_1 d A L = zW_wordsAt_2 d (0 : Int32) A L := (zrun_q zT d (M := zt_X8_wordsAt) (bk := zb_X8_wordsAt_1) rfl rfl _ _ _ _).trans rfl
set_option maxRecDepth 20000 in
theorem zP_atTurn_q (d : Nat) (v1 : Int32) (A : zA) (L : zL) : zP_atTurn d v1 A L = if (A 9 4) ≤ 0 then zP_atTurn_1 d A L else if 0 ≤ v1 then zP_atTurn_2 d v1 A L else zP_atTurn_1 d A L := (zrun_q zT d (M := zt_X3_atTurn) (bk := zb_X3_atTurn_0) rfl rfl _ _ _ _).trans rfl
set_option maxRecDepth 20000 in
theorem zW_wordsAt_2_q (d : Nat) (s0 : Int32) (A : zA) (L : zL) : zW_wordsAt_2 d s0 A L = some (some (.int s0), A, L) := (zrun_q zT d (M := zt_X8_wordsAt) (bk := zb_X8_wordsAt_2) rfl rfl _ _ _ _).trans rfl
set_option maxRecDepth 20000 in
theorem zG_wordsFrom_1_q (d : Nat) (A : zA) (L : zL) : zG_wordsFrom_1 d A L = zG_wordsFrom_2 d (0 : Int32) A L := (zrun_q zT d (M := zt_X1_wordsFrom) (bk := zb_X1_wordsFrom_1) rfl rfl _ _ _ _).trans rfl
set_option maxRecDepth 20000 in
theorem zG_wordsFrom_2_q (d : Nat) (s0 : Int32) (A : zA) (L : zL) : zG_wordsFrom_2 d s0 A L = some (some (.int s0), A, L) := (zrun_q zT d (M := zt_X1_wordsFrom) (bk := zb_X1_wordsFrom_2) rfl rfl _ _ _ _).trans rfl
set_option maxRecDepth 20000 in
theorem zX_howTheTalkStands_4_q (d : Nat) (s0 : Int32) (A : zA) (L : zL) : zX_howTheTalkStands_4 d s0 A L = some (some (.int s0), A, L) := (zrun_q zT d (M := zt_X9_howTheTalkStands) (bk := zb_X9_howTheTalkStands_4) rfl rfl _ _ _ _).trans rfl
set_option maxRecDepth 20000 in
theorem zD_weighAllEnds_6_q (d : Nat) (A : zA) (L : zL) : zD_weighAllEnds_6 d A L = some (none, A, L) := (zrun_q zT d (M := zt_X2_weighAllEnds) (bk := zb_X2_weighAllEnds_6) rfl rfl _ _ _ _).trans rfl
set_option maxRecDepth 20000 in
theorem zD_weighAllEnds_2_q (d : Nat) (v1 : Int32) (v2 : Int32) (v3 : Int32) (v4 : Int32) (A : zA) (L : zL) : zD_weighAllEnds_2 d v1 v2 v3 v4 A L = if v1 ≤ v4 then zD_weighAllEnds_5 d v1 v2 v3 A L else if (4 : Int32) ≤ v4 then zD_weighAllEnds_5 d v1 v2 v3 A L else if v2 = (64 : Int32) then zD_weighAllEnds_4 d v1 v2 v3 v4 (-(A 1 4)) A L else zD_weighAllEnds_3 d v1 v2 v3 v4 A L := (zrun_q zT d (M := zt_X2_weighAllEnds) (bk := zb_X2_weighAllEnds_2) rfl rfl _ _ _ _).trans rfl
set_option maxRecDepth 20000 in
theorem zD_deedAt_2_q (d : Nat) (v1 : Int32) (v2 : Int32) (v3 : Int32) (v4 : Int32) (A : zA) (L : zL) : zD_deedAt_2 d v1 v2 v3 v4 A L = if v4 = (5 : Int32) then zD_deedAt_3 d v2 A L else if v4 = (1 : Int32) then zD_deedAt_3 d v2 A L else zD_deedAt_4 d v1 v2 v3 v4 A L := (zrun_q zT d (M := zt_X2_deedAt) (bk := zb_X2_deedAt_2) rfl rfl _ _ _ _).trans rfl
set_option maxRecDepth 20000 in
theorem zX_endCount_q (d : Nat) (v0 : Int32) (A : zA) (L : zL) : zX_endCount d v0 A L = some (some (.int (zshr v0 (7 : Int32))), A, L) := (zrun_q zT d (M := zt_X9_endCount) (bk := zb_X9_endCount_0) rfl rfl _ _ _ _).trans rfl
set_option maxRecDepth 20000 in
theorem zD_endFrom_1_q (d : Nat) (v1 : Int32) (A : zA) (L : zL) : zD_endFrom_1 (d + 1) v1 A L = zbi (zW_endByItself d v1 A L) (fun r1 A1 L1 => some (some (.int r1), A1, L1)) := (zrun_q zT (d + 1) (M := zt_X2_endFrom) (bk := zb_X2_endFrom_1) rfl rfl _ _ _ _).trans rfl
set_option maxRecDepth 20000 in
theorem zD_endFrom_2_q (d : Nat) (v1 : Int32) (A : zA) (L : zL) : zD_endFrom_2 (d + 1) v1 A L = zck v1 4096 (if (zushr (A 52 (v1).toNatClampNeg) (11 : Int32)) = (A 51 4) then zD_endFrom_5 (d + 1) v1 A L else zbi (zD_deedAt d v1 A L) (fun r1 A1 L1 => if r1 = (-9 : Int32) then zbi (zW_endByItself d v1 A1 L1) (fun r2 A2 L2 => zD_endFrom_4 (d + 1) v1 r2 A2 L2) else zD_endFrom_3 (d + 1) v1 r1 A1 L1)) := (zrun_q zT (d + 1) (M := zt_X2_endFrom) (bk := zb_X2_endFrom_2) rfl rfl _ _ _ _).trans rfl
set_option maxRecDepth 20000 in
theorem zX_endOf_1_q (d : Nat) (v2 : Int32) (s0 : Int32) (A : zA) (L : zL) : zX_endOf_1 d v2 s0 A L = zX_endOf_2 d v2 s0 (0 : Int32) A L := (zrun_q zT d (M := zt_X9_endOf) (bk := zb_X9_endOf_1) rfl rfl _ _ _ _).trans rfl
set_option maxRecDepth 20000 in
theorem zX_endOf_2_q (d : Nat) (v2 : Int32) (s0 : Int32) (s1 : Int32) (A : zA) (L : zL) : zX_endOf_2 d v2 s0 s1 A L = some (some (.int ((s0 ||| s1) ||| v2)), A, L) := (zrun_q zT d (M := zt_X9_endOf) (bk := zb_X9_endOf_2) rfl rfl _ _ _ _).trans rfl
set_option maxRecDepth 20000 in
theorem zD_worthAt_1_q (d : Nat) (A : zA) (L : zL) : zD_worthAt_1 d A L = zD_worthAt_2 d (0 : Int32) A L := (zrun_q zT d (M := zt_X2_worthAt) (bk := zb_X2_worthAt_1) rfl rfl _ _ _ _).trans rfl
set_option maxRecDepth 20000 in
theorem zD_worthAt_2_q (d : Nat) (s0 : Int32) (A : zA) (L : zL) : zD_worthAt_2 d s0 A L = some (some (.int s0), A, L) := (zrun_q zT d (M := zt_X2_worthAt) (bk := zb_X2_worthAt_2) rfl rfl _ _ _ _).trans rfl
set_option maxRecDepth 20000 in
theorem zO_ensuresFrom_1_q (d : Nat) (v1 : Int32) (v2 : Int32) (v3 : Int32) (A : zA) (L : zL) : zO_ensuresFrom_1 (d + 1) v1 v2 v3 A L = if v3 < v2 then zO_ensuresFrom_2 (d + 1) v1 v2 A L else zbv (zO_fillSets d v3 A L) (fun A1 L1 => zO_ensuresFrom_1 (d + 1) v1 v2 (v3 + (-1)) A1 L1) := (zrun_q zT (d + 1) (M := zt_X4_ensuresFrom) (bk := zb_X4_ensuresFrom_1) rfl rfl _ _ _ _).trans rfl
set_option maxRecDepth 20000 in
theorem zJM_max_1_q (d : Nat) (v1 : Int32) (A : zA) (L : zL) : zJM_max_1 d v1 A L = zJM_max_2 d v1 A L := (zrun_q zT d (M := zt_J9_max_7cf53) (bk := zb_J9_max_7cf53_1) rfl rfl _ _ _ _).trans rfl
set_option maxRecDepth 20000 in
theorem zJM_max_2_q (d : Nat) (s0 : Int32) (A : zA) (L : zL) : zJM_max_2 d s0 A L = some (some (.int s0), A, L) := (zrun_q zT d (M := zt_J9_max_7cf53) (bk := zb_J9_max_7cf53_2) rfl rfl _ _ _ _).trans rfl
set_option maxRecDepth 20000 in
theorem zO_mostWords_3_q (d : Nat) (v2 : Int32) (v3 : Int32) (A : zA) (L : zL) : zO_mostWords_3 (d + 1) v2 v3 A L = zbi (zX_rowOf d v3 A L) (fun r1 A1 L1 => zbi (zX_stateAt d v2 A1 L1) (fun r2 A2 L2 => zck (r1 + r2) 16 (some (some (.int (A2 58 ((r1 + r2)).toNatClampNeg)), A2, L2)))) := (zrun_q zT (d + 1) (M := zt_X4_mostWords) (bk := zb_X4_mostWords_3) rfl rfl _ _ _ _).trans rfl
set_option maxRecDepth 20000 in
theorem zO_fillLengths_q (d : Nat) (v1 : Int32) (A : zA) (L : zL) : zO_fillLengths (d + 1) v1 A L = zbi (zX_rowOf d v1 A L) (fun r1 A1 L1 => zbi (zX_rowOf d (v1 + (1 : Int32)) A1 L1) (fun r2 A2 L2 => zbi (zP_atTurn d v1 A2 L2) (fun r3 A3 L3 => if r3 = (A3 56 4) then zO_fillLengths_2 (d + 1) v1 r1 r2 (1 : Int32) A3 L3 else zO_fillLengths_1 (d + 1) v1 r1 r2 A3 L3))) := (zrun_q zT (d + 1) (M := zt_X4_fillLengths) (bk := zb_X4_fillLengths_0) rfl rfl _ _ _ _).trans rfl
set_option maxRecDepth 20000 in
theorem zJM_floorDiv_1_q (d : Nat) (v2 : Int32) (A : zA) (L : zL) : zJM_floorDiv_1 d v2 A L = some (some (.int v2), A, L) := (zrun_q zT d (M := zt_J9_floorDiv_7cf53) (bk := zb_J9_floorDiv_7cf53_1) rfl rfl _ _ _ _).trans rfl
set_option maxRecDepth 20000 in
theorem zO_meaningsWorth_1_q (d : Nat) (v1 : Int32) (v2 : Int32) (v3 : Int64) (v5 : Int32) (A : zA) (L : zL) : zO_meaningsWorth_1 (d + 1) v1 v2 v3 v5 A L = if (64 : Int32) ≤ v5 then zO_meaningsWorth_3 (d + 1) v3 A L else zbi (zX_endOf d (0 : Int32) (0 : Int32) v5 A L) (fun r1 A1 L1 => zbi (zD_worthOfEnd d v1 r1 A1 L1) (fun r2 A2 L2 => if r2 < v2 then zO_meaningsWorth_2 (d + 1) v1 v2 v3 v5 A2 L2 else zO_meaningsWorth_2 (d + 1) v1 v2 (v3 ||| (zlshl (1 : Int64) v5)) v5 A2 L2)) := (zrun_q zT (d + 1) (M := zt_X4_meaningsWorth) (bk := zb_X4_meaningsWorth_1) rfl rfl _ _ _ _).trans rfl
set_option maxRecDepth 20000 in
theorem zO_surestWorth_4_q (d : Nat) (v1 : Int32) (v2 : Int32) (v4 : Int32) (v5 : Int32) (A : zA) (L : zL) : zO_surestWorth_4 d v1 v2 v4 v5 A L = zO_surestWorth_5 d v1 v2 (v5 - (1 : Int32)) v4 A L := (zrun_q zT d (M := zt_X4_surestWorth) (bk := zb_X4_surestWorth_4) rfl rfl _ _ _ _).trans rfl
set_option maxRecDepth 20000 in
theorem zO_surestWorth_5_q (d : Nat) (v1 : Int32) (v2 : Int32) (v3 : Int32) (v4 : Int32) (A : zA) (L : zL) : zO_surestWorth_5 d v1 v2 v3 v4 A L = zO_surestWorth_1 d v1 v2 v3 (v4 + 1) A L := (zrun_q zT d (M := zt_X4_surestWorth) (bk := zb_X4_surestWorth_5) rfl rfl _ _ _ _).trans rfl
set_option maxRecDepth 20000 in
theorem zX_bitInRow_1_q (d : Nat) (v0 : Int64) (v3 : Int32) (v4 : Int32) (A : zA) (L : zL) : zX_bitInRow_1 d v0 v3 v4 A L = if (64 : Int32) ≤ v4 then zX_bitInRow_4 d A L else if (lg_cmp ((zlushr v0 v4) &&& (1 : Int64)) (0 : Int64)) = 0 then zX_bitInRow_3 d v0 v3 v4 A L else if v3 = 0 then some (some (.int v4), A, L) else zX_bitInRow_2 d v0 v3 v4 A L := (zrun_q zT d (M := zt_X9_bitInRow) (bk := zb_X9_bitInRow_1) rfl rfl _ _ _ _).trans rfl
set_option maxRecDepth 20000 in
theorem zH_look_3_q (d : Nat) (v1 : Int32) (v2 : Int32) (A : zA) (L : zL) : zH_look_3 (d + 1) v1 v2 A L = zbi (zX_rowOf d v2 A L) (fun r1 A1 L1 => zbi (zX_stateAt d v1 A1 L1) (fun r2 A2 L2 => zbi (zX_meaningAt d v1 A2 L2) (fun r3 A3 L3 => zck (r1 + r2) 16 (zbi (zJM_max d v2 (A3 1 3) A3 (zputL L3 60 ((r1 + r2)).toNatClampNeg (zlshl (1 : Int64) r3))) (fun r4 A4 L4 => zH_look_4 (d + 1) r4 v2 A4 L4))))) := (zrun_q zT (d + 1) (M := zt_X5_look) (bk := zb_X5_look_3) rfl rfl _ _ _ _).trans rfl
set_option maxRecDepth 20000 in
theorem zP_turnByOne_1_q (d : Nat) (v1 : Int32) (v2 : Int32) (A : zA) (L : zL) : zP_turnByOne_1 d v1 v2 A L = if (A 9 4) ≤ v2 then zP_turnByOne_2 d v1 A L else if (4 : Int32) ≤ v2 then zP_turnByOne_2 d v1 A L else zck v2 4 (zck (v2 - (1 : Int32)) 4 (zP_turnByOne_1 d v1 (v2 + 1) (zput A 13 ((v2 - (1 : Int32))).toNatClampNeg (A 13 (v2).toNatClampNeg)) L)) := (zrun_q zT d (M := zt_X3_turnByOne) (bk := zb_X3_turnByOne_1) rfl rfl _ _ _ _).trans rfl
set_option maxRecDepth 20000 in
theorem zB_digitsOf_1_q (d : Nat) (v1 : Int32) (v2 : Int32) (v3 : Int32) (A : zA) (L : zL) : zB_digitsOf_1 d v1 v2 v3 A L = if (A 9 4) ≤ v3 then zB_digitsOf_2 d v2 A L else zB_digitsOf_1 d v1 ((v2 * (10 : Int32)) + ((zshr v1 ((2 : Int32) * v3)) &&& (3 : Int32))) (v3 + 1) A L := (zrun_q zT d (M := zt_X0_digitsOf) (bk := zb_X0_digitsOf_1) rfl rfl _ _ _ _).trans rfl
set_option maxRecDepth 20000 in
theorem zB_gainOfSight_4_q (d : Nat) (v2 : Int32) (v3 : Int32) (v4 : Int32) (v5 : Int32) (A : zA) (L : zL) : zB_gainOfSight_4 (d + 1) v2 v3 v4 v5 A L = if (A 9 4) ≤ v5 then zB_gainOfSight_6 (d + 1) v2 v4 A L else if ((zshr v3 v5) &&& (1 : Int32)) = 0 then zB_gainOfSight_5 (d + 1) v2 v3 v4 v5 A L else zbv (zP_putKind d v5 (4 : Int32) A L) (fun A1 L1 => zB_gainOfSight_5 (d + 1) v2 v3 v4 v5 A1 L1) := (zrun_q zT (d + 1) (M := zt_X0_gainOfSight) (bk := zb_X0_gainOfSight_4) rfl rfl _ _ _ _).trans rfl
set_option maxRecDepth 20000 in
theorem zO_fewestRules_4_q (d : Nat) (A : zA) (L : zL) : zO_fewestRules_4 d A L = zO_fewestRules_5 d (1 : Int32) A L := (zrun_q zT d (M := zt_X4_fewestRules) (bk := zb_X4_fewestRules_4) rfl rfl _ _ _ _).trans rfl
set_option maxRecDepth 20000 in
theorem zO_fewestRules_3_q (d : Nat) (v3 : Int32) (A : zA) (L : zL) : zO_fewestRules_3 d v3 A L = zO_fewestRules_2 d (v3 + 1) A L := (zrun_q zT d (M := zt_X4_fewestRules) (bk := zb_X4_fewestRules_3) rfl rfl _ _ _ _).trans rfl
set_option maxRecDepth 20000 in
theorem zD_fits_1_q (d : Nat) (v1 : Int32) (v2 : Int32) (A : zA) (L : zL) : zD_fits_1 (d + 1) v1 v2 A L = if (A 14 2) ≤ v2 then zD_fits_3 (d + 1) v1 A L else zbi (zP_atTurn d v2 A L) (fun r1 A1 L1 => if r1 = v1 then zbi (zT_spotBefore d v2 A1 L1) (fun r2 A2 L2 => zbi (zD_deedAt d r2 A2 L2) (fun r3 A3 L3 => zbi (zT_wordAt d v2 A3 L3) (fun r4 A4 L4 => if r3 = r4 then zD_fits_2 (d + 1) v1 v2 A4 L4 else zcb (0 : Int32) (some (some (.int (0 : Int32)), A4, L4))))) else zD_fits_2 (d + 1) v1 v2 A1 L1) := (zrun_q zT (d + 1) (M := zt_X2_fits) (bk := zb_X2_fits_1) rfl rfl _ _ _ _).trans rfl
set_option maxRecDepth 20000 in
theorem zB_sumOfTalks_1_q (d : Nat) (v1 : Int32) (v2 : Int32) (v4 : Int32) (v5 : Int32) (A : zA) (L : zL) : zB_sumOfTalks_1 (d + 1) v1 v2 v4 v5 A L = if v2 ≤ v5 then zB_sumOfTalks_2 (d + 1) v4 A L else zbi (zB_endBySeed d A L) (fun r1 A1 L1 => zbi (zD_worthOfEnd d v1 r1 A1 L1) (fun r2 A2 L2 => zB_sumOfTalks_1 (d + 1) v1 v2 (v4 + r2) (v5 + 1) A2 L2)) := (zrun_q zT (d + 1) (M := zt_X0_sumOfTalks) (bk := zb_X0_sumOfTalks_1) rfl rfl _ _ _ _).trans rfl
set_option maxRecDepth 20000 in
theorem zR_take_1_q (d : Nat) (A : zA) (L : zL) : zR_take_1 d A L = zcb (0 : Int32) (some (some (.int (0 : Int32)), A, L)) := (zrun_q zT d (M := zt_X6_take) (bk := zb_X6_take_1) rfl rfl _ _ _ _).trans rfl
set_option maxRecDepth 20000 in
theorem zR_take_2_q (d : Nat) (A : zA) (L : zL) : zR_take_2 d A L = zcb (1 : Int32) (some (some (.int (1 : Int32)), (zput A 33 3 ((A 33 3) + (1 : Int32))), L)) := (zrun_q zT d (M := zt_X6_take) (bk := zb_X6_take_2) rfl rfl _ _ _ _).trans rfl
set_option maxRecDepth 20000 in
theorem zR_isStatement_4_q (d : Nat) (A : zA) (L : zL) : zR_isStatement_4 (d + 1) A L = zbi (zR_take d (48 : Int32) (57 : Int32) A L) (fun r1 A1 L1 => if r1 = 0 then zR_isStatement_5 (d + 1) A1 L1 else zbi (zR_take d (59 : Int32) (59 : Int32) A1 L1) (fun r2 A2 L2 => if r2 = 0 then zR_isStatement_5 (d + 1) A2 L2 else zR_isStatement_6 (d + 1) (1 : Int32) A2 L2)) := (zrun_q zT (d + 1) (M := zt_X6_isStatement) (bk := zb_X6_isStatement_4) rfl rfl _ _ _ _).trans rfl
set_option maxRecDepth 20000 in
theorem zR_isStatement_7_q (d : Nat) (A : zA) (L : zL) : zR_isStatement_7 (d + 1) A L = zbi (zR_take d (112 : Int32) (112 : Int32) A L) (fun r1 A1 L1 => if r1 = 0 then zR_isStatement_10 (d + 1) A1 L1 else zbi (zR_take d (48 : Int32) (57 : Int32) A1 L1) (fun r2 A2 L2 => if r2 = 0 then zR_isStatement_8 (d + 1) A2 L2 else zbi (zR_isEndOfPerson d A2 L2) (fun r3 A3 L3 => if r3 = 0 then zR_isStatement_8 (d + 1) A3 L3 else zR_isStatement_9 (d + 1) (1 : Int32) A3 L3))) := (zrun_q zT (d + 1) (M := zt_X6_isStatement) (bk := zb_X6_isStatement_7) rfl rfl _ _ _ _).trans rfl
set_option maxRecDepth 20000 in
theorem zR_letter_1_q (d : Nat) (A : zA) (L : zL) : zR_letter_1 d A L = zR_letter_2 d (0 : Int32) A L := (zrun_q zT d (M := zt_X6_letter) (bk := zb_X6_letter_1) rfl rfl _ _ _ _).trans rfl
set_option maxRecDepth 20000 in
theorem zR_letter_2_q (d : Nat) (s0 : Int32) (A : zA) (L : zL) : zR_letter_2 d s0 A L = some (some (.int s0), A, L) := (zrun_q zT d (M := zt_X6_letter) (bk := zb_X6_letter_2) rfl rfl _ _ _ _).trans rfl
set_option maxRecDepth 20000 in
theorem zR_applies_2_q (d : Nat) (v2 : Int32) (A : zA) (L : zL) : zR_applies_2 (d + 1) v2 A L = zbi (zGt_addEnd d v2 A L) (fun r1 A1 L1 => zcb r1 (some (some (.int r1), A1, L1))) := (zrun_q zT (d + 1) (M := zt_X6_applies) (bk := zb_X6_applies_2) rfl rfl _ _ _ _).trans rfl
set_option maxRecDepth 20000 in
theorem zR_applies_3_q (d : Nat) (v1 : Int32) (v2 : Int32) (A : zA) (L : zL) : zR_applies_3 (d + 1) v1 v2 A L = zbi (zR_wordsFrom d (v1 + (2 : Int32)) A L) (fun r1 A1 L1 => zbi (zPt_add d v2 r1 A1 L1) (fun r2 A2 L2 => zcb r2 (some (some (.int r2), A2, L2)))) := (zrun_q zT (d + 1) (M := zt_X6_applies) (bk := zb_X6_applies_3) rfl rfl _ _ _ _).trans rfl
set_option maxRecDepth 20000 in
theorem zR_applies_1_q (d : Nat) (v1 : Int32) (v2 : Int32) (A : zA) (L : zL) : zR_applies_1 (d + 1) v1 v2 A L = zbi (zR_letter d (v1 + (2 : Int32)) A L) (fun r1 A1 L1 => zbi (zR_letter d (v1 + (3 : Int32)) A1 L1) (fun r2 A2 L2 => zbi (zR_markAt d (v1 + (4 : Int32)) A2 L2) (fun r3 A3 L3 => zbi (zGt_addRule d v2 (r1 - (97 : Int32)) (r2 - (48 : Int32)) r3 A3 L3) (fun r4 A4 L4 => zcb r4 (some (some (.int r4), A4, L4)))))) := (zrun_q zT (d + 1) (M := zt_X6_applies) (bk := zb_X6_applies_1) rfl rfl _ _ _ _).trans rfl
set_option maxRecDepth 20000 in
theorem zR_applies_4_q (d : Nat) (v1 : Int32) (v2 : Int32) (A : zA) (L : zL) : zR_applies_4 (d + 1) v1 v2 A L = zbi (zR_letter d (v1 + (2 : Int32)) A L) (fun r1 A1 L1 => zbi (zR_signedDigitAt d (v1 + (3 : Int32)) A1 L1) (fun r2 A2 L2 => zbi (zPt_putWorth d v2 (r1 - (65 : Int32)) r2 A2 L2) (fun r3 A3 L3 => zcb r3 (some (some (.int r3), A3, L3))))) := (zrun_q zT (d + 1) (M := zt_X6_applies) (bk := zb_X6_applies_4) rfl rfl _ _ _ _).trans rfl
set_option maxRecDepth 20000 in
theorem zR_applies_5_q (d : Nat) (v2 : Int32) (A : zA) (L : zL) : zR_applies_5 (d + 1) v2 A L = zbi (zWt_putLength d v2 A L) (fun r1 A1 L1 => zcb r1 (some (some (.int r1), A1, L1))) := (zrun_q zT (d + 1) (M := zt_X6_applies) (bk := zb_X6_applies_5) rfl rfl _ _ _ _).trans rfl
set_option maxRecDepth 20000 in
theorem zX_set_8_q (d : Nat) (v1 : Int32) (v2 : Int32) (A : zA) (L : zL) : zX_set_8 d v1 v2 A L = zX_set_9 d v1 v2 (A 1 4) A L := (zrun_q zT d (M := zt_X9_set) (bk := zb_X9_set_8) rfl rfl _ _ _ _).trans rfl
set_option maxRecDepth 20000 in
theorem zX_set_9_q (d : Nat) (v1 : Int32) (v2 : Int32) (s0 : Int32) (A : zA) (L : zL) : zX_set_9 d v1 v2 s0 A L = if v1 = 0 then zX_set_11 d s0 (zput A 1 3 v2) L else zX_set_10 d v2 s0 A L := (zrun_q zT d (M := zt_X9_set) (bk := zb_X9_set_9) rfl rfl _ _ _ _).trans rfl
set_option maxRecDepth 20000 in
theorem zG_spotBehind_1_q (d : Nat) (v1 : Int32) (v3 : Int32) (A : zA) (L : zL) : zG_spotBehind_1 d v1 v3 A L = zG_spotBehind_2 d v1 v3 (-9 : Int32) A L := (zrun_q zT d (M := zt_X1_spotBehind) (bk := zb_X1_spotBehind_1) rfl rfl _ _ _ _).trans rfl
set_option maxRecDepth 20000 in
theorem zG_spotBehind_2_q (d : Nat) (v1 : Int32) (v3 : Int32) (s0 : Int32) (A : zA) (L : zL) : zG_spotBehind_2 d v1 v3 s0 A L = if s0 < 0 then zG_spotBehind_3 d v1 v3 A L else if s0 < (24 : Int32) then zG_spotBehind_4 d v1 s0 A L else zG_spotBehind_3 d v1 v3 A L := (zrun_q zT d (M := zt_X1_spotBehind) (bk := zb_X1_spotBehind_2) rfl rfl _ _ _ _).trans rfl
set_option maxRecDepth 20000 in
theorem zP_atTurn_1_q (d : Nat) (A : zA) (L : zL) : zP_atTurn_1 d A L = some (some (.int (-9 : Int32)), A, L) := (zrun_q zT d (M := zt_X3_atTurn) (bk := zb_X3_atTurn_1) rfl rfl _ _ _ _).trans rfl
set_option maxRecDepth 20000 in
theorem zP_atTurn_2_q (d : Nat) (v1 : Int32) (A : zA) (L : zL) : zP_atTurn_2 d v1 A L = zcd (A 9 4) (if (4 : Int32) ≤ (zrem v1 (A 9 4)) then zP_atTurn_3 d A L else zck (zrem v1 (A 9 4)) 4 (zP_atTurn_4 d (A 13 ((zrem v1 (A 9 4))).toNatClampNeg) A L)) := (zrun_q zT d (M := zt_X3_atTurn) (bk := zb_X3_atTurn_2) rfl rfl _ _ _ _).trans rfl
set_option maxRecDepth 20000 in
theorem zD_weighAllEnds_5_q (d : Nat) (v1 : Int32) (v2 : Int32) (v3 : Int32) (A : zA) (L : zL) : zD_weighAllEnds_5 d v1 v2 v3 A L = zck ((260 : Int32) + v2) 325 (zD_weighAllEnds_1 d v1 (v2 + 1) (zput A 54 (((260 : Int32) + v2)).toNatClampNeg v3) L) := (zrun_q zT d (M := zt_X2_weighAllEnds) (bk := zb_X2_weighAllEnds_5) rfl rfl _ _ _ _).trans rfl
set_option maxRecDepth 20000 in
theorem zD_weighAllEnds_3_q (d : Nat) (v1 : Int32) (v2 : Int32) (v3 : Int32) (v4 : Int32) (A : zA) (L : zL) : zD_weighAllEnds_3 (d + 1) v1 v2 v3 v4 A L = zbi (zD_weighMeaning d v4 v2 A L) (fun r1 A1 L1 => zD_weighAllEnds_4 (d + 1) v1 v2 v3 v4 r1 A1 L1) := (zrun_q zT (d + 1) (M := zt_X2_weighAllEnds) (bk := zb_X2_weighAllEnds_3) rfl rfl _ _ _ _).trans rfl
set_option maxRecDepth 20000 in
theorem zD_weighAllEnds_4_q (d : Nat) (v1 : Int32) (v2 : Int32) (v3 : Int32) (v4 : Int32) (s0 : Int32) (A : zA) (L : zL) : zD_weighAllEnds_4 d v1 v2 v3 v4 s0 A L = zck ((v4 * (65 : Int32)) + v2) 325 (zD_weighAllEnds_2 d v1 v2 (v3 + s0) (v4 + 1) (zput A 54 (((v4 * (65 : Int32)) + v2)).toNatClampNeg s0) L) := (zrun_q zT d (M := zt_X2_weighAllEnds) (bk := zb_X2_weighAllEnds_4) rfl rfl _ _ _ _).trans rfl
set_option maxRecDepth 20000 in
theorem zD_deedAt_3_q (d : Nat) (v2 : Int32) (A : zA) (L : zL) : zD_deedAt_3 (d + 1) v2 A L = zbi (zD_leastOf d v2 A L) (fun r1 A1 L1 => some (some (.int r1), A1, L1)) := (zrun_q zT (d + 1) (M := zt_X2_deedAt) (bk := zb_X2_deedAt_3) rfl rfl _ _ _ _).trans rfl
set_option maxRecDepth 20000 in
theorem zD_deedAt_4_q (d : Nat) (v1 : Int32) (v2 : Int32) (v3 : Int32) (v4 : Int32) (A : zA) (L : zL) : zD_deedAt_4 (d + 1) v1 v2 v3 v4 A L = zbi (zD_bestDeed d v1 v2 v3 v4 A L) (fun r1 A1 L1 => some (some (.int r1), A1, L1)) := (zrun_q zT (d + 1) (M := zt_X2_deedAt) (bk := zb_X2_deedAt_4) rfl rfl _ _ _ _).trans rfl
set_option maxRecDepth 20000 in
theorem zW_endByItself_q (d : Nat) (v1 : Int32) (A : zA) (L : zL) : zW_endByItself (d + 1) v1 A L = zbi (zX_countAt d v1 A L) (fun r1 A1 L1 => zbi (zX_stateAt d v1 A1 L1) (fun r2 A2 L2 => zbi (zG_isEnd d r2 A2 L2) (fun r3 A3 L3 => if r3 = 0 then zW_endByItself_2 (d + 1) v1 r1 (1 : Int32) A3 L3 else zW_endByItself_1 (d + 1) v1 r1 A3 L3))) := (zrun_q zT (d + 1) (M := zt_X8_endByItself) (bk := zb_X8_endByItself_0) rfl rfl _ _ _ _).trans rfl
set_option maxRecDepth 20000 in
theorem zD_endFrom_5_q (d : Nat) (v1 : Int32) (A : zA) (L : zL) : zD_endFrom_5 d v1 A L = zck v1 4096 (some (some (.int ((A 52 (v1).toNatClampNeg) &&& (2047 : Int32))), A, L)) := (zrun_q zT d (M := zt_X2_endFrom) (bk := zb_X2_endFrom_5) rfl rfl _ _ _ _).trans rfl
set_option maxRecDepth 20000 in
theorem zD_endFrom_3_q (d : Nat) (v1 : Int32) (v2 : Int32) (A : zA) (L : zL) : zD_endFrom_3 (d + 1) v1 v2 A L = zbi (zD_endAfter d v1 v2 A L) (fun r1 A1 L1 => zD_endFrom_4 (d + 1) v1 r1 A1 L1) := (zrun_q zT (d + 1) (M := zt_X2_endFrom) (bk := zb_X2_endFrom_3) rfl rfl _ _ _ _).trans rfl
set_option maxRecDepth 20000 in
theorem zD_endFrom_4_q (d : Nat) (v1 : Int32) (s0 : Int32) (A : zA) (L : zL) : zD_endFrom_4 d v1 s0 A L = zck v1 4096 (zD_endFrom_5 d v1 (zput A 52 (v1).toNatClampNeg ((zshl (A 51 4) (11 : Int32)) ||| s0)) L) := (zrun_q zT d (M := zt_X2_endFrom) (bk := zb_X2_endFrom_4) rfl rfl _ _ _ _).trans rfl
set_option maxRecDepth 20000 in
theorem zO_ensuresFrom_2_q (d : Nat) (v1 : Int32) (v2 : Int32) (A : zA) (L : zL) : zO_ensuresFrom_2 (d + 1) v1 v2 A L = zbi (zX_rowOf d v2 A L) (fun r1 A1 L1 => zbi (zX_stateAt d v1 A1 L1) (fun r2 A2 L2 => zck (r1 + r2) 16 (zbi (zX_meaningAt d v1 A2 L2) (fun r3 A3 L3 => if (lg_cmp ((zlushr (L2 57 ((r1 + r2)).toNatClampNeg) r3) &&& (1 : Int64)) (0 : Int64)) = 0 then zO_ensuresFrom_3 (d + 1) A3 L3 else zO_ensuresFrom_4 (d + 1) (1 : Int32) A3 L3)))) := (zrun_q zT (d + 1) (M := zt_X4_ensuresFrom) (bk := zb_X4_ensuresFrom_2) rfl rfl _ _ _ _).trans rfl
set_option maxRecDepth 20000 in
theorem zO_fillSets_q (d : Nat) (v1 : Int32) (A : zA) (L : zL) : zO_fillSets (d + 1) v1 A L = zbi (zX_rowOf d v1 A L) (fun r1 A1 L1 => zbi (zX_rowOf d (v1 + (1 : Int32)) A1 L1) (fun r2 A2 L2 => zbi (zP_atTurn d v1 A2 L2) (fun r3 A3 L3 => if r3 = (A3 56 4) then zO_fillSets_2 (d + 1) v1 r1 r2 (1 : Int32) A3 L3 else zO_fillSets_1 (d + 1) v1 r1 r2 A3 L3))) := (zrun_q zT (d + 1) (M := zt_X4_fillSets) (bk := zb_X4_fillSets_0) rfl rfl _ _ _ _).trans rfl
set_option maxRecDepth 20000 in
theorem zX_rowOf_q (d : Nat) (v0 : Int32) (A : zA) (L : zL) : zX_rowOf d v0 A L = some (some (.int ((v0 &&& (1 : Int32)) * (8 : Int32))), A, L) := (zrun_q zT d (M := zt_X9_rowOf) (bk := zb_X9_rowOf_0) rfl rfl _ _ _ _).trans rfl
set_option maxRecDepth 20000 in
theorem zO_fillLengths_1_q (d : Nat) (v1 : Int32) (v2 : Int32) (v3 : Int32) (A : zA) (L : zL) : zO_fillLengths_1 d v1 v2 v3 A L = zO_fillLengths_2 d v1 v2 v3 (0 : Int32) A L := (zrun_q zT d (M := zt_X4_fillLengths) (bk := zb_X4_fillLengths_1) rfl rfl _ _ _ _).trans rfl
set_option maxRecDepth 20000 in
theorem zO_fillLengths_2_q (d : Nat) (v1 : Int32) (v2 : Int32) (v3 : Int32) (s0 : Int32) (A : zA) (L : zL) : zO_fillLengths_2 d v1 v2 v3 s0 A L = zO_fillLengths_3 d v1 v2 v3 s0 (0 : Int32) A L := (zrun_q zT d (M := zt_X4_fillLengths) (bk := zb_X4_fillLengths_2) rfl rfl _ _ _ _).trans rfl
set_option maxRecDepth 20000 in
theorem zO_meaningsWorth_3_q (d : Nat) (v3 : Int64) (A : zA) (L : zL) : zO_meaningsWorth_3 d v3 A L = some (some (.long v3), A, L) := (zrun_q zT d (M := zt_X4_meaningsWorth) (bk := zb_X4_meaningsWorth_3) rfl rfl _ _ _ _).trans rfl
set_option maxRecDepth 20000 in
theorem zO_meaningsWorth_2_q (d : Nat) (v1 : Int32) (v2 : Int32) (v3 : Int64) (v5 : Int32) (A : zA) (L : zL) : zO_meaningsWorth_2 d v1 v2 v3 v5 A L = zO_meaningsWorth_1 d v1 v2 v3 (v5 + 1) A L := (zrun_q zT d (M := zt_X4_meaningsWorth) (bk := zb_X4_meaningsWorth_2) rfl rfl _ _ _ _).trans rfl
set_option maxRecDepth 20000 in
theorem zX_bitInRow_4_q (d : Nat) (A : zA) (L : zL) : zX_bitInRow_4 d A L = some (some (.int (-9 : Int32)), A, L) := (zrun_q zT d (M := zt_X9_bitInRow) (bk := zb_X9_bitInRow_4) rfl rfl _ _ _ _).trans rfl
set_option maxRecDepth 20000 in
theorem zX_bitInRow_3_q (d : Nat) (v0 : Int64) (v3 : Int32) (v4 : Int32) (A : zA) (L : zL) : zX_bitInRow_3 d v0 v3 v4 A L = zX_bitInRow_1 d v0 v3 (v4 + 1) A L := (zrun_q zT d (M := zt_X9_bitInRow) (bk := zb_X9_bitInRow_3) rfl rfl _ _ _ _).trans rfl
set_option maxRecDepth 20000 in
theorem zX_bitInRow_2_q (d : Nat) (v0 : Int64) (v3 : Int32) (v4 : Int32) (A : zA) (L : zL) : zX_bitInRow_2 d v0 v3 v4 A L = zX_bitInRow_3 d v0 (v3 + (-1)) v4 A L := (zrun_q zT d (M := zt_X9_bitInRow) (bk := zb_X9_bitInRow_2) rfl rfl _ _ _ _).trans rfl
set_option maxRecDepth 20000 in
theorem zH_look_4_q (d : Nat) (v3 : Int32) (v4 : Int32) (A : zA) (L : zL) : zH_look_4 (d + 1) v3 v4 A L = if v3 < v4 then zH_look_5 (d + 1) A L else zbv (zH_goOn d v4 A L) (fun A1 L1 => zH_look_4 (d + 1) v3 (v4 + 1) A1 L1) := (zrun_q zT (d + 1) (M := zt_X5_look) (bk := zb_X5_look_4) rfl rfl _ _ _ _).trans rfl
set_option maxRecDepth 20000 in
theorem zP_turnByOne_2_q (d : Nat) (v1 : Int32) (A : zA) (L : zL) : zP_turnByOne_2 d v1 A L = if (A 9 4) ≤ 0 then zP_turnByOne_3 d A L else if (4 : Int32) < (A 9 4) then zP_turnByOne_3 d A L else zck ((A 9 4) - (1 : Int32)) 4 (zP_turnByOne_3 d (zput A 13 (((A 9 4) - (1 : Int32))).toNatClampNeg v1) L) := (zrun_q zT d (M := zt_X3_turnByOne) (bk := zb_X3_turnByOne_2) rfl rfl _ _ _ _).trans rfl
set_option maxRecDepth 20000 in
theorem zB_digitsOf_2_q (d : Nat) (v2 : Int32) (A : zA) (L : zL) : zB_digitsOf_2 d v2 A L = some (some (.int v2), A, L) := (zrun_q zT d (M := zt_X0_digitsOf) (bk := zb_X0_digitsOf_2) rfl rfl _ _ _ _).trans rfl
set_option maxRecDepth 20000 in
theorem zB_gainOfSight_6_q (d : Nat) (v2 : Int32) (v4 : Int32) (A : zA) (L : zL) : zB_gainOfSight_6 d v2 v4 A L = some (some (.int (v4 - v2)), A, L) := (zrun_q zT d (M := zt_X0_gainOfSight) (bk := zb_X0_gainOfSight_6) rfl rfl _ _ _ _).trans rfl
set_option maxRecDepth 20000 in
theorem zB_gainOfSight_5_q (d : Nat) (v2 : Int32) (v3 : Int32) (v4 : Int32) (v5 : Int32) (A : zA) (L : zL) : zB_gainOfSight_5 d v2 v3 v4 v5 A L = zB_gainOfSight_4 d v2 v3 v4 (v5 + 1) A L := (zrun_q zT d (M := zt_X0_gainOfSight) (bk := zb_X0_gainOfSight_5) rfl rfl _ _ _ _).trans rfl
set_option maxRecDepth 20000 in
theorem zO_fewestRules_5_q (d : Nat) (v3 : Int32) (A : zA) (L : zL) : zO_fewestRules_5 d v3 A L = if (A 2 6) ≤ v3 then zO_fewestRules_9 d A L else zO_fewestRules_6 d v3 (0 : Int32) A L := (zrun_q zT d (M := zt_X4_fewestRules) (bk := zb_X4_fewestRules_5) rfl rfl _ _ _ _).trans rfl
set_option maxRecDepth 20000 in
theorem zD_fits_3_q (d : Nat) (v1 : Int32) (A : zA) (L : zL) : zD_fits_3 (d + 1) v1 A L = zbi (zT_spot d A L) (fun r1 A1 L1 => if (A1 14 3) = 0 then zD_fits_4 (d + 1) A1 L1 else zbi (zW_sayer d r1 A1 L1) (fun r2 A2 L2 => if r2 = v1 then zbi (zD_deedAt d r1 A2 L2) (fun r3 A3 L3 => if r3 = (8 : Int32) then zD_fits_4 (d + 1) A3 L3 else zD_fits_5 (d + 1) A3 L3) else zD_fits_4 (d + 1) A2 L2)) := (zrun_q zT (d + 1) (M := zt_X2_fits) (bk := zb_X2_fits_3) rfl rfl _ _ _ _).trans rfl
set_option maxRecDepth 20000 in
theorem zD_fits_2_q (d : Nat) (v1 : Int32) (v2 : Int32) (A : zA) (L : zL) : zD_fits_2 d v1 v2 A L = zD_fits_1 d v1 (v2 + 1) A L := (zrun_q zT d (M := zt_X2_fits) (bk := zb_X2_fits_2) rfl rfl _ _ _ _).trans rfl
set_option maxRecDepth 20000 in
theorem zT_wordAt_q (d : Nat) (v1 : Int32) (A : zA) (L : zL) : zT_wordAt d v1 A L = if v1 < 0 then zT_wordAt_1 d A L else if (8 : Int32) ≤ v1 then zT_wordAt_1 d A L else zck v1 8 (zT_wordAt_2 d (A 15 (v1).toNatClampNeg) A L) := (zrun_q zT d (M := zt_X7_wordAt) (bk := zb_X7_wordAt_0) rfl rfl _ _ _ _).trans rfl
set_option maxRecDepth 20000 in
theorem zB_sumOfTalks_2_q (d : Nat) (v4 : Int32) (A : zA) (L : zL) : zB_sumOfTalks_2 d v4 A L = some (some (.int v4), A, L) := (zrun_q zT d (M := zt_X0_sumOfTalks) (bk := zb_X0_sumOfTalks_2) rfl rfl _ _ _ _).trans rfl
