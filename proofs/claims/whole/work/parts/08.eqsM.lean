/-! a block is as it is written, by program -/
set_option maxRecDepth 20000 in
theorem zM_fillAll_1_q (d : Nat) (v1 : Int32) (A : zA) (L : zL) : zM_fillAll_1 (d + 1) v1 A L = if (A 63 12) ≤ v1 then zM_fillAll_3 (d + 1) A L else zck v1 4 (if (A 69 (v1).toNatClampNeg) = (4 : Int32) then zbv (zM_fillMind d v1 A L) (fun A1 L1 => zM_fillAll_2 (d + 1) v1 A1 L1) else zM_fillAll_2 (d + 1) v1 A L) := (zrun_q zT (d + 1) (M := zt_X10_fillAll) (bk := zb_X10_fillAll_1) rfl rfl _ _ _ _).trans rfl
set_option maxRecDepth 20000 in
theorem zM_choiceAt_q (d : Nat) (v1 : Int32) (v2 : Int32) (v3 : Int32) (A : zA) (L : zL) : zM_choiceAt (d + 1) v1 v2 v3 A L = zbi (zM_mayAt d v1 v2 A L) (fun r1 A1 L1 => if r1 = 0 then some (some (.int (-9 : Int32)), A1, L1) else zM_choiceAt_1 (d + 1) v1 v2 v3 r1 A1 L1) := (zrun_q zT (d + 1) (M := zt_X10_choiceAt) (bk := zb_X10_choiceAt_0) rfl rfl _ _ _ _).trans rfl
set_option maxRecDepth 20000 in
theorem zM_goes_3_q (d : Nat) (v1 : Int32) (A : zA) (L : zL) : zM_goes_3 d v1 A L = if v1 = (8 : Int32) then zM_goes_5 d v1 (zput A 63 18 (1 : Int32)) L else zM_goes_4 d v1 A L := (zrun_q zT d (M := zt_X10_goes) (bk := zb_X10_goes_3) rfl rfl _ _ _ _).trans rfl
set_option maxRecDepth 20000 in
theorem zM_ends_2_q (d : Nat) (v1 : Int32) (A : zA) (L : zL) : zM_ends_2 (d + 1) v1 A L = zbv (zM_fillAll d A L) (fun A1 L1 => if v1 = (2 : Int32) then if (A1 63 18) = (1 : Int32) then zM_ends_4 (d + 1) (A1 63 15) A1 L1 else zM_ends_3 (d + 1) A1 L1 else zM_ends_5 (d + 1) v1 A1 L1) := (zrun_q zT (d + 1) (M := zt_X10_ends) (bk := zb_X10_ends_2) rfl rfl _ _ _ _).trans rfl
set_option maxRecDepth 20000 in
theorem zM_endNow_q (d : Nat) (A : zA) (L : zL) : zM_endNow d A L = if (A 63 18) = (1 : Int32) then zM_endNow_2 d (A 63 17) A L else zM_endNow_1 d A L := (zrun_q zT d (M := zt_X10_endNow) (bk := zb_X10_endNow_0) rfl rfl _ _ _ _).trans rfl
set_option maxRecDepth 20000 in
theorem zM_endWorth_q (d : Nat) (v1 : Int32) (v2 : Int32) (A : zA) (L : zL) : zM_endWorth d v1 v2 A L = if v2 < (64 : Int32) then zM_endWorth_1 d v1 v2 A L else zM_endWorth_2 d (-(A 63 14)) A L := (zrun_q zT d (M := zt_X10_endWorth) (bk := zb_X10_endWorth_0) rfl rfl _ _ _ _).trans rfl
set_option maxRecDepth 20000 in
theorem zM_fillGame_q (d : Nat) (v1 : Int32) (v2 : Int32) (v3 : Int32) (A : zA) (L : zL) : zM_fillGame (d + 1) v1 v2 v3 A L = zbv (zM_findTables d A L) (fun A1 L1 => zM_fillGame_1 (d + 1) v1 v2 v3 (8 : Int32) A1 L1) := (zrun_q zT (d + 1) (M := zt_X10_fillGame) (bk := zb_X10_fillGame_0) rfl rfl _ _ _ _).trans rfl
set_option maxRecDepth 20000 in
theorem zM_sureNow_1_q (d : Nat) (A : zA) (L : zL) : zM_sureNow_1 (d + 1) A L = zbi (zM_placeAt d (A 63 15) (A 63 16) (A 63 17) A L) (fun r1 A1 L1 => zck r1 4608 (zM_sureNow_2 (d + 1) (A1 89 (r1).toNatClampNeg) A1 L1)) := (zrun_q zT (d + 1) (M := zt_X10_sureNow) (bk := zb_X10_sureNow_1) rfl rfl _ _ _ _).trans rfl
set_option maxRecDepth 20000 in
theorem zM_counts_q (d : Nat) (v1 : Int32) (v2 : Int32) (v3 : Int32) (v4 : Int32) (v5 : Int32) (A : zA) (L : zL) : zM_counts d v1 v2 v3 v4 v5 A L = if (64 : Int32) ≤ v4 then zM_counts_1 d v1 v3 v4 v5 A L else if v2 < 0 then zM_counts_1 d v1 v3 v4 v5 A L else if ((zshr v4 v2) &&& (1 : Int32)) = (1 : Int32) then zM_counts_2 d v1 v3 v4 v5 (1 : Int32) A L else zM_counts_1 d v1 v3 v4 v5 A L := (zrun_q zT d (M := zt_X10_counts) (bk := zb_X10_counts_0) rfl rfl _ _ _ _).trans rfl
set_option maxRecDepth 20000 in
theorem zM_sureNow_2_q (d : Nat) (s0 : Int32) (A : zA) (L : zL) : zM_sureNow_2 d s0 A L = some (some (.int s0), A, L) := (zrun_q zT d (M := zt_X10_sureNow) (bk := zb_X10_sureNow_2) rfl rfl _ _ _ _).trans rfl
set_option maxRecDepth 20000 in
theorem zM_meanings_2_q (d : Nat) (v1 : Int32) (A : zA) (L : zL) : zM_meanings_2 (d + 1) v1 A L = zbv (zM_fillMeant d A L) (fun A1 L1 => if (A1 63 18) = (1 : Int32) then zM_meanings_4 (d + 1) v1 (zlshl (1 : Int64) (A1 63 17)) A1 L1 else zM_meanings_3 (d + 1) v1 A1 L1) := (zrun_q zT (d + 1) (M := zt_X10_meanings) (bk := zb_X10_meanings_2) rfl rfl _ _ _ _).trans rfl
set_option maxRecDepth 20000 in
theorem zM_fillMeant_q (d : Nat) (A : zA) (L : zL) : zM_fillMeant (d + 1) A L = zbv (zM_findTables d A L) (fun A1 L1 => zM_fillMeant_1 (d + 1) (8 : Int32) A1 L1) := (zrun_q zT (d + 1) (M := zt_X10_fillMeant) (bk := zb_X10_fillMeant_0) rfl rfl _ _ _ _).trans rfl
set_option maxRecDepth 20000 in
theorem zM_canStick_2_q (d : Nat) (A : zA) (L : zL) : zM_canStick_2 d A L = zM_canStick_3 d (0 : Int32) A L := (zrun_q zT d (M := zt_X10_canStick) (bk := zb_X10_canStick_2) rfl rfl _ _ _ _).trans rfl
set_option maxRecDepth 20000 in
theorem zM_placeAt_q (d : Nat) (v0 : Int32) (v1 : Int32) (v2 : Int32) (A : zA) (L : zL) : zM_placeAt d v0 v1 v2 A L = some (some (.int (((64 : Int32) * (((8 : Int32) * v0) + v1)) + v2)), A, L) := (zrun_q zT d (M := zt_X10_placeAt) (bk := zb_X10_placeAt_0) rfl rfl _ _ _ _).trans rfl
set_option maxRecDepth 20000 in
theorem zM_canStick_3_q (d : Nat) (s0 : Int32) (A : zA) (L : zL) : zM_canStick_3 d s0 A L = some (some (.int s0), A, L) := (zrun_q zT d (M := zt_X10_canStick) (bk := zb_X10_canStick_3) rfl rfl _ _ _ _).trans rfl
set_option maxRecDepth 20000 in
theorem zM_fromStart_q (d : Nat) (v1 : Int32) (A : zA) (L : zL) : zM_fromStart (d + 1) v1 A L = zbv (zM_fillAll d A L) (fun A1 L1 => zck (0 : Int32) 4608 (zbi (zM_endWorth d v1 (A1 86 ((0 : Int32)).toNatClampNeg) A1 L1) (fun r2 A2 L2 => some (some (.int r2), A2, L2)))) := (zrun_q zT (d + 1) (M := zt_X10_fromStart) (bk := zb_X10_fromStart_0) rfl rfl _ _ _ _).trans rfl
set_option maxRecDepth 20000 in
theorem zM_begins_2_q (d : Nat) (v1 : Int32) (v2 : Int32) (v3 : Int32) (v4 : Int32) (A : zA) (L : zL) : zM_begins_2 d v1 v2 v3 v4 A L = if (A 63 12) ≤ v4 then zM_begins_7 d v2 A L else zck (0 : Int32) 4 (zM_begins_3 d v1 v2 v3 v4 (A 72 ((0 : Int32)).toNatClampNeg) (0 : Int32) A L) := (zrun_q zT d (M := zt_X10_begins) (bk := zb_X10_begins_2) rfl rfl _ _ _ _).trans rfl
set_option maxRecDepth 20000 in
theorem zM_turns_2_q (d : Nat) (v1 : Int32) (v2 : Int32) (A : zA) (L : zL) : zM_turns_2 d v1 v2 A L = if (A 63 12) ≤ v2 then zM_turns_3 d v1 A L else zck v2 4 (zM_turns_2 d v1 (v2 + 1) (zput A 72 (v2).toNatClampNeg v2) L) := (zrun_q zT d (M := zt_X10_turns) (bk := zb_X10_turns_2) rfl rfl _ _ _ _).trans rfl
set_option maxRecDepth 20000 in
theorem zM_buys_2_q (d : Nat) (v1 : Int32) (v2 : Int32) (v3 : Int32) (v4 : Int32) (A : zA) (L : zL) : zM_buys_2 d v1 v2 v3 v4 A L = if (8 : Int32) ≤ v4 then zM_buys_6 d v2 A L else zck v1 4 (if ((zshr (A 70 (v1).toNatClampNeg) v4) &&& (1 : Int32)) = (1 : Int32) then zM_buys_5 d v1 v2 v3 v4 A L else zM_buys_3 d v1 v2 v3 v4 A L) := (zrun_q zT d (M := zt_X10_buys) (bk := zb_X10_buys_2) rfl rfl _ _ _ _).trans rfl
set_option maxRecDepth 20000 in
theorem zM_worthWith_q (d : Nat) (v1 : Int32) (v2 : Int32) (v3 : Int32) (A : zA) (L : zL) : zM_worthWith d v1 v2 v3 A L = zck v1 4 (if v3 = 0 then zM_worthWith_1 d v1 v2 (A 70 (v1).toNatClampNeg) v1 A L else zM_worthWith_2 d v1 (A 70 (v1).toNatClampNeg) v1 ((A 70 (v1).toNatClampNeg) ||| (zshl (1 : Int32) v2)) A L) := (zrun_q zT d (M := zt_X10_worthWith) (bk := zb_X10_worthWith_0) rfl rfl _ _ _ _).trans rfl
set_option maxRecDepth 20000 in
theorem zM_knows_2_q (d : Nat) (v1 : Int32) (v2 : Int32) (v3 : Int32) (A : zA) (L : zL) : zM_knows_2 d v1 v2 v3 A L = if (A 63 12) ≤ v3 then zM_knows_5 d v1 v2 A L else zck v3 4 (if (A 69 (v3).toNatClampNeg) = (4 : Int32) then zM_knows_4 d v1 v2 v3 v3 (0 : Int32) A L else zM_knows_3 d v1 v2 v3 v3 A L) := (zrun_q zT d (M := zt_X10_knows) (bk := zb_X10_knows_2) rfl rfl _ _ _ _).trans rfl
set_option maxRecDepth 20000 in
theorem zM_as_2_q (d : Nat) (v1 : Int32) (v2 : Int32) (v3 : Int32) (v4 : Int32) (v5 : Int32) (A : zA) (L : zL) : zM_as_2 (d + 1) v1 v2 v3 v4 v5 A L = if (7 : Int32) ≤ v5 then zM_as_5 (d + 1) v1 v2 v3 A L else zck v1 4 (zbi (zM_fromStart d v1 (zput A 69 (v1).toNatClampNeg v5) L) (fun r1 A1 L1 => if v5 ≤ 0 then zM_as_3 (d + 1) v1 v2 v5 r1 A1 L1 else if v4 < r1 then zM_as_3 (d + 1) v1 v2 v5 r1 A1 L1 else zM_as_4 (d + 1) v1 v2 v3 v4 v5 A1 L1)) := (zrun_q zT (d + 1) (M := zt_X10_as) (bk := zb_X10_as_2) rfl rfl _ _ _ _).trans rfl
set_option maxRecDepth 20000 in
theorem zM_canForce_q (d : Nat) (v1 : Int32) (v2 : Int32) (v3 : Int32) (A : zA) (L : zL) : zM_canForce (d + 1) v1 v2 v3 A L = zbv (zM_fillGame d v1 v2 (0 : Int32) (zput A 63 33 v3) L) (fun A1 L1 => zck (0 : Int32) 4608 (if ((zput A1 63 33 (0 : Int32)) 89 ((0 : Int32)).toNatClampNeg) = (1 : Int32) then zM_canForce_2 (d + 1) (1 : Int32) (zput A1 63 33 (0 : Int32)) L1 else zM_canForce_1 (d + 1) (zput A1 63 33 (0 : Int32)) L1)) := (zrun_q zT (d + 1) (M := zt_X10_canForce) (bk := zb_X10_canForce_0) rfl rfl _ _ _ _).trans rfl
set_option maxRecDepth 20000 in
theorem zM_least_3_q (d : Nat) (v1 : Int32) (v2 : Int32) (A : zA) (L : zL) : zM_least_3 d v1 v2 A L = zM_least_4 d v1 v2 (0 : Int32) A L := (zrun_q zT d (M := zt_X10_least) (bk := zb_X10_least_3) rfl rfl _ _ _ _).trans rfl
set_option maxRecDepth 20000 in
theorem zM_kinds_2_q (d : Nat) (v1 : Int32) (v2 : Int32) (v3 : Int32) (v4 : Int32) (A : zA) (L : zL) : zM_kinds_2 (d + 1) v1 v2 v3 v4 A L = if (7 : Int32) ≤ v4 then zM_kinds_5 (d + 1) v1 v2 v3 A L else zck v1 4 (zbi (zM_didAs d v1 (zput A 69 (v1).toNatClampNeg v4) L) (fun r1 A1 L1 => if r1 = 0 then zM_kinds_3 (d + 1) v1 v2 v4 v3 A1 L1 else zM_kinds_4 (d + 1) v1 v2 v4 v3 (zshl (1 : Int32) v4) A1 L1)) := (zrun_q zT (d + 1) (M := zt_X10_kinds) (bk := zb_X10_kinds_2) rfl rfl _ _ _ _).trans rfl
set_option maxRecDepth 20000 in
theorem zM_row_2_q (d : Nat) (v1 : Int32) (A : zA) (L : zL) : zM_row_2 d v1 A L = zck (A 63 45) 8 (some (some (.int ((zput (zput A 92 ((A 63 45)).toNatClampNeg v1) 63 45 (((zput A 92 ((A 63 45)).toNatClampNeg v1) 63 45) + (1 : Int32))) 63 45)), (zput (zput A 92 ((A 63 45)).toNatClampNeg v1) 63 45 (((zput A 92 ((A 63 45)).toNatClampNeg v1) 63 45) + (1 : Int32))), L)) := (zrun_q zT d (M := zt_X10_row) (bk := zb_X10_row_2) rfl rfl _ _ _ _).trans rfl
set_option maxRecDepth 20000 in
theorem zM_judge_2_q (d : Nat) (v1 : Int32) (v2 : Int32) (v3 : Int32) (A : zA) (L : zL) : zM_judge_2 (d + 1) v1 v2 v3 A L = if v1 ≤ v3 then zM_judge_4 (d + 1) A L else zbi (zM_mayAt d v3 v2 A L) (fun r1 A1 L1 => zck v3 8 (if ((zshr r1 (A1 92 (v3).toNatClampNeg)) &&& (1 : Int32)) = 0 then some (some (.int v3), A1, L1) else zM_judge_3 (d + 1) v1 v2 v3 A1 L1)) := (zrun_q zT (d + 1) (M := zt_X10_judge) (bk := zb_X10_judge_2) rfl rfl _ _ _ _).trans rfl
set_option maxRecDepth 20000 in
theorem zM_seeds_2_q (d : Nat) (v1 : Int32) (v2 : Int32) (v3 : Int32) (A : zA) (L : zL) : zM_seeds_2 (d + 1) v1 v2 v3 A L = zbv (zM_findTables d A L) (fun A1 L1 => zM_seeds_3 (d + 1) v1 v2 (0 : Int32) (0 : Int32) (zput A1 63 46 v3) L1) := (zrun_q zT (d + 1) (M := zt_X10_seeds) (bk := zb_X10_seeds_2) rfl rfl _ _ _ _).trans rfl
set_option maxRecDepth 20000 in
theorem zM_count_2_q (d : Nat) (A : zA) (L : zL) : zM_count_2 d A L = some (some (.int (A 63 10)), A, L) := (zrun_q zT d (M := zt_X10_count) (bk := zb_X10_count_2) rfl rfl _ _ _ _).trans rfl
set_option maxRecDepth 20000 in
theorem zM_count_3_q (d : Nat) (A : zA) (L : zL) : zM_count_3 (d + 1) A L = zbi (zM_bits d (A 63 11) A L) (fun r1 A1 L1 => some (some (.int r1), A1, L1)) := (zrun_q zT (d + 1) (M := zt_X10_count) (bk := zb_X10_count_3) rfl rfl _ _ _ _).trans rfl
set_option maxRecDepth 20000 in
theorem zM_count_4_q (d : Nat) (A : zA) (L : zL) : zM_count_4 d A L = some (some (.int (A 63 12)), A, L) := (zrun_q zT d (M := zt_X10_count) (bk := zb_X10_count_4) rfl rfl _ _ _ _).trans rfl
set_option maxRecDepth 20000 in
theorem zM_count_5_q (d : Nat) (A : zA) (L : zL) : zM_count_5 d A L = some (some (.int (A 63 13)), A, L) := (zrun_q zT d (M := zt_X10_count) (bk := zb_X10_count_5) rfl rfl _ _ _ _).trans rfl
set_option maxRecDepth 20000 in
theorem zM_count_6_q (d : Nat) (A : zA) (L : zL) : zM_count_6 d A L = some (some (.int (A 63 14)), A, L) := (zrun_q zT d (M := zt_X10_count) (bk := zb_X10_count_6) rfl rfl _ _ _ _).trans rfl
set_option maxRecDepth 20000 in
theorem zM_count_7_q (d : Nat) (A : zA) (L : zL) : zM_count_7 d A L = some (some (.int (A 63 26)), A, L) := (zrun_q zT d (M := zt_X10_count) (bk := zb_X10_count_7) rfl rfl _ _ _ _).trans rfl
set_option maxRecDepth 20000 in
theorem zM_count_8_q (d : Nat) (A : zA) (L : zL) : zM_count_8 d A L = some (some (.int (A 63 45)), A, L) := (zrun_q zT d (M := zt_X10_count) (bk := zb_X10_count_8) rfl rfl _ _ _ _).trans rfl
set_option maxRecDepth 20000 in
theorem zM_count_9_q (d : Nat) (A : zA) (L : zL) : zM_count_9 d A L = some (some (.int (-9 : Int32)), A, L) := (zrun_q zT d (M := zt_X10_count) (bk := zb_X10_count_9) rfl rfl _ _ _ _).trans rfl
set_option maxRecDepth 20000 in
theorem zM_bound_2_q (d : Nat) (A : zA) (L : zL) : zM_bound_2 d A L = zM_bound_3 d (0 : Int32) A L := (zrun_q zT d (M := zt_X10_bound) (bk := zb_X10_bound_2) rfl rfl _ _ _ _).trans rfl
set_option maxRecDepth 20000 in
theorem zM_tongue_6_q (d : Nat) (v1 : Int32) (A : zA) (L : zL) : zM_tongue_6 d v1 A L = if v1 = 0 then some (some (.int ((-1000 : Int32) - ((zput A 63 26 (0 : Int32)) 63 27))), (zput A 63 26 (0 : Int32)), L) else zM_tongue_7 d (zput A 63 26 (0 : Int32)) L := (zrun_q zT d (M := zt_X10_tongue) (bk := zb_X10_tongue_6) rfl rfl _ _ _ _).trans rfl
set_option maxRecDepth 20000 in
theorem zM_tongue_3_q (d : Nat) (A : zA) (L : zL) : zM_tongue_3 (d + 1) A L = zbi (zM_statement d A L) (fun r1 A1 L1 => if r1 = 0 then zM_tongue_4 (d + 1) r1 (A1 63 28) A1 L1 else zM_tongue_5 (d + 1) r1 (A1 63 28) (1 : Int32) A1 L1) := (zrun_q zT (d + 1) (M := zt_X10_tongue) (bk := zb_X10_tongue_3) rfl rfl _ _ _ _).trans rfl
set_option maxRecDepth 20000 in
theorem zM_passes_65_1_q (d : Nat) (v2 : Int32) (A : zA) (L : zL) : zM_passes_65_1 d v2 A L = if (nI 24) ≤ v2 then zM_passes_65_4 d A L else if (A 63 31) = 0 then zM_passes_65_2 d v2 A L else zck v2 24 (zck (A 63 32) 400 (zM_passes_65_3 d v2 (zput A 81 ((A 63 32)).toNatClampNeg (A 65 (v2).toNatClampNeg)) L)) := (zrun_q zT d (M := zt_X10_passes) (bk := zb_X10_passes_1) rfl rfl _ _ _ _).trans rfl
set_option maxRecDepth 20000 in
theorem zM_passes_66_1_q (d : Nat) (v2 : Int32) (A : zA) (L : zL) : zM_passes_66_1 d v2 A L = if (nI 24) ≤ v2 then zM_passes_66_4 d A L else if (A 63 31) = 0 then zM_passes_66_2 d v2 A L else zck v2 24 (zck (A 63 32) 400 (zM_passes_66_3 d v2 (zput A 81 ((A 63 32)).toNatClampNeg (A 66 (v2).toNatClampNeg)) L)) := (zrun_q zT d (M := zt_X10_passes) (bk := zb_X10_passes_1) rfl rfl _ _ _ _).trans rfl
set_option maxRecDepth 20000 in
theorem zM_passes_67_1_q (d : Nat) (v2 : Int32) (A : zA) (L : zL) : zM_passes_67_1 d v2 A L = if (nI 24) ≤ v2 then zM_passes_67_4 d A L else if (A 63 31) = 0 then zM_passes_67_2 d v2 A L else zck v2 24 (zck (A 63 32) 400 (zM_passes_67_3 d v2 (zput A 81 ((A 63 32)).toNatClampNeg (A 67 (v2).toNatClampNeg)) L)) := (zrun_q zT d (M := zt_X10_passes) (bk := zb_X10_passes_1) rfl rfl _ _ _ _).trans rfl
set_option maxRecDepth 20000 in
theorem zM_passes_68_1_q (d : Nat) (v2 : Int32) (A : zA) (L : zL) : zM_passes_68_1 d v2 A L = if (nI 24) ≤ v2 then zM_passes_68_4 d A L else if (A 63 31) = 0 then zM_passes_68_2 d v2 A L else zck v2 24 (zck (A 63 32) 400 (zM_passes_68_3 d v2 (zput A 81 ((A 63 32)).toNatClampNeg (A 68 (v2).toNatClampNeg)) L)) := (zrun_q zT d (M := zt_X10_passes) (bk := zb_X10_passes_1) rfl rfl _ _ _ _).trans rfl
set_option maxRecDepth 20000 in
theorem zM_passes_69_1_q (d : Nat) (v2 : Int32) (A : zA) (L : zL) : zM_passes_69_1 d v2 A L = if (nI 4) ≤ v2 then zM_passes_69_4 d A L else if (A 63 31) = 0 then zM_passes_69_2 d v2 A L else zck v2 4 (zck (A 63 32) 400 (zM_passes_69_3 d v2 (zput A 81 ((A 63 32)).toNatClampNeg (A 69 (v2).toNatClampNeg)) L)) := (zrun_q zT d (M := zt_X10_passes) (bk := zb_X10_passes_1) rfl rfl _ _ _ _).trans rfl
set_option maxRecDepth 20000 in
theorem zM_passes_70_1_q (d : Nat) (v2 : Int32) (A : zA) (L : zL) : zM_passes_70_1 d v2 A L = if (nI 4) ≤ v2 then zM_passes_70_4 d A L else if (A 63 31) = 0 then zM_passes_70_2 d v2 A L else zck v2 4 (zck (A 63 32) 400 (zM_passes_70_3 d v2 (zput A 81 ((A 63 32)).toNatClampNeg (A 70 (v2).toNatClampNeg)) L)) := (zrun_q zT d (M := zt_X10_passes) (bk := zb_X10_passes_1) rfl rfl _ _ _ _).trans rfl
set_option maxRecDepth 20000 in
theorem zM_passes_71_1_q (d : Nat) (v2 : Int32) (A : zA) (L : zL) : zM_passes_71_1 d v2 A L = if (nI 24) ≤ v2 then zM_passes_71_4 d A L else if (A 63 31) = 0 then zM_passes_71_2 d v2 A L else zck v2 24 (zck (A 63 32) 400 (zM_passes_71_3 d v2 (zput A 81 ((A 63 32)).toNatClampNeg (A 71 (v2).toNatClampNeg)) L)) := (zrun_q zT d (M := zt_X10_passes) (bk := zb_X10_passes_1) rfl rfl _ _ _ _).trans rfl
set_option maxRecDepth 20000 in
theorem zM_passes_72_1_q (d : Nat) (v2 : Int32) (A : zA) (L : zL) : zM_passes_72_1 d v2 A L = if (nI 4) ≤ v2 then zM_passes_72_4 d A L else if (A 63 31) = 0 then zM_passes_72_2 d v2 A L else zck v2 4 (zck (A 63 32) 400 (zM_passes_72_3 d v2 (zput A 81 ((A 63 32)).toNatClampNeg (A 72 (v2).toNatClampNeg)) L)) := (zrun_q zT d (M := zt_X10_passes) (bk := zb_X10_passes_1) rfl rfl _ _ _ _).trans rfl
set_option maxRecDepth 20000 in
theorem zM_passes_73_1_q (d : Nat) (v2 : Int32) (A : zA) (L : zL) : zM_passes_73_1 d v2 A L = if (nI 8) ≤ v2 then zM_passes_73_4 d A L else if (A 63 31) = 0 then zM_passes_73_2 d v2 A L else zck v2 8 (zck (A 63 32) 400 (zM_passes_73_3 d v2 (zput A 81 ((A 63 32)).toNatClampNeg (A 73 (v2).toNatClampNeg)) L)) := (zrun_q zT d (M := zt_X10_passes) (bk := zb_X10_passes_1) rfl rfl _ _ _ _).trans rfl
set_option maxRecDepth 20000 in
theorem zM_passOne_1_q (d : Nat) (v1 : Int32) (A : zA) (L : zL) : zM_passOne_1 d v1 A L = zck (A 63 32) 400 (zM_passOne_2 d v1 (A 81 ((A 63 32)).toNatClampNeg) A L) := (zrun_q zT d (M := zt_X10_passOne) (bk := zb_X10_passOne_1) rfl rfl _ _ _ _).trans rfl
set_option maxRecDepth 20000 in
theorem zM_passOne_2_q (d : Nat) (v1 : Int32) (s0 : Int32) (A : zA) (L : zL) : zM_passOne_2 d v1 s0 A L = if (A 63 31) = 0 then zM_passOne_3 d s0 A L else zck (A 63 32) 400 (zM_passOne_3 d s0 (zput A 81 ((A 63 32)).toNatClampNeg v1) L) := (zrun_q zT d (M := zt_X10_passOne) (bk := zb_X10_passOne_2) rfl rfl _ _ _ _).trans rfl
set_option maxRecDepth 20000 in
theorem zM_rule_3_q (d : Nat) (v1 : Int32) (v2 : Int32) (A : zA) (L : zL) : zM_rule_3 d v1 v2 A L = if v2 = (1 : Int32) then zck v1 24 (zM_rule_6 d (A 66 (v1).toNatClampNeg) A L) else zM_rule_4 d v1 v2 A L := (zrun_q zT d (M := zt_X10_rule) (bk := zb_X10_rule_3) rfl rfl _ _ _ _).trans rfl
set_option maxRecDepth 20000 in
theorem zM_rule_6_q (d : Nat) (s0 : Int32) (A : zA) (L : zL) : zM_rule_6 d s0 A L = some (some (.int s0), A, L) := (zrun_q zT d (M := zt_X10_rule) (bk := zb_X10_rule_6) rfl rfl _ _ _ _).trans rfl
set_option maxRecDepth 20000 in
theorem zM_isEnd_1_q (d : Nat) (A : zA) (L : zL) : zM_isEnd_1 d A L = zM_isEnd_2 d (0 : Int32) A L := (zrun_q zT d (M := zt_X10_isEnd) (bk := zb_X10_isEnd_1) rfl rfl _ _ _ _).trans rfl
set_option maxRecDepth 20000 in
theorem zM_isEnd_2_q (d : Nat) (s0 : Int32) (A : zA) (L : zL) : zM_isEnd_2 d s0 A L = zcb s0 (some (some (.int s0), A, L)) := (zrun_q zT d (M := zt_X10_isEnd) (bk := zb_X10_isEnd_2) rfl rfl _ _ _ _).trans rfl
set_option maxRecDepth 20000 in
theorem zM_person_3_q (d : Nat) (v1 : Int32) (v2 : Int32) (A : zA) (L : zL) : zM_person_3 d v1 v2 A L = if v2 = (1 : Int32) then zck v1 4 (zM_person_5 d (A 70 (v1).toNatClampNeg) A L) else zM_person_4 d v1 A L := (zrun_q zT d (M := zt_X10_person) (bk := zb_X10_person_3) rfl rfl _ _ _ _).trans rfl
set_option maxRecDepth 20000 in
theorem zM_person_5_q (d : Nat) (s0 : Int32) (A : zA) (L : zL) : zM_person_5 d s0 A L = some (some (.int s0), A, L) := (zrun_q zT d (M := zt_X10_person) (bk := zb_X10_person_5) rfl rfl _ _ _ _).trans rfl
set_option maxRecDepth 20000 in
theorem zM_word_5_q (d : Nat) (v1 : Int32) (v2 : Int32) (A : zA) (L : zL) : zM_word_5 d v1 v2 A L = zck v1 4 (zck v1 4 (some (some (.int (1 : Int32)), (zput A 70 (v1).toNatClampNeg ((A 70 (v1).toNatClampNeg) ^^^ (zshl (1 : Int32) v2))), L))) := (zrun_q zT d (M := zt_X10_word) (bk := zb_X10_word_5) rfl rfl _ _ _ _).trans rfl
set_option maxRecDepth 20000 in
theorem zM_set_4_q (d : Nat) (v1 : Int32) (v2 : Int32) (A : zA) (L : zL) : zM_set_4 d v1 v2 A L = if v1 = 0 then zM_set_6 d v1 v2 (A 63 13) A L else zM_set_5 d v1 v2 A L := (zrun_q zT d (M := zt_X10_set) (bk := zb_X10_set_4) rfl rfl _ _ _ _).trans rfl
set_option maxRecDepth 20000 in
theorem zM_order_5_q (d : Nat) (v1 : Int32) (A : zA) (L : zL) : zM_order_5 (d + 1) v1 A L = if (A 63 15) ≤ 0 then zM_order_6 (d + 1) v1 A L else zbi (zM_no d (-3 : Int32) A L) (fun r1 A1 L1 => some (some (.int r1), A1, L1)) := (zrun_q zT (d + 1) (M := zt_X10_order) (bk := zb_X10_order_5) rfl rfl _ _ _ _).trans rfl
set_option maxRecDepth 20000 in
theorem zM_mayAt_1_q (d : Nat) (A : zA) (L : zL) : zM_mayAt_1 d A L = zM_mayAt_3 d (0 : Int32) A L := (zrun_q zT d (M := zt_X10_mayAt) (bk := zb_X10_mayAt_1) rfl rfl _ _ _ _).trans rfl
set_option maxRecDepth 20000 in
theorem zM_mayAt_2_q (d : Nat) (v1 : Int32) (v2 : Int32) (A : zA) (L : zL) : zM_mayAt_2 (d + 1) v1 v2 A L = zbi (zM_turnAt d v1 A L) (fun r1 A1 L1 => zck (((8 : Int32) * r1) + v2) 32 (zM_mayAt_3 (d + 1) (A1 82 ((((8 : Int32) * r1) + v2)).toNatClampNeg) A1 L1)) := (zrun_q zT (d + 1) (M := zt_X10_mayAt) (bk := zb_X10_mayAt_2) rfl rfl _ _ _ _).trans rfl
set_option maxRecDepth 20000 in
theorem zM_says_q (d : Nat) (v1 : Int32) (A : zA) (L : zL) : zM_says d v1 A L = zck (A 63 15) 8 (zck (((8 : Int32) * ((zput (zput A 73 ((A 63 15)).toNatClampNeg v1) 63 15 (((zput A 73 ((A 63 15)).toNatClampNeg v1) 63 15) + (1 : Int32))) 63 16)) + v1) 64 (zck (((8 : Int32) * ((zput (zput (zput A 73 ((A 63 15)).toNatClampNeg v1) 63 15 (((zput A 73 ((A 63 15)).toNatClampNeg v1) 63 15) + (1 : Int32))) 63 17 (((zput (zput A 73 ((A 63 15)).toNatClampNeg v1) 63 15 (((zput A 73 ((A 63 15)).toNatClampNeg v1) 63 15) + (1 : Int32))) 63 17) ^^^ ((zput (zput A 73 ((A 63 15)).toNatClampNeg v1) 63 15 (((zput A 73 ((A 63 15)).toNatClampNeg v1) 63 15) + (1 : Int32))) 84 ((((8 : Int32) * ((zput (zput A 73 ((A 63 15)).toNatClampNeg v1) 63 15 (((zput A 73 ((A 63 15)).toNatClampNeg v1) 63 15) + (1 : Int32))) 63 16)) + v1)).toNatClampNeg))) 63 16)) + v1) 64 (some (none, (zput (zput (zput (zput A 73 ((A 63 15)).toNatClampNeg v1) 63 15 (((zput A 73 ((A 63 15)).toNatClampNeg v1) 63 15) + (1 : Int32))) 63 17 (((zput (zput A 73 ((A 63 15)).toNatClampNeg v1) 63 15 (((zput A 73 ((A 63 15)).toNatClampNeg v1) 63 15) + (1 : Int32))) 63 17) ^^^ ((zput (zput A 73 ((A 63 15)).toNatClampNeg v1) 63 15 (((zput A 73 ((A 63 15)).toNatClampNeg v1) 63 15) + (1 : Int32))) 84 ((((8 : Int32) * ((zput (zput A 73 ((A 63 15)).toNatClampNeg v1) 63 15 (((zput A 73 ((A 63 15)).toNatClampNeg v1) 63 15) + (1 : Int32))) 63 16)) + v1)).toNatClampNeg))) 63 16 ((zput (zput (zput A 73 ((A 63 15)).toNatClampNeg v1) 63 15 (((zput A 73 ((A 63 15)).toNatClampNeg v1) 63 15) + (1 : Int32))) 63 17 (((zput (zput A 73 ((A 63 15)).toNatClampNeg v1) 63 15 (((zput A 73 ((A 63 15)).toNatClampNeg v1) 63 15) + (1 : Int32))) 63 17) ^^^ ((zput (zput A 73 ((A 63 15)).toNatClampNeg v1) 63 15 (((zput A 73 ((A 63 15)).toNatClampNeg v1) 63 15) + (1 : Int32))) 84 ((((8 : Int32) * ((zput (zput A 73 ((A 63 15)).toNatClampNeg v1) 63 15 (((zput A 73 ((A 63 15)).toNatClampNeg v1) 63 15) + (1 : Int32))) 63 16)) + v1)).toNatClampNeg))) 83 ((((8 : Int32) * ((zput (zput (zput A 73 ((A 63 15)).toNatClampNeg v1) 63 15 (((zput A 73 ((A 63 15)).toNatClampNeg v1) 63 15) + (1 : Int32))) 63 17 (((zput (zput A 73 ((A 63 15)).toNatClampNeg v1) 63 15 (((zput A 73 ((A 63 15)).toNatClampNeg v1) 63 15) + (1 : Int32))) 63 17) ^^^ ((zput (zput A 73 ((A 63 15)).toNatClampNeg v1) 63 15 (((zput A 73 ((A 63 15)).toNatClampNeg v1) 63 15) + (1 : Int32))) 84 ((((8 : Int32) * ((zput (zput A 73 ((A 63 15)).toNatClampNeg v1) 63 15 (((zput A 73 ((A 63 15)).toNatClampNeg v1) 63 15) + (1 : Int32))) 63 16)) + v1)).toNatClampNeg))) 63 16)) + v1)).toNatClampNeg)), L)))) := (zrun_q zT d (M := zt_X10_says) (bk := zb_X10_says_0) rfl rfl _ _ _ _).trans rfl
set_option maxRecDepth 20000 in
theorem zM_findTables_13_q (d : Nat) (A : zA) (L : zL) : zM_findTables_13 d A L = zM_findTables_14 d (0 : Int32) A L := (zrun_q zT d (M := zt_X10_findTables) (bk := zb_X10_findTables_13) rfl rfl _ _ _ _).trans rfl
set_option maxRecDepth 20000 in
theorem zM_findTables_2_q (d : Nat) (v1 : Int32) (v2 : Int32) (v3 : Int32) (A : zA) (L : zL) : zM_findTables_2 (d + 1) v1 v2 v3 A L = if (8 : Int32) ≤ v3 then zM_findTables_10 (d + 1) v1 v2 A L else zbi (zM_ruleNow d v1 v3 A L) (fun r1 A1 L1 => if r1 < 0 then zM_findTables_3 (d + 1) v1 v3 r1 v2 A1 L1 else zM_findTables_4 (d + 1) v1 v3 r1 v2 (zshl (1 : Int32) v3) A1 L1) := (zrun_q zT (d + 1) (M := zt_X10_findTables) (bk := zb_X10_findTables_2) rfl rfl _ _ _ _).trans rfl
set_option maxRecDepth 20000 in
theorem zM_replays_7_q (d : Nat) (A : zA) (L : zL) : zM_replays_7 d A L = some (none, A, L) := (zrun_q zT d (M := zt_X10_replays) (bk := zb_X10_replays_7) rfl rfl _ _ _ _).trans rfl
set_option maxRecDepth 20000 in
theorem zM_ruleAt_q (d : Nat) (v1 : Int32) (v2 : Int32) (A : zA) (L : zL) : zM_ruleAt d v1 v2 A L = zM_ruleAt_1 d v1 v2 (0 : Int32) A L := (zrun_q zT d (M := zt_X10_ruleAt) (bk := zb_X10_ruleAt_0) rfl rfl _ _ _ _).trans rfl
set_option maxRecDepth 20000 in
theorem zM_replays_2_q (d : Nat) (v1 : Int32) (v2 : Int32) (v4 : Int32) (s1 : Int32) (A : zA) (L : zL) : zM_replays_2 d v1 v2 v4 s1 A L = zM_replays_4 d v1 v2 v4 s1 (0 : Int32) A L := (zrun_q zT d (M := zt_X10_replays) (bk := zb_X10_replays_2) rfl rfl _ _ _ _).trans rfl
set_option maxRecDepth 20000 in
theorem zM_replays_3_q (d : Nat) (v1 : Int32) (v2 : Int32) (v4 : Int32) (s1 : Int32) (A : zA) (L : zL) : zM_replays_3 d v1 v2 v4 s1 A L = zck v4 24 (zM_replays_4 d v1 v2 v4 s1 (zshl (1 : Int32) (A 68 (v4).toNatClampNeg)) A L) := (zrun_q zT d (M := zt_X10_replays) (bk := zb_X10_replays_3) rfl rfl _ _ _ _).trans rfl
set_option maxRecDepth 20000 in
theorem zM_howIs_1_q (d : Nat) (A : zA) (L : zL) : zM_howIs_1 (d + 1) A L = zbi (zM_mayAt d (A 63 15) (A 63 16) A L) (fun r1 A1 L1 => if r1 = 0 then zM_howIs_2 (d + 1) A1 L1 else some (some (.int (0 : Int32)), A1, L1)) := (zrun_q zT (d + 1) (M := zt_X10_howIs) (bk := zb_X10_howIs_1) rfl rfl _ _ _ _).trans rfl
set_option maxRecDepth 20000 in
theorem zM_talk_8_q (d : Nat) (s0 : Int32) (A : zA) (L : zL) : zM_talk_8 d s0 A L = some (some (.int s0), A, L) := (zrun_q zT d (M := zt_X10_talk) (bk := zb_X10_talk_8) rfl rfl _ _ _ _).trans rfl
set_option maxRecDepth 20000 in
theorem zM_turnAt_q (d : Nat) (v1 : Int32) (A : zA) (L : zL) : zM_turnAt d v1 A L = zcd (A 63 12) (zck (zrem v1 (A 63 12)) 4 (some (some (.int (A 72 ((zrem v1 (A 63 12))).toNatClampNeg)), A, L))) := (zrun_q zT d (M := zt_X10_turnAt) (bk := zb_X10_turnAt_0) rfl rfl _ _ _ _).trans rfl
set_option maxRecDepth 20000 in
theorem zM_fillAll_3_q (d : Nat) (A : zA) (L : zL) : zM_fillAll_3 d A L = zM_fillAll_4 d (8 : Int32) A L := (zrun_q zT d (M := zt_X10_fillAll) (bk := zb_X10_fillAll_3) rfl rfl _ _ _ _).trans rfl
set_option maxRecDepth 20000 in
theorem zM_fillAll_2_q (d : Nat) (v1 : Int32) (A : zA) (L : zL) : zM_fillAll_2 d v1 A L = zM_fillAll_1 d (v1 + 1) A L := (zrun_q zT d (M := zt_X10_fillAll) (bk := zb_X10_fillAll_2) rfl rfl _ _ _ _).trans rfl
set_option maxRecDepth 20000 in
theorem zM_fillMind_q (d : Nat) (v1 : Int32) (A : zA) (L : zL) : zM_fillMind d v1 A L = zM_fillMind_1 d v1 (8 : Int32) A L := (zrun_q zT d (M := zt_X10_fillMind) (bk := zb_X10_fillMind_0) rfl rfl _ _ _ _).trans rfl
set_option maxRecDepth 20000 in
theorem zM_choiceAt_1_q (d : Nat) (v1 : Int32) (v2 : Int32) (v3 : Int32) (v4 : Int32) (A : zA) (L : zL) : zM_choiceAt_1 (d + 1) v1 v2 v3 v4 A L = zbi (zM_turnAt d v1 A L) (fun r1 A1 L1 => zck r1 4 (if (A1 69 (r1).toNatClampNeg) = 1 then zM_choiceAt_2 (d + 1) v4 A1 L1 else if (A1 69 (r1).toNatClampNeg) = 2 then zM_choiceAt_8 (d + 1) v1 v2 v3 r1 A1 L1 else if (A1 69 (r1).toNatClampNeg) = 3 then zM_choiceAt_8 (d + 1) v1 v2 v3 r1 A1 L1 else if (A1 69 (r1).toNatClampNeg) = 4 then zM_choiceAt_3 (d + 1) v1 v2 v3 r1 A1 L1 else if (A1 69 (r1).toNatClampNeg) = 5 then zM_choiceAt_4 (d + 1) v2 v4 A1 L1 else if (A1 69 (r1).toNatClampNeg) = 6 then zM_choiceAt_7 (d + 1) v1 v2 v3 r1 A1 L1 else zM_choiceAt_8 (d + 1) v1 v2 v3 r1 A1 L1)) := (zrun_q zT (d + 1) (M := zt_X10_choiceAt) (bk := zb_X10_choiceAt_1) rfl rfl _ _ _ _).trans rfl
set_option maxRecDepth 20000 in
theorem zM_goes_4_q (d : Nat) (v1 : Int32) (A : zA) (L : zL) : zM_goes_4 (d + 1) v1 A L = zbv (zM_says d v1 A L) (fun A1 L1 => zM_goes_5 (d + 1) v1 A1 L1) := (zrun_q zT (d + 1) (M := zt_X10_goes) (bk := zb_X10_goes_4) rfl rfl _ _ _ _).trans rfl
set_option maxRecDepth 20000 in
theorem zM_goes_5_q (d : Nat) (v1 : Int32) (A : zA) (L : zL) : zM_goes_5 d v1 A L = some (some (.int v1), A, L) := (zrun_q zT d (M := zt_X10_goes) (bk := zb_X10_goes_5) rfl rfl _ _ _ _).trans rfl
set_option maxRecDepth 20000 in
theorem zM_ends_5_q (d : Nat) (v1 : Int32) (A : zA) (L : zL) : zM_ends_5 (d + 1) v1 A L = if v1 = 0 then zbi (zM_endNow d A L) (fun r1 A1 L1 => zcd (64 : Int32) (zM_ends_7 (d + 1) (zrem r1 (64 : Int32)) A1 L1)) else zM_ends_6 (d + 1) A L := (zrun_q zT (d + 1) (M := zt_X10_ends) (bk := zb_X10_ends_5) rfl rfl _ _ _ _).trans rfl
set_option maxRecDepth 20000 in
theorem zM_ends_3_q (d : Nat) (A : zA) (L : zL) : zM_ends_3 (d + 1) A L = zbi (zM_placeAt d (A 63 15) (A 63 16) (A 63 17) A L) (fun r1 A1 L1 => zck r1 4608 (zM_ends_4 (d + 1) (A1 87 (r1).toNatClampNeg) A1 L1)) := (zrun_q zT (d + 1) (M := zt_X10_ends) (bk := zb_X10_ends_3) rfl rfl _ _ _ _).trans rfl
set_option maxRecDepth 20000 in
theorem zM_ends_4_q (d : Nat) (s0 : Int32) (A : zA) (L : zL) : zM_ends_4 d s0 A L = some (some (.int s0), A, L) := (zrun_q zT d (M := zt_X10_ends) (bk := zb_X10_ends_4) rfl rfl _ _ _ _).trans rfl
set_option maxRecDepth 20000 in
theorem zM_endNow_1_q (d : Nat) (A : zA) (L : zL) : zM_endNow_1 (d + 1) A L = zbi (zM_placeAt d (A 63 15) (A 63 16) (A 63 17) A L) (fun r1 A1 L1 => zck r1 4608 (zM_endNow_2 (d + 1) (A1 86 (r1).toNatClampNeg) A1 L1)) := (zrun_q zT (d + 1) (M := zt_X10_endNow) (bk := zb_X10_endNow_1) rfl rfl _ _ _ _).trans rfl
set_option maxRecDepth 20000 in
theorem zM_endNow_2_q (d : Nat) (s0 : Int32) (A : zA) (L : zL) : zM_endNow_2 d s0 A L = some (some (.int s0), A, L) := (zrun_q zT d (M := zt_X10_endNow) (bk := zb_X10_endNow_2) rfl rfl _ _ _ _).trans rfl
set_option maxRecDepth 20000 in
theorem zM_endWorth_1_q (d : Nat) (v1 : Int32) (v2 : Int32) (A : zA) (L : zL) : zM_endWorth_1 d v1 v2 A L = zck (((64 : Int32) * v1) + v2) 256 (zM_endWorth_2 d (A 85 ((((64 : Int32) * v1) + v2)).toNatClampNeg) A L) := (zrun_q zT d (M := zt_X10_endWorth) (bk := zb_X10_endWorth_1) rfl rfl _ _ _ _).trans rfl
set_option maxRecDepth 20000 in
theorem zM_endWorth_2_q (d : Nat) (s0 : Int32) (A : zA) (L : zL) : zM_endWorth_2 d s0 A L = some (some (.int s0), A, L) := (zrun_q zT d (M := zt_X10_endWorth) (bk := zb_X10_endWorth_2) rfl rfl _ _ _ _).trans rfl
set_option maxRecDepth 20000 in
theorem zM_fillGame_1_q (d : Nat) (v1 : Int32) (v2 : Int32) (v3 : Int32) (v4 : Int32) (A : zA) (L : zL) : zM_fillGame_1 d v1 v2 v3 v4 A L = if v4 < 0 then zM_fillGame_6 d A L else zM_fillGame_2 d v1 v2 v3 v4 (0 : Int32) A L := (zrun_q zT d (M := zt_X10_fillGame) (bk := zb_X10_fillGame_1) rfl rfl _ _ _ _).trans rfl
set_option maxRecDepth 20000 in
theorem zM_counts_1_q (d : Nat) (v1 : Int32) (v3 : Int32) (v4 : Int32) (v5 : Int32) (A : zA) (L : zL) : zM_counts_1 d v1 v3 v4 v5 A L = zM_counts_2 d v1 v3 v4 v5 (0 : Int32) A L := (zrun_q zT d (M := zt_X10_counts) (bk := zb_X10_counts_1) rfl rfl _ _ _ _).trans rfl
set_option maxRecDepth 20000 in
theorem zM_counts_2_q (d : Nat) (v1 : Int32) (v3 : Int32) (v4 : Int32) (v5 : Int32) (s0 : Int32) (A : zA) (L : zL) : zM_counts_2 d v1 v3 v4 v5 s0 A L = if v3 = 0 then zM_counts_3 d s0 A L else if v3 = 1 then zM_counts_6 d s0 A L else if v3 = 2 then zM_counts_9 d v4 A L else if v3 = 3 then zM_counts_12 d v5 A L else zM_counts_13 d v1 v4 A L := (zrun_q zT d (M := zt_X10_counts) (bk := zb_X10_counts_2) rfl rfl _ _ _ _).trans rfl
set_option maxRecDepth 20000 in
theorem zM_meanings_3_q (d : Nat) (v1 : Int32) (A : zA) (L : zL) : zM_meanings_3 (d + 1) v1 A L = zbi (zM_placeAt d (A 63 15) (A 63 16) (A 63 17) A L) (fun r1 A1 L1 => zck r1 4608 (zM_meanings_4 (d + 1) v1 (L1 90 (r1).toNatClampNeg) A1 L1)) := (zrun_q zT (d + 1) (M := zt_X10_meanings) (bk := zb_X10_meanings_3) rfl rfl _ _ _ _).trans rfl
set_option maxRecDepth 20000 in
theorem zM_meanings_4_q (d : Nat) (v1 : Int32) (s0 : Int64) (A : zA) (L : zL) : zM_meanings_4 d v1 s0 A L = zM_meanings_5 d v1 s0 (0 : Int32) (0 : Int32) A L := (zrun_q zT d (M := zt_X10_meanings) (bk := zb_X10_meanings_4) rfl rfl _ _ _ _).trans rfl
set_option maxRecDepth 20000 in
theorem zM_fillMeant_1_q (d : Nat) (v1 : Int32) (A : zA) (L : zL) : zM_fillMeant_1 d v1 A L = if v1 < 0 then zM_fillMeant_17 d A L else zM_fillMeant_2 d v1 (0 : Int32) A L := (zrun_q zT d (M := zt_X10_fillMeant) (bk := zb_X10_fillMeant_1) rfl rfl _ _ _ _).trans rfl
set_option maxRecDepth 20000 in
theorem zM_begins_7_q (d : Nat) (v2 : Int32) (A : zA) (L : zL) : zM_begins_7 (d + 1) v2 A L = zbv (zM_passesAll d (1 : Int32) (0 : Int32) A L) (fun A1 L1 => some (some (.int v2), A1, L1)) := (zrun_q zT (d + 1) (M := zt_X10_begins) (bk := zb_X10_begins_7) rfl rfl _ _ _ _).trans rfl
set_option maxRecDepth 20000 in
theorem zM_begins_3_q (d : Nat) (v1 : Int32) (v2 : Int32) (v3 : Int32) (v4 : Int32) (v5 : Int32) (v6 : Int32) (A : zA) (L : zL) : zM_begins_3 d v1 v2 v3 v4 v5 v6 A L = if (A 63 12) ≤ (v6 + (1 : Int32)) then zM_begins_4 d v1 v2 v3 v4 v5 A L else zck (v6 + (1 : Int32)) 4 (zck v6 4 (zM_begins_3 d v1 v2 v3 v4 v5 (v6 + 1) (zput A 72 (v6).toNatClampNeg (A 72 ((v6 + (1 : Int32))).toNatClampNeg)) L)) := (zrun_q zT d (M := zt_X10_begins) (bk := zb_X10_begins_3) rfl rfl _ _ _ _).trans rfl
set_option maxRecDepth 20000 in
theorem zM_turns_3_q (d : Nat) (v1 : Int32) (A : zA) (L : zL) : zM_turns_3 d v1 A L = zM_turns_4 d v1 (-9 : Int32) (0 : Int32) (1 : Int32) A L := (zrun_q zT d (M := zt_X10_turns) (bk := zb_X10_turns_3) rfl rfl _ _ _ _).trans rfl
set_option maxRecDepth 20000 in
theorem zM_buys_6_q (d : Nat) (v2 : Int32) (A : zA) (L : zL) : zM_buys_6 d v2 A L = some (some (.int v2), A, L) := (zrun_q zT d (M := zt_X10_buys) (bk := zb_X10_buys_6) rfl rfl _ _ _ _).trans rfl
set_option maxRecDepth 20000 in
theorem zM_buys_3_q (d : Nat) (v1 : Int32) (v2 : Int32) (v3 : Int32) (v4 : Int32) (A : zA) (L : zL) : zM_buys_3 (d + 1) v1 v2 v3 v4 A L = zbi (zM_worthWith d v1 v4 (1 : Int32) A L) (fun r1 A1 L1 => if v3 < r1 then zM_buys_4 (d + 1) v1 v4 r1 A1 L1 else zM_buys_5 (d + 1) v1 v2 v3 v4 A1 L1) := (zrun_q zT (d + 1) (M := zt_X10_buys) (bk := zb_X10_buys_3) rfl rfl _ _ _ _).trans rfl
set_option maxRecDepth 20000 in
theorem zM_buys_5_q (d : Nat) (v1 : Int32) (v2 : Int32) (v3 : Int32) (v4 : Int32) (A : zA) (L : zL) : zM_buys_5 d v1 v2 v3 v4 A L = zM_buys_2 d v1 v2 v3 (v4 + 1) A L := (zrun_q zT d (M := zt_X10_buys) (bk := zb_X10_buys_5) rfl rfl _ _ _ _).trans rfl
set_option maxRecDepth 20000 in
theorem zM_worthWith_1_q (d : Nat) (v1 : Int32) (v2 : Int32) (v4 : Int32) (s1 : Int32) (A : zA) (L : zL) : zM_worthWith_1 d v1 v2 v4 s1 A L = zM_worthWith_2 d v1 v4 s1 (v4 &&& ((zshl (1 : Int32) v2) ^^^ (-1 : Int32))) A L := (zrun_q zT d (M := zt_X10_worthWith) (bk := zb_X10_worthWith_1) rfl rfl _ _ _ _).trans rfl
set_option maxRecDepth 20000 in
theorem zM_worthWith_2_q (d : Nat) (v1 : Int32) (v4 : Int32) (s1 : Int32) (s2 : Int32) (A : zA) (L : zL) : zM_worthWith_2 (d + 1) v1 v4 s1 s2 A L = zck s1 4 (zbi (zM_fromStart d v1 (zput A 70 (s1).toNatClampNeg s2) L) (fun r1 A1 L1 => zck v1 4 (some (some (.int r1), (zput A1 70 (v1).toNatClampNeg v4), L1)))) := (zrun_q zT (d + 1) (M := zt_X10_worthWith) (bk := zb_X10_worthWith_2) rfl rfl _ _ _ _).trans rfl
set_option maxRecDepth 20000 in
theorem zM_knows_5_q (d : Nat) (v1 : Int32) (v2 : Int32) (A : zA) (L : zL) : zM_knows_5 (d + 1) v1 v2 A L = zbi (zM_fromStart d v1 A L) (fun r1 A1 L1 => zbv (zM_passesAll d (1 : Int32) (0 : Int32) A1 L1) (fun A2 L2 => some (some (.int (r1 - v2)), A2, L2))) := (zrun_q zT (d + 1) (M := zt_X10_knows) (bk := zb_X10_knows_5) rfl rfl _ _ _ _).trans rfl
set_option maxRecDepth 20000 in
theorem zM_knows_3_q (d : Nat) (v1 : Int32) (v2 : Int32) (v3 : Int32) (s1 : Int32) (A : zA) (L : zL) : zM_knows_3 d v1 v2 v3 s1 A L = zck v3 4 (zM_knows_4 d v1 v2 v3 s1 (A 69 (v3).toNatClampNeg) A L) := (zrun_q zT d (M := zt_X10_knows) (bk := zb_X10_knows_3) rfl rfl _ _ _ _).trans rfl
set_option maxRecDepth 20000 in
theorem zM_knows_4_q (d : Nat) (v1 : Int32) (v2 : Int32) (v3 : Int32) (s1 : Int32) (s2 : Int32) (A : zA) (L : zL) : zM_knows_4 d v1 v2 v3 s1 s2 A L = zck s1 4 (zM_knows_2 d v1 v2 (v3 + 1) (zput A 69 (s1).toNatClampNeg s2) L) := (zrun_q zT d (M := zt_X10_knows) (bk := zb_X10_knows_4) rfl rfl _ _ _ _).trans rfl
set_option maxRecDepth 20000 in
theorem zM_as_5_q (d : Nat) (v1 : Int32) (v2 : Int32) (v3 : Int32) (A : zA) (L : zL) : zM_as_5 d v1 v2 v3 A L = zck v1 4 (some (some (.int v3), (zput A 69 (v1).toNatClampNeg v2), L)) := (zrun_q zT d (M := zt_X10_as) (bk := zb_X10_as_5) rfl rfl _ _ _ _).trans rfl
set_option maxRecDepth 20000 in
theorem zM_as_3_q (d : Nat) (v1 : Int32) (v2 : Int32) (v5 : Int32) (v6 : Int32) (A : zA) (L : zL) : zM_as_3 d v1 v2 v5 v6 A L = zM_as_4 d v1 v2 v5 v6 v5 A L := (zrun_q zT d (M := zt_X10_as) (bk := zb_X10_as_3) rfl rfl _ _ _ _).trans rfl
set_option maxRecDepth 20000 in
theorem zM_as_4_q (d : Nat) (v1 : Int32) (v2 : Int32) (v3 : Int32) (v4 : Int32) (v5 : Int32) (A : zA) (L : zL) : zM_as_4 d v1 v2 v3 v4 v5 A L = zM_as_2 d v1 v2 v3 v4 (v5 + 1) A L := (zrun_q zT d (M := zt_X10_as) (bk := zb_X10_as_4) rfl rfl _ _ _ _).trans rfl
set_option maxRecDepth 20000 in
theorem zM_canForce_1_q (d : Nat) (A : zA) (L : zL) : zM_canForce_1 d A L = zM_canForce_2 d (0 : Int32) A L := (zrun_q zT d (M := zt_X10_canForce) (bk := zb_X10_canForce_1) rfl rfl _ _ _ _).trans rfl
set_option maxRecDepth 20000 in
theorem zM_canForce_2_q (d : Nat) (s0 : Int32) (A : zA) (L : zL) : zM_canForce_2 d s0 A L = zcb s0 (some (some (.int s0), A, L)) := (zrun_q zT d (M := zt_X10_canForce) (bk := zb_X10_canForce_2) rfl rfl _ _ _ _).trans rfl
set_option maxRecDepth 20000 in
theorem zM_least_4_q (d : Nat) (v1 : Int32) (v2 : Int32) (v3 : Int32) (A : zA) (L : zL) : zM_least_4 (d + 1) v1 v2 v3 A L = if (A 63 10) ≤ v3 then zM_least_6 (d + 1) v1 v2 A L else zbi (zM_canForce d v1 v2 (zshl (1 : Int32) v3) A L) (fun r1 A1 L1 => if r1 = 0 then some (some (.int (zshl (1 : Int32) v3)), A1, L1) else zM_least_5 (d + 1) v1 v2 v3 A1 L1) := (zrun_q zT (d + 1) (M := zt_X10_least) (bk := zb_X10_least_4) rfl rfl _ _ _ _).trans rfl
set_option maxRecDepth 20000 in
theorem zM_kinds_5_q (d : Nat) (v1 : Int32) (v2 : Int32) (v3 : Int32) (A : zA) (L : zL) : zM_kinds_5 d v1 v2 v3 A L = zck v1 4 (some (some (.int v3), (zput A 69 (v1).toNatClampNeg v2), L)) := (zrun_q zT d (M := zt_X10_kinds) (bk := zb_X10_kinds_5) rfl rfl _ _ _ _).trans rfl
set_option maxRecDepth 20000 in
theorem zM_didAs_q (d : Nat) (v1 : Int32) (A : zA) (L : zL) : zM_didAs (d + 1) v1 A L = zbv (zM_fillAll d A L) (fun A1 L1 => zM_didAs_1 (d + 1) v1 (0 : Int32) (0 : Int32) (0 : Int32) A1 L1) := (zrun_q zT (d + 1) (M := zt_X10_didAs) (bk := zb_X10_didAs_0) rfl rfl _ _ _ _).trans rfl
set_option maxRecDepth 20000 in
theorem zM_kinds_3_q (d : Nat) (v1 : Int32) (v2 : Int32) (v4 : Int32) (s0 : Int32) (A : zA) (L : zL) : zM_kinds_3 d v1 v2 v4 s0 A L = zM_kinds_4 d v1 v2 v4 s0 (0 : Int32) A L := (zrun_q zT d (M := zt_X10_kinds) (bk := zb_X10_kinds_3) rfl rfl _ _ _ _).trans rfl
set_option maxRecDepth 20000 in
theorem zM_kinds_4_q (d : Nat) (v1 : Int32) (v2 : Int32) (v4 : Int32) (s0 : Int32) (s1 : Int32) (A : zA) (L : zL) : zM_kinds_4 d v1 v2 v4 s0 s1 A L = zM_kinds_2 d v1 v2 (s0 ||| s1) (v4 + 1) A L := (zrun_q zT d (M := zt_X10_kinds) (bk := zb_X10_kinds_4) rfl rfl _ _ _ _).trans rfl
set_option maxRecDepth 20000 in
theorem zM_judge_4_q (d : Nat) (A : zA) (L : zL) : zM_judge_4 d A L = some (some (.int (-9 : Int32)), A, L) := (zrun_q zT d (M := zt_X10_judge) (bk := zb_X10_judge_4) rfl rfl _ _ _ _).trans rfl
set_option maxRecDepth 20000 in
theorem zM_judge_3_q (d : Nat) (v1 : Int32) (v2 : Int32) (v3 : Int32) (A : zA) (L : zL) : zM_judge_3 d v1 v2 v3 A L = zck v3 8 (zck (((8 : Int32) * v2) + (A 92 (v3).toNatClampNeg)) 64 (zM_judge_2 d v1 (A 83 ((((8 : Int32) * v2) + (A 92 (v3).toNatClampNeg))).toNatClampNeg) (v3 + 1) A L)) := (zrun_q zT d (M := zt_X10_judge) (bk := zb_X10_judge_3) rfl rfl _ _ _ _).trans rfl
set_option maxRecDepth 20000 in
theorem zM_seeds_3_q (d : Nat) (v1 : Int32) (v2 : Int32) (v5 : Int32) (v6 : Int32) (A : zA) (L : zL) : zM_seeds_3 (d + 1) v1 v2 v5 v6 A L = if v2 ≤ v6 then zM_seeds_4 (d + 1) v5 A L else zbi (zM_drawnEnd d A L) (fun r1 A1 L1 => zbi (zM_endWorth d v1 r1 A1 L1) (fun r2 A2 L2 => zM_seeds_3 (d + 1) v1 v2 (v5 + r2) (v6 + 1) A2 L2)) := (zrun_q zT (d + 1) (M := zt_X10_seeds) (bk := zb_X10_seeds_3) rfl rfl _ _ _ _).trans rfl
set_option maxRecDepth 20000 in
theorem zM_bits_q (d : Nat) (v0 : Int32) (A : zA) (L : zL) : zM_bits d v0 A L = zM_bits_1 d v0 (0 : Int32) (0 : Int32) A L := (zrun_q zT d (M := zt_X10_bits) (bk := zb_X10_bits_0) rfl rfl _ _ _ _).trans rfl
set_option maxRecDepth 20000 in
theorem zM_tongue_7_q (d : Nat) (A : zA) (L : zL) : zM_tongue_7 (d + 1) A L = zbv (zM_passesAll d (1 : Int32) (1 : Int32) A L) (fun A1 L1 => zM_tongue_8 (d + 1) (0 : Int32) A1 L1) := (zrun_q zT (d + 1) (M := zt_X10_tongue) (bk := zb_X10_tongue_7) rfl rfl _ _ _ _).trans rfl
set_option maxRecDepth 20000 in
theorem zM_statement_q (d : Nat) (A : zA) (L : zL) : zM_statement (d + 1) A L = zbi (zM_next d A L) (fun r1 A1 L1 => if r1 = (114 : Int32) then zM_statement_1 (d + 1) (A 63 28) r1 A1 L1 else if r1 = (101 : Int32) then zM_statement_1 (d + 1) (A 63 28) r1 A1 L1 else if r1 = (112 : Int32) then zM_statement_1 (d + 1) (A 63 28) r1 A1 L1 else if r1 = (118 : Int32) then zM_statement_1 (d + 1) (A 63 28) r1 A1 L1 else if r1 = (108 : Int32) then zM_statement_1 (d + 1) (A 63 28) r1 A1 L1 else zcb (0 : Int32) (some (some (.int (0 : Int32)), A1, L1))) := (zrun_q zT (d + 1) (M := zt_X10_statement) (bk := zb_X10_statement_0) rfl rfl _ _ _ _).trans rfl
set_option maxRecDepth 20000 in
theorem zM_tongue_4_q (d : Nat) (v1 : Int32) (s1 : Int32) (A : zA) (L : zL) : zM_tongue_4 d v1 s1 A L = zM_tongue_5 d v1 s1 (0 : Int32) A L := (zrun_q zT d (M := zt_X10_tongue) (bk := zb_X10_tongue_4) rfl rfl _ _ _ _).trans rfl
set_option maxRecDepth 20000 in
theorem zM_tongue_5_q (d : Nat) (v1 : Int32) (s1 : Int32) (s2 : Int32) (A : zA) (L : zL) : zM_tongue_5 d v1 s1 s2 A L = zM_tongue_2 d v1 (zput A 63 28 (s1 + s2)) L := (zrun_q zT d (M := zt_X10_tongue) (bk := zb_X10_tongue_5) rfl rfl _ _ _ _).trans rfl
set_option maxRecDepth 20000 in
theorem zM_passes_65_4_q (d : Nat) (A : zA) (L : zL) : zM_passes_65_4 d A L = some (none, A, L) := (zrun_q zT d (M := zt_X10_passes) (bk := zb_X10_passes_4) rfl rfl _ _ _ _).trans rfl
set_option maxRecDepth 20000 in
theorem zM_passes_65_2_q (d : Nat) (v2 : Int32) (A : zA) (L : zL) : zM_passes_65_2 d v2 A L = zck (A 63 32) 400 (zck v2 24 (zM_passes_65_3 d v2 (zput A 65 (v2).toNatClampNeg (A 81 ((A 63 32)).toNatClampNeg)) L)) := (zrun_q zT d (M := zt_X10_passes) (bk := zb_X10_passes_2) rfl rfl _ _ _ _).trans rfl
set_option maxRecDepth 20000 in
theorem zM_passes_65_3_q (d : Nat) (v2 : Int32) (A : zA) (L : zL) : zM_passes_65_3 d v2 A L = zM_passes_65_1 d (v2 + 1) (zput A 63 32 ((A 63 32) + (1 : Int32))) L := (zrun_q zT d (M := zt_X10_passes) (bk := zb_X10_passes_3) rfl rfl _ _ _ _).trans rfl
set_option maxRecDepth 20000 in
theorem zM_passes_66_4_q (d : Nat) (A : zA) (L : zL) : zM_passes_66_4 d A L = some (none, A, L) := (zrun_q zT d (M := zt_X10_passes) (bk := zb_X10_passes_4) rfl rfl _ _ _ _).trans rfl
set_option maxRecDepth 20000 in
theorem zM_passes_66_2_q (d : Nat) (v2 : Int32) (A : zA) (L : zL) : zM_passes_66_2 d v2 A L = zck (A 63 32) 400 (zck v2 24 (zM_passes_66_3 d v2 (zput A 66 (v2).toNatClampNeg (A 81 ((A 63 32)).toNatClampNeg)) L)) := (zrun_q zT d (M := zt_X10_passes) (bk := zb_X10_passes_2) rfl rfl _ _ _ _).trans rfl
set_option maxRecDepth 20000 in
theorem zM_passes_66_3_q (d : Nat) (v2 : Int32) (A : zA) (L : zL) : zM_passes_66_3 d v2 A L = zM_passes_66_1 d (v2 + 1) (zput A 63 32 ((A 63 32) + (1 : Int32))) L := (zrun_q zT d (M := zt_X10_passes) (bk := zb_X10_passes_3) rfl rfl _ _ _ _).trans rfl
set_option maxRecDepth 20000 in
theorem zM_passes_67_4_q (d : Nat) (A : zA) (L : zL) : zM_passes_67_4 d A L = some (none, A, L) := (zrun_q zT d (M := zt_X10_passes) (bk := zb_X10_passes_4) rfl rfl _ _ _ _).trans rfl
set_option maxRecDepth 20000 in
theorem zM_passes_67_2_q (d : Nat) (v2 : Int32) (A : zA) (L : zL) : zM_passes_67_2 d v2 A L = zck (A 63 32) 400 (zck v2 24 (zM_passes_67_3 d v2 (zput A 67 (v2).toNatClampNeg (A 81 ((A 63 32)).toNatClampNeg)) L)) := (zrun_q zT d (M := zt_X10_passes) (bk := zb_X10_passes_2) rfl rfl _ _ _ _).trans rfl
set_option maxRecDepth 20000 in
theorem zM_passes_67_3_q (d : Nat) (v2 : Int32) (A : zA) (L : zL) : zM_passes_67_3 d v2 A L = zM_passes_67_1 d (v2 + 1) (zput A 63 32 ((A 63 32) + (1 : Int32))) L := (zrun_q zT d (M := zt_X10_passes) (bk := zb_X10_passes_3) rfl rfl _ _ _ _).trans rfl
set_option maxRecDepth 20000 in
theorem zM_passes_68_4_q (d : Nat) (A : zA) (L : zL) : zM_passes_68_4 d A L = some (none, A, L) := (zrun_q zT d (M := zt_X10_passes) (bk := zb_X10_passes_4) rfl rfl _ _ _ _).trans rfl
set_option maxRecDepth 20000 in
theorem zM_passes_68_2_q (d : Nat) (v2 : Int32) (A : zA) (L : zL) : zM_passes_68_2 d v2 A L = zck (A 63 32) 400 (zck v2 24 (zM_passes_68_3 d v2 (zput A 68 (v2).toNatClampNeg (A 81 ((A 63 32)).toNatClampNeg)) L)) := (zrun_q zT d (M := zt_X10_passes) (bk := zb_X10_passes_2) rfl rfl _ _ _ _).trans rfl
set_option maxRecDepth 20000 in
theorem zM_passes_68_3_q (d : Nat) (v2 : Int32) (A : zA) (L : zL) : zM_passes_68_3 d v2 A L = zM_passes_68_1 d (v2 + 1) (zput A 63 32 ((A 63 32) + (1 : Int32))) L := (zrun_q zT d (M := zt_X10_passes) (bk := zb_X10_passes_3) rfl rfl _ _ _ _).trans rfl
set_option maxRecDepth 20000 in
theorem zM_passes_69_4_q (d : Nat) (A : zA) (L : zL) : zM_passes_69_4 d A L = some (none, A, L) := (zrun_q zT d (M := zt_X10_passes) (bk := zb_X10_passes_4) rfl rfl _ _ _ _).trans rfl
set_option maxRecDepth 20000 in
theorem zM_passes_69_2_q (d : Nat) (v2 : Int32) (A : zA) (L : zL) : zM_passes_69_2 d v2 A L = zck (A 63 32) 400 (zck v2 4 (zM_passes_69_3 d v2 (zput A 69 (v2).toNatClampNeg (A 81 ((A 63 32)).toNatClampNeg)) L)) := (zrun_q zT d (M := zt_X10_passes) (bk := zb_X10_passes_2) rfl rfl _ _ _ _).trans rfl
set_option maxRecDepth 20000 in
theorem zM_passes_69_3_q (d : Nat) (v2 : Int32) (A : zA) (L : zL) : zM_passes_69_3 d v2 A L = zM_passes_69_1 d (v2 + 1) (zput A 63 32 ((A 63 32) + (1 : Int32))) L := (zrun_q zT d (M := zt_X10_passes) (bk := zb_X10_passes_3) rfl rfl _ _ _ _).trans rfl
set_option maxRecDepth 20000 in
theorem zM_passes_70_4_q (d : Nat) (A : zA) (L : zL) : zM_passes_70_4 d A L = some (none, A, L) := (zrun_q zT d (M := zt_X10_passes) (bk := zb_X10_passes_4) rfl rfl _ _ _ _).trans rfl
set_option maxRecDepth 20000 in
theorem zM_passes_70_2_q (d : Nat) (v2 : Int32) (A : zA) (L : zL) : zM_passes_70_2 d v2 A L = zck (A 63 32) 400 (zck v2 4 (zM_passes_70_3 d v2 (zput A 70 (v2).toNatClampNeg (A 81 ((A 63 32)).toNatClampNeg)) L)) := (zrun_q zT d (M := zt_X10_passes) (bk := zb_X10_passes_2) rfl rfl _ _ _ _).trans rfl
set_option maxRecDepth 20000 in
theorem zM_passes_70_3_q (d : Nat) (v2 : Int32) (A : zA) (L : zL) : zM_passes_70_3 d v2 A L = zM_passes_70_1 d (v2 + 1) (zput A 63 32 ((A 63 32) + (1 : Int32))) L := (zrun_q zT d (M := zt_X10_passes) (bk := zb_X10_passes_3) rfl rfl _ _ _ _).trans rfl
set_option maxRecDepth 20000 in
theorem zM_passes_71_4_q (d : Nat) (A : zA) (L : zL) : zM_passes_71_4 d A L = some (none, A, L) := (zrun_q zT d (M := zt_X10_passes) (bk := zb_X10_passes_4) rfl rfl _ _ _ _).trans rfl
set_option maxRecDepth 20000 in
theorem zM_passes_71_2_q (d : Nat) (v2 : Int32) (A : zA) (L : zL) : zM_passes_71_2 d v2 A L = zck (A 63 32) 400 (zck v2 24 (zM_passes_71_3 d v2 (zput A 71 (v2).toNatClampNeg (A 81 ((A 63 32)).toNatClampNeg)) L)) := (zrun_q zT d (M := zt_X10_passes) (bk := zb_X10_passes_2) rfl rfl _ _ _ _).trans rfl
set_option maxRecDepth 20000 in
theorem zM_passes_71_3_q (d : Nat) (v2 : Int32) (A : zA) (L : zL) : zM_passes_71_3 d v2 A L = zM_passes_71_1 d (v2 + 1) (zput A 63 32 ((A 63 32) + (1 : Int32))) L := (zrun_q zT d (M := zt_X10_passes) (bk := zb_X10_passes_3) rfl rfl _ _ _ _).trans rfl
set_option maxRecDepth 20000 in
theorem zM_passes_72_4_q (d : Nat) (A : zA) (L : zL) : zM_passes_72_4 d A L = some (none, A, L) := (zrun_q zT d (M := zt_X10_passes) (bk := zb_X10_passes_4) rfl rfl _ _ _ _).trans rfl
set_option maxRecDepth 20000 in
theorem zM_passes_72_2_q (d : Nat) (v2 : Int32) (A : zA) (L : zL) : zM_passes_72_2 d v2 A L = zck (A 63 32) 400 (zck v2 4 (zM_passes_72_3 d v2 (zput A 72 (v2).toNatClampNeg (A 81 ((A 63 32)).toNatClampNeg)) L)) := (zrun_q zT d (M := zt_X10_passes) (bk := zb_X10_passes_2) rfl rfl _ _ _ _).trans rfl
set_option maxRecDepth 20000 in
theorem zM_passes_72_3_q (d : Nat) (v2 : Int32) (A : zA) (L : zL) : zM_passes_72_3 d v2 A L = zM_passes_72_1 d (v2 + 1) (zput A 63 32 ((A 63 32) + (1 : Int32))) L := (zrun_q zT d (M := zt_X10_passes) (bk := zb_X10_passes_3) rfl rfl _ _ _ _).trans rfl
set_option maxRecDepth 20000 in
theorem zM_passes_73_4_q (d : Nat) (A : zA) (L : zL) : zM_passes_73_4 d A L = some (none, A, L) := (zrun_q zT d (M := zt_X10_passes) (bk := zb_X10_passes_4) rfl rfl _ _ _ _).trans rfl
set_option maxRecDepth 20000 in
theorem zM_passes_73_2_q (d : Nat) (v2 : Int32) (A : zA) (L : zL) : zM_passes_73_2 d v2 A L = zck (A 63 32) 400 (zck v2 8 (zM_passes_73_3 d v2 (zput A 73 (v2).toNatClampNeg (A 81 ((A 63 32)).toNatClampNeg)) L)) := (zrun_q zT d (M := zt_X10_passes) (bk := zb_X10_passes_2) rfl rfl _ _ _ _).trans rfl
set_option maxRecDepth 20000 in
theorem zM_passes_73_3_q (d : Nat) (v2 : Int32) (A : zA) (L : zL) : zM_passes_73_3 d v2 A L = zM_passes_73_1 d (v2 + 1) (zput A 63 32 ((A 63 32) + (1 : Int32))) L := (zrun_q zT d (M := zt_X10_passes) (bk := zb_X10_passes_3) rfl rfl _ _ _ _).trans rfl
set_option maxRecDepth 20000 in
theorem zM_passOne_3_q (d : Nat) (v2 : Int32) (A : zA) (L : zL) : zM_passOne_3 d v2 A L = some (some (.int v2), (zput A 63 32 ((A 63 32) + (1 : Int32))), L) := (zrun_q zT d (M := zt_X10_passOne) (bk := zb_X10_passOne_3) rfl rfl _ _ _ _).trans rfl
set_option maxRecDepth 20000 in
theorem zM_rule_4_q (d : Nat) (v1 : Int32) (v2 : Int32) (A : zA) (L : zL) : zM_rule_4 d v1 v2 A L = if v2 = (2 : Int32) then zck v1 24 (zM_rule_6 d (A 67 (v1).toNatClampNeg) A L) else zM_rule_5 d v1 A L := (zrun_q zT d (M := zt_X10_rule) (bk := zb_X10_rule_4) rfl rfl _ _ _ _).trans rfl
set_option maxRecDepth 20000 in
theorem zM_person_4_q (d : Nat) (v1 : Int32) (A : zA) (L : zL) : zM_person_4 (d + 1) v1 A L = zbi (zM_placeOf d v1 A L) (fun r1 A1 L1 => zM_person_5 (d + 1) r1 A1 L1) := (zrun_q zT (d + 1) (M := zt_X10_person) (bk := zb_X10_person_4) rfl rfl _ _ _ _).trans rfl
set_option maxRecDepth 20000 in
theorem zM_set_5_q (d : Nat) (v1 : Int32) (v2 : Int32) (A : zA) (L : zL) : zM_set_5 d v1 v2 A L = zM_set_6 d v1 v2 (A 63 14) A L := (zrun_q zT d (M := zt_X10_set) (bk := zb_X10_set_5) rfl rfl _ _ _ _).trans rfl
set_option maxRecDepth 20000 in
theorem zM_set_6_q (d : Nat) (v1 : Int32) (v2 : Int32) (s0 : Int32) (A : zA) (L : zL) : zM_set_6 d v1 v2 s0 A L = if v1 = 0 then zM_set_8 d s0 (zput A 63 13 v2) L else zM_set_7 d v2 s0 A L := (zrun_q zT d (M := zt_X10_set) (bk := zb_X10_set_6) rfl rfl _ _ _ _).trans rfl
set_option maxRecDepth 20000 in
theorem zM_order_6_q (d : Nat) (v1 : Int32) (A : zA) (L : zL) : zM_order_6 (d + 1) v1 A L = zbi (zM_orderDigits d A L) (fun r1 A1 L1 => zM_order_7 (d + 1) v1 r1 (0 : Int32) A1 L1) := (zrun_q zT (d + 1) (M := zt_X10_order) (bk := zb_X10_order_6) rfl rfl _ _ _ _).trans rfl
set_option maxRecDepth 20000 in
theorem zM_mayAt_3_q (d : Nat) (s0 : Int32) (A : zA) (L : zL) : zM_mayAt_3 d s0 A L = some (some (.int s0), A, L) := (zrun_q zT d (M := zt_X10_mayAt) (bk := zb_X10_mayAt_3) rfl rfl _ _ _ _).trans rfl
set_option maxRecDepth 20000 in
theorem zM_findTables_14_q (d : Nat) (v1 : Int32) (A : zA) (L : zL) : zM_findTables_14 d v1 A L = if (A 63 12) ≤ v1 then zM_findTables_21 d A L else zM_findTables_15 d v1 (0 : Int32) A L := (zrun_q zT d (M := zt_X10_findTables) (bk := zb_X10_findTables_14) rfl rfl _ _ _ _).trans rfl
set_option maxRecDepth 20000 in
theorem zM_findTables_10_q (d : Nat) (v1 : Int32) (v2 : Int32) (A : zA) (L : zL) : zM_findTables_10 d v1 v2 A L = zM_findTables_11 d v1 v2 (0 : Int32) A L := (zrun_q zT d (M := zt_X10_findTables) (bk := zb_X10_findTables_10) rfl rfl _ _ _ _).trans rfl
set_option maxRecDepth 20000 in
theorem zM_ruleNow_q (d : Nat) (v1 : Int32) (v2 : Int32) (A : zA) (L : zL) : zM_ruleNow (d + 1) v1 v2 A L = zbi (zM_ruleAt d v1 v2 A L) (fun r1 A1 L1 => if r1 < 0 then zM_ruleNow_1 (d + 1) A1 L1 else if ((zshr (A1 63 33) r1) &&& (1 : Int32)) = 0 then zM_ruleNow_2 (d + 1) r1 A1 L1 else zM_ruleNow_1 (d + 1) A1 L1) := (zrun_q zT (d + 1) (M := zt_X10_ruleNow) (bk := zb_X10_ruleNow_0) rfl rfl _ _ _ _).trans rfl
set_option maxRecDepth 20000 in
theorem zM_findTables_3_q (d : Nat) (v1 : Int32) (v3 : Int32) (v4 : Int32) (s0 : Int32) (A : zA) (L : zL) : zM_findTables_3 d v1 v3 v4 s0 A L = zM_findTables_4 d v1 v3 v4 s0 (0 : Int32) A L := (zrun_q zT d (M := zt_X10_findTables) (bk := zb_X10_findTables_3) rfl rfl _ _ _ _).trans rfl
set_option maxRecDepth 20000 in
theorem zM_findTables_4_q (d : Nat) (v1 : Int32) (v3 : Int32) (v4 : Int32) (s0 : Int32) (s1 : Int32) (A : zA) (L : zL) : zM_findTables_4 d v1 v3 v4 s0 s1 A L = if 0 ≤ v4 then zM_findTables_5 d v1 (s0 ||| s1) v3 v4 (((8 : Int32) * v1) + v3) A L else zM_findTables_6 d v1 (s0 ||| s1) v3 v4 (((8 : Int32) * v1) + v3) (0 : Int32) A L := (zrun_q zT d (M := zt_X10_findTables) (bk := zb_X10_findTables_4) rfl rfl _ _ _ _).trans rfl
set_option maxRecDepth 20000 in
theorem zM_ruleAt_1_q (d : Nat) (v1 : Int32) (v2 : Int32) (v3 : Int32) (A : zA) (L : zL) : zM_ruleAt_1 d v1 v2 v3 A L = if (A 63 10) ≤ v3 then zM_ruleAt_3 d A L else zck v3 24 (if (A 65 (v3).toNatClampNeg) = v1 then zck v3 24 (if (A 66 (v3).toNatClampNeg) = v2 then some (some (.int v3), A, L) else zM_ruleAt_2 d v1 v2 v3 A L) else zM_ruleAt_2 d v1 v2 v3 A L) := (zrun_q zT d (M := zt_X10_ruleAt) (bk := zb_X10_ruleAt_1) rfl rfl _ _ _ _).trans rfl
set_option maxRecDepth 20000 in
theorem zM_replays_4_q (d : Nat) (v1 : Int32) (v2 : Int32) (v4 : Int32) (s1 : Int32) (s2 : Int32) (A : zA) (L : zL) : zM_replays_4 d v1 v2 v4 s1 s2 A L = if 0 ≤ v4 then zM_replays_5 d v1 v2 v4 (zput A 63 17 (s1 ^^^ s2)) L else zM_replays_6 d v1 v2 ((zput A 63 17 (s1 ^^^ s2)) 63 16) (zput A 63 17 (s1 ^^^ s2)) L := (zrun_q zT d (M := zt_X10_replays) (bk := zb_X10_replays_4) rfl rfl _ _ _ _).trans rfl
