/-! a block is as it is written, by program -/
set_option maxRecDepth 20000 in
theorem zM_howIs_2_q (d : Nat) (A : zA) (L : zL) : zM_howIs_2 (d + 1) A L = zbi (zM_isEnd d (A 63 16) A L) (fun r1 A1 L1 => if r1 = 0 then zM_howIs_3 (d + 1) A1 L1 else zM_howIs_4 (d + 1) (1 : Int32) A1 L1) := (zrun_q zT (d + 1) (M := zt_X10_howIs) (bk := zb_X10_howIs_2) rfl rfl _ _ _ _).trans rfl
set_option maxRecDepth 20000 in
theorem zM_fillAll_4_q (d : Nat) (v1 : Int32) (A : zA) (L : zL) : zM_fillAll_4 d v1 A L = if v1 < 0 then zM_fillAll_16 d A L else zM_fillAll_5 d v1 (0 : Int32) A L := (zrun_q zT d (M := zt_X10_fillAll) (bk := zb_X10_fillAll_4) rfl rfl _ _ _ _).trans rfl
set_option maxRecDepth 20000 in
theorem zM_fillMind_1_q (d : Nat) (v1 : Int32) (v2 : Int32) (A : zA) (L : zL) : zM_fillMind_1 d v1 v2 A L = if v2 < 0 then zM_fillMind_12 d A L else zM_fillMind_2 d v1 v2 (0 : Int32) A L := (zrun_q zT d (M := zt_X10_fillMind) (bk := zb_X10_fillMind_1) rfl rfl _ _ _ _).trans rfl
set_option maxRecDepth 20000 in
theorem zM_choiceAt_2_q (d : Nat) (v4 : Int32) (A : zA) (L : zL) : zM_choiceAt_2 (d + 1) v4 A L = zbi (zM_lowest d v4 A L) (fun r1 A1 L1 => some (some (.int r1), A1, L1)) := (zrun_q zT (d + 1) (M := zt_X10_choiceAt) (bk := zb_X10_choiceAt_2) rfl rfl _ _ _ _).trans rfl
set_option maxRecDepth 20000 in
theorem zM_choiceAt_8_q (d : Nat) (v1 : Int32) (v2 : Int32) (v3 : Int32) (v5 : Int32) (A : zA) (L : zL) : zM_choiceAt_8 (d + 1) v1 v2 v3 v5 A L = zck v5 4 (zbi (zM_aheadChoice d v5 (A 69 (v5).toNatClampNeg) v1 v2 v3 A L) (fun r1 A1 L1 => some (some (.int r1), A1, L1))) := (zrun_q zT (d + 1) (M := zt_X10_choiceAt) (bk := zb_X10_choiceAt_8) rfl rfl _ _ _ _).trans rfl
set_option maxRecDepth 20000 in
theorem zM_choiceAt_3_q (d : Nat) (v1 : Int32) (v2 : Int32) (v3 : Int32) (v5 : Int32) (A : zA) (L : zL) : zM_choiceAt_3 (d + 1) v1 v2 v3 v5 A L = zbi (zM_blindChoice d v5 v1 v2 v3 A L) (fun r1 A1 L1 => some (some (.int r1), A1, L1)) := (zrun_q zT (d + 1) (M := zt_X10_choiceAt) (bk := zb_X10_choiceAt_3) rfl rfl _ _ _ _).trans rfl
set_option maxRecDepth 20000 in
theorem zM_choiceAt_4_q (d : Nat) (v2 : Int32) (v4 : Int32) (A : zA) (L : zL) : zM_choiceAt_4 (d + 1) v2 v4 A L = zbi (zM_isEnd d v2 A L) (fun r1 A1 L1 => if r1 = 0 then zM_choiceAt_5 (d + 1) v4 A1 L1 else zM_choiceAt_6 (d + 1) (8 : Int32) A1 L1) := (zrun_q zT (d + 1) (M := zt_X10_choiceAt) (bk := zb_X10_choiceAt_4) rfl rfl _ _ _ _).trans rfl
set_option maxRecDepth 20000 in
theorem zM_choiceAt_7_q (d : Nat) (v1 : Int32) (v2 : Int32) (v3 : Int32) (v5 : Int32) (A : zA) (L : zL) : zM_choiceAt_7 (d + 1) v1 v2 v3 v5 A L = zbi (zM_greedyChoice d v5 v1 v2 v3 A L) (fun r1 A1 L1 => some (some (.int r1), A1, L1)) := (zrun_q zT (d + 1) (M := zt_X10_choiceAt) (bk := zb_X10_choiceAt_7) rfl rfl _ _ _ _).trans rfl
set_option maxRecDepth 20000 in
theorem zM_ends_6_q (d : Nat) (A : zA) (L : zL) : zM_ends_6 (d + 1) A L = zbi (zM_endNow d A L) (fun r1 A1 L1 => zcd (64 : Int32) (zM_ends_7 (d + 1) (r1 / (64 : Int32)) A1 L1)) := (zrun_q zT (d + 1) (M := zt_X10_ends) (bk := zb_X10_ends_6) rfl rfl _ _ _ _).trans rfl
set_option maxRecDepth 20000 in
theorem zM_ends_7_q (d : Nat) (s0 : Int32) (A : zA) (L : zL) : zM_ends_7 d s0 A L = some (some (.int s0), A, L) := (zrun_q zT d (M := zt_X10_ends) (bk := zb_X10_ends_7) rfl rfl _ _ _ _).trans rfl
set_option maxRecDepth 20000 in
theorem zM_fillGame_6_q (d : Nat) (A : zA) (L : zL) : zM_fillGame_6 d A L = some (none, A, L) := (zrun_q zT d (M := zt_X10_fillGame) (bk := zb_X10_fillGame_6) rfl rfl _ _ _ _).trans rfl
set_option maxRecDepth 20000 in
theorem zM_fillGame_2_q (d : Nat) (v1 : Int32) (v2 : Int32) (v3 : Int32) (v4 : Int32) (v5 : Int32) (A : zA) (L : zL) : zM_fillGame_2 d v1 v2 v3 v4 v5 A L = if (8 : Int32) ≤ v5 then zM_fillGame_5 d v1 v2 v3 v4 A L else zM_fillGame_3 d v1 v2 v3 v4 v5 (0 : Int32) A L := (zrun_q zT d (M := zt_X10_fillGame) (bk := zb_X10_fillGame_2) rfl rfl _ _ _ _).trans rfl
set_option maxRecDepth 20000 in
theorem zM_counts_3_q (d : Nat) (v6 : Int32) (A : zA) (L : zL) : zM_counts_3 d v6 A L = if v6 = 0 then zM_counts_4 d A L else zM_counts_5 d (1 : Int32) A L := (zrun_q zT d (M := zt_X10_counts) (bk := zb_X10_counts_3) rfl rfl _ _ _ _).trans rfl
set_option maxRecDepth 20000 in
theorem zM_counts_6_q (d : Nat) (v6 : Int32) (A : zA) (L : zL) : zM_counts_6 d v6 A L = if v6 = 0 then zM_counts_7 d A L else zM_counts_8 d (0 : Int32) A L := (zrun_q zT d (M := zt_X10_counts) (bk := zb_X10_counts_6) rfl rfl _ _ _ _).trans rfl
set_option maxRecDepth 20000 in
theorem zM_counts_9_q (d : Nat) (v4 : Int32) (A : zA) (L : zL) : zM_counts_9 d v4 A L = if v4 < (64 : Int32) then zM_counts_10 d A L else zM_counts_11 d (1 : Int32) A L := (zrun_q zT d (M := zt_X10_counts) (bk := zb_X10_counts_9) rfl rfl _ _ _ _).trans rfl
set_option maxRecDepth 20000 in
theorem zM_counts_12_q (d : Nat) (v5 : Int32) (A : zA) (L : zL) : zM_counts_12 d v5 A L = some (some (.int v5), A, L) := (zrun_q zT d (M := zt_X10_counts) (bk := zb_X10_counts_12) rfl rfl _ _ _ _).trans rfl
set_option maxRecDepth 20000 in
theorem zM_counts_13_q (d : Nat) (v1 : Int32) (v4 : Int32) (A : zA) (L : zL) : zM_counts_13 (d + 1) v1 v4 A L = zbi (zM_endWorth d v1 v4 A L) (fun r1 A1 L1 => some (some (.int r1), A1, L1)) := (zrun_q zT (d + 1) (M := zt_X10_counts) (bk := zb_X10_counts_13) rfl rfl _ _ _ _).trans rfl
set_option maxRecDepth 20000 in
theorem zM_meanings_5_q (d : Nat) (v1 : Int32) (v2 : Int64) (v4 : Int32) (v5 : Int32) (A : zA) (L : zL) : zM_meanings_5 d v1 v2 v4 v5 A L = if (64 : Int32) ≤ v5 then zM_meanings_9 d v1 v4 A L else if (lg_cmp ((zlushr v2 v5) &&& (1 : Int64)) (0 : Int64)) = 0 then zM_meanings_8 d v1 v2 v4 v5 A L else zM_meanings_6 d v1 v2 v4 v5 A L := (zrun_q zT d (M := zt_X10_meanings) (bk := zb_X10_meanings_5) rfl rfl _ _ _ _).trans rfl
set_option maxRecDepth 20000 in
theorem zM_fillMeant_17_q (d : Nat) (A : zA) (L : zL) : zM_fillMeant_17 d A L = some (none, A, L) := (zrun_q zT d (M := zt_X10_fillMeant) (bk := zb_X10_fillMeant_17) rfl rfl _ _ _ _).trans rfl
set_option maxRecDepth 20000 in
theorem zM_fillMeant_2_q (d : Nat) (v1 : Int32) (v2 : Int32) (A : zA) (L : zL) : zM_fillMeant_2 d v1 v2 A L = if (8 : Int32) ≤ v2 then zM_fillMeant_16 d v1 A L else zM_fillMeant_3 d v1 v2 (0 : Int32) A L := (zrun_q zT d (M := zt_X10_fillMeant) (bk := zb_X10_fillMeant_2) rfl rfl _ _ _ _).trans rfl
set_option maxRecDepth 20000 in
theorem zM_begins_4_q (d : Nat) (v1 : Int32) (v2 : Int32) (v3 : Int32) (v4 : Int32) (v5 : Int32) (A : zA) (L : zL) : zM_begins_4 (d + 1) v1 v2 v3 v4 v5 A L = zck ((A 63 12) - (1 : Int32)) 4 (zbi (zM_fromStart d v1 (zput A 72 (((A 63 12) - (1 : Int32))).toNatClampNeg v5) L) (fun r1 A1 L1 => if v3 < r1 then zM_begins_5 (d + 1) v1 v4 r1 A1 L1 else zM_begins_6 (d + 1) v1 v2 v3 v4 A1 L1)) := (zrun_q zT (d + 1) (M := zt_X10_begins) (bk := zb_X10_begins_4) rfl rfl _ _ _ _).trans rfl
set_option maxRecDepth 20000 in
theorem zM_turns_4_q (d : Nat) (v1 : Int32) (v2 : Int32) (v3 : Int32) (v4 : Int32) (A : zA) (L : zL) : zM_turns_4 (d + 1) v1 v2 v3 v4 A L = if v4 = 0 then zM_turns_7 (d + 1) v2 A L else zbi (zM_fromStart d v1 A L) (fun r1 A1 L1 => if v2 < 0 then zM_turns_5 (d + 1) v1 r1 A1 L1 else if r1 ≤ v3 then zM_turns_6 (d + 1) v1 v2 v3 A1 L1 else zM_turns_5 (d + 1) v1 r1 A1 L1) := (zrun_q zT (d + 1) (M := zt_X10_turns) (bk := zb_X10_turns_4) rfl rfl _ _ _ _).trans rfl
set_option maxRecDepth 20000 in
theorem zM_buys_4_q (d : Nat) (v1 : Int32) (v4 : Int32) (v5 : Int32) (A : zA) (L : zL) : zM_buys_4 d v1 v4 v5 A L = zM_buys_5 d v1 v4 v5 v4 A L := (zrun_q zT d (M := zt_X10_buys) (bk := zb_X10_buys_4) rfl rfl _ _ _ _).trans rfl
set_option maxRecDepth 20000 in
theorem zM_least_6_q (d : Nat) (v1 : Int32) (v2 : Int32) (A : zA) (L : zL) : zM_least_6 d v1 v2 A L = zM_least_7 d v1 v2 (1 : Int32) A L := (zrun_q zT d (M := zt_X10_least) (bk := zb_X10_least_6) rfl rfl _ _ _ _).trans rfl
set_option maxRecDepth 20000 in
theorem zM_least_5_q (d : Nat) (v1 : Int32) (v2 : Int32) (v3 : Int32) (A : zA) (L : zL) : zM_least_5 d v1 v2 v3 A L = zM_least_4 d v1 v2 (v3 + 1) A L := (zrun_q zT d (M := zt_X10_least) (bk := zb_X10_least_5) rfl rfl _ _ _ _).trans rfl
set_option maxRecDepth 20000 in
theorem zM_didAs_1_q (d : Nat) (v1 : Int32) (v2 : Int32) (v3 : Int32) (v4 : Int32) (A : zA) (L : zL) : zM_didAs_1 (d + 1) v1 v2 v3 v4 A L = if (A 63 15) ≤ v4 then zM_didAs_8 (d + 1) v1 v2 v3 A L else zbi (zM_turnAt d v4 A L) (fun r1 A1 L1 => if r1 = v1 then zbi (zM_choiceAt d v4 v2 v3 A1 L1) (fun r2 A2 L2 => zck v4 8 (if r2 = (A2 73 (v4).toNatClampNeg) then zM_didAs_2 (d + 1) v1 v2 v3 v4 A2 L2 else zcb (0 : Int32) (some (some (.int (0 : Int32)), A2, L2)))) else zM_didAs_2 (d + 1) v1 v2 v3 v4 A1 L1) := (zrun_q zT (d + 1) (M := zt_X10_didAs) (bk := zb_X10_didAs_1) rfl rfl _ _ _ _).trans rfl
set_option maxRecDepth 20000 in
theorem zM_seeds_4_q (d : Nat) (v5 : Int32) (A : zA) (L : zL) : zM_seeds_4 d v5 A L = some (some (.int v5), A, L) := (zrun_q zT d (M := zt_X10_seeds) (bk := zb_X10_seeds_4) rfl rfl _ _ _ _).trans rfl
set_option maxRecDepth 20000 in
theorem zM_drawnEnd_q (d : Nat) (A : zA) (L : zL) : zM_drawnEnd d A L = zM_drawnEnd_1 d (0 : Int32) (0 : Int32) (0 : Int32) A L := (zrun_q zT d (M := zt_X10_drawnEnd) (bk := zb_X10_drawnEnd_0) rfl rfl _ _ _ _).trans rfl
set_option maxRecDepth 20000 in
theorem zM_bits_1_q (d : Nat) (v0 : Int32) (v1 : Int32) (v2 : Int32) (A : zA) (L : zL) : zM_bits_1 d v0 v1 v2 A L = if (31 : Int32) ≤ v2 then zM_bits_2 d v1 A L else zM_bits_1 d v0 (v1 + ((zshr v0 v2) &&& (1 : Int32))) (v2 + 1) A L := (zrun_q zT d (M := zt_X10_bits) (bk := zb_X10_bits_1) rfl rfl _ _ _ _).trans rfl
set_option maxRecDepth 20000 in
theorem zM_tongue_8_q (d : Nat) (v2 : Int32) (A : zA) (L : zL) : zM_tongue_8 (d + 1) v2 A L = if (A 63 28) ≤ v2 then zM_tongue_11 (d + 1) A L else zbi (zM_comes d v2 A L) (fun r1 A1 L1 => if r1 = 0 then zM_tongue_9 (d + 1) v2 A1 L1 else zM_tongue_10 (d + 1) v2 A1 L1) := (zrun_q zT (d + 1) (M := zt_X10_tongue) (bk := zb_X10_tongue_8) rfl rfl _ _ _ _).trans rfl
set_option maxRecDepth 20000 in
theorem zM_next_q (d : Nat) (A : zA) (L : zL) : zM_next d A L = if (A 63 26) ≤ (A 63 27) then zM_next_1 d A L else zck (A 63 27) 64 (zM_next_2 d (A 74 ((A 63 27)).toNatClampNeg) A L) := (zrun_q zT d (M := zt_X10_next) (bk := zb_X10_next_0) rfl rfl _ _ _ _).trans rfl
set_option maxRecDepth 20000 in
theorem zM_statement_1_q (d : Nat) (v1 : Int32) (v2 : Int32) (A : zA) (L : zL) : zM_statement_1 (d + 1) v1 v2 A L = zck v1 32 (zck v1 32 (if v2 = (114 : Int32) then zbi (zM_readsRule d v1 (zput (zput (zput A 75 (v1).toNatClampNeg v2) 76 (v1).toNatClampNeg ((zput A 75 (v1).toNatClampNeg v2) 63 27)) 63 27 (((zput (zput A 75 (v1).toNatClampNeg v2) 76 (v1).toNatClampNeg ((zput A 75 (v1).toNatClampNeg v2) 63 27)) 63 27) + (1 : Int32))) L) (fun r1 A1 L1 => zcb r1 (some (some (.int r1), A1, L1))) else zM_statement_2 (d + 1) v1 v2 (zput (zput (zput A 75 (v1).toNatClampNeg v2) 76 (v1).toNatClampNeg ((zput A 75 (v1).toNatClampNeg v2) 63 27)) 63 27 (((zput (zput A 75 (v1).toNatClampNeg v2) 76 (v1).toNatClampNeg ((zput A 75 (v1).toNatClampNeg v2) 63 27)) 63 27) + (1 : Int32))) L)) := (zrun_q zT (d + 1) (M := zt_X10_statement) (bk := zb_X10_statement_1) rfl rfl _ _ _ _).trans rfl
set_option maxRecDepth 20000 in
theorem zM_rule_5_q (d : Nat) (v1 : Int32) (A : zA) (L : zL) : zM_rule_5 d v1 A L = zck v1 24 (zM_rule_6 d (A 68 (v1).toNatClampNeg) A L) := (zrun_q zT d (M := zt_X10_rule) (bk := zb_X10_rule_5) rfl rfl _ _ _ _).trans rfl
set_option maxRecDepth 20000 in
theorem zM_placeOf_q (d : Nat) (v1 : Int32) (A : zA) (L : zL) : zM_placeOf d v1 A L = zM_placeOf_1 d v1 (0 : Int32) A L := (zrun_q zT d (M := zt_X10_placeOf) (bk := zb_X10_placeOf_0) rfl rfl _ _ _ _).trans rfl
set_option maxRecDepth 20000 in
theorem zM_set_7_q (d : Nat) (v2 : Int32) (v4 : Int32) (A : zA) (L : zL) : zM_set_7 d v2 v4 A L = zM_set_8 d v4 (zput A 63 14 v2) L := (zrun_q zT d (M := zt_X10_set) (bk := zb_X10_set_7) rfl rfl _ _ _ _).trans rfl
set_option maxRecDepth 20000 in
theorem zM_set_8_q (d : Nat) (v4 : Int32) (A : zA) (L : zL) : zM_set_8 d v4 A L = some (some (.int v4), A, L) := (zrun_q zT d (M := zt_X10_set) (bk := zb_X10_set_8) rfl rfl _ _ _ _).trans rfl
set_option maxRecDepth 20000 in
theorem zM_orderDigits_q (d : Nat) (A : zA) (L : zL) : zM_orderDigits d A L = zM_orderDigits_1 d (0 : Int32) ((A 63 12) - (1 : Int32)) A L := (zrun_q zT d (M := zt_X10_orderDigits) (bk := zb_X10_orderDigits_0) rfl rfl _ _ _ _).trans rfl
set_option maxRecDepth 20000 in
theorem zM_order_7_q (d : Nat) (v2 : Int32) (v4 : Int32) (v5 : Int32) (A : zA) (L : zL) : zM_order_7 d v2 v4 v5 A L = if (A 63 12) ≤ v5 then zM_order_8 d v4 A L else zcd (10 : Int32) (zck v5 4 (zcd (10 : Int32) (zM_order_7 d (v2 / (10 : Int32)) v4 (v5 + 1) (zput A 72 (v5).toNatClampNeg (zrem v2 (10 : Int32))) L))) := (zrun_q zT d (M := zt_X10_order) (bk := zb_X10_order_7) rfl rfl _ _ _ _).trans rfl
set_option maxRecDepth 20000 in
theorem zM_findTables_21_q (d : Nat) (A : zA) (L : zL) : zM_findTables_21 d A L = some (none, A, L) := (zrun_q zT d (M := zt_X10_findTables) (bk := zb_X10_findTables_21) rfl rfl _ _ _ _).trans rfl
set_option maxRecDepth 20000 in
theorem zM_findTables_15_q (d : Nat) (v1 : Int32) (v2 : Int32) (A : zA) (L : zL) : zM_findTables_15 d v1 v2 A L = if (64 : Int32) ≤ v2 then zM_findTables_20 d v1 A L else zM_findTables_16 d v1 v2 (0 : Int32) (0 : Int32) A L := (zrun_q zT d (M := zt_X10_findTables) (bk := zb_X10_findTables_15) rfl rfl _ _ _ _).trans rfl
set_option maxRecDepth 20000 in
theorem zM_findTables_11_q (d : Nat) (v1 : Int32) (v2 : Int32) (v3 : Int32) (A : zA) (L : zL) : zM_findTables_11 d v1 v2 v3 A L = if (A 63 12) ≤ v3 then zM_findTables_12 d v1 A L else zck v3 4 (zck (((8 : Int32) * v3) + v1) 32 (zM_findTables_11 d v1 v2 (v3 + 1) (zput A 82 ((((8 : Int32) * v3) + v1)).toNatClampNeg (v2 &&& (A 70 (v3).toNatClampNeg))) L)) := (zrun_q zT d (M := zt_X10_findTables) (bk := zb_X10_findTables_11) rfl rfl _ _ _ _).trans rfl
set_option maxRecDepth 20000 in
theorem zM_ruleNow_1_q (d : Nat) (A : zA) (L : zL) : zM_ruleNow_1 d A L = zM_ruleNow_2 d (-9 : Int32) A L := (zrun_q zT d (M := zt_X10_ruleNow) (bk := zb_X10_ruleNow_1) rfl rfl _ _ _ _).trans rfl
set_option maxRecDepth 20000 in
theorem zM_ruleNow_2_q (d : Nat) (s0 : Int32) (A : zA) (L : zL) : zM_ruleNow_2 d s0 A L = some (some (.int s0), A, L) := (zrun_q zT d (M := zt_X10_ruleNow) (bk := zb_X10_ruleNow_2) rfl rfl _ _ _ _).trans rfl
set_option maxRecDepth 20000 in
theorem zM_findTables_5_q (d : Nat) (v1 : Int32) (v2 : Int32) (v3 : Int32) (v4 : Int32) (s1 : Int32) (A : zA) (L : zL) : zM_findTables_5 d v1 v2 v3 v4 s1 A L = zck v4 24 (zM_findTables_6 d v1 v2 v3 v4 s1 (A 67 (v4).toNatClampNeg) A L) := (zrun_q zT d (M := zt_X10_findTables) (bk := zb_X10_findTables_5) rfl rfl _ _ _ _).trans rfl
set_option maxRecDepth 20000 in
theorem zM_findTables_6_q (d : Nat) (v1 : Int32) (v2 : Int32) (v3 : Int32) (v4 : Int32) (s1 : Int32) (s2 : Int32) (A : zA) (L : zL) : zM_findTables_6 d v1 v2 v3 v4 s1 s2 A L = zck s1 64 (if v4 < 0 then zM_findTables_7 d v1 v2 v3 (((8 : Int32) * v1) + v3) (zput A 83 (s1).toNatClampNeg s2) L else zck v4 24 (if 0 ≤ ((zput A 83 (s1).toNatClampNeg s2) 68 (v4).toNatClampNeg) then zM_findTables_8 d v1 v2 v3 v4 (((8 : Int32) * v1) + v3) (zput A 83 (s1).toNatClampNeg s2) L else zM_findTables_7 d v1 v2 v3 (((8 : Int32) * v1) + v3) (zput A 83 (s1).toNatClampNeg s2) L)) := (zrun_q zT d (M := zt_X10_findTables) (bk := zb_X10_findTables_6) rfl rfl _ _ _ _).trans rfl
set_option maxRecDepth 20000 in
theorem zM_ruleAt_3_q (d : Nat) (A : zA) (L : zL) : zM_ruleAt_3 d A L = some (some (.int (-9 : Int32)), A, L) := (zrun_q zT d (M := zt_X10_ruleAt) (bk := zb_X10_ruleAt_3) rfl rfl _ _ _ _).trans rfl
set_option maxRecDepth 20000 in
theorem zM_ruleAt_2_q (d : Nat) (v1 : Int32) (v2 : Int32) (v3 : Int32) (A : zA) (L : zL) : zM_ruleAt_2 d v1 v2 v3 A L = zM_ruleAt_1 d v1 v2 (v3 + 1) A L := (zrun_q zT d (M := zt_X10_ruleAt) (bk := zb_X10_ruleAt_2) rfl rfl _ _ _ _).trans rfl
set_option maxRecDepth 20000 in
theorem zM_replays_5_q (d : Nat) (v1 : Int32) (v2 : Int32) (v4 : Int32) (A : zA) (L : zL) : zM_replays_5 d v1 v2 v4 A L = zck v4 24 (zM_replays_6 d v1 v2 (A 67 (v4).toNatClampNeg) A L) := (zrun_q zT d (M := zt_X10_replays) (bk := zb_X10_replays_5) rfl rfl _ _ _ _).trans rfl
set_option maxRecDepth 20000 in
theorem zM_replays_6_q (d : Nat) (v1 : Int32) (v2 : Int32) (s1 : Int32) (A : zA) (L : zL) : zM_replays_6 d v1 v2 s1 A L = zM_replays_1 d v1 (v2 + 1) (zput A 63 16 s1) L := (zrun_q zT d (M := zt_X10_replays) (bk := zb_X10_replays_6) rfl rfl _ _ _ _).trans rfl
set_option maxRecDepth 20000 in
theorem zM_howIs_3_q (d : Nat) (A : zA) (L : zL) : zM_howIs_3 d A L = zM_howIs_4 d (2 : Int32) A L := (zrun_q zT d (M := zt_X10_howIs) (bk := zb_X10_howIs_3) rfl rfl _ _ _ _).trans rfl
set_option maxRecDepth 20000 in
theorem zM_howIs_4_q (d : Nat) (s0 : Int32) (A : zA) (L : zL) : zM_howIs_4 d s0 A L = some (some (.int s0), A, L) := (zrun_q zT d (M := zt_X10_howIs) (bk := zb_X10_howIs_4) rfl rfl _ _ _ _).trans rfl
set_option maxRecDepth 20000 in
theorem zM_fillAll_16_q (d : Nat) (A : zA) (L : zL) : zM_fillAll_16 d A L = some (none, A, L) := (zrun_q zT d (M := zt_X10_fillAll) (bk := zb_X10_fillAll_16) rfl rfl _ _ _ _).trans rfl
set_option maxRecDepth 20000 in
theorem zM_fillAll_5_q (d : Nat) (v1 : Int32) (v2 : Int32) (A : zA) (L : zL) : zM_fillAll_5 d v1 v2 A L = if (8 : Int32) ≤ v2 then zM_fillAll_15 d v1 A L else zM_fillAll_6 d v1 v2 (0 : Int32) A L := (zrun_q zT d (M := zt_X10_fillAll) (bk := zb_X10_fillAll_5) rfl rfl _ _ _ _).trans rfl
set_option maxRecDepth 20000 in
theorem zM_fillMind_12_q (d : Nat) (A : zA) (L : zL) : zM_fillMind_12 d A L = some (none, A, L) := (zrun_q zT d (M := zt_X10_fillMind) (bk := zb_X10_fillMind_12) rfl rfl _ _ _ _).trans rfl
set_option maxRecDepth 20000 in
theorem zM_fillMind_2_q (d : Nat) (v1 : Int32) (v2 : Int32) (v3 : Int32) (A : zA) (L : zL) : zM_fillMind_2 d v1 v2 v3 A L = if (8 : Int32) ≤ v3 then zM_fillMind_11 d v1 v2 A L else zM_fillMind_3 d v1 v2 v3 (0 : Int32) A L := (zrun_q zT d (M := zt_X10_fillMind) (bk := zb_X10_fillMind_2) rfl rfl _ _ _ _).trans rfl
set_option maxRecDepth 20000 in
theorem zM_lowest_q (d : Nat) (v0 : Int32) (A : zA) (L : zL) : zM_lowest d v0 A L = zM_lowest_1 d v0 (0 : Int32) A L := (zrun_q zT d (M := zt_X10_lowest) (bk := zb_X10_lowest_0) rfl rfl _ _ _ _).trans rfl
set_option maxRecDepth 20000 in
theorem zM_aheadChoice_q (d : Nat) (v1 : Int32) (v2 : Int32) (v3 : Int32) (v4 : Int32) (v5 : Int32) (A : zA) (L : zL) : zM_aheadChoice (d + 1) v1 v2 v3 v4 v5 A L = zbi (zM_mayAt d v3 v4 A L) (fun r1 A1 L1 => zM_aheadChoice_1 (d + 1) v1 v2 v3 v4 v5 (-9 : Int32) (0 : Int32) r1 (0 : Int32) A1 L1) := (zrun_q zT (d + 1) (M := zt_X10_aheadChoice) (bk := zb_X10_aheadChoice_0) rfl rfl _ _ _ _).trans rfl
set_option maxRecDepth 20000 in
theorem zM_blindChoice_q (d : Nat) (v1 : Int32) (v2 : Int32) (v3 : Int32) (v4 : Int32) (A : zA) (L : zL) : zM_blindChoice (d + 1) v1 v2 v3 v4 A L = zbi (zM_mayAt d v2 v3 A L) (fun r1 A1 L1 => zM_blindChoice_1 (d + 1) v1 v2 v3 v4 (-9 : Int32) (0 : Int32) r1 (0 : Int32) A1 L1) := (zrun_q zT (d + 1) (M := zt_X10_blindChoice) (bk := zb_X10_blindChoice_0) rfl rfl _ _ _ _).trans rfl
set_option maxRecDepth 20000 in
theorem zM_choiceAt_5_q (d : Nat) (v4 : Int32) (A : zA) (L : zL) : zM_choiceAt_5 (d + 1) v4 A L = zbi (zM_lowest d v4 A L) (fun r1 A1 L1 => zM_choiceAt_6 (d + 1) r1 A1 L1) := (zrun_q zT (d + 1) (M := zt_X10_choiceAt) (bk := zb_X10_choiceAt_5) rfl rfl _ _ _ _).trans rfl
set_option maxRecDepth 20000 in
theorem zM_choiceAt_6_q (d : Nat) (s0 : Int32) (A : zA) (L : zL) : zM_choiceAt_6 d s0 A L = some (some (.int s0), A, L) := (zrun_q zT d (M := zt_X10_choiceAt) (bk := zb_X10_choiceAt_6) rfl rfl _ _ _ _).trans rfl
set_option maxRecDepth 20000 in
theorem zM_greedyChoice_q (d : Nat) (v1 : Int32) (v2 : Int32) (v3 : Int32) (v4 : Int32) (A : zA) (L : zL) : zM_greedyChoice (d + 1) v1 v2 v3 v4 A L = zbi (zM_mayAt d v2 v3 A L) (fun r1 A1 L1 => zM_greedyChoice_1 (d + 1) v1 v3 v4 (-9 : Int32) (0 : Int32) r1 (0 : Int32) A1 L1) := (zrun_q zT (d + 1) (M := zt_X10_greedyChoice) (bk := zb_X10_greedyChoice_0) rfl rfl _ _ _ _).trans rfl
set_option maxRecDepth 20000 in
theorem zM_fillGame_5_q (d : Nat) (v1 : Int32) (v2 : Int32) (v3 : Int32) (v4 : Int32) (A : zA) (L : zL) : zM_fillGame_5 d v1 v2 v3 v4 A L = zM_fillGame_1 d v1 v2 v3 (v4 + (-1)) A L := (zrun_q zT d (M := zt_X10_fillGame) (bk := zb_X10_fillGame_5) rfl rfl _ _ _ _).trans rfl
set_option maxRecDepth 20000 in
theorem zM_fillGame_3_q (d : Nat) (v1 : Int32) (v2 : Int32) (v3 : Int32) (v4 : Int32) (v5 : Int32) (v6 : Int32) (A : zA) (L : zL) : zM_fillGame_3 (d + 1) v1 v2 v3 v4 v5 v6 A L = if (64 : Int32) ≤ v6 then zM_fillGame_4 (d + 1) v1 v2 v3 v4 v5 A L else zbi (zM_placeAt d v4 v5 v6 A L) (fun r1 A1 L1 => zbi (zM_gameAt d v1 v2 v3 v4 v5 v6 A1 L1) (fun r2 A2 L2 => zck r1 4608 (zM_fillGame_3 (d + 1) v1 v2 v3 v4 v5 (v6 + 1) (zput A2 89 (r1).toNatClampNeg r2) L2))) := (zrun_q zT (d + 1) (M := zt_X10_fillGame) (bk := zb_X10_fillGame_3) rfl rfl _ _ _ _).trans rfl
set_option maxRecDepth 20000 in
theorem zM_counts_4_q (d : Nat) (A : zA) (L : zL) : zM_counts_4 d A L = zM_counts_5 d (0 : Int32) A L := (zrun_q zT d (M := zt_X10_counts) (bk := zb_X10_counts_4) rfl rfl _ _ _ _).trans rfl
set_option maxRecDepth 20000 in
theorem zM_counts_5_q (d : Nat) (s0 : Int32) (A : zA) (L : zL) : zM_counts_5 d s0 A L = some (some (.int s0), A, L) := (zrun_q zT d (M := zt_X10_counts) (bk := zb_X10_counts_5) rfl rfl _ _ _ _).trans rfl
set_option maxRecDepth 20000 in
theorem zM_counts_7_q (d : Nat) (A : zA) (L : zL) : zM_counts_7 d A L = zM_counts_8 d (1 : Int32) A L := (zrun_q zT d (M := zt_X10_counts) (bk := zb_X10_counts_7) rfl rfl _ _ _ _).trans rfl
set_option maxRecDepth 20000 in
theorem zM_counts_8_q (d : Nat) (s0 : Int32) (A : zA) (L : zL) : zM_counts_8 d s0 A L = some (some (.int s0), A, L) := (zrun_q zT d (M := zt_X10_counts) (bk := zb_X10_counts_8) rfl rfl _ _ _ _).trans rfl
set_option maxRecDepth 20000 in
theorem zM_counts_10_q (d : Nat) (A : zA) (L : zL) : zM_counts_10 d A L = zM_counts_11 d (0 : Int32) A L := (zrun_q zT d (M := zt_X10_counts) (bk := zb_X10_counts_10) rfl rfl _ _ _ _).trans rfl
set_option maxRecDepth 20000 in
theorem zM_counts_11_q (d : Nat) (s0 : Int32) (A : zA) (L : zL) : zM_counts_11 d s0 A L = some (some (.int s0), A, L) := (zrun_q zT d (M := zt_X10_counts) (bk := zb_X10_counts_11) rfl rfl _ _ _ _).trans rfl
set_option maxRecDepth 20000 in
theorem zM_meanings_9_q (d : Nat) (v1 : Int32) (v4 : Int32) (A : zA) (L : zL) : zM_meanings_9 d v1 v4 A L = if v1 = (-1 : Int32) then zM_meanings_11 d v4 A L else zM_meanings_10 d A L := (zrun_q zT d (M := zt_X10_meanings) (bk := zb_X10_meanings_9) rfl rfl _ _ _ _).trans rfl
set_option maxRecDepth 20000 in
theorem zM_meanings_6_q (d : Nat) (v1 : Int32) (v2 : Int64) (v4 : Int32) (v5 : Int32) (A : zA) (L : zL) : zM_meanings_6 d v1 v2 v4 v5 A L = if v4 = v1 then some (some (.int v5), A, L) else zM_meanings_7 d v1 v2 v4 v5 A L := (zrun_q zT d (M := zt_X10_meanings) (bk := zb_X10_meanings_6) rfl rfl _ _ _ _).trans rfl
set_option maxRecDepth 20000 in
theorem zM_meanings_8_q (d : Nat) (v1 : Int32) (v2 : Int64) (v4 : Int32) (v5 : Int32) (A : zA) (L : zL) : zM_meanings_8 d v1 v2 v4 v5 A L = zM_meanings_5 d v1 v2 v4 (v5 + 1) A L := (zrun_q zT d (M := zt_X10_meanings) (bk := zb_X10_meanings_8) rfl rfl _ _ _ _).trans rfl
set_option maxRecDepth 20000 in
theorem zM_fillMeant_16_q (d : Nat) (v1 : Int32) (A : zA) (L : zL) : zM_fillMeant_16 d v1 A L = zM_fillMeant_1 d (v1 + (-1)) A L := (zrun_q zT d (M := zt_X10_fillMeant) (bk := zb_X10_fillMeant_16) rfl rfl _ _ _ _).trans rfl
set_option maxRecDepth 20000 in
theorem zM_fillMeant_3_q (d : Nat) (v1 : Int32) (v2 : Int32) (v3 : Int32) (A : zA) (L : zL) : zM_fillMeant_3 (d + 1) v1 v2 v3 A L = if (64 : Int32) ≤ v3 then zM_fillMeant_15 (d + 1) v1 v2 A L else zbi (zM_placeAt d v1 v2 v3 A L) (fun r1 A1 L1 => zbi (zM_mayAt d v1 v2 A1 L1) (fun r2 A2 L2 => zbi (zM_isEnd d v2 A2 L2) (fun r3 A3 L3 => if r3 = 0 then zM_fillMeant_4 (d + 1) v1 v2 v3 r1 r2 r1 A3 L3 else zM_fillMeant_5 (d + 1) v1 v2 v3 r1 r2 r1 (zlshl (1 : Int64) v3) A3 L3))) := (zrun_q zT (d + 1) (M := zt_X10_fillMeant) (bk := zb_X10_fillMeant_3) rfl rfl _ _ _ _).trans rfl
set_option maxRecDepth 20000 in
theorem zM_begins_5_q (d : Nat) (v1 : Int32) (v4 : Int32) (v6 : Int32) (A : zA) (L : zL) : zM_begins_5 d v1 v4 v6 A L = zM_begins_6 d v1 v4 v6 v4 A L := (zrun_q zT d (M := zt_X10_begins) (bk := zb_X10_begins_5) rfl rfl _ _ _ _).trans rfl
set_option maxRecDepth 20000 in
theorem zM_begins_6_q (d : Nat) (v1 : Int32) (v2 : Int32) (v3 : Int32) (v4 : Int32) (A : zA) (L : zL) : zM_begins_6 d v1 v2 v3 v4 A L = zM_begins_2 d v1 v2 v3 (v4 + 1) A L := (zrun_q zT d (M := zt_X10_begins) (bk := zb_X10_begins_6) rfl rfl _ _ _ _).trans rfl
set_option maxRecDepth 20000 in
theorem zM_turns_7_q (d : Nat) (v2 : Int32) (A : zA) (L : zL) : zM_turns_7 (d + 1) v2 A L = zbv (zM_passesAll d (1 : Int32) (0 : Int32) A L) (fun A1 L1 => some (some (.int v2), A1, L1)) := (zrun_q zT (d + 1) (M := zt_X10_turns) (bk := zb_X10_turns_7) rfl rfl _ _ _ _).trans rfl
set_option maxRecDepth 20000 in
theorem zM_turns_5_q (d : Nat) (v1 : Int32) (v5 : Int32) (A : zA) (L : zL) : zM_turns_5 (d + 1) v1 v5 A L = zbi (zM_orderDigits d A L) (fun r1 A1 L1 => zM_turns_6 (d + 1) v1 r1 v5 A1 L1) := (zrun_q zT (d + 1) (M := zt_X10_turns) (bk := zb_X10_turns_5) rfl rfl _ _ _ _).trans rfl
set_option maxRecDepth 20000 in
theorem zM_turns_6_q (d : Nat) (v1 : Int32) (v2 : Int32) (v3 : Int32) (A : zA) (L : zL) : zM_turns_6 (d + 1) v1 v2 v3 A L = zbi (zM_nextOrder d A L) (fun r1 A1 L1 => zM_turns_4 (d + 1) v1 v2 v3 r1 A1 L1) := (zrun_q zT (d + 1) (M := zt_X10_turns) (bk := zb_X10_turns_6) rfl rfl _ _ _ _).trans rfl
set_option maxRecDepth 20000 in
theorem zM_least_7_q (d : Nat) (v1 : Int32) (v2 : Int32) (v3 : Int32) (A : zA) (L : zL) : zM_least_7 d v1 v2 v3 A L = if (A 63 10) ≤ v3 then zM_least_11 d A L else zM_least_8 d v1 v2 v3 (0 : Int32) A L := (zrun_q zT d (M := zt_X10_least) (bk := zb_X10_least_7) rfl rfl _ _ _ _).trans rfl
set_option maxRecDepth 20000 in
theorem zM_didAs_8_q (d : Nat) (v1 : Int32) (v2 : Int32) (v3 : Int32) (A : zA) (L : zL) : zM_didAs_8 (d + 1) v1 v2 v3 A L = if (A 63 18) = 0 then zM_didAs_9 (d + 1) A L else zbi (zM_turnAt d (A 63 15) A L) (fun r1 A1 L1 => if r1 = v1 then zbi (zM_choiceAt d (A1 63 15) v2 v3 A1 L1) (fun r2 A2 L2 => if r2 = (8 : Int32) then zM_didAs_9 (d + 1) A2 L2 else zM_didAs_10 (d + 1) A2 L2) else zM_didAs_9 (d + 1) A1 L1) := (zrun_q zT (d + 1) (M := zt_X10_didAs) (bk := zb_X10_didAs_8) rfl rfl _ _ _ _).trans rfl
set_option maxRecDepth 20000 in
theorem zM_didAs_2_q (d : Nat) (v1 : Int32) (v2 : Int32) (v3 : Int32) (v4 : Int32) (A : zA) (L : zL) : zM_didAs_2 (d + 1) v1 v2 v3 v4 A L = zck v4 8 (zbi (zM_ruleAt d v2 (A 73 (v4).toNatClampNeg) A L) (fun r1 A1 L1 => if r1 < 0 then zM_didAs_3 (d + 1) v1 v2 v4 r1 v3 A1 L1 else zck r1 24 (if 0 ≤ (A1 68 (r1).toNatClampNeg) then zM_didAs_4 (d + 1) v1 v2 v4 r1 v3 A1 L1 else zM_didAs_3 (d + 1) v1 v2 v4 r1 v3 A1 L1))) := (zrun_q zT (d + 1) (M := zt_X10_didAs) (bk := zb_X10_didAs_2) rfl rfl _ _ _ _).trans rfl
set_option maxRecDepth 20000 in
theorem zM_drawnEnd_1_q (d : Nat) (v1 : Int32) (v2 : Int32) (v3 : Int32) (A : zA) (L : zL) : zM_drawnEnd_1 (d + 1) v1 v2 v3 A L = zbi (zM_mayAt d v3 v1 A L) (fun r1 A1 L1 => if r1 = 0 then zM_drawnEnd_8 (d + 1) v1 v2 A1 L1 else zbi (zM_mayAt d v3 v1 A1 L1) (fun r2 A2 L2 => zbi (zM_bits d r2 A2 L2) (fun r3 A3 L3 => zbi (zM_isEnd d v1 A3 L3) (fun r4 A4 L4 => if r4 = 0 then zM_drawnEnd_2 (d + 1) v1 v2 v3 r2 r3 A4 L4 else zM_drawnEnd_3 (d + 1) v1 v2 v3 r2 r3 (1 : Int32) A4 L4)))) := (zrun_q zT (d + 1) (M := zt_X10_drawnEnd) (bk := zb_X10_drawnEnd_1) rfl rfl _ _ _ _).trans rfl
set_option maxRecDepth 20000 in
theorem zM_bits_2_q (d : Nat) (v1 : Int32) (A : zA) (L : zL) : zM_bits_2 d v1 A L = some (some (.int v1), A, L) := (zrun_q zT d (M := zt_X10_bits) (bk := zb_X10_bits_2) rfl rfl _ _ _ _).trans rfl
set_option maxRecDepth 20000 in
theorem zM_tongue_11_q (d : Nat) (A : zA) (L : zL) : zM_tongue_11 d A L = some (some (.int (A 63 28)), A, L) := (zrun_q zT d (M := zt_X10_tongue) (bk := zb_X10_tongue_11) rfl rfl _ _ _ _).trans rfl
set_option maxRecDepth 20000 in
theorem zM_comes_q (d : Nat) (v1 : Int32) (A : zA) (L : zL) : zM_comes d v1 A L = zck v1 32 (zck v1 32 (if (A 75 (v1).toNatClampNeg) = 101 then zM_comes_6 d (A 77 (v1).toNatClampNeg) A L else if (A 75 (v1).toNatClampNeg) = 112 then zM_comes_9 d v1 (A 77 (v1).toNatClampNeg) A L else if (A 75 (v1).toNatClampNeg) = 114 then zM_comes_1 d v1 (A 77 (v1).toNatClampNeg) A L else if (A 75 (v1).toNatClampNeg) = 118 then zM_comes_14 d v1 (A 77 (v1).toNatClampNeg) A L else zM_comes_16 d (A 77 (v1).toNatClampNeg) A L)) := (zrun_q zT d (M := zt_X10_comes) (bk := zb_X10_comes_0) rfl rfl _ _ _ _).trans rfl
set_option maxRecDepth 20000 in
theorem zM_tongue_9_q (d : Nat) (v2 : Int32) (A : zA) (L : zL) : zM_tongue_9 (d + 1) v2 A L = zbv (zM_passesAll d (1 : Int32) (0 : Int32) A L) (fun A1 L1 => zck v2 32 (some (some (.int ((-2000 : Int32) - (A1 76 (v2).toNatClampNeg))), A1, L1))) := (zrun_q zT (d + 1) (M := zt_X10_tongue) (bk := zb_X10_tongue_9) rfl rfl _ _ _ _).trans rfl
set_option maxRecDepth 20000 in
theorem zM_tongue_10_q (d : Nat) (v2 : Int32) (A : zA) (L : zL) : zM_tongue_10 d v2 A L = zM_tongue_8 d (v2 + 1) A L := (zrun_q zT d (M := zt_X10_tongue) (bk := zb_X10_tongue_10) rfl rfl _ _ _ _).trans rfl
set_option maxRecDepth 20000 in
theorem zM_next_1_q (d : Nat) (A : zA) (L : zL) : zM_next_1 d A L = zM_next_2 d (-1 : Int32) A L := (zrun_q zT d (M := zt_X10_next) (bk := zb_X10_next_1) rfl rfl _ _ _ _).trans rfl
set_option maxRecDepth 20000 in
theorem zM_next_2_q (d : Nat) (s0 : Int32) (A : zA) (L : zL) : zM_next_2 d s0 A L = some (some (.int s0), A, L) := (zrun_q zT d (M := zt_X10_next) (bk := zb_X10_next_2) rfl rfl _ _ _ _).trans rfl
set_option maxRecDepth 20000 in
theorem zM_statement_2_q (d : Nat) (v1 : Int32) (v2 : Int32) (A : zA) (L : zL) : zM_statement_2 (d + 1) v1 v2 A L = if v2 = (112 : Int32) then zbi (zM_readsPerson d v1 A L) (fun r1 A1 L1 => zcb r1 (some (some (.int r1), A1, L1))) else zM_statement_3 (d + 1) v1 v2 A L := (zrun_q zT (d + 1) (M := zt_X10_statement) (bk := zb_X10_statement_2) rfl rfl _ _ _ _).trans rfl
set_option maxRecDepth 20000 in
theorem zM_readsRule_q (d : Nat) (v1 : Int32) (A : zA) (L : zL) : zM_readsRule (d + 1) v1 A L = zbi (zM_takes d (48 : Int32) (57 : Int32) A L) (fun r1 A1 L1 => zck v1 32 (zck v1 32 (if 0 ≤ ((zput A1 77 (v1).toNatClampNeg r1) 77 (v1).toNatClampNeg) then zM_readsRule_1 (d + 1) v1 (zput A1 77 (v1).toNatClampNeg r1) L1 else zcb (0 : Int32) (some (some (.int (0 : Int32)), (zput A1 77 (v1).toNatClampNeg r1), L1))))) := (zrun_q zT (d + 1) (M := zt_X10_readsRule) (bk := zb_X10_readsRule_0) rfl rfl _ _ _ _).trans rfl
set_option maxRecDepth 20000 in
theorem zM_placeOf_1_q (d : Nat) (v1 : Int32) (v2 : Int32) (A : zA) (L : zL) : zM_placeOf_1 d v1 v2 A L = zck v2 4 (if (A 72 (v2).toNatClampNeg) = v1 then zM_placeOf_2 d v2 A L else zM_placeOf_1 d v1 (v2 + 1) A L) := (zrun_q zT d (M := zt_X10_placeOf) (bk := zb_X10_placeOf_1) rfl rfl _ _ _ _).trans rfl
set_option maxRecDepth 20000 in
theorem zM_orderDigits_1_q (d : Nat) (v1 : Int32) (v2 : Int32) (A : zA) (L : zL) : zM_orderDigits_1 d v1 v2 A L = if v2 < 0 then zM_orderDigits_2 d v1 A L else zck v2 4 (zM_orderDigits_1 d (((10 : Int32) * v1) + (A 72 (v2).toNatClampNeg)) (v2 + (-1)) A L) := (zrun_q zT d (M := zt_X10_orderDigits) (bk := zb_X10_orderDigits_1) rfl rfl _ _ _ _).trans rfl
set_option maxRecDepth 20000 in
theorem zM_order_8_q (d : Nat) (v4 : Int32) (A : zA) (L : zL) : zM_order_8 d v4 A L = some (some (.int v4), A, L) := (zrun_q zT d (M := zt_X10_order) (bk := zb_X10_order_8) rfl rfl _ _ _ _).trans rfl
set_option maxRecDepth 20000 in
theorem zM_findTables_20_q (d : Nat) (v1 : Int32) (A : zA) (L : zL) : zM_findTables_20 d v1 A L = zM_findTables_14 d (v1 + 1) A L := (zrun_q zT d (M := zt_X10_findTables) (bk := zb_X10_findTables_20) rfl rfl _ _ _ _).trans rfl
set_option maxRecDepth 20000 in
theorem zM_findTables_16_q (d : Nat) (v1 : Int32) (v2 : Int32) (v3 : Int32) (v4 : Int32) (A : zA) (L : zL) : zM_findTables_16 d v1 v2 v3 v4 A L = if (6 : Int32) ≤ v4 then zM_findTables_19 d v1 v2 v3 A L else if ((zshr v2 v4) &&& (1 : Int32)) = (1 : Int32) then zck (((6 : Int32) * v1) + v4) 24 (zM_findTables_18 d v1 v2 v4 v3 (A 71 ((((6 : Int32) * v1) + v4)).toNatClampNeg) A L) else zM_findTables_17 d v1 v2 v4 v3 A L := (zrun_q zT d (M := zt_X10_findTables) (bk := zb_X10_findTables_16) rfl rfl _ _ _ _).trans rfl
set_option maxRecDepth 20000 in
theorem zM_findTables_12_q (d : Nat) (v1 : Int32) (A : zA) (L : zL) : zM_findTables_12 d v1 A L = zM_findTables_1 d (v1 + 1) A L := (zrun_q zT d (M := zt_X10_findTables) (bk := zb_X10_findTables_12) rfl rfl _ _ _ _).trans rfl
set_option maxRecDepth 20000 in
theorem zM_findTables_7_q (d : Nat) (v1 : Int32) (v2 : Int32) (v3 : Int32) (s1 : Int32) (A : zA) (L : zL) : zM_findTables_7 d v1 v2 v3 s1 A L = zM_findTables_9 d v1 v2 v3 s1 (0 : Int32) A L := (zrun_q zT d (M := zt_X10_findTables) (bk := zb_X10_findTables_7) rfl rfl _ _ _ _).trans rfl
set_option maxRecDepth 20000 in
theorem zM_findTables_8_q (d : Nat) (v1 : Int32) (v2 : Int32) (v3 : Int32) (v4 : Int32) (s1 : Int32) (A : zA) (L : zL) : zM_findTables_8 d v1 v2 v3 v4 s1 A L = zck v4 24 (zM_findTables_9 d v1 v2 v3 s1 (zshl (1 : Int32) (A 68 (v4).toNatClampNeg)) A L) := (zrun_q zT d (M := zt_X10_findTables) (bk := zb_X10_findTables_8) rfl rfl _ _ _ _).trans rfl
set_option maxRecDepth 20000 in
theorem zM_fillAll_15_q (d : Nat) (v1 : Int32) (A : zA) (L : zL) : zM_fillAll_15 d v1 A L = zM_fillAll_4 d (v1 + (-1)) A L := (zrun_q zT d (M := zt_X10_fillAll) (bk := zb_X10_fillAll_15) rfl rfl _ _ _ _).trans rfl
set_option maxRecDepth 20000 in
theorem zM_fillAll_6_q (d : Nat) (v1 : Int32) (v2 : Int32) (v3 : Int32) (A : zA) (L : zL) : zM_fillAll_6 (d + 1) v1 v2 v3 A L = if (64 : Int32) ≤ v3 then zM_fillAll_14 (d + 1) v1 v2 A L else zbi (zM_placeAt d v1 v2 v3 A L) (fun r1 A1 L1 => zbi (zM_choiceAt d v1 v2 v3 A1 L1) (fun r2 A2 L2 => if r2 < 0 then zM_fillAll_7 (d + 1) v1 v2 v3 r1 r2 A2 L2 else if r2 = (8 : Int32) then zM_fillAll_7 (d + 1) v1 v2 v3 r1 r2 A2 L2 else zM_fillAll_8 (d + 1) v1 v2 v3 r1 r2 (1 : Int32) A2 L2)) := (zrun_q zT (d + 1) (M := zt_X10_fillAll) (bk := zb_X10_fillAll_6) rfl rfl _ _ _ _).trans rfl
set_option maxRecDepth 20000 in
theorem zM_fillMind_11_q (d : Nat) (v1 : Int32) (v2 : Int32) (A : zA) (L : zL) : zM_fillMind_11 d v1 v2 A L = zM_fillMind_1 d v1 (v2 + (-1)) A L := (zrun_q zT d (M := zt_X10_fillMind) (bk := zb_X10_fillMind_11) rfl rfl _ _ _ _).trans rfl
set_option maxRecDepth 20000 in
theorem zM_fillMind_3_q (d : Nat) (v1 : Int32) (v2 : Int32) (v3 : Int32) (v4 : Int32) (A : zA) (L : zL) : zM_fillMind_3 (d + 1) v1 v2 v3 v4 A L = if (64 : Int32) ≤ v4 then zM_fillMind_10 (d + 1) v1 v2 v3 A L else zbi (zM_placeAt d v2 v3 v4 A L) (fun r1 A1 L1 => zbi (zM_mayAt d v2 v3 A1 L1) (fun r2 A2 L2 => if r2 = 0 then zbi (zM_endAt d v3 v4 A2 L2) (fun r3 A3 L3 => zck (((4608 : Int32) * v1) + r1) 18432 (zM_fillMind_9 (d + 1) v1 v2 v3 v4 (zput A3 88 ((((4608 : Int32) * v1) + r1)).toNatClampNeg r3) L3)) else zM_fillMind_4 (d + 1) v1 v2 v3 v4 (((4608 : Int32) * v1) + r1) r2 A2 L2)) := (zrun_q zT (d + 1) (M := zt_X10_fillMind) (bk := zb_X10_fillMind_3) rfl rfl _ _ _ _).trans rfl
set_option maxRecDepth 20000 in
theorem zM_lowest_1_q (d : Nat) (v0 : Int32) (v1 : Int32) (A : zA) (L : zL) : zM_lowest_1 d v0 v1 A L = if ((zshr v0 v1) &&& (1 : Int32)) = 0 then zM_lowest_1 d v0 (v1 + 1) A L else zM_lowest_2 d v1 A L := (zrun_q zT d (M := zt_X10_lowest) (bk := zb_X10_lowest_1) rfl rfl _ _ _ _).trans rfl
set_option maxRecDepth 20000 in
theorem zM_aheadChoice_1_q (d : Nat) (v1 : Int32) (v2 : Int32) (v3 : Int32) (v4 : Int32) (v5 : Int32) (v6 : Int32) (v7 : Int32) (v8 : Int32) (v9 : Int32) (A : zA) (L : zL) : zM_aheadChoice_1 d v1 v2 v3 v4 v5 v6 v7 v8 v9 A L = if (8 : Int32) ≤ v9 then zM_aheadChoice_5 d v1 v2 v4 v5 v6 v7 A L else if ((zshr v8 v9) &&& (1 : Int32)) = 0 then zM_aheadChoice_4 d v1 v2 v3 v4 v5 v6 v7 v8 v9 A L else zM_aheadChoice_2 d v1 v2 v3 v4 v5 v6 v7 v8 v9 A L := (zrun_q zT d (M := zt_X10_aheadChoice) (bk := zb_X10_aheadChoice_1) rfl rfl _ _ _ _).trans rfl
set_option maxRecDepth 20000 in
theorem zM_blindChoice_1_q (d : Nat) (v1 : Int32) (v2 : Int32) (v3 : Int32) (v4 : Int32) (v5 : Int32) (v6 : Int32) (v7 : Int32) (v8 : Int32) (A : zA) (L : zL) : zM_blindChoice_1 d v1 v2 v3 v4 v5 v6 v7 v8 A L = if (8 : Int32) ≤ v8 then zM_blindChoice_5 d v1 v3 v4 v5 v6 A L else if ((zshr v7 v8) &&& (1 : Int32)) = 0 then zM_blindChoice_4 d v1 v2 v3 v4 v5 v6 v7 v8 A L else zM_blindChoice_2 d v1 v2 v3 v4 v5 v6 v7 v8 A L := (zrun_q zT d (M := zt_X10_blindChoice) (bk := zb_X10_blindChoice_1) rfl rfl _ _ _ _).trans rfl
set_option maxRecDepth 20000 in
theorem zM_greedyChoice_1_q (d : Nat) (v1 : Int32) (v3 : Int32) (v4 : Int32) (v5 : Int32) (v6 : Int32) (v7 : Int32) (v8 : Int32) (A : zA) (L : zL) : zM_greedyChoice_1 d v1 v3 v4 v5 v6 v7 v8 A L = if (8 : Int32) ≤ v8 then zM_greedyChoice_5 d v1 v3 v4 v5 v6 A L else if ((zshr v7 v8) &&& (1 : Int32)) = 0 then zM_greedyChoice_4 d v1 v3 v4 v5 v6 v7 v8 A L else zM_greedyChoice_2 d v1 v3 v4 v5 v6 v7 v8 A L := (zrun_q zT d (M := zt_X10_greedyChoice) (bk := zb_X10_greedyChoice_1) rfl rfl _ _ _ _).trans rfl
set_option maxRecDepth 20000 in
theorem zM_fillGame_4_q (d : Nat) (v1 : Int32) (v2 : Int32) (v3 : Int32) (v4 : Int32) (v5 : Int32) (A : zA) (L : zL) : zM_fillGame_4 d v1 v2 v3 v4 v5 A L = zM_fillGame_2 d v1 v2 v3 v4 (v5 + 1) A L := (zrun_q zT d (M := zt_X10_fillGame) (bk := zb_X10_fillGame_4) rfl rfl _ _ _ _).trans rfl
set_option maxRecDepth 20000 in
theorem zM_gameAt_q (d : Nat) (v1 : Int32) (v2 : Int32) (v3 : Int32) (v4 : Int32) (v5 : Int32) (v6 : Int32) (A : zA) (L : zL) : zM_gameAt (d + 1) v1 v2 v3 v4 v5 v6 A L = zbi (zM_mayAt d v4 v5 A L) (fun r1 A1 L1 => if r1 = 0 then zbi (zM_endAt d v5 v6 A1 L1) (fun r2 A2 L2 => zbi (zM_counts d v1 v2 v3 r2 v4 A2 L2) (fun r3 A3 L3 => some (some (.int r3), A3, L3))) else zM_gameAt_1 (d + 1) v1 v2 v3 v4 v5 v6 r1 A1 L1) := (zrun_q zT (d + 1) (M := zt_X10_gameAt) (bk := zb_X10_gameAt_0) rfl rfl _ _ _ _).trans rfl
set_option maxRecDepth 20000 in
theorem zM_meanings_10_q (d : Nat) (A : zA) (L : zL) : zM_meanings_10 d A L = zM_meanings_11 d (-9 : Int32) A L := (zrun_q zT d (M := zt_X10_meanings) (bk := zb_X10_meanings_10) rfl rfl _ _ _ _).trans rfl
set_option maxRecDepth 20000 in
theorem zM_meanings_11_q (d : Nat) (s0 : Int32) (A : zA) (L : zL) : zM_meanings_11 d s0 A L = some (some (.int s0), A, L) := (zrun_q zT d (M := zt_X10_meanings) (bk := zb_X10_meanings_11) rfl rfl _ _ _ _).trans rfl
set_option maxRecDepth 20000 in
theorem zM_meanings_7_q (d : Nat) (v1 : Int32) (v2 : Int64) (v4 : Int32) (v5 : Int32) (A : zA) (L : zL) : zM_meanings_7 d v1 v2 v4 v5 A L = zM_meanings_8 d v1 v2 (v4 + 1) v5 A L := (zrun_q zT d (M := zt_X10_meanings) (bk := zb_X10_meanings_7) rfl rfl _ _ _ _).trans rfl
set_option maxRecDepth 20000 in
theorem zM_fillMeant_15_q (d : Nat) (v1 : Int32) (v2 : Int32) (A : zA) (L : zL) : zM_fillMeant_15 d v1 v2 A L = zM_fillMeant_2 d v1 (v2 + 1) A L := (zrun_q zT d (M := zt_X10_fillMeant) (bk := zb_X10_fillMeant_15) rfl rfl _ _ _ _).trans rfl
set_option maxRecDepth 20000 in
theorem zM_fillMeant_4_q (d : Nat) (v1 : Int32) (v2 : Int32) (v3 : Int32) (v4 : Int32) (v5 : Int32) (s1 : Int32) (A : zA) (L : zL) : zM_fillMeant_4 d v1 v2 v3 v4 v5 s1 A L = zM_fillMeant_5 d v1 v2 v3 v4 v5 s1 (0 : Int64) A L := (zrun_q zT d (M := zt_X10_fillMeant) (bk := zb_X10_fillMeant_4) rfl rfl _ _ _ _).trans rfl
set_option maxRecDepth 20000 in
theorem zM_fillMeant_5_q (d : Nat) (v1 : Int32) (v2 : Int32) (v3 : Int32) (v4 : Int32) (v5 : Int32) (s1 : Int32) (s2 : Int64) (A : zA) (L : zL) : zM_fillMeant_5 (d + 1) v1 v2 v3 v4 v5 s1 s2 A L = zck s1 4608 (if v5 = 0 then zbi (zM_isEnd d v2 A (zputL L 90 (s1).toNatClampNeg s2)) (fun r1 A1 L1 => if r1 = 0 then zM_fillMeant_7 (d + 1) v1 v2 v3 v4 v5 v4 (1 : Int32) A1 L1 else zM_fillMeant_6 (d + 1) v1 v2 v3 v4 v5 v4 A1 L1) else zM_fillMeant_6 (d + 1) v1 v2 v3 v4 v5 v4 A (zputL L 90 (s1).toNatClampNeg s2)) := (zrun_q zT (d + 1) (M := zt_X10_fillMeant) (bk := zb_X10_fillMeant_5) rfl rfl _ _ _ _).trans rfl
set_option maxRecDepth 20000 in
theorem zM_nextOrder_q (d : Nat) (A : zA) (L : zL) : zM_nextOrder d A L = zM_nextOrder_1 d ((A 63 12) - (2 : Int32)) A L := (zrun_q zT d (M := zt_X10_nextOrder) (bk := zb_X10_nextOrder_0) rfl rfl _ _ _ _).trans rfl
set_option maxRecDepth 20000 in
theorem zM_least_11_q (d : Nat) (A : zA) (L : zL) : zM_least_11 d A L = some (some (.int (-9 : Int32)), A, L) := (zrun_q zT d (M := zt_X10_least) (bk := zb_X10_least_11) rfl rfl _ _ _ _).trans rfl
set_option maxRecDepth 20000 in
theorem zM_least_8_q (d : Nat) (v1 : Int32) (v2 : Int32) (v3 : Int32) (v4 : Int32) (A : zA) (L : zL) : zM_least_8 (d + 1) v1 v2 v3 v4 A L = if v3 ≤ v4 then zM_least_10 (d + 1) v1 v2 v3 A L else zbi (zM_canForce d v1 v2 ((zshl (1 : Int32) v3) ||| (zshl (1 : Int32) v4)) A L) (fun r1 A1 L1 => if r1 = 0 then some (some (.int ((zshl (1 : Int32) v3) ||| (zshl (1 : Int32) v4))), A1, L1) else zM_least_9 (d + 1) v1 v2 v3 v4 A1 L1) := (zrun_q zT (d + 1) (M := zt_X10_least) (bk := zb_X10_least_8) rfl rfl _ _ _ _).trans rfl
set_option maxRecDepth 20000 in
theorem zM_didAs_9_q (d : Nat) (A : zA) (L : zL) : zM_didAs_9 d A L = zM_didAs_11 d (1 : Int32) A L := (zrun_q zT d (M := zt_X10_didAs) (bk := zb_X10_didAs_9) rfl rfl _ _ _ _).trans rfl
set_option maxRecDepth 20000 in
theorem zM_didAs_10_q (d : Nat) (A : zA) (L : zL) : zM_didAs_10 d A L = zM_didAs_11 d (0 : Int32) A L := (zrun_q zT d (M := zt_X10_didAs) (bk := zb_X10_didAs_10) rfl rfl _ _ _ _).trans rfl
set_option maxRecDepth 20000 in
theorem zM_didAs_3_q (d : Nat) (v1 : Int32) (v2 : Int32) (v4 : Int32) (v5 : Int32) (s0 : Int32) (A : zA) (L : zL) : zM_didAs_3 d v1 v2 v4 v5 s0 A L = zM_didAs_5 d v1 v2 v4 v5 s0 (0 : Int32) A L := (zrun_q zT d (M := zt_X10_didAs) (bk := zb_X10_didAs_3) rfl rfl _ _ _ _).trans rfl
set_option maxRecDepth 20000 in
theorem zM_didAs_4_q (d : Nat) (v1 : Int32) (v2 : Int32) (v4 : Int32) (v5 : Int32) (s0 : Int32) (A : zA) (L : zL) : zM_didAs_4 d v1 v2 v4 v5 s0 A L = zck v5 24 (zM_didAs_5 d v1 v2 v4 v5 s0 (zshl (1 : Int32) (A 68 (v5).toNatClampNeg)) A L) := (zrun_q zT d (M := zt_X10_didAs) (bk := zb_X10_didAs_4) rfl rfl _ _ _ _).trans rfl
set_option maxRecDepth 20000 in
theorem zM_drawnEnd_8_q (d : Nat) (v1 : Int32) (v2 : Int32) (A : zA) (L : zL) : zM_drawnEnd_8 (d + 1) v1 v2 A L = zbi (zM_endAt d v1 v2 A L) (fun r1 A1 L1 => some (some (.int r1), A1, L1)) := (zrun_q zT (d + 1) (M := zt_X10_drawnEnd) (bk := zb_X10_drawnEnd_8) rfl rfl _ _ _ _).trans rfl
set_option maxRecDepth 20000 in
theorem zM_drawnEnd_2_q (d : Nat) (v1 : Int32) (v2 : Int32) (v3 : Int32) (v4 : Int32) (s1 : Int32) (A : zA) (L : zL) : zM_drawnEnd_2 d v1 v2 v3 v4 s1 A L = zM_drawnEnd_3 d v1 v2 v3 v4 s1 (0 : Int32) A L := (zrun_q zT d (M := zt_X10_drawnEnd) (bk := zb_X10_drawnEnd_2) rfl rfl _ _ _ _).trans rfl
set_option maxRecDepth 20000 in
theorem zM_drawnEnd_3_q (d : Nat) (v1 : Int32) (v2 : Int32) (v3 : Int32) (v4 : Int32) (s1 : Int32) (s2 : Int32) (A : zA) (L : zL) : zM_drawnEnd_3 (d + 1) v1 v2 v3 v4 s1 s2 A L = zbi (zM_draw d (s1 + s2) A L) (fun r1 A1 L1 => zbi (zM_bits d v4 A1 L1) (fun r2 A2 L2 => if r1 = r2 then some (some (.int v2), A2, L2) else zM_drawnEnd_4 (d + 1) v1 v2 v3 v4 r1 A2 L2)) := (zrun_q zT (d + 1) (M := zt_X10_drawnEnd) (bk := zb_X10_drawnEnd_3) rfl rfl _ _ _ _).trans rfl
set_option maxRecDepth 20000 in
theorem zM_comes_6_q (d : Nat) (v2 : Int32) (A : zA) (L : zL) : zM_comes_6 (d + 1) v2 A L = if (7 : Int32) < v2 then zM_comes_7 (d + 1) A L else zbi (zM_isEnd d v2 A L) (fun r1 A1 L1 => if r1 = 0 then zM_comes_8 (d + 1) v2 A1 L1 else zM_comes_7 (d + 1) A1 L1) := (zrun_q zT (d + 1) (M := zt_X10_comes) (bk := zb_X10_comes_6) rfl rfl _ _ _ _).trans rfl
set_option maxRecDepth 20000 in
theorem zM_comes_9_q (d : Nat) (v1 : Int32) (v2 : Int32) (A : zA) (L : zL) : zM_comes_9 d v1 v2 A L = if (6 : Int32) < v2 then zM_comes_10 d A L else if (A 63 12) = (4 : Int32) then zM_comes_10 d A L else zM_comes_11 d v1 v2 A L := (zrun_q zT d (M := zt_X10_comes) (bk := zb_X10_comes_9) rfl rfl _ _ _ _).trans rfl
set_option maxRecDepth 20000 in
theorem zM_comes_1_q (d : Nat) (v1 : Int32) (v2 : Int32) (A : zA) (L : zL) : zM_comes_1 (d + 1) v1 v2 A L = if (7 : Int32) < v2 then zM_comes_2 (d + 1) A L else zck v1 32 (if (7 : Int32) < (A 79 (v1).toNatClampNeg) then zM_comes_2 (d + 1) A L else if (A 63 10) = (24 : Int32) then zM_comes_2 (d + 1) A L else zck v1 32 (zbi (zM_ruleAt d v2 (A 78 (v1).toNatClampNeg) A L) (fun r1 A1 L1 => if r1 < 0 then zM_comes_3 (d + 1) v1 v2 A1 L1 else zM_comes_2 (d + 1) A1 L1))) := (zrun_q zT (d + 1) (M := zt_X10_comes) (bk := zb_X10_comes_1) rfl rfl _ _ _ _).trans rfl
set_option maxRecDepth 20000 in
theorem zM_comes_14_q (d : Nat) (v1 : Int32) (v2 : Int32) (A : zA) (L : zL) : zM_comes_14 (d + 1) v1 v2 A L = zbi (zM_isOne d v2 A L) (fun r1 A1 L1 => if r1 = 0 then zcb (0 : Int32) (some (some (.int (0 : Int32)), A1, L1)) else zM_comes_15 (d + 1) v1 v2 A1 L1) := (zrun_q zT (d + 1) (M := zt_X10_comes) (bk := zb_X10_comes_14) rfl rfl _ _ _ _).trans rfl
set_option maxRecDepth 20000 in
theorem zM_comes_16_q (d : Nat) (v2 : Int32) (A : zA) (L : zL) : zM_comes_16 (d + 1) v2 A L = zbi (zM_isIn d v2 (1 : Int32) (8 : Int32) A L) (fun r1 A1 L1 => if r1 = 0 then zcb (0 : Int32) (some (some (.int (0 : Int32)), A1, L1)) else zM_comes_17 (d + 1) v2 A1 L1) := (zrun_q zT (d + 1) (M := zt_X10_comes) (bk := zb_X10_comes_16) rfl rfl _ _ _ _).trans rfl
set_option maxRecDepth 20000 in
theorem zM_statement_3_q (d : Nat) (v1 : Int32) (v2 : Int32) (A : zA) (L : zL) : zM_statement_3 (d + 1) v1 v2 A L = if v2 = (118 : Int32) then zbi (zM_readsWorth d v1 A L) (fun r1 A1 L1 => zcb r1 (some (some (.int r1), A1, L1))) else zM_statement_4 (d + 1) v1 A L := (zrun_q zT (d + 1) (M := zt_X10_statement) (bk := zb_X10_statement_3) rfl rfl _ _ _ _).trans rfl
set_option maxRecDepth 20000 in
theorem zM_readsPerson_q (d : Nat) (v1 : Int32) (A : zA) (L : zL) : zM_readsPerson (d + 1) v1 A L = zbi (zM_takes d (48 : Int32) (57 : Int32) A L) (fun r1 A1 L1 => zck v1 32 (zck v1 32 (if 0 ≤ ((zput A1 77 (v1).toNatClampNeg r1) 77 (v1).toNatClampNeg) then zM_readsPerson_1 (d + 1) v1 (zput A1 77 (v1).toNatClampNeg r1) L1 else zcb (0 : Int32) (some (some (.int (0 : Int32)), (zput A1 77 (v1).toNatClampNeg r1), L1))))) := (zrun_q zT (d + 1) (M := zt_X10_readsPerson) (bk := zb_X10_readsPerson_0) rfl rfl _ _ _ _).trans rfl
set_option maxRecDepth 20000 in
theorem zM_takes_q (d : Nat) (v1 : Int32) (v2 : Int32) (A : zA) (L : zL) : zM_takes (d + 1) v1 v2 A L = zbi (zM_next d A L) (fun r1 A1 L1 => zbi (zM_isIn d r1 v1 v2 A1 L1) (fun r2 A2 L2 => if r2 = 0 then some (some (.int (-1 : Int32)), A2, L2) else zM_takes_1 (d + 1) v1 A2 L2)) := (zrun_q zT (d + 1) (M := zt_X10_takes) (bk := zb_X10_takes_0) rfl rfl _ _ _ _).trans rfl
set_option maxRecDepth 20000 in
theorem zM_readsRule_1_q (d : Nat) (v1 : Int32) (A : zA) (L : zL) : zM_readsRule_1 (d + 1) v1 A L = zbi (zM_takes d (97 : Int32) (104 : Int32) A L) (fun r1 A1 L1 => zck v1 32 (zck v1 32 (if 0 ≤ ((zput A1 78 (v1).toNatClampNeg r1) 78 (v1).toNatClampNeg) then zM_readsRule_2 (d + 1) v1 (zput A1 78 (v1).toNatClampNeg r1) L1 else zcb (0 : Int32) (some (some (.int (0 : Int32)), (zput A1 78 (v1).toNatClampNeg r1), L1))))) := (zrun_q zT (d + 1) (M := zt_X10_readsRule) (bk := zb_X10_readsRule_1) rfl rfl _ _ _ _).trans rfl
set_option maxRecDepth 20000 in
theorem zM_placeOf_2_q (d : Nat) (v2 : Int32) (A : zA) (L : zL) : zM_placeOf_2 d v2 A L = some (some (.int v2), A, L) := (zrun_q zT d (M := zt_X10_placeOf) (bk := zb_X10_placeOf_2) rfl rfl _ _ _ _).trans rfl
set_option maxRecDepth 20000 in
theorem zM_orderDigits_2_q (d : Nat) (v1 : Int32) (A : zA) (L : zL) : zM_orderDigits_2 d v1 A L = some (some (.int v1), A, L) := (zrun_q zT d (M := zt_X10_orderDigits) (bk := zb_X10_orderDigits_2) rfl rfl _ _ _ _).trans rfl
set_option maxRecDepth 20000 in
theorem zM_findTables_19_q (d : Nat) (v1 : Int32) (v2 : Int32) (v3 : Int32) (A : zA) (L : zL) : zM_findTables_19 d v1 v2 v3 A L = zck (((64 : Int32) * v1) + v2) 256 (zM_findTables_15 d v1 (v2 + 1) (zput A 85 ((((64 : Int32) * v1) + v2)).toNatClampNeg v3) L) := (zrun_q zT d (M := zt_X10_findTables) (bk := zb_X10_findTables_19) rfl rfl _ _ _ _).trans rfl
set_option maxRecDepth 20000 in
theorem zM_findTables_17_q (d : Nat) (v1 : Int32) (v2 : Int32) (v4 : Int32) (s0 : Int32) (A : zA) (L : zL) : zM_findTables_17 d v1 v2 v4 s0 A L = zM_findTables_18 d v1 v2 v4 s0 (0 : Int32) A L := (zrun_q zT d (M := zt_X10_findTables) (bk := zb_X10_findTables_17) rfl rfl _ _ _ _).trans rfl
set_option maxRecDepth 20000 in
theorem zM_findTables_18_q (d : Nat) (v1 : Int32) (v2 : Int32) (v4 : Int32) (s0 : Int32) (s1 : Int32) (A : zA) (L : zL) : zM_findTables_18 d v1 v2 v4 s0 s1 A L = zM_findTables_16 d v1 v2 (s0 + s1) (v4 + 1) A L := (zrun_q zT d (M := zt_X10_findTables) (bk := zb_X10_findTables_18) rfl rfl _ _ _ _).trans rfl
set_option maxRecDepth 20000 in
theorem zM_findTables_9_q (d : Nat) (v1 : Int32) (v2 : Int32) (v3 : Int32) (s1 : Int32) (s2 : Int32) (A : zA) (L : zL) : zM_findTables_9 d v1 v2 v3 s1 s2 A L = zck s1 64 (zM_findTables_2 d v1 v2 (v3 + 1) (zput A 84 (s1).toNatClampNeg s2) L) := (zrun_q zT d (M := zt_X10_findTables) (bk := zb_X10_findTables_9) rfl rfl _ _ _ _).trans rfl
set_option maxRecDepth 20000 in
theorem zM_fillAll_14_q (d : Nat) (v1 : Int32) (v2 : Int32) (A : zA) (L : zL) : zM_fillAll_14 d v1 v2 A L = zM_fillAll_5 d v1 (v2 + 1) A L := (zrun_q zT d (M := zt_X10_fillAll) (bk := zb_X10_fillAll_14) rfl rfl _ _ _ _).trans rfl
set_option maxRecDepth 20000 in
theorem zM_fillAll_7_q (d : Nat) (v1 : Int32) (v2 : Int32) (v3 : Int32) (v4 : Int32) (v5 : Int32) (A : zA) (L : zL) : zM_fillAll_7 d v1 v2 v3 v4 v5 A L = zM_fillAll_8 d v1 v2 v3 v4 v5 (0 : Int32) A L := (zrun_q zT d (M := zt_X10_fillAll) (bk := zb_X10_fillAll_7) rfl rfl _ _ _ _).trans rfl
set_option maxRecDepth 20000 in
theorem zM_fillAll_8_q (d : Nat) (v1 : Int32) (v2 : Int32) (v3 : Int32) (v4 : Int32) (v5 : Int32) (s0 : Int32) (A : zA) (L : zL) : zM_fillAll_8 d v1 v2 v3 v4 v5 s0 A L = if v5 = (8 : Int32) then zM_fillAll_11 d v1 v2 v3 v4 v5 s0 v4 v3 A L else zM_fillAll_9 d v1 v2 v3 v4 v5 s0 v4 A L := (zrun_q zT d (M := zt_X10_fillAll) (bk := zb_X10_fillAll_8) rfl rfl _ _ _ _).trans rfl
set_option maxRecDepth 20000 in
theorem zM_fillMind_10_q (d : Nat) (v1 : Int32) (v2 : Int32) (v3 : Int32) (A : zA) (L : zL) : zM_fillMind_10 d v1 v2 v3 A L = zM_fillMind_2 d v1 v2 (v3 + 1) A L := (zrun_q zT d (M := zt_X10_fillMind) (bk := zb_X10_fillMind_10) rfl rfl _ _ _ _).trans rfl
set_option maxRecDepth 20000 in
theorem zM_fillMind_4_q (d : Nat) (v1 : Int32) (v2 : Int32) (v3 : Int32) (v4 : Int32) (v5 : Int32) (v6 : Int32) (A : zA) (L : zL) : zM_fillMind_4 (d + 1) v1 v2 v3 v4 v5 v6 A L = zbi (zM_turnAt d v2 A L) (fun r1 A1 L1 => if r1 = v1 then zbi (zM_blindChoice d v1 v2 v3 v4 A1 L1) (fun r2 A2 L2 => zM_fillMind_6 (d + 1) v1 v2 v3 v4 v5 r2 A2 L2) else zM_fillMind_5 (d + 1) v1 v2 v3 v4 v5 v6 A1 L1) := (zrun_q zT (d + 1) (M := zt_X10_fillMind) (bk := zb_X10_fillMind_4) rfl rfl _ _ _ _).trans rfl
set_option maxRecDepth 20000 in
theorem zM_endAt_q (d : Nat) (v1 : Int32) (v2 : Int32) (A : zA) (L : zL) : zM_endAt (d + 1) v1 v2 A L = zbi (zM_isEnd d v1 A L) (fun r1 A1 L1 => if r1 = 0 then zM_endAt_1 (d + 1) v2 A1 L1 else zM_endAt_2 (d + 1) v2 A1 L1) := (zrun_q zT (d + 1) (M := zt_X10_endAt) (bk := zb_X10_endAt_0) rfl rfl _ _ _ _).trans rfl
set_option maxRecDepth 20000 in
theorem zM_fillMind_9_q (d : Nat) (v1 : Int32) (v2 : Int32) (v3 : Int32) (v4 : Int32) (A : zA) (L : zL) : zM_fillMind_9 d v1 v2 v3 v4 A L = zM_fillMind_3 d v1 v2 v3 (v4 + 1) A L := (zrun_q zT d (M := zt_X10_fillMind) (bk := zb_X10_fillMind_9) rfl rfl _ _ _ _).trans rfl
set_option maxRecDepth 20000 in
theorem zM_lowest_2_q (d : Nat) (v1 : Int32) (A : zA) (L : zL) : zM_lowest_2 d v1 A L = some (some (.int v1), A, L) := (zrun_q zT d (M := zt_X10_lowest) (bk := zb_X10_lowest_2) rfl rfl _ _ _ _).trans rfl
set_option maxRecDepth 20000 in
theorem zM_aheadChoice_5_q (d : Nat) (v1 : Int32) (v2 : Int32) (v4 : Int32) (v5 : Int32) (v6 : Int32) (v7 : Int32) (A : zA) (L : zL) : zM_aheadChoice_5 (d + 1) v1 v2 v4 v5 v6 v7 A L = if v6 < 0 then zM_aheadChoice_6 (d + 1) v6 A L else zbi (zM_isEnd d v4 A L) (fun r1 A1 L1 => if r1 = 0 then zM_aheadChoice_6 (d + 1) v6 A1 L1 else zbi (zM_goodTo d v1 v2 v5 A1 L1) (fun r2 A2 L2 => if r2 ≤ v7 then zM_aheadChoice_6 (d + 1) v6 A2 L2 else zM_aheadChoice_7 (d + 1) (8 : Int32) A2 L2)) := (zrun_q zT (d + 1) (M := zt_X10_aheadChoice) (bk := zb_X10_aheadChoice_5) rfl rfl _ _ _ _).trans rfl
set_option maxRecDepth 20000 in
theorem zM_aheadChoice_2_q (d : Nat) (v1 : Int32) (v2 : Int32) (v3 : Int32) (v4 : Int32) (v5 : Int32) (v6 : Int32) (v7 : Int32) (v8 : Int32) (v9 : Int32) (A : zA) (L : zL) : zM_aheadChoice_2 (d + 1) v1 v2 v3 v4 v5 v6 v7 v8 v9 A L = zbi (zM_afterWord d v3 v4 v5 v9 A L) (fun r1 A1 L1 => zck r1 4608 (zbi (zM_goodTo d v1 v2 (A1 86 (r1).toNatClampNeg) A1 L1) (fun r2 A2 L2 => if v6 < 0 then zM_aheadChoice_3 (d + 1) v1 v2 v3 v4 v5 v8 v9 r2 A2 L2 else if v7 < r2 then zM_aheadChoice_3 (d + 1) v1 v2 v3 v4 v5 v8 v9 r2 A2 L2 else zM_aheadChoice_4 (d + 1) v1 v2 v3 v4 v5 v6 v7 v8 v9 A2 L2))) := (zrun_q zT (d + 1) (M := zt_X10_aheadChoice) (bk := zb_X10_aheadChoice_2) rfl rfl _ _ _ _).trans rfl
set_option maxRecDepth 20000 in
theorem zM_aheadChoice_4_q (d : Nat) (v1 : Int32) (v2 : Int32) (v3 : Int32) (v4 : Int32) (v5 : Int32) (v6 : Int32) (v7 : Int32) (v8 : Int32) (v9 : Int32) (A : zA) (L : zL) : zM_aheadChoice_4 d v1 v2 v3 v4 v5 v6 v7 v8 v9 A L = zM_aheadChoice_1 d v1 v2 v3 v4 v5 v6 v7 v8 (v9 + 1) A L := (zrun_q zT d (M := zt_X10_aheadChoice) (bk := zb_X10_aheadChoice_4) rfl rfl _ _ _ _).trans rfl
set_option maxRecDepth 20000 in
theorem zM_blindChoice_5_q (d : Nat) (v1 : Int32) (v3 : Int32) (v4 : Int32) (v5 : Int32) (v6 : Int32) (A : zA) (L : zL) : zM_blindChoice_5 (d + 1) v1 v3 v4 v5 v6 A L = if v5 < 0 then zM_blindChoice_6 (d + 1) v5 A L else zbi (zM_isEnd d v3 A L) (fun r1 A1 L1 => if r1 = 0 then zM_blindChoice_6 (d + 1) v5 A1 L1 else zbi (zM_endWorth d v1 v4 A1 L1) (fun r2 A2 L2 => if r2 ≤ v6 then zM_blindChoice_6 (d + 1) v5 A2 L2 else zM_blindChoice_7 (d + 1) (8 : Int32) A2 L2)) := (zrun_q zT (d + 1) (M := zt_X10_blindChoice) (bk := zb_X10_blindChoice_5) rfl rfl _ _ _ _).trans rfl
set_option maxRecDepth 20000 in
theorem zM_blindChoice_2_q (d : Nat) (v1 : Int32) (v2 : Int32) (v3 : Int32) (v4 : Int32) (v5 : Int32) (v6 : Int32) (v7 : Int32) (v8 : Int32) (A : zA) (L : zL) : zM_blindChoice_2 (d + 1) v1 v2 v3 v4 v5 v6 v7 v8 A L = zbi (zM_afterWord d v2 v3 v4 v8 A L) (fun r1 A1 L1 => zck (((4608 : Int32) * v1) + r1) 18432 (zbi (zM_endWorth d v1 (A1 88 ((((4608 : Int32) * v1) + r1)).toNatClampNeg) A1 L1) (fun r2 A2 L2 => if v5 < 0 then zM_blindChoice_3 (d + 1) v1 v2 v3 v4 v7 v8 r2 A2 L2 else if v6 < r2 then zM_blindChoice_3 (d + 1) v1 v2 v3 v4 v7 v8 r2 A2 L2 else zM_blindChoice_4 (d + 1) v1 v2 v3 v4 v5 v6 v7 v8 A2 L2))) := (zrun_q zT (d + 1) (M := zt_X10_blindChoice) (bk := zb_X10_blindChoice_2) rfl rfl _ _ _ _).trans rfl
set_option maxRecDepth 20000 in
theorem zM_blindChoice_4_q (d : Nat) (v1 : Int32) (v2 : Int32) (v3 : Int32) (v4 : Int32) (v5 : Int32) (v6 : Int32) (v7 : Int32) (v8 : Int32) (A : zA) (L : zL) : zM_blindChoice_4 d v1 v2 v3 v4 v5 v6 v7 v8 A L = zM_blindChoice_1 d v1 v2 v3 v4 v5 v6 v7 (v8 + 1) A L := (zrun_q zT d (M := zt_X10_blindChoice) (bk := zb_X10_blindChoice_4) rfl rfl _ _ _ _).trans rfl
set_option maxRecDepth 20000 in
theorem zM_greedyChoice_5_q (d : Nat) (v1 : Int32) (v3 : Int32) (v4 : Int32) (v5 : Int32) (v6 : Int32) (A : zA) (L : zL) : zM_greedyChoice_5 (d + 1) v1 v3 v4 v5 v6 A L = if v5 < 0 then zM_greedyChoice_6 (d + 1) v5 A L else zbi (zM_isEnd d v3 A L) (fun r1 A1 L1 => if r1 = 0 then zM_greedyChoice_6 (d + 1) v5 A1 L1 else zck (((64 : Int32) * v1) + v4) 256 (if (A1 85 ((((64 : Int32) * v1) + v4)).toNatClampNeg) ≤ v6 then zM_greedyChoice_6 (d + 1) v5 A1 L1 else zM_greedyChoice_7 (d + 1) (8 : Int32) A1 L1)) := (zrun_q zT (d + 1) (M := zt_X10_greedyChoice) (bk := zb_X10_greedyChoice_5) rfl rfl _ _ _ _).trans rfl
set_option maxRecDepth 20000 in
theorem zM_greedyChoice_2_q (d : Nat) (v1 : Int32) (v3 : Int32) (v4 : Int32) (v5 : Int32) (v6 : Int32) (v7 : Int32) (v8 : Int32) (A : zA) (L : zL) : zM_greedyChoice_2 d v1 v3 v4 v5 v6 v7 v8 A L = zck (((8 : Int32) * v3) + v8) 64 (zck (((64 : Int32) * v1) + (v4 ^^^ (A 84 ((((8 : Int32) * v3) + v8)).toNatClampNeg))) 256 (if v5 < 0 then zM_greedyChoice_3 d v1 v3 v4 v7 v8 (A 85 ((((64 : Int32) * v1) + (v4 ^^^ (A 84 ((((8 : Int32) * v3) + v8)).toNatClampNeg)))).toNatClampNeg) A L else if v6 < (A 85 ((((64 : Int32) * v1) + (v4 ^^^ (A 84 ((((8 : Int32) * v3) + v8)).toNatClampNeg)))).toNatClampNeg) then zM_greedyChoice_3 d v1 v3 v4 v7 v8 (A 85 ((((64 : Int32) * v1) + (v4 ^^^ (A 84 ((((8 : Int32) * v3) + v8)).toNatClampNeg)))).toNatClampNeg) A L else zM_greedyChoice_4 d v1 v3 v4 v5 v6 v7 v8 A L)) := (zrun_q zT d (M := zt_X10_greedyChoice) (bk := zb_X10_greedyChoice_2) rfl rfl _ _ _ _).trans rfl
set_option maxRecDepth 20000 in
theorem zM_greedyChoice_4_q (d : Nat) (v1 : Int32) (v3 : Int32) (v4 : Int32) (v5 : Int32) (v6 : Int32) (v7 : Int32) (v8 : Int32) (A : zA) (L : zL) : zM_greedyChoice_4 d v1 v3 v4 v5 v6 v7 v8 A L = zM_greedyChoice_1 d v1 v3 v4 v5 v6 v7 (v8 + 1) A L := (zrun_q zT d (M := zt_X10_greedyChoice) (bk := zb_X10_greedyChoice_4) rfl rfl _ _ _ _).trans rfl
set_option maxRecDepth 20000 in
theorem zM_gameAt_1_q (d : Nat) (v1 : Int32) (v2 : Int32) (v3 : Int32) (v4 : Int32) (v5 : Int32) (v6 : Int32) (v7 : Int32) (A : zA) (L : zL) : zM_gameAt_1 (d + 1) v1 v2 v3 v4 v5 v6 v7 A L = zbi (zM_turnAt d v4 A L) (fun r1 A1 L1 => if r1 = v1 then zM_gameAt_3 (d + 1) v1 v2 v3 v4 v5 v6 v7 (1 : Int32) A1 L1 else zM_gameAt_2 (d + 1) v1 v2 v3 v4 v5 v6 v7 A1 L1) := (zrun_q zT (d + 1) (M := zt_X10_gameAt) (bk := zb_X10_gameAt_1) rfl rfl _ _ _ _).trans rfl
set_option maxRecDepth 20000 in
theorem zM_fillMeant_6_q (d : Nat) (v1 : Int32) (v2 : Int32) (v3 : Int32) (v4 : Int32) (v5 : Int32) (s1 : Int32) (A : zA) (L : zL) : zM_fillMeant_6 d v1 v2 v3 v4 v5 s1 A L = zM_fillMeant_7 d v1 v2 v3 v4 v5 s1 (0 : Int32) A L := (zrun_q zT d (M := zt_X10_fillMeant) (bk := zb_X10_fillMeant_6) rfl rfl _ _ _ _).trans rfl
