/-! a block is as it is written, by program -/
set_option maxRecDepth 20000 in
theorem zM_feed_q (d : Nat) (v1 : Int32) (A : zA) (L : zL) : zM_feed (d + 1) v1 A L = zbi (zM_bound d v1 (0 : Int32) (255 : Int32) A L) (fun r1 A1 L1 => if r1 = 0 then if (A1 63 26) = (64 : Int32) then zM_feed_1 (d + 1) v1 (-6 : Int32) A1 L1 else zM_feed_1 (d + 1) v1 r1 A1 L1 else zM_feed_1 (d + 1) v1 r1 A1 L1) := (zrun_q zT (d + 1) (M := zt_X10_feed) (bk := zb_X10_feed_0) rfl rfl _ _ _ _).trans rfl
set_option maxRecDepth 20000 in
theorem zM_tongue_q (d : Nat) (A : zA) (L : zL) : zM_tongue (d + 1) A L = if (A 63 15) ≤ 0 then zM_tongue_1 (d + 1) A L else zbi (zM_no d (-3 : Int32) A L) (fun r1 A1 L1 => some (some (.int r1), A1, L1)) := (zrun_q zT (d + 1) (M := zt_X10_tongue) (bk := zb_X10_tongue_0) rfl rfl _ _ _ _).trans rfl
set_option maxRecDepth 20000 in
theorem zM_image_q (d : Nat) (A : zA) (L : zL) : zM_image (d + 1) A L = zcb (1 : Int32) (zbv (zM_passesAll d (0 : Int32) (1 : Int32) (zput A 63 30 (1 : Int32)) L) (fun A1 L1 => some (some (.int (A1 63 15)), A1, L1))) := (zrun_q zT (d + 1) (M := zt_X10_image) (bk := zb_X10_image_0) rfl rfl _ _ _ _).trans rfl
set_option maxRecDepth 20000 in
theorem zM_restore_q (d : Nat) (A : zA) (L : zL) : zM_restore (d + 1) A L = if (A 63 30) = 0 then zbi (zM_no d (-3 : Int32) A L) (fun r1 A1 L1 => some (some (.int r1), A1, L1)) else zM_restore_1 (d + 1) A L := (zrun_q zT (d + 1) (M := zt_X10_restore) (bk := zb_X10_restore_0) rfl rfl _ _ _ _).trans rfl
set_option maxRecDepth 20000 in
theorem zM_rule_q (d : Nat) (v1 : Int32) (v2 : Int32) (A : zA) (L : zL) : zM_rule (d + 1) v1 v2 A L = zbi (zM_isIn d v1 (0 : Int32) ((A 63 10) - (1 : Int32)) A L) (fun r1 A1 L1 => if r1 = 0 then zbi (zM_no d (-1 : Int32) A1 L1) (fun r2 A2 L2 => some (some (.int r2), A2, L2)) else zM_rule_1 (d + 1) v1 v2 A1 L1) := (zrun_q zT (d + 1) (M := zt_X10_rule) (bk := zb_X10_rule_0) rfl rfl _ _ _ _).trans rfl
set_option maxRecDepth 20000 in
theorem zM_end_q (d : Nat) (v1 : Int32) (A : zA) (L : zL) : zM_end (d + 1) v1 A L = zbi (zM_isIn d v1 (0 : Int32) (7 : Int32) A L) (fun r1 A1 L1 => if r1 = 0 then zbi (zM_no d (-1 : Int32) A1 L1) (fun r2 A2 L2 => zM_end_3 (d + 1) r2 A2 L2) else zM_end_1 (d + 1) v1 A1 L1) := (zrun_q zT (d + 1) (M := zt_X10_end) (bk := zb_X10_end_0) rfl rfl _ _ _ _).trans rfl
set_option maxRecDepth 20000 in
theorem zM_person_q (d : Nat) (v1 : Int32) (v2 : Int32) (A : zA) (L : zL) : zM_person (d + 1) v1 v2 A L = zbi (zM_isOne d v1 A L) (fun r1 A1 L1 => if r1 = 0 then zbi (zM_no d (-1 : Int32) A1 L1) (fun r2 A2 L2 => some (some (.int r2), A2, L2)) else zM_person_1 (d + 1) v1 v2 A1 L1) := (zrun_q zT (d + 1) (M := zt_X10_person) (bk := zb_X10_person_0) rfl rfl _ _ _ _).trans rfl
set_option maxRecDepth 20000 in
theorem zM_worth_q (d : Nat) (v1 : Int32) (v2 : Int32) (A : zA) (L : zL) : zM_worth (d + 1) v1 v2 A L = zbi (zM_isOne d v1 A L) (fun r1 A1 L1 => if r1 = 0 then zM_worth_1 (d + 1) A1 L1 else zbi (zM_isIn d v2 (0 : Int32) (5 : Int32) A1 L1) (fun r2 A2 L2 => if r2 = 0 then zM_worth_1 (d + 1) A2 L2 else zck (((6 : Int32) * v1) + v2) 24 (zM_worth_2 (d + 1) (A2 71 ((((6 : Int32) * v1) + v2)).toNatClampNeg) A2 L2))) := (zrun_q zT (d + 1) (M := zt_X10_worth) (bk := zb_X10_worth_0) rfl rfl _ _ _ _).trans rfl
set_option maxRecDepth 20000 in
theorem zM_values_q (d : Nat) (v1 : Int32) (v2 : Int32) (v3 : Int32) (A : zA) (L : zL) : zM_values (d + 1) v1 v2 v3 A L = zbi (zM_isOne d v1 A L) (fun r1 A1 L1 => if r1 = 0 then zM_values_1 (d + 1) A1 L1 else zbi (zM_isIn d v2 (0 : Int32) (5 : Int32) A1 L1) (fun r2 A2 L2 => if r2 = 0 then zM_values_1 (d + 1) A2 L2 else zM_values_2 (d + 1) v1 v2 v3 A2 L2)) := (zrun_q zT (d + 1) (M := zt_X10_values) (bk := zb_X10_values_0) rfl rfl _ _ _ _).trans rfl
set_option maxRecDepth 20000 in
theorem zM_kind_q (d : Nat) (v1 : Int32) (v2 : Int32) (A : zA) (L : zL) : zM_kind (d + 1) v1 v2 A L = zbi (zM_isOne d v1 A L) (fun r1 A1 L1 => if r1 = 0 then zM_kind_1 (d + 1) A1 L1 else zbi (zM_isIn d v2 (0 : Int32) (6 : Int32) A1 L1) (fun r2 A2 L2 => if r2 = 0 then zM_kind_1 (d + 1) A2 L2 else zM_kind_2 (d + 1) v1 v2 A2 L2)) := (zrun_q zT (d + 1) (M := zt_X10_kind) (bk := zb_X10_kind_0) rfl rfl _ _ _ _).trans rfl
set_option maxRecDepth 20000 in
theorem zM_word_q (d : Nat) (v1 : Int32) (v2 : Int32) (v3 : Int32) (A : zA) (L : zL) : zM_word (d + 1) v1 v2 v3 A L = zbi (zM_isOne d v1 A L) (fun r1 A1 L1 => if r1 = 0 then zM_word_1 (d + 1) A1 L1 else zbi (zM_isIn d v2 (0 : Int32) (7 : Int32) A1 L1) (fun r2 A2 L2 => if r2 = 0 then zM_word_1 (d + 1) A2 L2 else zM_word_2 (d + 1) v1 v2 v3 A2 L2)) := (zrun_q zT (d + 1) (M := zt_X10_word) (bk := zb_X10_word_0) rfl rfl _ _ _ _).trans rfl
set_option maxRecDepth 20000 in
theorem zM_set_q (d : Nat) (v1 : Int32) (v2 : Int32) (A : zA) (L : zL) : zM_set (d + 1) v1 v2 A L = zbi (zM_isIn d v1 (0 : Int32) (1 : Int32) A L) (fun r1 A1 L1 => if r1 = 0 then zbi (zM_no d (-2 : Int32) A1 L1) (fun r2 A2 L2 => some (some (.int r2), A2, L2)) else zM_set_1 (d + 1) v1 v2 A1 L1) := (zrun_q zT (d + 1) (M := zt_X10_set) (bk := zb_X10_set_0) rfl rfl _ _ _ _).trans rfl
set_option maxRecDepth 20000 in
theorem zM_order_q (d : Nat) (v1 : Int32) (A : zA) (L : zL) : zM_order d v1 A L = zM_order_1 d v1 v1 (0 : Int32) (0 : Int32) A L := (zrun_q zT d (M := zt_X10_order) (bk := zb_X10_order_0) rfl rfl _ _ _ _).trans rfl
set_option maxRecDepth 20000 in
theorem zM_say_q (d : Nat) (v1 : Int32) (A : zA) (L : zL) : zM_say (d + 1) v1 A L = zbi (zM_isIn d v1 (0 : Int32) (7 : Int32) A L) (fun r1 A1 L1 => if r1 = 0 then zbi (zM_no d (-1 : Int32) A1 L1) (fun r2 A2 L2 => some (some (.int r2), A2, L2)) else zM_say_1 (d + 1) v1 A1 L1) := (zrun_q zT (d + 1) (M := zt_X10_say) (bk := zb_X10_say_0) rfl rfl _ _ _ _).trans rfl
set_option maxRecDepth 20000 in
theorem zM_stop_q (d : Nat) (A : zA) (L : zL) : zM_stop (d + 1) A L = zbv (zM_findTables d A L) (fun A1 L1 => zbi (zM_mayStop d A1 L1) (fun r2 A2 L2 => if r2 = 0 then zbi (zM_no d (-3 : Int32) A2 L2) (fun r3 A3 L3 => some (some (.int r3), A3, L3)) else zM_stop_1 (d + 1) A2 L2)) := (zrun_q zT (d + 1) (M := zt_X10_stop) (bk := zb_X10_stop_0) rfl rfl _ _ _ _).trans rfl
set_option maxRecDepth 20000 in
theorem zM_back_q (d : Nat) (A : zA) (L : zL) : zM_back d A L = if (A 63 18) = (1 : Int32) then some (some (.int ((zput A 63 18 (0 : Int32)) 63 15)), (zput A 63 18 (0 : Int32)), L) else zM_back_1 d A L := (zrun_q zT d (M := zt_X10_back) (bk := zb_X10_back_0) rfl rfl _ _ _ _).trans rfl
set_option maxRecDepth 20000 in
theorem zM_anew_q (d : Nat) (A : zA) (L : zL) : zM_anew (d + 1) A L = zbv (zM_replays d (0 : Int32) A L) (fun A1 L1 => some (some (.int (A 63 15)), (zput A1 63 18 (0 : Int32)), L1)) := (zrun_q zT (d + 1) (M := zt_X10_anew) (bk := zb_X10_anew_0) rfl rfl _ _ _ _).trans rfl
set_option maxRecDepth 20000 in
theorem zM_talk_q (d : Nat) (v1 : Int32) (A : zA) (L : zL) : zM_talk (d + 1) v1 A L = zbv (zM_findTables d A L) (fun A1 L1 => if v1 = 0 then zM_talk_1 (d + 1) A1 L1 else if v1 = 1 then zM_talk_2 (d + 1) A1 L1 else if v1 = 2 then zM_talk_3 (d + 1) A1 L1 else if v1 = 3 then zM_talk_4 (d + 1) A1 L1 else if v1 = 4 then zM_talk_5 (d + 1) A1 L1 else if v1 = 5 then zM_talk_9 (d + 1) A1 L1 else if v1 = 6 then zM_talk_12 (d + 1) A1 L1 else zM_talk_15 (d + 1) A1 L1) := (zrun_q zT (d + 1) (M := zt_X10_talk) (bk := zb_X10_talk_0) rfl rfl _ _ _ _).trans rfl
set_option maxRecDepth 20000 in
theorem zM_does_q (d : Nat) (A : zA) (L : zL) : zM_does (d + 1) A L = zbv (zM_fillAll d A L) (fun A1 L1 => if (A1 63 18) = (1 : Int32) then zM_does_2 (d + 1) (-9 : Int32) A1 L1 else zM_does_1 (d + 1) A1 L1) := (zrun_q zT (d + 1) (M := zt_X10_does) (bk := zb_X10_does_0) rfl rfl _ _ _ _).trans rfl
set_option maxRecDepth 20000 in
theorem zM_goes_q (d : Nat) (A : zA) (L : zL) : zM_goes (d + 1) A L = zbv (zM_fillAll d A L) (fun A1 L1 => if (A1 63 18) = (1 : Int32) then zM_goes_2 (d + 1) (-9 : Int32) A1 L1 else zM_goes_1 (d + 1) A1 L1) := (zrun_q zT (d + 1) (M := zt_X10_goes) (bk := zb_X10_goes_0) rfl rfl _ _ _ _).trans rfl
set_option maxRecDepth 20000 in
theorem zM_ends_q (d : Nat) (v1 : Int32) (A : zA) (L : zL) : zM_ends (d + 1) v1 A L = zbi (zM_isIn d v1 (0 : Int32) (2 : Int32) A L) (fun r1 A1 L1 => if r1 = 0 then zbi (zM_no d (-2 : Int32) A1 L1) (fun r2 A2 L2 => some (some (.int r2), A2, L2)) else zM_ends_1 (d + 1) v1 A1 L1) := (zrun_q zT (d + 1) (M := zt_X10_ends) (bk := zb_X10_ends_0) rfl rfl _ _ _ _).trans rfl
set_option maxRecDepth 20000 in
theorem zM_value_q (d : Nat) (v1 : Int32) (A : zA) (L : zL) : zM_value (d + 1) v1 A L = zbi (zM_isOne d v1 A L) (fun r1 A1 L1 => if r1 = 0 then zbi (zM_lower d (-1 : Int32) A1 L1) (fun r2 A2 L2 => some (some (.int r2), A2, L2)) else zM_value_1 (d + 1) v1 A1 L1) := (zrun_q zT (d + 1) (M := zt_X10_value) (bk := zb_X10_value_0) rfl rfl _ _ _ _).trans rfl
set_option maxRecDepth 20000 in
theorem zM_forces_q (d : Nat) (v1 : Int32) (v2 : Int32) (A : zA) (L : zL) : zM_forces (d + 1) v1 v2 A L = zbi (zM_isOne d v1 A L) (fun r1 A1 L1 => if r1 = 0 then zM_forces_1 (d + 1) A1 L1 else zbi (zM_isIn d v2 (0 : Int32) (5 : Int32) A1 L1) (fun r2 A2 L2 => if r2 = 0 then zM_forces_1 (d + 1) A2 L2 else zbi (zM_sureNow d v1 v2 (0 : Int32) A2 L2) (fun r3 A3 L3 => zM_forces_2 (d + 1) r3 A3 L3))) := (zrun_q zT (d + 1) (M := zt_X10_forces) (bk := zb_X10_forces_0) rfl rfl _ _ _ _).trans rfl
set_option maxRecDepth 20000 in
theorem zM_keeps_q (d : Nat) (v1 : Int32) (v2 : Int32) (A : zA) (L : zL) : zM_keeps (d + 1) v1 v2 A L = zbi (zM_isOne d v1 A L) (fun r1 A1 L1 => if r1 = 0 then zM_keeps_1 (d + 1) A1 L1 else zbi (zM_isIn d v2 (0 : Int32) (5 : Int32) A1 L1) (fun r2 A2 L2 => if r2 = 0 then zM_keeps_1 (d + 1) A2 L2 else zbi (zM_sureNow d v1 v2 (1 : Int32) A2 L2) (fun r3 A3 L3 => zM_keeps_2 (d + 1) r3 A3 L3))) := (zrun_q zT (d + 1) (M := zt_X10_keeps) (bk := zb_X10_keeps_0) rfl rfl _ _ _ _).trans rfl
set_option maxRecDepth 20000 in
theorem zM_sticks_q (d : Nat) (v1 : Int32) (A : zA) (L : zL) : zM_sticks (d + 1) v1 A L = zbi (zM_isOne d v1 A L) (fun r1 A1 L1 => if r1 = 0 then zM_sticks_1 (d + 1) A1 L1 else zbi (zM_sureNow d v1 (-9 : Int32) (2 : Int32) A1 L1) (fun r2 A2 L2 => zM_sticks_2 (d + 1) r2 A2 L2)) := (zrun_q zT (d + 1) (M := zt_X10_sticks) (bk := zb_X10_sticks_0) rfl rfl _ _ _ _).trans rfl
set_option maxRecDepth 20000 in
theorem zM_holds_q (d : Nat) (v1 : Int32) (A : zA) (L : zL) : zM_holds (d + 1) v1 A L = zbi (zM_isOne d v1 A L) (fun r1 A1 L1 => if r1 = 0 then zM_holds_1 (d + 1) A1 L1 else zbi (zM_sureNow d v1 (-9 : Int32) (3 : Int32) A1 L1) (fun r2 A2 L2 => zM_holds_2 (d + 1) r2 A2 L2)) := (zrun_q zT (d + 1) (M := zt_X10_holds) (bk := zb_X10_holds_0) rfl rfl _ _ _ _).trans rfl
set_option maxRecDepth 20000 in
theorem zM_sure_q (d : Nat) (v1 : Int32) (A : zA) (L : zL) : zM_sure (d + 1) v1 A L = zbi (zM_isOne d v1 A L) (fun r1 A1 L1 => if r1 = 0 then zM_sure_1 (d + 1) A1 L1 else zbi (zM_sureNow d v1 (-9 : Int32) (4 : Int32) A1 L1) (fun r2 A2 L2 => zM_sure_2 (d + 1) r2 A2 L2)) := (zrun_q zT (d + 1) (M := zt_X10_sure) (bk := zb_X10_sure_0) rfl rfl _ _ _ _).trans rfl
set_option maxRecDepth 20000 in
theorem zM_meanings_q (d : Nat) (v1 : Int32) (A : zA) (L : zL) : zM_meanings (d + 1) v1 A L = if (-1 : Int32) ≤ v1 then zM_meanings_1 (d + 1) v1 A L else zbi (zM_no d (-4 : Int32) A L) (fun r1 A1 L1 => some (some (.int r1), A1, L1)) := (zrun_q zT (d + 1) (M := zt_X10_meanings) (bk := zb_X10_meanings_0) rfl rfl _ _ _ _).trans rfl
set_option maxRecDepth 20000 in
theorem zM_canStick_q (d : Nat) (A : zA) (L : zL) : zM_canStick (d + 1) A L = if (A 63 12) = 0 then zbi (zM_no d (-3 : Int32) A L) (fun r1 A1 L1 => some (some (.int r1), A1, L1)) else zM_canStick_1 (d + 1) A L := (zrun_q zT (d + 1) (M := zt_X10_canStick) (bk := zb_X10_canStick_0) rfl rfl _ _ _ _).trans rfl
set_option maxRecDepth 20000 in
theorem zM_begins_q (d : Nat) (v1 : Int32) (A : zA) (L : zL) : zM_begins (d + 1) v1 A L = zbi (zM_isOne d v1 A L) (fun r1 A1 L1 => if r1 = 0 then zbi (zM_no d (-1 : Int32) A1 L1) (fun r2 A2 L2 => some (some (.int r2), A2, L2)) else zM_begins_1 (d + 1) v1 A1 L1) := (zrun_q zT (d + 1) (M := zt_X10_begins) (bk := zb_X10_begins_0) rfl rfl _ _ _ _).trans rfl
set_option maxRecDepth 20000 in
theorem zM_turns_q (d : Nat) (v1 : Int32) (A : zA) (L : zL) : zM_turns (d + 1) v1 A L = zbi (zM_isOne d v1 A L) (fun r1 A1 L1 => if r1 = 0 then zbi (zM_no d (-1 : Int32) A1 L1) (fun r2 A2 L2 => some (some (.int r2), A2, L2)) else zM_turns_1 (d + 1) v1 A1 L1) := (zrun_q zT (d + 1) (M := zt_X10_turns) (bk := zb_X10_turns_0) rfl rfl _ _ _ _).trans rfl
set_option maxRecDepth 20000 in
theorem zM_buys_q (d : Nat) (v1 : Int32) (A : zA) (L : zL) : zM_buys (d + 1) v1 A L = zbi (zM_isOne d v1 A L) (fun r1 A1 L1 => if r1 = 0 then zbi (zM_no d (-1 : Int32) A1 L1) (fun r2 A2 L2 => some (some (.int r2), A2, L2)) else zM_buys_1 (d + 1) v1 A1 L1) := (zrun_q zT (d + 1) (M := zt_X10_buys) (bk := zb_X10_buys_0) rfl rfl _ _ _ _).trans rfl
set_option maxRecDepth 20000 in
theorem zM_price_q (d : Nat) (v1 : Int32) (v2 : Int32) (A : zA) (L : zL) : zM_price (d + 1) v1 v2 A L = zbi (zM_isOne d v1 A L) (fun r1 A1 L1 => if r1 = 0 then zM_price_1 (d + 1) A1 L1 else zbi (zM_isIn d v2 (0 : Int32) (7 : Int32) A1 L1) (fun r2 A2 L2 => if r2 = 0 then zM_price_1 (d + 1) A2 L2 else zM_price_2 (d + 1) v1 v2 A2 L2)) := (zrun_q zT (d + 1) (M := zt_X10_price) (bk := zb_X10_price_0) rfl rfl _ _ _ _).trans rfl
set_option maxRecDepth 20000 in
theorem zM_lacks_q (d : Nat) (v1 : Int32) (v2 : Int32) (A : zA) (L : zL) : zM_lacks (d + 1) v1 v2 A L = zbi (zM_isOne d v1 A L) (fun r1 A1 L1 => if r1 = 0 then zM_lacks_1 (d + 1) A1 L1 else zbi (zM_isIn d v2 (0 : Int32) (7 : Int32) A1 L1) (fun r2 A2 L2 => if r2 = 0 then zM_lacks_1 (d + 1) A2 L2 else zM_lacks_2 (d + 1) v1 v2 A2 L2)) := (zrun_q zT (d + 1) (M := zt_X10_lacks) (bk := zb_X10_lacks_0) rfl rfl _ _ _ _).trans rfl
set_option maxRecDepth 20000 in
theorem zM_knows_q (d : Nat) (v1 : Int32) (A : zA) (L : zL) : zM_knows (d + 1) v1 A L = zbi (zM_isOne d v1 A L) (fun r1 A1 L1 => if r1 = 0 then zbi (zM_lower d (-1 : Int32) A1 L1) (fun r2 A2 L2 => some (some (.int r2), A2, L2)) else zM_knows_1 (d + 1) v1 A1 L1) := (zrun_q zT (d + 1) (M := zt_X10_knows) (bk := zb_X10_knows_0) rfl rfl _ _ _ _).trans rfl
set_option maxRecDepth 20000 in
theorem zM_as_q (d : Nat) (v1 : Int32) (A : zA) (L : zL) : zM_as (d + 1) v1 A L = zbi (zM_isOne d v1 A L) (fun r1 A1 L1 => if r1 = 0 then zbi (zM_no d (-1 : Int32) A1 L1) (fun r2 A2 L2 => some (some (.int r2), A2, L2)) else zM_as_1 (d + 1) v1 A1 L1) := (zrun_q zT (d + 1) (M := zt_X10_as) (bk := zb_X10_as_0) rfl rfl _ _ _ _).trans rfl
set_option maxRecDepth 20000 in
theorem zM_least_q (d : Nat) (v1 : Int32) (v2 : Int32) (A : zA) (L : zL) : zM_least (d + 1) v1 v2 A L = zbi (zM_isOne d v1 A L) (fun r1 A1 L1 => if r1 = 0 then zM_least_1 (d + 1) A1 L1 else zbi (zM_isIn d v2 (0 : Int32) (5 : Int32) A1 L1) (fun r2 A2 L2 => if r2 = 0 then zM_least_1 (d + 1) A2 L2 else zM_least_2 (d + 1) v1 v2 A2 L2)) := (zrun_q zT (d + 1) (M := zt_X10_least) (bk := zb_X10_least_0) rfl rfl _ _ _ _).trans rfl
set_option maxRecDepth 20000 in
theorem zM_kinds_q (d : Nat) (v1 : Int32) (A : zA) (L : zL) : zM_kinds (d + 1) v1 A L = zbi (zM_isOne d v1 A L) (fun r1 A1 L1 => if r1 = 0 then zbi (zM_no d (-1 : Int32) A1 L1) (fun r2 A2 L2 => some (some (.int r2), A2, L2)) else zM_kinds_1 (d + 1) v1 A1 L1) := (zrun_q zT (d + 1) (M := zt_X10_kinds) (bk := zb_X10_kinds_0) rfl rfl _ _ _ _).trans rfl
set_option maxRecDepth 20000 in
theorem zM_row_q (d : Nat) (v1 : Int32) (A : zA) (L : zL) : zM_row (d + 1) v1 A L = zbi (zM_isIn d v1 (0 : Int32) (7 : Int32) A L) (fun r1 A1 L1 => if r1 = 0 then zbi (zM_no d (-1 : Int32) A1 L1) (fun r2 A2 L2 => some (some (.int r2), A2, L2)) else zM_row_1 (d + 1) v1 A1 L1) := (zrun_q zT (d + 1) (M := zt_X10_row) (bk := zb_X10_row_0) rfl rfl _ _ _ _).trans rfl
set_option maxRecDepth 20000 in
theorem zM_judge_q (d : Nat) (A : zA) (L : zL) : zM_judge (d + 1) A L = if (A 63 12) = 0 then zbi (zM_no d (-3 : Int32) A L) (fun r1 A1 L1 => some (some (.int r1), A1, L1)) else zM_judge_1 (d + 1) A L := (zrun_q zT (d + 1) (M := zt_X10_judge) (bk := zb_X10_judge_0) rfl rfl _ _ _ _).trans rfl
set_option maxRecDepth 20000 in
theorem zM_seeds_q (d : Nat) (v1 : Int32) (v2 : Int32) (v3 : Int32) (A : zA) (L : zL) : zM_seeds (d + 1) v1 v2 v3 A L = zbi (zM_isOne d v1 A L) (fun r1 A1 L1 => if r1 = 0 then zbi (zM_lower d (-1 : Int32) A1 L1) (fun r2 A2 L2 => some (some (.int r2), A2, L2)) else zM_seeds_1 (d + 1) v1 v2 v3 A1 L1) := (zrun_q zT (d + 1) (M := zt_X10_seeds) (bk := zb_X10_seeds_0) rfl rfl _ _ _ _).trans rfl
set_option maxRecDepth 20000 in
theorem zM_count_q (d : Nat) (v1 : Int32) (A : zA) (L : zL) : zM_count (d + 1) v1 A L = zbi (zM_isIn d v1 (11 : Int32) (16 : Int32) A L) (fun r1 A1 L1 => if r1 = 0 then zM_count_1 (d + 1) v1 A1 L1 else zck (v1 - (10 : Int32)) 7 (some (some (.int (A1 64 ((v1 - (10 : Int32))).toNatClampNeg)), A1, L1))) := (zrun_q zT (d + 1) (M := zt_X10_count) (bk := zb_X10_count_0) rfl rfl _ _ _ _).trans rfl
set_option maxRecDepth 20000 in
theorem zM_bound_q (d : Nat) (v0 : Int32) (v1 : Int32) (v2 : Int32) (A : zA) (L : zL) : zM_bound d v0 v1 v2 A L = if v1 ≤ v0 then zM_bound_1 d v0 v2 A L else zM_bound_3 d (-4 : Int32) A L := (zrun_q zT d (M := zt_X10_bound) (bk := zb_X10_bound_0) rfl rfl _ _ _ _).trans rfl
set_option maxRecDepth 20000 in
theorem zM_feed_1_q (d : Nat) (v1 : Int32) (v2 : Int32) (A : zA) (L : zL) : zM_feed_1 (d + 1) v1 v2 A L = if v2 = 0 then zM_feed_2 (d + 1) v1 A L else zbi (zM_no d v2 A L) (fun r1 A1 L1 => some (some (.int r1), A1, L1)) := (zrun_q zT (d + 1) (M := zt_X10_feed) (bk := zb_X10_feed_1) rfl rfl _ _ _ _).trans rfl
set_option maxRecDepth 20000 in
theorem zM_tongue_1_q (d : Nat) (A : zA) (L : zL) : zM_tongue_1 d A L = zM_tongue_2 d (1 : Int32) (zput (zput A 63 27 (0 : Int32)) 63 28 (0 : Int32)) L := (zrun_q zT d (M := zt_X10_tongue) (bk := zb_X10_tongue_1) rfl rfl _ _ _ _).trans rfl
set_option maxRecDepth 20000 in
theorem zM_no_q (d : Nat) (v1 : Int32) (A : zA) (L : zL) : zM_no d v1 A L = zck (-v1) 7 (zck (-v1) 7 (some (some (.int v1), (zput A 64 ((-v1)).toNatClampNeg ((A 64 ((-v1)).toNatClampNeg) + (1 : Int32))), L))) := (zrun_q zT d (M := zt_X10_no) (bk := zb_X10_no_0) rfl rfl _ _ _ _).trans rfl
set_option maxRecDepth 20000 in
theorem zM_passesAll_q (d : Nat) (v1 : Int32) (v2 : Int32) (A : zA) (L : zL) : zM_passesAll (d + 1) v1 v2 A L = zcb v2 (zbv (zM_passes_65 d (zput (zput A 63 32 ((200 : Int32) * v1)) 63 31 v2) L) (fun A1 L1 => zbv (zM_passes_66 d A1 L1) (fun A2 L2 => zbv (zM_passes_67 d A2 L2) (fun A3 L3 => zbv (zM_passes_68 d A3 L3) (fun A4 L4 => zbv (zM_passes_69 d A4 L4) (fun A5 L5 => zbv (zM_passes_70 d A5 L5) (fun A6 L6 => zbv (zM_passes_71 d A6 L6) (fun A7 L7 => zbv (zM_passes_72 d A7 L7) (fun A8 L8 => zbv (zM_passes_73 d A8 L8) (fun A9 L9 => zbi (zM_passOne d (A9 63 10) A9 L9) (fun r10 A10 L10 => zbi (zM_passOne d ((zput A10 63 10 r10) 63 11) (zput A10 63 10 r10) L10) (fun r11 A11 L11 => zbi (zM_passOne d ((zput A11 63 11 r11) 63 12) (zput A11 63 11 r11) L11) (fun r12 A12 L12 => zbi (zM_passOne d ((zput A12 63 12 r12) 63 13) (zput A12 63 12 r12) L12) (fun r13 A13 L13 => zbi (zM_passOne d ((zput A13 63 13 r13) 63 14) (zput A13 63 13 r13) L13) (fun r14 A14 L14 => zbi (zM_passOne d ((zput A14 63 14 r14) 63 15) (zput A14 63 14 r14) L14) (fun r15 A15 L15 => zbi (zM_passOne d ((zput A15 63 15 r15) 63 16) (zput A15 63 15 r15) L15) (fun r16 A16 L16 => zbi (zM_passOne d ((zput A16 63 16 r16) 63 17) (zput A16 63 16 r16) L16) (fun r17 A17 L17 => zbi (zM_passOne d ((zput A17 63 17 r17) 63 18) (zput A17 63 17 r17) L17) (fun r18 A18 L18 => some (none, (zput A18 63 18 r18), L18)))))))))))))))))))) := (zrun_q zT (d + 1) (M := zt_X10_passesAll) (bk := zb_X10_passesAll_0) rfl rfl _ _ _ _).trans rfl
set_option maxRecDepth 20000 in
theorem zM_restore_1_q (d : Nat) (A : zA) (L : zL) : zM_restore_1 (d + 1) A L = zbv (zM_passesAll d (0 : Int32) (0 : Int32) A L) (fun A1 L1 => some (some (.int (A1 63 15)), A1, L1)) := (zrun_q zT (d + 1) (M := zt_X10_restore) (bk := zb_X10_restore_1) rfl rfl _ _ _ _).trans rfl
set_option maxRecDepth 20000 in
theorem zM_isIn_q (d : Nat) (v0 : Int32) (v1 : Int32) (v2 : Int32) (A : zA) (L : zL) : zM_isIn d v0 v1 v2 A L = if v0 < v1 then zM_isIn_1 d A L else if v2 < v0 then zM_isIn_1 d A L else zM_isIn_2 d (1 : Int32) A L := (zrun_q zT d (M := zt_X10_isIn) (bk := zb_X10_isIn_0) rfl rfl _ _ _ _).trans rfl
set_option maxRecDepth 20000 in
theorem zM_rule_1_q (d : Nat) (v1 : Int32) (v2 : Int32) (A : zA) (L : zL) : zM_rule_1 (d + 1) v1 v2 A L = zbi (zM_isIn d v2 (0 : Int32) (3 : Int32) A L) (fun r1 A1 L1 => if r1 = 0 then zbi (zM_no d (-2 : Int32) A1 L1) (fun r2 A2 L2 => some (some (.int r2), A2, L2)) else zM_rule_2 (d + 1) v1 v2 A1 L1) := (zrun_q zT (d + 1) (M := zt_X10_rule) (bk := zb_X10_rule_1) rfl rfl _ _ _ _).trans rfl
set_option maxRecDepth 20000 in
theorem zM_end_1_q (d : Nat) (v1 : Int32) (A : zA) (L : zL) : zM_end_1 (d + 1) v1 A L = zbi (zM_isEnd d v1 A L) (fun r1 A1 L1 => if r1 = 0 then zM_end_2 (d + 1) A1 L1 else zM_end_3 (d + 1) (1 : Int32) A1 L1) := (zrun_q zT (d + 1) (M := zt_X10_end) (bk := zb_X10_end_1) rfl rfl _ _ _ _).trans rfl
set_option maxRecDepth 20000 in
theorem zM_end_3_q (d : Nat) (s0 : Int32) (A : zA) (L : zL) : zM_end_3 d s0 A L = some (some (.int s0), A, L) := (zrun_q zT d (M := zt_X10_end) (bk := zb_X10_end_3) rfl rfl _ _ _ _).trans rfl
set_option maxRecDepth 20000 in
theorem zM_isOne_q (d : Nat) (v1 : Int32) (A : zA) (L : zL) : zM_isOne d v1 A L = if v1 < 0 then zM_isOne_1 d A L else if (A 63 12) ≤ v1 then zM_isOne_1 d A L else zM_isOne_2 d (1 : Int32) A L := (zrun_q zT d (M := zt_X10_isOne) (bk := zb_X10_isOne_0) rfl rfl _ _ _ _).trans rfl
set_option maxRecDepth 20000 in
theorem zM_person_1_q (d : Nat) (v1 : Int32) (v2 : Int32) (A : zA) (L : zL) : zM_person_1 (d + 1) v1 v2 A L = zbi (zM_isIn d v2 (0 : Int32) (2 : Int32) A L) (fun r1 A1 L1 => if r1 = 0 then zbi (zM_no d (-2 : Int32) A1 L1) (fun r2 A2 L2 => some (some (.int r2), A2, L2)) else zM_person_2 (d + 1) v1 v2 A1 L1) := (zrun_q zT (d + 1) (M := zt_X10_person) (bk := zb_X10_person_1) rfl rfl _ _ _ _).trans rfl
set_option maxRecDepth 20000 in
theorem zM_worth_1_q (d : Nat) (A : zA) (L : zL) : zM_worth_1 (d + 1) A L = zbi (zM_lower d (-1 : Int32) A L) (fun r1 A1 L1 => zM_worth_2 (d + 1) r1 A1 L1) := (zrun_q zT (d + 1) (M := zt_X10_worth) (bk := zb_X10_worth_1) rfl rfl _ _ _ _).trans rfl
set_option maxRecDepth 20000 in
theorem zM_worth_2_q (d : Nat) (s0 : Int32) (A : zA) (L : zL) : zM_worth_2 d s0 A L = some (some (.int s0), A, L) := (zrun_q zT d (M := zt_X10_worth) (bk := zb_X10_worth_2) rfl rfl _ _ _ _).trans rfl
set_option maxRecDepth 20000 in
theorem zM_values_1_q (d : Nat) (A : zA) (L : zL) : zM_values_1 (d + 1) A L = zbi (zM_lower d (-1 : Int32) A L) (fun r1 A1 L1 => some (some (.int r1), A1, L1)) := (zrun_q zT (d + 1) (M := zt_X10_values) (bk := zb_X10_values_1) rfl rfl _ _ _ _).trans rfl
set_option maxRecDepth 20000 in
theorem zM_values_2_q (d : Nat) (v1 : Int32) (v2 : Int32) (v3 : Int32) (A : zA) (L : zL) : zM_values_2 (d + 1) v1 v2 v3 A L = zbi (zM_bound d v3 (-9 : Int32) (9 : Int32) A L) (fun r1 A1 L1 => if r1 = 0 then zM_values_3 (d + 1) v1 v2 v3 A1 L1 else zbi (zM_lower d r1 A1 L1) (fun r2 A2 L2 => some (some (.int r2), A2, L2))) := (zrun_q zT (d + 1) (M := zt_X10_values) (bk := zb_X10_values_2) rfl rfl _ _ _ _).trans rfl
set_option maxRecDepth 20000 in
theorem zM_kind_1_q (d : Nat) (A : zA) (L : zL) : zM_kind_1 (d + 1) A L = zbi (zM_no d (-1 : Int32) A L) (fun r1 A1 L1 => some (some (.int r1), A1, L1)) := (zrun_q zT (d + 1) (M := zt_X10_kind) (bk := zb_X10_kind_1) rfl rfl _ _ _ _).trans rfl
set_option maxRecDepth 20000 in
theorem zM_kind_2_q (d : Nat) (v1 : Int32) (v2 : Int32) (A : zA) (L : zL) : zM_kind_2 d v1 v2 A L = zck v1 4 (zck v1 4 (some (some (.int (A 69 (v1).toNatClampNeg)), (zput A 69 (v1).toNatClampNeg v2), L))) := (zrun_q zT d (M := zt_X10_kind) (bk := zb_X10_kind_2) rfl rfl _ _ _ _).trans rfl
set_option maxRecDepth 20000 in
theorem zM_word_1_q (d : Nat) (A : zA) (L : zL) : zM_word_1 (d + 1) A L = zbi (zM_no d (-1 : Int32) A L) (fun r1 A1 L1 => some (some (.int r1), A1, L1)) := (zrun_q zT (d + 1) (M := zt_X10_word) (bk := zb_X10_word_1) rfl rfl _ _ _ _).trans rfl
set_option maxRecDepth 20000 in
theorem zM_word_2_q (d : Nat) (v1 : Int32) (v2 : Int32) (v3 : Int32) (A : zA) (L : zL) : zM_word_2 d v1 v2 v3 A L = zck v1 4 (if ((zshr (A 70 (v1).toNatClampNeg) v2) &&& (1 : Int32)) = (1 : Int32) then zM_word_4 d v1 v2 v3 (1 : Int32) A L else zM_word_3 d v1 v2 v3 A L) := (zrun_q zT d (M := zt_X10_word) (bk := zb_X10_word_2) rfl rfl _ _ _ _).trans rfl
set_option maxRecDepth 20000 in
theorem zM_set_1_q (d : Nat) (v1 : Int32) (v2 : Int32) (A : zA) (L : zL) : zM_set_1 (d + 1) v1 v2 A L = if v1 = 0 then zbi (zM_bound d v2 (1 : Int32) (8 : Int32) A L) (fun r1 A1 L1 => zM_set_3 (d + 1) v1 v2 r1 A1 L1) else zM_set_2 (d + 1) v1 v2 A L := (zrun_q zT (d + 1) (M := zt_X10_set) (bk := zb_X10_set_1) rfl rfl _ _ _ _).trans rfl
set_option maxRecDepth 20000 in
theorem zM_order_1_q (d : Nat) (v1 : Int32) (v2 : Int32) (v3 : Int32) (v4 : Int32) (A : zA) (L : zL) : zM_order_1 (d + 1) v1 v2 v3 v4 A L = if (A 63 12) ≤ v4 then zM_order_4 (d + 1) v1 v2 A L else zcd (10 : Int32) (zcd (10 : Int32) (zbi (zM_isOne d (zrem v2 (10 : Int32)) A L) (fun r1 A1 L1 => if r1 = 0 then zM_order_2 (d + 1) A1 L1 else if ((zshr v3 (zrem v2 (10 : Int32))) &&& (1 : Int32)) = (1 : Int32) then zM_order_2 (d + 1) A1 L1 else zM_order_3 (d + 1) v1 (v2 / (10 : Int32)) v3 v4 (zrem v2 (10 : Int32)) A1 L1))) := (zrun_q zT (d + 1) (M := zt_X10_order) (bk := zb_X10_order_1) rfl rfl _ _ _ _).trans rfl
set_option maxRecDepth 20000 in
theorem zM_say_1_q (d : Nat) (v1 : Int32) (A : zA) (L : zL) : zM_say_1 (d + 1) v1 A L = zbv (zM_findTables d A L) (fun A1 L1 => if (A1 63 18) = (1 : Int32) then zM_say_2 (d + 1) A1 L1 else zbi (zM_mayAt d (A1 63 15) (A1 63 16) A1 L1) (fun r2 A2 L2 => if ((zshr r2 v1) &&& (1 : Int32)) = 0 then zM_say_2 (d + 1) A2 L2 else zM_say_3 (d + 1) v1 A2 L2)) := (zrun_q zT (d + 1) (M := zt_X10_say) (bk := zb_X10_say_1) rfl rfl _ _ _ _).trans rfl
set_option maxRecDepth 20000 in
theorem zM_findTables_q (d : Nat) (A : zA) (L : zL) : zM_findTables d A L = zM_findTables_1 d (0 : Int32) A L := (zrun_q zT d (M := zt_X10_findTables) (bk := zb_X10_findTables_0) rfl rfl _ _ _ _).trans rfl
set_option maxRecDepth 20000 in
theorem zM_mayStop_q (d : Nat) (A : zA) (L : zL) : zM_mayStop (d + 1) A L = if (A 63 18) = 0 then zbi (zM_isEnd d (A 63 16) A L) (fun r1 A1 L1 => if r1 = 0 then zM_mayStop_1 (d + 1) A1 L1 else zbi (zM_mayAt d (A1 63 15) (A1 63 16) A1 L1) (fun r2 A2 L2 => if r2 = 0 then zM_mayStop_1 (d + 1) A2 L2 else zM_mayStop_2 (d + 1) (1 : Int32) A2 L2)) else zM_mayStop_1 (d + 1) A L := (zrun_q zT (d + 1) (M := zt_X10_mayStop) (bk := zb_X10_mayStop_0) rfl rfl _ _ _ _).trans rfl
set_option maxRecDepth 20000 in
theorem zM_stop_1_q (d : Nat) (A : zA) (L : zL) : zM_stop_1 d A L = some (some (.int ((zput A 63 18 (1 : Int32)) 63 17)), (zput A 63 18 (1 : Int32)), L) := (zrun_q zT d (M := zt_X10_stop) (bk := zb_X10_stop_1) rfl rfl _ _ _ _).trans rfl
set_option maxRecDepth 20000 in
theorem zM_back_1_q (d : Nat) (A : zA) (L : zL) : zM_back_1 (d + 1) A L = if (A 63 15) = 0 then zbi (zM_no d (-3 : Int32) A L) (fun r1 A1 L1 => some (some (.int r1), A1, L1)) else zM_back_2 (d + 1) A L := (zrun_q zT (d + 1) (M := zt_X10_back) (bk := zb_X10_back_1) rfl rfl _ _ _ _).trans rfl
set_option maxRecDepth 20000 in
theorem zM_replays_q (d : Nat) (v1 : Int32) (A : zA) (L : zL) : zM_replays d v1 A L = zM_replays_1 d v1 (0 : Int32) (zput (zput (zput A 63 15 (0 : Int32)) 63 16 (0 : Int32)) 63 17 (0 : Int32)) L := (zrun_q zT d (M := zt_X10_replays) (bk := zb_X10_replays_0) rfl rfl _ _ _ _).trans rfl
set_option maxRecDepth 20000 in
theorem zM_talk_1_q (d : Nat) (A : zA) (L : zL) : zM_talk_1 d A L = some (some (.int (A 63 16)), A, L) := (zrun_q zT d (M := zt_X10_talk) (bk := zb_X10_talk_1) rfl rfl _ _ _ _).trans rfl
set_option maxRecDepth 20000 in
theorem zM_talk_2_q (d : Nat) (A : zA) (L : zL) : zM_talk_2 d A L = some (some (.int (A 63 17)), A, L) := (zrun_q zT d (M := zt_X10_talk) (bk := zb_X10_talk_2) rfl rfl _ _ _ _).trans rfl
set_option maxRecDepth 20000 in
theorem zM_talk_3_q (d : Nat) (A : zA) (L : zL) : zM_talk_3 d A L = some (some (.int (A 63 15)), A, L) := (zrun_q zT d (M := zt_X10_talk) (bk := zb_X10_talk_3) rfl rfl _ _ _ _).trans rfl
set_option maxRecDepth 20000 in
theorem zM_talk_4_q (d : Nat) (A : zA) (L : zL) : zM_talk_4 (d + 1) A L = zbi (zM_howIs d A L) (fun r1 A1 L1 => some (some (.int r1), A1, L1)) := (zrun_q zT (d + 1) (M := zt_X10_talk) (bk := zb_X10_talk_4) rfl rfl _ _ _ _).trans rfl
set_option maxRecDepth 20000 in
theorem zM_talk_5_q (d : Nat) (A : zA) (L : zL) : zM_talk_5 (d + 1) A L = if (A 63 12) = 0 then zM_talk_6 (d + 1) A L else zbi (zM_howIs d A L) (fun r1 A1 L1 => if r1 = 0 then zM_talk_7 (d + 1) A1 L1 else zM_talk_6 (d + 1) A1 L1) := (zrun_q zT (d + 1) (M := zt_X10_talk) (bk := zb_X10_talk_5) rfl rfl _ _ _ _).trans rfl
set_option maxRecDepth 20000 in
theorem zM_talk_9_q (d : Nat) (A : zA) (L : zL) : zM_talk_9 d A L = if (A 63 18) = (1 : Int32) then zM_talk_11 d (0 : Int32) A L else zM_talk_10 d A L := (zrun_q zT d (M := zt_X10_talk) (bk := zb_X10_talk_9) rfl rfl _ _ _ _).trans rfl
set_option maxRecDepth 20000 in
theorem zM_talk_12_q (d : Nat) (A : zA) (L : zL) : zM_talk_12 (d + 1) A L = zbi (zM_mayStop d A L) (fun r1 A1 L1 => if r1 = 0 then zM_talk_13 (d + 1) A1 L1 else zM_talk_14 (d + 1) (1 : Int32) A1 L1) := (zrun_q zT (d + 1) (M := zt_X10_talk) (bk := zb_X10_talk_12) rfl rfl _ _ _ _).trans rfl
set_option maxRecDepth 20000 in
theorem zM_talk_15_q (d : Nat) (A : zA) (L : zL) : zM_talk_15 (d + 1) A L = zbi (zM_no d (-2 : Int32) A L) (fun r1 A1 L1 => some (some (.int r1), A1, L1)) := (zrun_q zT (d + 1) (M := zt_X10_talk) (bk := zb_X10_talk_15) rfl rfl _ _ _ _).trans rfl
set_option maxRecDepth 20000 in
theorem zM_fillAll_q (d : Nat) (A : zA) (L : zL) : zM_fillAll (d + 1) A L = zbv (zM_findTables d A L) (fun A1 L1 => zM_fillAll_1 (d + 1) (0 : Int32) A1 L1) := (zrun_q zT (d + 1) (M := zt_X10_fillAll) (bk := zb_X10_fillAll_0) rfl rfl _ _ _ _).trans rfl
set_option maxRecDepth 20000 in
theorem zM_does_1_q (d : Nat) (A : zA) (L : zL) : zM_does_1 (d + 1) A L = zbi (zM_choiceAt d (A 63 15) (A 63 16) (A 63 17) A L) (fun r1 A1 L1 => zM_does_2 (d + 1) r1 A1 L1) := (zrun_q zT (d + 1) (M := zt_X10_does) (bk := zb_X10_does_1) rfl rfl _ _ _ _).trans rfl
set_option maxRecDepth 20000 in
theorem zM_does_2_q (d : Nat) (s0 : Int32) (A : zA) (L : zL) : zM_does_2 d s0 A L = some (some (.int s0), A, L) := (zrun_q zT d (M := zt_X10_does) (bk := zb_X10_does_2) rfl rfl _ _ _ _).trans rfl
set_option maxRecDepth 20000 in
theorem zM_goes_1_q (d : Nat) (A : zA) (L : zL) : zM_goes_1 (d + 1) A L = zbi (zM_choiceAt d (A 63 15) (A 63 16) (A 63 17) A L) (fun r1 A1 L1 => zM_goes_2 (d + 1) r1 A1 L1) := (zrun_q zT (d + 1) (M := zt_X10_goes) (bk := zb_X10_goes_1) rfl rfl _ _ _ _).trans rfl
set_option maxRecDepth 20000 in
theorem zM_goes_2_q (d : Nat) (s0 : Int32) (A : zA) (L : zL) : zM_goes_2 (d + 1) s0 A L = if 0 ≤ s0 then zM_goes_3 (d + 1) s0 A L else zbi (zM_no d (-3 : Int32) A L) (fun r1 A1 L1 => some (some (.int r1), A1, L1)) := (zrun_q zT (d + 1) (M := zt_X10_goes) (bk := zb_X10_goes_2) rfl rfl _ _ _ _).trans rfl
set_option maxRecDepth 20000 in
theorem zM_ends_1_q (d : Nat) (v1 : Int32) (A : zA) (L : zL) : zM_ends_1 (d + 1) v1 A L = if (A 63 12) = 0 then zbi (zM_no d (-3 : Int32) A L) (fun r1 A1 L1 => some (some (.int r1), A1, L1)) else zM_ends_2 (d + 1) v1 A L := (zrun_q zT (d + 1) (M := zt_X10_ends) (bk := zb_X10_ends_1) rfl rfl _ _ _ _).trans rfl
set_option maxRecDepth 20000 in
theorem zM_value_1_q (d : Nat) (v1 : Int32) (A : zA) (L : zL) : zM_value_1 (d + 1) v1 A L = zbv (zM_fillAll d A L) (fun A1 L1 => zbi (zM_endNow d A1 L1) (fun r2 A2 L2 => zbi (zM_endWorth d v1 r2 A2 L2) (fun r3 A3 L3 => some (some (.int r3), A3, L3)))) := (zrun_q zT (d + 1) (M := zt_X10_value) (bk := zb_X10_value_1) rfl rfl _ _ _ _).trans rfl
set_option maxRecDepth 20000 in
theorem zM_lower_q (d : Nat) (v1 : Int32) (A : zA) (L : zL) : zM_lower d v1 A L = zck (-v1) 7 (zck (-v1) 7 (some (some (.int ((1000000000 : Int32) - v1)), (zput A 64 ((-v1)).toNatClampNeg ((A 64 ((-v1)).toNatClampNeg) + (1 : Int32))), L))) := (zrun_q zT d (M := zt_X10_lower) (bk := zb_X10_lower_0) rfl rfl _ _ _ _).trans rfl
set_option maxRecDepth 20000 in
theorem zM_forces_1_q (d : Nat) (A : zA) (L : zL) : zM_forces_1 (d + 1) A L = zbi (zM_no d (-1 : Int32) A L) (fun r1 A1 L1 => zM_forces_2 (d + 1) r1 A1 L1) := (zrun_q zT (d + 1) (M := zt_X10_forces) (bk := zb_X10_forces_1) rfl rfl _ _ _ _).trans rfl
set_option maxRecDepth 20000 in
theorem zM_sureNow_q (d : Nat) (v1 : Int32) (v2 : Int32) (v3 : Int32) (A : zA) (L : zL) : zM_sureNow (d + 1) v1 v2 v3 A L = zbv (zM_fillGame d v1 v2 v3 A L) (fun A1 L1 => if (A1 63 18) = (1 : Int32) then zbi (zM_counts d v1 v2 v3 (A1 63 17) (A1 63 15) A1 L1) (fun r2 A2 L2 => zM_sureNow_2 (d + 1) r2 A2 L2) else zM_sureNow_1 (d + 1) A1 L1) := (zrun_q zT (d + 1) (M := zt_X10_sureNow) (bk := zb_X10_sureNow_0) rfl rfl _ _ _ _).trans rfl
set_option maxRecDepth 20000 in
theorem zM_forces_2_q (d : Nat) (s0 : Int32) (A : zA) (L : zL) : zM_forces_2 d s0 A L = some (some (.int s0), A, L) := (zrun_q zT d (M := zt_X10_forces) (bk := zb_X10_forces_2) rfl rfl _ _ _ _).trans rfl
set_option maxRecDepth 20000 in
theorem zM_keeps_1_q (d : Nat) (A : zA) (L : zL) : zM_keeps_1 (d + 1) A L = zbi (zM_no d (-1 : Int32) A L) (fun r1 A1 L1 => zM_keeps_2 (d + 1) r1 A1 L1) := (zrun_q zT (d + 1) (M := zt_X10_keeps) (bk := zb_X10_keeps_1) rfl rfl _ _ _ _).trans rfl
set_option maxRecDepth 20000 in
theorem zM_keeps_2_q (d : Nat) (s0 : Int32) (A : zA) (L : zL) : zM_keeps_2 d s0 A L = some (some (.int s0), A, L) := (zrun_q zT d (M := zt_X10_keeps) (bk := zb_X10_keeps_2) rfl rfl _ _ _ _).trans rfl
set_option maxRecDepth 20000 in
theorem zM_sticks_1_q (d : Nat) (A : zA) (L : zL) : zM_sticks_1 (d + 1) A L = zbi (zM_no d (-1 : Int32) A L) (fun r1 A1 L1 => zM_sticks_2 (d + 1) r1 A1 L1) := (zrun_q zT (d + 1) (M := zt_X10_sticks) (bk := zb_X10_sticks_1) rfl rfl _ _ _ _).trans rfl
set_option maxRecDepth 20000 in
theorem zM_sticks_2_q (d : Nat) (s0 : Int32) (A : zA) (L : zL) : zM_sticks_2 d s0 A L = some (some (.int s0), A, L) := (zrun_q zT d (M := zt_X10_sticks) (bk := zb_X10_sticks_2) rfl rfl _ _ _ _).trans rfl
set_option maxRecDepth 20000 in
theorem zM_holds_1_q (d : Nat) (A : zA) (L : zL) : zM_holds_1 (d + 1) A L = zbi (zM_no d (-1 : Int32) A L) (fun r1 A1 L1 => zM_holds_2 (d + 1) r1 A1 L1) := (zrun_q zT (d + 1) (M := zt_X10_holds) (bk := zb_X10_holds_1) rfl rfl _ _ _ _).trans rfl
set_option maxRecDepth 20000 in
theorem zM_holds_2_q (d : Nat) (s0 : Int32) (A : zA) (L : zL) : zM_holds_2 d s0 A L = some (some (.int s0), A, L) := (zrun_q zT d (M := zt_X10_holds) (bk := zb_X10_holds_2) rfl rfl _ _ _ _).trans rfl
set_option maxRecDepth 20000 in
theorem zM_sure_1_q (d : Nat) (A : zA) (L : zL) : zM_sure_1 (d + 1) A L = zbi (zM_lower d (-1 : Int32) A L) (fun r1 A1 L1 => zM_sure_2 (d + 1) r1 A1 L1) := (zrun_q zT (d + 1) (M := zt_X10_sure) (bk := zb_X10_sure_1) rfl rfl _ _ _ _).trans rfl
set_option maxRecDepth 20000 in
theorem zM_sure_2_q (d : Nat) (s0 : Int32) (A : zA) (L : zL) : zM_sure_2 d s0 A L = some (some (.int s0), A, L) := (zrun_q zT d (M := zt_X10_sure) (bk := zb_X10_sure_2) rfl rfl _ _ _ _).trans rfl
set_option maxRecDepth 20000 in
theorem zM_meanings_1_q (d : Nat) (v1 : Int32) (A : zA) (L : zL) : zM_meanings_1 (d + 1) v1 A L = if (A 63 12) = 0 then zbi (zM_no d (-3 : Int32) A L) (fun r1 A1 L1 => some (some (.int r1), A1, L1)) else zM_meanings_2 (d + 1) v1 A L := (zrun_q zT (d + 1) (M := zt_X10_meanings) (bk := zb_X10_meanings_1) rfl rfl _ _ _ _).trans rfl
set_option maxRecDepth 20000 in
theorem zM_canStick_1_q (d : Nat) (A : zA) (L : zL) : zM_canStick_1 (d + 1) A L = zbv (zM_fillMeant d A L) (fun A1 L1 => if (A1 63 18) = 0 then zbi (zM_placeAt d (A1 63 15) (A1 63 16) (A1 63 17) A1 L1) (fun r2 A2 L2 => zck r2 4608 (if (A2 91 (r2).toNatClampNeg) = 0 then zM_canStick_2 (d + 1) A2 L2 else zM_canStick_3 (d + 1) (1 : Int32) A2 L2)) else zM_canStick_2 (d + 1) A1 L1) := (zrun_q zT (d + 1) (M := zt_X10_canStick) (bk := zb_X10_canStick_1) rfl rfl _ _ _ _).trans rfl
set_option maxRecDepth 20000 in
theorem zM_begins_1_q (d : Nat) (v1 : Int32) (A : zA) (L : zL) : zM_begins_1 (d + 1) v1 A L = zbv (zM_passesAll d (1 : Int32) (1 : Int32) A L) (fun A1 L1 => zbi (zM_fromStart d v1 A1 L1) (fun r2 A2 L2 => zM_begins_2 (d + 1) v1 (0 : Int32) r2 (1 : Int32) A2 L2)) := (zrun_q zT (d + 1) (M := zt_X10_begins) (bk := zb_X10_begins_1) rfl rfl _ _ _ _).trans rfl
set_option maxRecDepth 20000 in
theorem zM_turns_1_q (d : Nat) (v1 : Int32) (A : zA) (L : zL) : zM_turns_1 (d + 1) v1 A L = zbv (zM_passesAll d (1 : Int32) (1 : Int32) A L) (fun A1 L1 => zM_turns_2 (d + 1) v1 (0 : Int32) A1 L1) := (zrun_q zT (d + 1) (M := zt_X10_turns) (bk := zb_X10_turns_1) rfl rfl _ _ _ _).trans rfl
set_option maxRecDepth 20000 in
theorem zM_buys_1_q (d : Nat) (v1 : Int32) (A : zA) (L : zL) : zM_buys_1 (d + 1) v1 A L = zbi (zM_fromStart d v1 A L) (fun r1 A1 L1 => zM_buys_2 (d + 1) v1 (-9 : Int32) r1 (0 : Int32) A1 L1) := (zrun_q zT (d + 1) (M := zt_X10_buys) (bk := zb_X10_buys_1) rfl rfl _ _ _ _).trans rfl
set_option maxRecDepth 20000 in
theorem zM_price_1_q (d : Nat) (A : zA) (L : zL) : zM_price_1 (d + 1) A L = zbi (zM_lower d (-1 : Int32) A L) (fun r1 A1 L1 => some (some (.int r1), A1, L1)) := (zrun_q zT (d + 1) (M := zt_X10_price) (bk := zb_X10_price_1) rfl rfl _ _ _ _).trans rfl
set_option maxRecDepth 20000 in
theorem zM_price_2_q (d : Nat) (v1 : Int32) (v2 : Int32) (A : zA) (L : zL) : zM_price_2 (d + 1) v1 v2 A L = zbi (zM_worthWith d v1 v2 (1 : Int32) A L) (fun r1 A1 L1 => zbi (zM_fromStart d v1 A1 L1) (fun r2 A2 L2 => some (some (.int (r1 - r2)), A2, L2))) := (zrun_q zT (d + 1) (M := zt_X10_price) (bk := zb_X10_price_2) rfl rfl _ _ _ _).trans rfl
set_option maxRecDepth 20000 in
theorem zM_lacks_1_q (d : Nat) (A : zA) (L : zL) : zM_lacks_1 (d + 1) A L = zbi (zM_lower d (-1 : Int32) A L) (fun r1 A1 L1 => some (some (.int r1), A1, L1)) := (zrun_q zT (d + 1) (M := zt_X10_lacks) (bk := zb_X10_lacks_1) rfl rfl _ _ _ _).trans rfl
set_option maxRecDepth 20000 in
theorem zM_lacks_2_q (d : Nat) (v1 : Int32) (v2 : Int32) (A : zA) (L : zL) : zM_lacks_2 (d + 1) v1 v2 A L = zbi (zM_worthWith d v1 v2 (0 : Int32) A L) (fun r1 A1 L1 => zbi (zM_fromStart d v1 A1 L1) (fun r2 A2 L2 => some (some (.int (r1 - r2)), A2, L2))) := (zrun_q zT (d + 1) (M := zt_X10_lacks) (bk := zb_X10_lacks_2) rfl rfl _ _ _ _).trans rfl
set_option maxRecDepth 20000 in
theorem zM_knows_1_q (d : Nat) (v1 : Int32) (A : zA) (L : zL) : zM_knows_1 (d + 1) v1 A L = zbi (zM_fromStart d v1 A L) (fun r1 A1 L1 => zbv (zM_passesAll d (1 : Int32) (1 : Int32) A1 L1) (fun A2 L2 => zM_knows_2 (d + 1) v1 r1 (0 : Int32) A2 L2)) := (zrun_q zT (d + 1) (M := zt_X10_knows) (bk := zb_X10_knows_1) rfl rfl _ _ _ _).trans rfl
set_option maxRecDepth 20000 in
theorem zM_as_1_q (d : Nat) (v1 : Int32) (A : zA) (L : zL) : zM_as_1 d v1 A L = zck v1 4 (zM_as_2 d v1 (A 69 (v1).toNatClampNeg) (0 : Int32) (0 : Int32) (0 : Int32) A L) := (zrun_q zT d (M := zt_X10_as) (bk := zb_X10_as_1) rfl rfl _ _ _ _).trans rfl
set_option maxRecDepth 20000 in
theorem zM_least_1_q (d : Nat) (A : zA) (L : zL) : zM_least_1 (d + 1) A L = zbi (zM_no d (-1 : Int32) A L) (fun r1 A1 L1 => some (some (.int r1), A1, L1)) := (zrun_q zT (d + 1) (M := zt_X10_least) (bk := zb_X10_least_1) rfl rfl _ _ _ _).trans rfl
set_option maxRecDepth 20000 in
theorem zM_least_2_q (d : Nat) (v1 : Int32) (v2 : Int32) (A : zA) (L : zL) : zM_least_2 (d + 1) v1 v2 A L = zbi (zM_canForce d v1 v2 (0 : Int32) A L) (fun r1 A1 L1 => if r1 = 0 then some (some (.int (0 : Int32)), A1, L1) else zM_least_3 (d + 1) v1 v2 A1 L1) := (zrun_q zT (d + 1) (M := zt_X10_least) (bk := zb_X10_least_2) rfl rfl _ _ _ _).trans rfl
set_option maxRecDepth 20000 in
theorem zM_kinds_1_q (d : Nat) (v1 : Int32) (A : zA) (L : zL) : zM_kinds_1 d v1 A L = zck v1 4 (zM_kinds_2 d v1 (A 69 (v1).toNatClampNeg) (0 : Int32) (0 : Int32) A L) := (zrun_q zT d (M := zt_X10_kinds) (bk := zb_X10_kinds_1) rfl rfl _ _ _ _).trans rfl
set_option maxRecDepth 20000 in
theorem zM_row_1_q (d : Nat) (v1 : Int32) (A : zA) (L : zL) : zM_row_1 (d + 1) v1 A L = if (A 63 45) = (8 : Int32) then zbi (zM_no d (-6 : Int32) A L) (fun r1 A1 L1 => some (some (.int r1), A1, L1)) else zM_row_2 (d + 1) v1 A L := (zrun_q zT (d + 1) (M := zt_X10_row) (bk := zb_X10_row_1) rfl rfl _ _ _ _).trans rfl
set_option maxRecDepth 20000 in
theorem zM_judge_1_q (d : Nat) (A : zA) (L : zL) : zM_judge_1 (d + 1) A L = zbv (zM_findTables d A L) (fun A1 L1 => zM_judge_2 (d + 1) (A1 63 45) (0 : Int32) (0 : Int32) (zput A1 63 45 (0 : Int32)) L1) := (zrun_q zT (d + 1) (M := zt_X10_judge) (bk := zb_X10_judge_1) rfl rfl _ _ _ _).trans rfl
set_option maxRecDepth 20000 in
theorem zM_seeds_1_q (d : Nat) (v1 : Int32) (v2 : Int32) (v3 : Int32) (A : zA) (L : zL) : zM_seeds_1 (d + 1) v1 v2 v3 A L = zbi (zM_bound d v2 (1 : Int32) (20 : Int32) A L) (fun r1 A1 L1 => if r1 = 0 then zM_seeds_2 (d + 1) v1 v2 v3 A1 L1 else zbi (zM_lower d r1 A1 L1) (fun r2 A2 L2 => some (some (.int r2), A2, L2))) := (zrun_q zT (d + 1) (M := zt_X10_seeds) (bk := zb_X10_seeds_1) rfl rfl _ _ _ _).trans rfl
set_option maxRecDepth 20000 in
theorem zM_count_1_q (d : Nat) (v1 : Int32) (A : zA) (L : zL) : zM_count_1 d v1 A L = if v1 = 0 then zM_count_2 d A L else if v1 = 1 then zM_count_3 d A L else if v1 = 2 then zM_count_4 d A L else if v1 = 3 then zM_count_5 d A L else if v1 = 4 then zM_count_6 d A L else if v1 = 5 then zM_count_7 d A L else if v1 = 6 then zM_count_8 d A L else zM_count_9 d A L := (zrun_q zT d (M := zt_X10_count) (bk := zb_X10_count_1) rfl rfl _ _ _ _).trans rfl
set_option maxRecDepth 20000 in
theorem zM_bound_1_q (d : Nat) (v0 : Int32) (v2 : Int32) (A : zA) (L : zL) : zM_bound_1 d v0 v2 A L = if v0 ≤ v2 then zM_bound_2 d A L else zM_bound_3 d (-6 : Int32) A L := (zrun_q zT d (M := zt_X10_bound) (bk := zb_X10_bound_1) rfl rfl _ _ _ _).trans rfl
set_option maxRecDepth 20000 in
theorem zM_bound_3_q (d : Nat) (s0 : Int32) (A : zA) (L : zL) : zM_bound_3 d s0 A L = some (some (.int s0), A, L) := (zrun_q zT d (M := zt_X10_bound) (bk := zb_X10_bound_3) rfl rfl _ _ _ _).trans rfl
set_option maxRecDepth 20000 in
theorem zM_feed_2_q (d : Nat) (v1 : Int32) (A : zA) (L : zL) : zM_feed_2 d v1 A L = zck (A 63 26) 64 (some (some (.int ((zput (zput A 74 ((A 63 26)).toNatClampNeg v1) 63 26 (((zput A 74 ((A 63 26)).toNatClampNeg v1) 63 26) + (1 : Int32))) 63 26)), (zput (zput A 74 ((A 63 26)).toNatClampNeg v1) 63 26 (((zput A 74 ((A 63 26)).toNatClampNeg v1) 63 26) + (1 : Int32))), L)) := (zrun_q zT d (M := zt_X10_feed) (bk := zb_X10_feed_2) rfl rfl _ _ _ _).trans rfl
set_option maxRecDepth 20000 in
theorem zM_tongue_2_q (d : Nat) (v1 : Int32) (A : zA) (L : zL) : zM_tongue_2 d v1 A L = if v1 = 0 then zM_tongue_6 d v1 A L else if (A 63 27) < (A 63 26) then zM_tongue_3 d A L else if (A 63 28) = 0 then zM_tongue_3 d A L else zM_tongue_6 d v1 A L := (zrun_q zT d (M := zt_X10_tongue) (bk := zb_X10_tongue_2) rfl rfl _ _ _ _).trans rfl
set_option maxRecDepth 20000 in
theorem zM_passes_65_q (d : Nat) (A : zA) (L : zL) : zM_passes_65 d A L = zM_passes_65_1 d (0 : Int32) A L := (zrun_q zT d (M := zt_X10_passes) (bk := zb_X10_passes_0) rfl rfl _ _ _ _).trans rfl
set_option maxRecDepth 20000 in
theorem zM_passes_66_q (d : Nat) (A : zA) (L : zL) : zM_passes_66 d A L = zM_passes_66_1 d (0 : Int32) A L := (zrun_q zT d (M := zt_X10_passes) (bk := zb_X10_passes_0) rfl rfl _ _ _ _).trans rfl
set_option maxRecDepth 20000 in
theorem zM_passes_67_q (d : Nat) (A : zA) (L : zL) : zM_passes_67 d A L = zM_passes_67_1 d (0 : Int32) A L := (zrun_q zT d (M := zt_X10_passes) (bk := zb_X10_passes_0) rfl rfl _ _ _ _).trans rfl
set_option maxRecDepth 20000 in
theorem zM_passes_68_q (d : Nat) (A : zA) (L : zL) : zM_passes_68 d A L = zM_passes_68_1 d (0 : Int32) A L := (zrun_q zT d (M := zt_X10_passes) (bk := zb_X10_passes_0) rfl rfl _ _ _ _).trans rfl
set_option maxRecDepth 20000 in
theorem zM_passes_69_q (d : Nat) (A : zA) (L : zL) : zM_passes_69 d A L = zM_passes_69_1 d (0 : Int32) A L := (zrun_q zT d (M := zt_X10_passes) (bk := zb_X10_passes_0) rfl rfl _ _ _ _).trans rfl
set_option maxRecDepth 20000 in
theorem zM_passes_70_q (d : Nat) (A : zA) (L : zL) : zM_passes_70 d A L = zM_passes_70_1 d (0 : Int32) A L := (zrun_q zT d (M := zt_X10_passes) (bk := zb_X10_passes_0) rfl rfl _ _ _ _).trans rfl
set_option maxRecDepth 20000 in
theorem zM_passes_71_q (d : Nat) (A : zA) (L : zL) : zM_passes_71 d A L = zM_passes_71_1 d (0 : Int32) A L := (zrun_q zT d (M := zt_X10_passes) (bk := zb_X10_passes_0) rfl rfl _ _ _ _).trans rfl
set_option maxRecDepth 20000 in
theorem zM_passes_72_q (d : Nat) (A : zA) (L : zL) : zM_passes_72 d A L = zM_passes_72_1 d (0 : Int32) A L := (zrun_q zT d (M := zt_X10_passes) (bk := zb_X10_passes_0) rfl rfl _ _ _ _).trans rfl
set_option maxRecDepth 20000 in
theorem zM_passes_73_q (d : Nat) (A : zA) (L : zL) : zM_passes_73 d A L = zM_passes_73_1 d (0 : Int32) A L := (zrun_q zT d (M := zt_X10_passes) (bk := zb_X10_passes_0) rfl rfl _ _ _ _).trans rfl
set_option maxRecDepth 20000 in
theorem zM_passOne_q (d : Nat) (v1 : Int32) (A : zA) (L : zL) : zM_passOne d v1 A L = if (A 63 31) = 0 then zM_passOne_1 d v1 A L else zM_passOne_2 d v1 v1 A L := (zrun_q zT d (M := zt_X10_passOne) (bk := zb_X10_passOne_0) rfl rfl _ _ _ _).trans rfl
set_option maxRecDepth 20000 in
theorem zM_isIn_1_q (d : Nat) (A : zA) (L : zL) : zM_isIn_1 d A L = zM_isIn_2 d (0 : Int32) A L := (zrun_q zT d (M := zt_X10_isIn) (bk := zb_X10_isIn_1) rfl rfl _ _ _ _).trans rfl
set_option maxRecDepth 20000 in
theorem zM_isIn_2_q (d : Nat) (s0 : Int32) (A : zA) (L : zL) : zM_isIn_2 d s0 A L = zcb s0 (some (some (.int s0), A, L)) := (zrun_q zT d (M := zt_X10_isIn) (bk := zb_X10_isIn_2) rfl rfl _ _ _ _).trans rfl
set_option maxRecDepth 20000 in
theorem zM_rule_2_q (d : Nat) (v1 : Int32) (v2 : Int32) (A : zA) (L : zL) : zM_rule_2 d v1 v2 A L = if v2 = 0 then zck v1 24 (zM_rule_6 d (A 65 (v1).toNatClampNeg) A L) else zM_rule_3 d v1 v2 A L := (zrun_q zT d (M := zt_X10_rule) (bk := zb_X10_rule_2) rfl rfl _ _ _ _).trans rfl
set_option maxRecDepth 20000 in
theorem zM_isEnd_q (d : Nat) (v1 : Int32) (A : zA) (L : zL) : zM_isEnd d v1 A L = if ((zshr (A 63 11) v1) &&& (1 : Int32)) = (1 : Int32) then zM_isEnd_2 d (1 : Int32) A L else zM_isEnd_1 d A L := (zrun_q zT d (M := zt_X10_isEnd) (bk := zb_X10_isEnd_0) rfl rfl _ _ _ _).trans rfl
set_option maxRecDepth 20000 in
theorem zM_end_2_q (d : Nat) (A : zA) (L : zL) : zM_end_2 d A L = zM_end_3 d (0 : Int32) A L := (zrun_q zT d (M := zt_X10_end) (bk := zb_X10_end_2) rfl rfl _ _ _ _).trans rfl
set_option maxRecDepth 20000 in
theorem zM_isOne_1_q (d : Nat) (A : zA) (L : zL) : zM_isOne_1 d A L = zM_isOne_2 d (0 : Int32) A L := (zrun_q zT d (M := zt_X10_isOne) (bk := zb_X10_isOne_1) rfl rfl _ _ _ _).trans rfl
set_option maxRecDepth 20000 in
theorem zM_isOne_2_q (d : Nat) (s0 : Int32) (A : zA) (L : zL) : zM_isOne_2 d s0 A L = zcb s0 (some (some (.int s0), A, L)) := (zrun_q zT d (M := zt_X10_isOne) (bk := zb_X10_isOne_2) rfl rfl _ _ _ _).trans rfl
set_option maxRecDepth 20000 in
theorem zM_person_2_q (d : Nat) (v1 : Int32) (v2 : Int32) (A : zA) (L : zL) : zM_person_2 d v1 v2 A L = if v2 = 0 then zck v1 4 (zM_person_5 d (A 69 (v1).toNatClampNeg) A L) else zM_person_3 d v1 v2 A L := (zrun_q zT d (M := zt_X10_person) (bk := zb_X10_person_2) rfl rfl _ _ _ _).trans rfl
set_option maxRecDepth 20000 in
theorem zM_values_3_q (d : Nat) (v1 : Int32) (v2 : Int32) (v3 : Int32) (A : zA) (L : zL) : zM_values_3 d v1 v2 v3 A L = zck (((6 : Int32) * v1) + v2) 24 (zck (((6 : Int32) * v1) + v2) 24 (some (some (.int (A 71 ((((6 : Int32) * v1) + v2)).toNatClampNeg)), (zput A 71 ((((6 : Int32) * v1) + v2)).toNatClampNeg v3), L))) := (zrun_q zT d (M := zt_X10_values) (bk := zb_X10_values_3) rfl rfl _ _ _ _).trans rfl
set_option maxRecDepth 20000 in
theorem zM_word_3_q (d : Nat) (v1 : Int32) (v2 : Int32) (v3 : Int32) (A : zA) (L : zL) : zM_word_3 d v1 v2 v3 A L = zM_word_4 d v1 v2 v3 (0 : Int32) A L := (zrun_q zT d (M := zt_X10_word) (bk := zb_X10_word_3) rfl rfl _ _ _ _).trans rfl
set_option maxRecDepth 20000 in
theorem zM_word_4_q (d : Nat) (v1 : Int32) (v2 : Int32) (v3 : Int32) (s0 : Int32) (A : zA) (L : zL) : zM_word_4 d v1 v2 v3 s0 A L = if s0 = v3 then some (some (.int (0 : Int32)), A, L) else zM_word_5 d v1 v2 A L := (zrun_q zT d (M := zt_X10_word) (bk := zb_X10_word_4) rfl rfl _ _ _ _).trans rfl
set_option maxRecDepth 20000 in
theorem zM_set_2_q (d : Nat) (v1 : Int32) (v2 : Int32) (A : zA) (L : zL) : zM_set_2 (d + 1) v1 v2 A L = zbi (zM_bound d v2 (0 : Int32) (99 : Int32) A L) (fun r1 A1 L1 => zM_set_3 (d + 1) v1 v2 r1 A1 L1) := (zrun_q zT (d + 1) (M := zt_X10_set) (bk := zb_X10_set_2) rfl rfl _ _ _ _).trans rfl
set_option maxRecDepth 20000 in
theorem zM_set_3_q (d : Nat) (v1 : Int32) (v2 : Int32) (s0 : Int32) (A : zA) (L : zL) : zM_set_3 (d + 1) v1 v2 s0 A L = if s0 = 0 then zM_set_4 (d + 1) v1 v2 A L else zbi (zM_no d s0 A L) (fun r1 A1 L1 => some (some (.int r1), A1, L1)) := (zrun_q zT (d + 1) (M := zt_X10_set) (bk := zb_X10_set_3) rfl rfl _ _ _ _).trans rfl
set_option maxRecDepth 20000 in
theorem zM_order_4_q (d : Nat) (v1 : Int32) (v2 : Int32) (A : zA) (L : zL) : zM_order_4 (d + 1) v1 v2 A L = if v2 = 0 then zM_order_5 (d + 1) v1 A L else zbi (zM_no d (-1 : Int32) A L) (fun r1 A1 L1 => some (some (.int r1), A1, L1)) := (zrun_q zT (d + 1) (M := zt_X10_order) (bk := zb_X10_order_4) rfl rfl _ _ _ _).trans rfl
set_option maxRecDepth 20000 in
theorem zM_order_2_q (d : Nat) (A : zA) (L : zL) : zM_order_2 (d + 1) A L = zbi (zM_no d (-1 : Int32) A L) (fun r1 A1 L1 => some (some (.int r1), A1, L1)) := (zrun_q zT (d + 1) (M := zt_X10_order) (bk := zb_X10_order_2) rfl rfl _ _ _ _).trans rfl
set_option maxRecDepth 20000 in
theorem zM_order_3_q (d : Nat) (v1 : Int32) (v2 : Int32) (v3 : Int32) (v4 : Int32) (v5 : Int32) (A : zA) (L : zL) : zM_order_3 d v1 v2 v3 v4 v5 A L = zM_order_1 d v1 v2 (v3 ||| (zshl (1 : Int32) v5)) (v4 + 1) A L := (zrun_q zT d (M := zt_X10_order) (bk := zb_X10_order_3) rfl rfl _ _ _ _).trans rfl
set_option maxRecDepth 20000 in
theorem zM_say_2_q (d : Nat) (A : zA) (L : zL) : zM_say_2 (d + 1) A L = zbi (zM_no d (-3 : Int32) A L) (fun r1 A1 L1 => some (some (.int r1), A1, L1)) := (zrun_q zT (d + 1) (M := zt_X10_say) (bk := zb_X10_say_2) rfl rfl _ _ _ _).trans rfl
set_option maxRecDepth 20000 in
theorem zM_mayAt_q (d : Nat) (v1 : Int32) (v2 : Int32) (A : zA) (L : zL) : zM_mayAt d v1 v2 A L = if (A 63 12) = 0 then zM_mayAt_1 d A L else if v1 < (A 63 13) then zM_mayAt_2 d v1 v2 A L else zM_mayAt_1 d A L := (zrun_q zT d (M := zt_X10_mayAt) (bk := zb_X10_mayAt_0) rfl rfl _ _ _ _).trans rfl
set_option maxRecDepth 20000 in
theorem zM_say_3_q (d : Nat) (v1 : Int32) (A : zA) (L : zL) : zM_say_3 (d + 1) v1 A L = zbv (zM_says d v1 A L) (fun A1 L1 => some (some (.int (A1 63 16)), A1, L1)) := (zrun_q zT (d + 1) (M := zt_X10_say) (bk := zb_X10_say_3) rfl rfl _ _ _ _).trans rfl
set_option maxRecDepth 20000 in
theorem zM_findTables_1_q (d : Nat) (v1 : Int32) (A : zA) (L : zL) : zM_findTables_1 d v1 A L = if (8 : Int32) ≤ v1 then zM_findTables_13 d A L else zM_findTables_2 d v1 (0 : Int32) (0 : Int32) A L := (zrun_q zT d (M := zt_X10_findTables) (bk := zb_X10_findTables_1) rfl rfl _ _ _ _).trans rfl
set_option maxRecDepth 20000 in
theorem zM_mayStop_1_q (d : Nat) (A : zA) (L : zL) : zM_mayStop_1 d A L = zM_mayStop_2 d (0 : Int32) A L := (zrun_q zT d (M := zt_X10_mayStop) (bk := zb_X10_mayStop_1) rfl rfl _ _ _ _).trans rfl
set_option maxRecDepth 20000 in
theorem zM_mayStop_2_q (d : Nat) (s0 : Int32) (A : zA) (L : zL) : zM_mayStop_2 d s0 A L = zcb s0 (some (some (.int s0), A, L)) := (zrun_q zT d (M := zt_X10_mayStop) (bk := zb_X10_mayStop_2) rfl rfl _ _ _ _).trans rfl
set_option maxRecDepth 20000 in
theorem zM_back_2_q (d : Nat) (A : zA) (L : zL) : zM_back_2 (d + 1) A L = zbv (zM_replays d ((A 63 15) - (1 : Int32)) A L) (fun A1 L1 => some (some (.int (A1 63 15)), A1, L1)) := (zrun_q zT (d + 1) (M := zt_X10_back) (bk := zb_X10_back_2) rfl rfl _ _ _ _).trans rfl
set_option maxRecDepth 20000 in
theorem zM_replays_1_q (d : Nat) (v1 : Int32) (v2 : Int32) (A : zA) (L : zL) : zM_replays_1 (d + 1) v1 v2 A L = if v1 ≤ v2 then zM_replays_7 (d + 1) A L else zck v2 8 (zbi (zM_ruleAt d (A 63 16) (A 73 (v2).toNatClampNeg) A L) (fun r1 A1 L1 => if r1 < 0 then zM_replays_2 (d + 1) v1 v2 r1 ((zput A1 63 15 ((A1 63 15) + (1 : Int32))) 63 17) (zput A1 63 15 ((A1 63 15) + (1 : Int32))) L1 else zck r1 24 (if 0 ≤ ((zput A1 63 15 ((A1 63 15) + (1 : Int32))) 68 (r1).toNatClampNeg) then zM_replays_3 (d + 1) v1 v2 r1 ((zput A1 63 15 ((A1 63 15) + (1 : Int32))) 63 17) (zput A1 63 15 ((A1 63 15) + (1 : Int32))) L1 else zM_replays_2 (d + 1) v1 v2 r1 ((zput A1 63 15 ((A1 63 15) + (1 : Int32))) 63 17) (zput A1 63 15 ((A1 63 15) + (1 : Int32))) L1))) := (zrun_q zT (d + 1) (M := zt_X10_replays) (bk := zb_X10_replays_1) rfl rfl _ _ _ _).trans rfl
set_option maxRecDepth 20000 in
theorem zM_howIs_q (d : Nat) (A : zA) (L : zL) : zM_howIs d A L = if (A 63 18) = (1 : Int32) then some (some (.int (1 : Int32)), A, L) else zM_howIs_1 d A L := (zrun_q zT d (M := zt_X10_howIs) (bk := zb_X10_howIs_0) rfl rfl _ _ _ _).trans rfl
set_option maxRecDepth 20000 in
theorem zM_talk_6_q (d : Nat) (A : zA) (L : zL) : zM_talk_6 d A L = zM_talk_8 d (-9 : Int32) A L := (zrun_q zT d (M := zt_X10_talk) (bk := zb_X10_talk_6) rfl rfl _ _ _ _).trans rfl
set_option maxRecDepth 20000 in
theorem zM_talk_7_q (d : Nat) (A : zA) (L : zL) : zM_talk_7 (d + 1) A L = zbi (zM_turnAt d (A 63 15) A L) (fun r1 A1 L1 => zM_talk_8 (d + 1) r1 A1 L1) := (zrun_q zT (d + 1) (M := zt_X10_talk) (bk := zb_X10_talk_7) rfl rfl _ _ _ _).trans rfl
set_option maxRecDepth 20000 in
theorem zM_talk_10_q (d : Nat) (A : zA) (L : zL) : zM_talk_10 (d + 1) A L = zbi (zM_mayAt d (A 63 15) (A 63 16) A L) (fun r1 A1 L1 => zM_talk_11 (d + 1) r1 A1 L1) := (zrun_q zT (d + 1) (M := zt_X10_talk) (bk := zb_X10_talk_10) rfl rfl _ _ _ _).trans rfl
set_option maxRecDepth 20000 in
theorem zM_talk_11_q (d : Nat) (s0 : Int32) (A : zA) (L : zL) : zM_talk_11 d s0 A L = some (some (.int s0), A, L) := (zrun_q zT d (M := zt_X10_talk) (bk := zb_X10_talk_11) rfl rfl _ _ _ _).trans rfl
set_option maxRecDepth 20000 in
theorem zM_talk_13_q (d : Nat) (A : zA) (L : zL) : zM_talk_13 d A L = zM_talk_14 d (0 : Int32) A L := (zrun_q zT d (M := zt_X10_talk) (bk := zb_X10_talk_13) rfl rfl _ _ _ _).trans rfl
set_option maxRecDepth 20000 in
theorem zM_talk_14_q (d : Nat) (s0 : Int32) (A : zA) (L : zL) : zM_talk_14 d s0 A L = some (some (.int s0), A, L) := (zrun_q zT d (M := zt_X10_talk) (bk := zb_X10_talk_14) rfl rfl _ _ _ _).trans rfl
