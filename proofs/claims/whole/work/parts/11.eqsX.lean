/-! a block is as it is written, by program -/
set_option maxRecDepth 20000 in
theorem zX_feed_q (d : Nat) (v1 : Int32) (A : zA) (L : zL) : zX_feed (d + 1) v1 A L = if 0 ≤ v1 then zX_feed_1 (d + 1) v1 A L else zbi (zX_refused d (-4 : Int32) A L) (fun r1 A1 L1 => some (some (.int r1), A1, L1)) := (zrun_q zT (d + 1) (M := zt_X9_feed) (bk := zb_X9_feed_0) rfl rfl _ _ _ _).trans rfl
set_option maxRecDepth 20000 in
theorem zX_tongue_q (d : Nat) (A : zA) (L : zL) : zX_tongue (d + 1) A L = if (A 14 2) ≤ 0 then zX_tongue_1 (d + 1) A L else zbi (zX_refused d (-3 : Int32) A L) (fun r1 A1 L1 => zX_tongue_2 (d + 1) r1 A1 L1) := (zrun_q zT (d + 1) (M := zt_X9_tongue) (bk := zb_X9_tongue_0) rfl rfl _ _ _ _).trans rfl
set_option maxRecDepth 20000 in
theorem zX_rule_q (d : Nat) (v1 : Int32) (v2 : Int32) (A : zA) (L : zL) : zX_rule d v1 v2 A L = if v1 < 0 then zX_rule_1 d A L else if v1 < (A 2 6) then zX_rule_2 d v1 v2 A L else zX_rule_1 d A L := (zrun_q zT d (M := zt_X9_rule) (bk := zb_X9_rule_0) rfl rfl _ _ _ _).trans rfl
set_option maxRecDepth 20000 in
theorem zX_end_q (d : Nat) (v1 : Int32) (A : zA) (L : zL) : zX_end d v1 A L = if v1 < 0 then zX_end_1 d A L else if v1 < (8 : Int32) then zX_end_2 d v1 A L else zX_end_1 d A L := (zrun_q zT d (M := zt_X9_end) (bk := zb_X9_end_0) rfl rfl _ _ _ _).trans rfl
set_option maxRecDepth 20000 in
theorem zX_person_q (d : Nat) (v1 : Int32) (v2 : Int32) (A : zA) (L : zL) : zX_person (d + 1) v1 v2 A L = zbi (zX_isNobody d v1 A L) (fun r1 A1 L1 => if r1 = 0 then zX_person_1 (d + 1) v1 v2 A1 L1 else zbi (zX_refused d (-1 : Int32) A1 L1) (fun r2 A2 L2 => some (some (.int r2), A2, L2))) := (zrun_q zT (d + 1) (M := zt_X9_person) (bk := zb_X9_person_0) rfl rfl _ _ _ _).trans rfl
set_option maxRecDepth 20000 in
theorem zX_worth_q (d : Nat) (v1 : Int32) (v2 : Int32) (A : zA) (L : zL) : zX_worth (d + 1) v1 v2 A L = zbi (zX_isNobody d v1 A L) (fun r1 A1 L1 => if r1 = 0 then zbi (zX_isNoMark d v2 A1 L1) (fun r2 A2 L2 => if r2 = 0 then zX_worth_2 (d + 1) v1 v2 A2 L2 else zX_worth_1 (d + 1) A2 L2) else zX_worth_1 (d + 1) A1 L1) := (zrun_q zT (d + 1) (M := zt_X9_worth) (bk := zb_X9_worth_0) rfl rfl _ _ _ _).trans rfl
set_option maxRecDepth 20000 in
theorem zX_values_q (d : Nat) (v1 : Int32) (v2 : Int32) (v3 : Int32) (A : zA) (L : zL) : zX_values (d + 1) v1 v2 v3 A L = zbi (zX_isNobody d v1 A L) (fun r1 A1 L1 => if r1 = 0 then zbi (zX_isNoMark d v2 A1 L1) (fun r2 A2 L2 => if r2 = 0 then zX_values_2 (d + 1) v1 v2 v3 A2 L2 else zX_values_1 (d + 1) A2 L2) else zX_values_1 (d + 1) A1 L1) := (zrun_q zT (d + 1) (M := zt_X9_values) (bk := zb_X9_values_0) rfl rfl _ _ _ _).trans rfl
set_option maxRecDepth 20000 in
theorem zX_kind_q (d : Nat) (v1 : Int32) (v2 : Int32) (A : zA) (L : zL) : zX_kind (d + 1) v1 v2 A L = zbi (zX_isNobody d v1 A L) (fun r1 A1 L1 => if r1 = 0 then if v2 < 0 then zX_kind_1 (d + 1) A1 L1 else if v2 < (7 : Int32) then zX_kind_2 (d + 1) v1 v2 A1 L1 else zX_kind_1 (d + 1) A1 L1 else zX_kind_1 (d + 1) A1 L1) := (zrun_q zT (d + 1) (M := zt_X9_kind) (bk := zb_X9_kind_0) rfl rfl _ _ _ _).trans rfl
set_option maxRecDepth 20000 in
theorem zX_word_q (d : Nat) (v1 : Int32) (v2 : Int32) (v3 : Int32) (A : zA) (L : zL) : zX_word (d + 1) v1 v2 v3 A L = zbi (zX_isNobody d v1 A L) (fun r1 A1 L1 => if r1 = 0 then zbi (zX_isNoWord d v2 A1 L1) (fun r2 A2 L2 => if r2 = 0 then zX_word_2 (d + 1) v1 v2 v3 A2 L2 else zX_word_1 (d + 1) A2 L2) else zX_word_1 (d + 1) A1 L1) := (zrun_q zT (d + 1) (M := zt_X9_word) (bk := zb_X9_word_0) rfl rfl _ _ _ _).trans rfl
set_option maxRecDepth 20000 in
theorem zX_set_q (d : Nat) (v1 : Int32) (v2 : Int32) (A : zA) (L : zL) : zX_set (d + 1) v1 v2 A L = if v1 = 0 then zX_set_1 (d + 1) v1 v2 A L else if v1 = (1 : Int32) then zX_set_1 (d + 1) v1 v2 A L else zbi (zX_refused d (-2 : Int32) A L) (fun r1 A1 L1 => some (some (.int r1), A1, L1)) := (zrun_q zT (d + 1) (M := zt_X9_set) (bk := zb_X9_set_0) rfl rfl _ _ _ _).trans rfl
set_option maxRecDepth 20000 in
theorem zX_order_q (d : Nat) (v1 : Int32) (A : zA) (L : zL) : zX_order (d + 1) v1 A L = zbi (zP_isOrder d v1 A L) (fun r1 A1 L1 => if r1 = 0 then zbi (zX_refused d (-1 : Int32) A1 L1) (fun r2 A2 L2 => some (some (.int r2), A2, L2)) else zX_order_1 (d + 1) v1 A1 L1) := (zrun_q zT (d + 1) (M := zt_X9_order) (bk := zb_X9_order_0) rfl rfl _ _ _ _).trans rfl
set_option maxRecDepth 20000 in
theorem zX_say_q (d : Nat) (v1 : Int32) (A : zA) (L : zL) : zX_say (d + 1) v1 A L = zbi (zX_isNoWord d v1 A L) (fun r1 A1 L1 => if r1 = 0 then zX_say_1 (d + 1) v1 A1 L1 else zbi (zX_refused d (-1 : Int32) A1 L1) (fun r2 A2 L2 => some (some (.int r2), A2, L2))) := (zrun_q zT (d + 1) (M := zt_X9_say) (bk := zb_X9_say_0) rfl rfl _ _ _ _).trans rfl
set_option maxRecDepth 20000 in
theorem zX_stop_q (d : Nat) (A : zA) (L : zL) : zX_stop (d + 1) A L = zbi (zW_optionsNow d A L) (fun r1 A1 L1 => if ((zshr r1 (8 : Int32)) &&& (1 : Int32)) = 0 then zbi (zX_refused d (-3 : Int32) A1 L1) (fun r2 A2 L2 => some (some (.int r2), A2, L2)) else zX_stop_1 (d + 1) A1 L1) := (zrun_q zT (d + 1) (M := zt_X9_stop) (bk := zb_X9_stop_0) rfl rfl _ _ _ _).trans rfl
set_option maxRecDepth 20000 in
theorem zX_back_q (d : Nat) (A : zA) (L : zL) : zX_back (d + 1) A L = zbi (zT_takeBack d A L) (fun r1 A1 L1 => if r1 = 0 then zX_back_1 (d + 1) A1 L1 else zX_back_2 (d + 1) (A1 14 2) A1 L1) := (zrun_q zT (d + 1) (M := zt_X9_back) (bk := zb_X9_back_0) rfl rfl _ _ _ _).trans rfl
set_option maxRecDepth 20000 in
theorem zX_anew_q (d : Nat) (A : zA) (L : zL) : zX_anew (d + 1) A L = zbv (zT_beginAnew d A L) (fun A1 L1 => some (some (.int (A 14 2)), A1, L1)) := (zrun_q zT (d + 1) (M := zt_X9_anew) (bk := zb_X9_anew_0) rfl rfl _ _ _ _).trans rfl
set_option maxRecDepth 20000 in
theorem zX_talk_q (d : Nat) (v1 : Int32) (A : zA) (L : zL) : zX_talk (d + 1) v1 A L = zbi (zT_spot d A L) (fun r1 A1 L1 => if v1 = 0 then zX_talk_1 (d + 1) r1 A1 L1 else if v1 = 1 then zX_talk_2 (d + 1) r1 A1 L1 else if v1 = 2 then zX_talk_3 (d + 1) r1 A1 L1 else if v1 = 3 then zX_talk_4 (d + 1) A1 L1 else if v1 = 4 then zX_talk_5 (d + 1) A1 L1 else if v1 = 5 then zX_talk_6 (d + 1) A1 L1 else if v1 = 6 then zX_talk_7 (d + 1) A1 L1 else zX_talk_8 (d + 1) A1 L1) := (zrun_q zT (d + 1) (M := zt_X9_talk) (bk := zb_X9_talk_0) rfl rfl _ _ _ _).trans rfl
set_option maxRecDepth 20000 in
theorem zX_does_q (d : Nat) (A : zA) (L : zL) : zX_does (d + 1) A L = zbv (zD_renew d A L) (fun A1 L1 => zbi (zD_deedNow d A1 L1) (fun r2 A2 L2 => some (some (.int r2), A2, L2))) := (zrun_q zT (d + 1) (M := zt_X9_does) (bk := zb_X9_does_0) rfl rfl _ _ _ _).trans rfl
set_option maxRecDepth 20000 in
theorem zX_goes_q (d : Nat) (A : zA) (L : zL) : zX_goes (d + 1) A L = zbv (zD_renew d A L) (fun A1 L1 => zbi (zD_deedNow d A1 L1) (fun r2 A2 L2 => if r2 = (-9 : Int32) then zbi (zX_refused d (-3 : Int32) A2 L2) (fun r3 A3 L3 => some (some (.int r3), A3, L3)) else zX_goes_1 (d + 1) r2 A2 L2)) := (zrun_q zT (d + 1) (M := zt_X9_goes) (bk := zb_X9_goes_0) rfl rfl _ _ _ _).trans rfl
set_option maxRecDepth 20000 in
theorem zX_ends_q (d : Nat) (v1 : Int32) (A : zA) (L : zL) : zX_ends d v1 A L = if v1 < 0 then zX_ends_1 d A L else if v1 ≤ (2 : Int32) then zX_ends_2 d v1 A L else zX_ends_1 d A L := (zrun_q zT d (M := zt_X9_ends) (bk := zb_X9_ends_0) rfl rfl _ _ _ _).trans rfl
set_option maxRecDepth 20000 in
theorem zX_value_q (d : Nat) (v1 : Int32) (A : zA) (L : zL) : zX_value (d + 1) v1 A L = zbi (zX_isNobody d v1 A L) (fun r1 A1 L1 => if r1 = 0 then zX_value_1 (d + 1) v1 A1 L1 else zbi (zX_worthRefused d (-1 : Int32) A1 L1) (fun r2 A2 L2 => some (some (.int r2), A2, L2))) := (zrun_q zT (d + 1) (M := zt_X9_value) (bk := zb_X9_value_0) rfl rfl _ _ _ _).trans rfl
set_option maxRecDepth 20000 in
theorem zX_forces_q (d : Nat) (v1 : Int32) (v2 : Int32) (A : zA) (L : zL) : zX_forces (d + 1) v1 v2 A L = zbi (zX_isNobody d v1 A L) (fun r1 A1 L1 => if r1 = 0 then zbi (zX_isNoMark d v2 A1 L1) (fun r2 A2 L2 => if r2 = 0 then zX_forces_2 (d + 1) v1 v2 A2 L2 else zX_forces_1 (d + 1) A2 L2) else zX_forces_1 (d + 1) A1 L1) := (zrun_q zT (d + 1) (M := zt_X9_forces) (bk := zb_X9_forces_0) rfl rfl _ _ _ _).trans rfl
set_option maxRecDepth 20000 in
theorem zX_keeps_q (d : Nat) (v1 : Int32) (v2 : Int32) (A : zA) (L : zL) : zX_keeps (d + 1) v1 v2 A L = zbi (zX_isNobody d v1 A L) (fun r1 A1 L1 => if r1 = 0 then zbi (zX_isNoMark d v2 A1 L1) (fun r2 A2 L2 => if r2 = 0 then zX_keeps_2 (d + 1) v1 v2 A2 L2 else zX_keeps_1 (d + 1) A2 L2) else zX_keeps_1 (d + 1) A1 L1) := (zrun_q zT (d + 1) (M := zt_X9_keeps) (bk := zb_X9_keeps_0) rfl rfl _ _ _ _).trans rfl
set_option maxRecDepth 20000 in
theorem zX_sticks_q (d : Nat) (v1 : Int32) (A : zA) (L : zL) : zX_sticks (d + 1) v1 A L = zbi (zX_isNobody d v1 A L) (fun r1 A1 L1 => if r1 = 0 then zX_sticks_1 (d + 1) v1 A1 L1 else zbi (zX_refused d (-1 : Int32) A1 L1) (fun r2 A2 L2 => some (some (.int r2), A2, L2))) := (zrun_q zT (d + 1) (M := zt_X9_sticks) (bk := zb_X9_sticks_0) rfl rfl _ _ _ _).trans rfl
set_option maxRecDepth 20000 in
theorem zX_holds_q (d : Nat) (v1 : Int32) (A : zA) (L : zL) : zX_holds (d + 1) v1 A L = zbi (zX_isNobody d v1 A L) (fun r1 A1 L1 => if r1 = 0 then zX_holds_1 (d + 1) v1 A1 L1 else zbi (zX_refused d (-1 : Int32) A1 L1) (fun r2 A2 L2 => zX_holds_2 (d + 1) r2 A2 L2)) := (zrun_q zT (d + 1) (M := zt_X9_holds) (bk := zb_X9_holds_0) rfl rfl _ _ _ _).trans rfl
set_option maxRecDepth 20000 in
theorem zX_sure_q (d : Nat) (v1 : Int32) (A : zA) (L : zL) : zX_sure (d + 1) v1 A L = zbi (zX_isNobody d v1 A L) (fun r1 A1 L1 => if r1 = 0 then zX_sure_1 (d + 1) v1 A1 L1 else zbi (zX_worthRefused d (-1 : Int32) A1 L1) (fun r2 A2 L2 => zX_sure_2 (d + 1) r2 A2 L2)) := (zrun_q zT (d + 1) (M := zt_X9_sure) (bk := zb_X9_sure_0) rfl rfl _ _ _ _).trans rfl
set_option maxRecDepth 20000 in
theorem zX_meanings_q (d : Nat) (v1 : Int32) (A : zA) (L : zL) : zX_meanings (d + 1) v1 A L = if (-1 : Int32) ≤ v1 then zX_meanings_1 (d + 1) v1 A L else zbi (zX_refused d (-4 : Int32) A L) (fun r1 A1 L1 => some (some (.int r1), A1, L1)) := (zrun_q zT (d + 1) (M := zt_X9_meanings) (bk := zb_X9_meanings_0) rfl rfl _ _ _ _).trans rfl
set_option maxRecDepth 20000 in
theorem zX_canStick_q (d : Nat) (A : zA) (L : zL) : zX_canStick (d + 1) A L = if (A 9 4) = 0 then zbi (zX_refused d (-3 : Int32) A L) (fun r1 A1 L1 => some (some (.int r1), A1, L1)) else zX_canStick_1 (d + 1) A L := (zrun_q zT (d + 1) (M := zt_X9_canStick) (bk := zb_X9_canStick_0) rfl rfl _ _ _ _).trans rfl
set_option maxRecDepth 20000 in
theorem zX_begins_q (d : Nat) (v1 : Int32) (A : zA) (L : zL) : zX_begins (d + 1) v1 A L = zbi (zX_isNobody d v1 A L) (fun r1 A1 L1 => if r1 = 0 then zX_begins_1 (d + 1) v1 A1 L1 else zbi (zX_refused d (-1 : Int32) A1 L1) (fun r2 A2 L2 => zX_begins_2 (d + 1) r2 A2 L2)) := (zrun_q zT (d + 1) (M := zt_X9_begins) (bk := zb_X9_begins_0) rfl rfl _ _ _ _).trans rfl
set_option maxRecDepth 20000 in
theorem zX_turns_q (d : Nat) (v1 : Int32) (A : zA) (L : zL) : zX_turns (d + 1) v1 A L = zbi (zX_isNobody d v1 A L) (fun r1 A1 L1 => if r1 = 0 then zX_turns_1 (d + 1) v1 A1 L1 else zbi (zX_refused d (-1 : Int32) A1 L1) (fun r2 A2 L2 => zX_turns_2 (d + 1) r2 A2 L2)) := (zrun_q zT (d + 1) (M := zt_X9_turns) (bk := zb_X9_turns_0) rfl rfl _ _ _ _).trans rfl
set_option maxRecDepth 20000 in
theorem zX_buys_q (d : Nat) (v1 : Int32) (A : zA) (L : zL) : zX_buys (d + 1) v1 A L = zbi (zX_isNobody d v1 A L) (fun r1 A1 L1 => if r1 = 0 then zX_buys_1 (d + 1) v1 A1 L1 else zbi (zX_refused d (-1 : Int32) A1 L1) (fun r2 A2 L2 => zX_buys_2 (d + 1) r2 A2 L2)) := (zrun_q zT (d + 1) (M := zt_X9_buys) (bk := zb_X9_buys_0) rfl rfl _ _ _ _).trans rfl
set_option maxRecDepth 20000 in
theorem zX_price_q (d : Nat) (v1 : Int32) (v2 : Int32) (A : zA) (L : zL) : zX_price (d + 1) v1 v2 A L = zbi (zX_isNobody d v1 A L) (fun r1 A1 L1 => if r1 = 0 then zbi (zX_isNoWord d v2 A1 L1) (fun r2 A2 L2 => if r2 = 0 then zX_price_2 (d + 1) v1 v2 A2 L2 else zX_price_1 (d + 1) A2 L2) else zX_price_1 (d + 1) A1 L1) := (zrun_q zT (d + 1) (M := zt_X9_price) (bk := zb_X9_price_0) rfl rfl _ _ _ _).trans rfl
set_option maxRecDepth 20000 in
theorem zX_lacks_q (d : Nat) (v1 : Int32) (v2 : Int32) (A : zA) (L : zL) : zX_lacks (d + 1) v1 v2 A L = zbi (zX_isNobody d v1 A L) (fun r1 A1 L1 => if r1 = 0 then zbi (zX_isNoWord d v2 A1 L1) (fun r2 A2 L2 => if r2 = 0 then zX_lacks_2 (d + 1) v1 v2 A2 L2 else zX_lacks_1 (d + 1) A2 L2) else zX_lacks_1 (d + 1) A1 L1) := (zrun_q zT (d + 1) (M := zt_X9_lacks) (bk := zb_X9_lacks_0) rfl rfl _ _ _ _).trans rfl
set_option maxRecDepth 20000 in
theorem zX_knows_q (d : Nat) (v1 : Int32) (A : zA) (L : zL) : zX_knows (d + 1) v1 A L = zbi (zX_isNobody d v1 A L) (fun r1 A1 L1 => if r1 = 0 then zX_knows_1 (d + 1) v1 A1 L1 else zbi (zX_worthRefused d (-1 : Int32) A1 L1) (fun r2 A2 L2 => zX_knows_2 (d + 1) r2 A2 L2)) := (zrun_q zT (d + 1) (M := zt_X9_knows) (bk := zb_X9_knows_0) rfl rfl _ _ _ _).trans rfl
set_option maxRecDepth 20000 in
theorem zX_as_q (d : Nat) (v1 : Int32) (A : zA) (L : zL) : zX_as (d + 1) v1 A L = zbi (zX_isNobody d v1 A L) (fun r1 A1 L1 => if r1 = 0 then zX_as_1 (d + 1) v1 A1 L1 else zbi (zX_refused d (-1 : Int32) A1 L1) (fun r2 A2 L2 => zX_as_2 (d + 1) r2 A2 L2)) := (zrun_q zT (d + 1) (M := zt_X9_as) (bk := zb_X9_as_0) rfl rfl _ _ _ _).trans rfl
set_option maxRecDepth 20000 in
theorem zX_least_q (d : Nat) (v1 : Int32) (v2 : Int32) (A : zA) (L : zL) : zX_least (d + 1) v1 v2 A L = zbi (zX_isNobody d v1 A L) (fun r1 A1 L1 => if r1 = 0 then zbi (zX_isNoMark d v2 A1 L1) (fun r2 A2 L2 => if r2 = 0 then zX_least_2 (d + 1) v1 v2 A2 L2 else zX_least_1 (d + 1) A2 L2) else zX_least_1 (d + 1) A1 L1) := (zrun_q zT (d + 1) (M := zt_X9_least) (bk := zb_X9_least_0) rfl rfl _ _ _ _).trans rfl
set_option maxRecDepth 20000 in
theorem zX_kinds_q (d : Nat) (v1 : Int32) (A : zA) (L : zL) : zX_kinds (d + 1) v1 A L = zbi (zX_isNobody d v1 A L) (fun r1 A1 L1 => if r1 = 0 then zX_kinds_1 (d + 1) v1 A1 L1 else zbi (zX_refused d (-1 : Int32) A1 L1) (fun r2 A2 L2 => zX_kinds_2 (d + 1) r2 A2 L2)) := (zrun_q zT (d + 1) (M := zt_X9_kinds) (bk := zb_X9_kinds_0) rfl rfl _ _ _ _).trans rfl
set_option maxRecDepth 20000 in
theorem zX_row_q (d : Nat) (v1 : Int32) (A : zA) (L : zL) : zX_row (d + 1) v1 A L = zbi (zX_isNoWord d v1 A L) (fun r1 A1 L1 => if r1 = 0 then zX_row_1 (d + 1) v1 A1 L1 else zbi (zX_refused d (-1 : Int32) A1 L1) (fun r2 A2 L2 => some (some (.int r2), A2, L2))) := (zrun_q zT (d + 1) (M := zt_X9_row) (bk := zb_X9_row_0) rfl rfl _ _ _ _).trans rfl
set_option maxRecDepth 20000 in
theorem zX_judge_q (d : Nat) (A : zA) (L : zL) : zX_judge (d + 1) A L = if (A 9 4) = 0 then zbi (zX_refused d (-3 : Int32) A L) (fun r1 A1 L1 => some (some (.int r1), A1, L1)) else zX_judge_1 (d + 1) A L := (zrun_q zT (d + 1) (M := zt_X9_judge) (bk := zb_X9_judge_0) rfl rfl _ _ _ _).trans rfl
set_option maxRecDepth 20000 in
theorem zX_seeds_q (d : Nat) (v1 : Int32) (v2 : Int32) (v3 : Int32) (A : zA) (L : zL) : zX_seeds (d + 1) v1 v2 v3 A L = zbi (zX_isNobody d v1 A L) (fun r1 A1 L1 => if r1 = 0 then zX_seeds_1 (d + 1) v1 v2 v3 A1 L1 else zbi (zX_worthRefused d (-1 : Int32) A1 L1) (fun r2 A2 L2 => some (some (.int r2), A2, L2))) := (zrun_q zT (d + 1) (M := zt_X9_seeds) (bk := zb_X9_seeds_0) rfl rfl _ _ _ _).trans rfl
set_option maxRecDepth 20000 in
theorem zX_image_q (d : Nat) (A : zA) (L : zL) : zX_image (d + 1) A L = zbv (zWi_copyFrom_1 d A L) (fun A1 L1 => zcb (1 : Int32) (some (some (.int ((zput A1 0 10 (1 : Int32)) 14 2)), (zput A1 0 10 (1 : Int32)), L1))) := (zrun_q zT (d + 1) (M := zt_X9_image) (bk := zb_X9_image_0) rfl rfl _ _ _ _).trans rfl
set_option maxRecDepth 20000 in
theorem zX_restore_q (d : Nat) (A : zA) (L : zL) : zX_restore (d + 1) A L = if (A 0 10) = 0 then zbi (zX_refused d (-3 : Int32) A L) (fun r1 A1 L1 => some (some (.int r1), A1, L1)) else zX_restore_1 (d + 1) A L := (zrun_q zT (d + 1) (M := zt_X9_restore) (bk := zb_X9_restore_0) rfl rfl _ _ _ _).trans rfl
set_option maxRecDepth 20000 in
theorem zX_count_q (d : Nat) (v1 : Int32) (A : zA) (L : zL) : zX_count d v1 A L = if v1 = 0 then zX_count_1 d A L else if v1 = 1 then zX_count_2 d A L else if v1 = 2 then zX_count_3 d A L else if v1 = 3 then zX_count_4 d A L else if v1 = 4 then zX_count_5 d A L else if v1 = 5 then zX_count_6 d A L else if v1 = 6 then zX_count_7 d A L else zX_count_8 d v1 A L := (zrun_q zT d (M := zt_X9_count) (bk := zb_X9_count_0) rfl rfl _ _ _ _).trans rfl
set_option maxRecDepth 20000 in
theorem zX_feed_1_q (d : Nat) (v1 : Int32) (A : zA) (L : zL) : zX_feed_1 (d + 1) v1 A L = if (255 : Int32) < v1 then zX_feed_2 (d + 1) A L else zbi (zR_isFull d A L) (fun r1 A1 L1 => if r1 = 0 then zX_feed_3 (d + 1) v1 A1 L1 else zX_feed_2 (d + 1) A1 L1) := (zrun_q zT (d + 1) (M := zt_X9_feed) (bk := zb_X9_feed_1) rfl rfl _ _ _ _).trans rfl
set_option maxRecDepth 20000 in
theorem zX_refused_q (d : Nat) (v1 : Int32) (A : zA) (L : zL) : zX_refused d v1 A L = if 0 ≤ v1 then zX_refused_1 d v1 A L else if v1 ≤ (-(nI 7)) then zX_refused_1 d v1 A L else zck (-v1) 7 (zck (-v1) 7 (zX_refused_1 d v1 (zput A 62 ((-v1)).toNatClampNeg ((A 62 ((-v1)).toNatClampNeg) + (1 : Int32))) L)) := (zrun_q zT d (M := zt_X9_refused) (bk := zb_X9_refused_0) rfl rfl _ _ _ _).trans rfl
set_option maxRecDepth 20000 in
theorem zX_tongue_1_q (d : Nat) (A : zA) (L : zL) : zX_tongue_1 (d + 1) A L = zbi (zR_readInto_1 d A L) (fun r1 A1 L1 => zX_tongue_2 (d + 1) r1 A1 L1) := (zrun_q zT (d + 1) (M := zt_X9_tongue) (bk := zb_X9_tongue_1) rfl rfl _ _ _ _).trans rfl
set_option maxRecDepth 20000 in
theorem zX_tongue_2_q (d : Nat) (s0 : Int32) (A : zA) (L : zL) : zX_tongue_2 d s0 A L = some (some (.int s0), A, L) := (zrun_q zT d (M := zt_X9_tongue) (bk := zb_X9_tongue_2) rfl rfl _ _ _ _).trans rfl
set_option maxRecDepth 20000 in
theorem zX_rule_1_q (d : Nat) (A : zA) (L : zL) : zX_rule_1 (d + 1) A L = zbi (zX_refused d (-1 : Int32) A L) (fun r1 A1 L1 => some (some (.int r1), A1, L1)) := (zrun_q zT (d + 1) (M := zt_X9_rule) (bk := zb_X9_rule_1) rfl rfl _ _ _ _).trans rfl
set_option maxRecDepth 20000 in
theorem zX_rule_2_q (d : Nat) (v1 : Int32) (v2 : Int32) (A : zA) (L : zL) : zX_rule_2 d v1 v2 A L = if v2 < 0 then zX_rule_3 d A L else if v2 ≤ (3 : Int32) then zX_rule_4 d v1 v2 A L else zX_rule_3 d A L := (zrun_q zT d (M := zt_X9_rule) (bk := zb_X9_rule_2) rfl rfl _ _ _ _).trans rfl
set_option maxRecDepth 20000 in
theorem zX_end_1_q (d : Nat) (A : zA) (L : zL) : zX_end_1 (d + 1) A L = zbi (zX_refused d (-1 : Int32) A L) (fun r1 A1 L1 => some (some (.int r1), A1, L1)) := (zrun_q zT (d + 1) (M := zt_X9_end) (bk := zb_X9_end_1) rfl rfl _ _ _ _).trans rfl
set_option maxRecDepth 20000 in
theorem zX_end_2_q (d : Nat) (v1 : Int32) (A : zA) (L : zL) : zX_end_2 (d + 1) v1 A L = zbi (zG_isEnd d v1 A L) (fun r1 A1 L1 => if r1 = 0 then zX_end_3 (d + 1) A1 L1 else zX_end_4 (d + 1) (1 : Int32) A1 L1) := (zrun_q zT (d + 1) (M := zt_X9_end) (bk := zb_X9_end_2) rfl rfl _ _ _ _).trans rfl
set_option maxRecDepth 20000 in
theorem zX_isNobody_q (d : Nat) (v1 : Int32) (A : zA) (L : zL) : zX_isNobody d v1 A L = if v1 < 0 then zX_isNobody_1 d A L else if v1 < (A 9 4) then zX_isNobody_2 d A L else zX_isNobody_1 d A L := (zrun_q zT d (M := zt_X9_isNobody) (bk := zb_X9_isNobody_0) rfl rfl _ _ _ _).trans rfl
set_option maxRecDepth 20000 in
theorem zX_person_1_q (d : Nat) (v1 : Int32) (v2 : Int32) (A : zA) (L : zL) : zX_person_1 d v1 v2 A L = if v2 = 0 then zX_person_2 d v1 A L else if v2 = 1 then zX_person_3 d v1 A L else if v2 = 2 then zX_person_4 d v1 A L else zX_person_5 d A L := (zrun_q zT d (M := zt_X9_person) (bk := zb_X9_person_1) rfl rfl _ _ _ _).trans rfl
set_option maxRecDepth 20000 in
theorem zX_worth_1_q (d : Nat) (A : zA) (L : zL) : zX_worth_1 (d + 1) A L = zbi (zX_worthRefused d (-1 : Int32) A L) (fun r1 A1 L1 => zX_worth_3 (d + 1) r1 A1 L1) := (zrun_q zT (d + 1) (M := zt_X9_worth) (bk := zb_X9_worth_1) rfl rfl _ _ _ _).trans rfl
set_option maxRecDepth 20000 in
theorem zX_isNoMark_q (d : Nat) (v0 : Int32) (A : zA) (L : zL) : zX_isNoMark d v0 A L = if v0 < 0 then zX_isNoMark_1 d A L else if v0 < (6 : Int32) then zX_isNoMark_2 d A L else zX_isNoMark_1 d A L := (zrun_q zT d (M := zt_X9_isNoMark) (bk := zb_X9_isNoMark_0) rfl rfl _ _ _ _).trans rfl
set_option maxRecDepth 20000 in
theorem zX_worth_2_q (d : Nat) (v1 : Int32) (v2 : Int32) (A : zA) (L : zL) : zX_worth_2 (d + 1) v1 v2 A L = zbi (zP_worthOf d v1 v2 A L) (fun r1 A1 L1 => zX_worth_3 (d + 1) r1 A1 L1) := (zrun_q zT (d + 1) (M := zt_X9_worth) (bk := zb_X9_worth_2) rfl rfl _ _ _ _).trans rfl
set_option maxRecDepth 20000 in
theorem zX_values_1_q (d : Nat) (A : zA) (L : zL) : zX_values_1 (d + 1) A L = zbi (zX_worthRefused d (-1 : Int32) A L) (fun r1 A1 L1 => some (some (.int r1), A1, L1)) := (zrun_q zT (d + 1) (M := zt_X9_values) (bk := zb_X9_values_1) rfl rfl _ _ _ _).trans rfl
set_option maxRecDepth 20000 in
theorem zX_values_2_q (d : Nat) (v1 : Int32) (v2 : Int32) (v3 : Int32) (A : zA) (L : zL) : zX_values_2 (d + 1) v1 v2 v3 A L = if (-9 : Int32) ≤ v3 then zX_values_3 (d + 1) v1 v2 v3 A L else zbi (zX_worthRefused d (-4 : Int32) A L) (fun r1 A1 L1 => some (some (.int r1), A1, L1)) := (zrun_q zT (d + 1) (M := zt_X9_values) (bk := zb_X9_values_2) rfl rfl _ _ _ _).trans rfl
set_option maxRecDepth 20000 in
theorem zX_kind_1_q (d : Nat) (A : zA) (L : zL) : zX_kind_1 (d + 1) A L = zbi (zX_refused d (-1 : Int32) A L) (fun r1 A1 L1 => some (some (.int r1), A1, L1)) := (zrun_q zT (d + 1) (M := zt_X9_kind) (bk := zb_X9_kind_1) rfl rfl _ _ _ _).trans rfl
set_option maxRecDepth 20000 in
theorem zX_kind_2_q (d : Nat) (v1 : Int32) (v2 : Int32) (A : zA) (L : zL) : zX_kind_2 (d + 1) v1 v2 A L = zbi (zP_kindOf d v1 A L) (fun r1 A1 L1 => zbv (zP_putKind d v1 v2 A1 L1) (fun A2 L2 => some (some (.int r1), A2, L2))) := (zrun_q zT (d + 1) (M := zt_X9_kind) (bk := zb_X9_kind_2) rfl rfl _ _ _ _).trans rfl
set_option maxRecDepth 20000 in
theorem zX_word_1_q (d : Nat) (A : zA) (L : zL) : zX_word_1 (d + 1) A L = zbi (zX_refused d (-1 : Int32) A L) (fun r1 A1 L1 => some (some (.int r1), A1, L1)) := (zrun_q zT (d + 1) (M := zt_X9_word) (bk := zb_X9_word_1) rfl rfl _ _ _ _).trans rfl
set_option maxRecDepth 20000 in
theorem zX_isNoWord_q (d : Nat) (v0 : Int32) (A : zA) (L : zL) : zX_isNoWord d v0 A L = if v0 < 0 then zX_isNoWord_1 d A L else if v0 < (8 : Int32) then zX_isNoWord_2 d A L else zX_isNoWord_1 d A L := (zrun_q zT d (M := zt_X9_isNoWord) (bk := zb_X9_isNoWord_0) rfl rfl _ _ _ _).trans rfl
set_option maxRecDepth 20000 in
theorem zX_word_2_q (d : Nat) (v1 : Int32) (v2 : Int32) (v3 : Int32) (A : zA) (L : zL) : zX_word_2 (d + 1) v1 v2 v3 A L = zbi (zP_putWord d v1 v2 v3 A L) (fun r1 A1 L1 => if r1 = 0 then zX_word_3 (d + 1) A1 L1 else zX_word_4 (d + 1) (1 : Int32) A1 L1) := (zrun_q zT (d + 1) (M := zt_X9_word) (bk := zb_X9_word_2) rfl rfl _ _ _ _).trans rfl
set_option maxRecDepth 20000 in
theorem zX_set_1_q (d : Nat) (v1 : Int32) (v2 : Int32) (A : zA) (L : zL) : zX_set_1 d v1 v2 A L = if v1 = 0 then zX_set_3 d v1 v2 v2 (1 : Int32) A L else zX_set_2 d v1 v2 v2 A L := (zrun_q zT d (M := zt_X9_set) (bk := zb_X9_set_1) rfl rfl _ _ _ _).trans rfl
set_option maxRecDepth 20000 in
theorem zP_isOrder_q (d : Nat) (v1 : Int32) (A : zA) (L : zL) : zP_isOrder d v1 A L = zP_isOrder_1 d v1 (0 : Int32) (0 : Int32) A L := (zrun_q zT d (M := zt_X3_isOrder) (bk := zb_X3_isOrder_0) rfl rfl _ _ _ _).trans rfl
set_option maxRecDepth 20000 in
theorem zX_order_1_q (d : Nat) (v1 : Int32) (A : zA) (L : zL) : zX_order_1 (d + 1) v1 A L = if (A 14 2) ≤ 0 then zX_order_2 (d + 1) v1 A L else zbi (zX_refused d (-3 : Int32) A L) (fun r1 A1 L1 => some (some (.int r1), A1, L1)) := (zrun_q zT (d + 1) (M := zt_X9_order) (bk := zb_X9_order_1) rfl rfl _ _ _ _).trans rfl
set_option maxRecDepth 20000 in
theorem zX_say_1_q (d : Nat) (v1 : Int32) (A : zA) (L : zL) : zX_say_1 (d + 1) v1 A L = zbi (zW_optionsNow d A L) (fun r1 A1 L1 => if ((zshr r1 v1) &&& (1 : Int32)) = 0 then zbi (zX_refused d (-3 : Int32) A1 L1) (fun r2 A2 L2 => some (some (.int r2), A2, L2)) else zX_say_2 (d + 1) v1 A1 L1) := (zrun_q zT (d + 1) (M := zt_X9_say) (bk := zb_X9_say_1) rfl rfl _ _ _ _).trans rfl
set_option maxRecDepth 20000 in
theorem zW_optionsNow_q (d : Nat) (A : zA) (L : zL) : zW_optionsNow d A L = if (A 14 3) = 0 then zW_optionsNow_1 d A L else zW_optionsNow_2 d (0 : Int32) A L := (zrun_q zT d (M := zt_X8_optionsNow) (bk := zb_X8_optionsNow_0) rfl rfl _ _ _ _).trans rfl
set_option maxRecDepth 20000 in
theorem zX_stop_1_q (d : Nat) (A : zA) (L : zL) : zX_stop_1 (d + 1) A L = zcb (1 : Int32) (zbi (zT_spot d (zput A 14 3 (1 : Int32)) L) (fun r1 A1 L1 => zbi (zX_meaningAt d r1 A1 L1) (fun r2 A2 L2 => some (some (.int r2), A2, L2)))) := (zrun_q zT (d + 1) (M := zt_X9_stop) (bk := zb_X9_stop_1) rfl rfl _ _ _ _).trans rfl
set_option maxRecDepth 20000 in
theorem zT_takeBack_q (d : Nat) (A : zA) (L : zL) : zT_takeBack d A L = if (A 14 3) = 0 then zT_takeBack_1 d A L else zcb (0 : Int32) (zcb (1 : Int32) (some (some (.int (1 : Int32)), (zput A 14 3 (0 : Int32)), L))) := (zrun_q zT d (M := zt_X7_takeBack) (bk := zb_X7_takeBack_0) rfl rfl _ _ _ _).trans rfl
set_option maxRecDepth 20000 in
theorem zX_back_1_q (d : Nat) (A : zA) (L : zL) : zX_back_1 (d + 1) A L = zbi (zX_refused d (-3 : Int32) A L) (fun r1 A1 L1 => zX_back_2 (d + 1) r1 A1 L1) := (zrun_q zT (d + 1) (M := zt_X9_back) (bk := zb_X9_back_1) rfl rfl _ _ _ _).trans rfl
set_option maxRecDepth 20000 in
theorem zX_back_2_q (d : Nat) (s0 : Int32) (A : zA) (L : zL) : zX_back_2 d s0 A L = some (some (.int s0), A, L) := (zrun_q zT d (M := zt_X9_back) (bk := zb_X9_back_2) rfl rfl _ _ _ _).trans rfl
set_option maxRecDepth 20000 in
theorem zT_beginAnew_q (d : Nat) (A : zA) (L : zL) : zT_beginAnew d A L = zcb (0 : Int32) (some (none, (zput (zput A 14 2 (0 : Int32)) 14 3 (0 : Int32)), L)) := (zrun_q zT d (M := zt_X7_beginAnew) (bk := zb_X7_beginAnew_0) rfl rfl _ _ _ _).trans rfl
set_option maxRecDepth 20000 in
theorem zT_spot_q (d : Nat) (A : zA) (L : zL) : zT_spot (d + 1) A L = zbi (zT_spotBefore d (A 14 2) A L) (fun r1 A1 L1 => some (some (.int r1), A1, L1)) := (zrun_q zT (d + 1) (M := zt_X7_spot) (bk := zb_X7_spot_0) rfl rfl _ _ _ _).trans rfl
set_option maxRecDepth 20000 in
theorem zX_talk_1_q (d : Nat) (v2 : Int32) (A : zA) (L : zL) : zX_talk_1 (d + 1) v2 A L = zbi (zX_stateAt d v2 A L) (fun r1 A1 L1 => some (some (.int r1), A1, L1)) := (zrun_q zT (d + 1) (M := zt_X9_talk) (bk := zb_X9_talk_1) rfl rfl _ _ _ _).trans rfl
set_option maxRecDepth 20000 in
theorem zX_talk_2_q (d : Nat) (v2 : Int32) (A : zA) (L : zL) : zX_talk_2 (d + 1) v2 A L = zbi (zX_meaningAt d v2 A L) (fun r1 A1 L1 => some (some (.int r1), A1, L1)) := (zrun_q zT (d + 1) (M := zt_X9_talk) (bk := zb_X9_talk_2) rfl rfl _ _ _ _).trans rfl
set_option maxRecDepth 20000 in
theorem zX_talk_3_q (d : Nat) (v2 : Int32) (A : zA) (L : zL) : zX_talk_3 (d + 1) v2 A L = zbi (zX_countAt d v2 A L) (fun r1 A1 L1 => some (some (.int r1), A1, L1)) := (zrun_q zT (d + 1) (M := zt_X9_talk) (bk := zb_X9_talk_3) rfl rfl _ _ _ _).trans rfl
set_option maxRecDepth 20000 in
theorem zX_talk_4_q (d : Nat) (A : zA) (L : zL) : zX_talk_4 (d + 1) A L = zbi (zX_howTheTalkStands d A L) (fun r1 A1 L1 => some (some (.int r1), A1, L1)) := (zrun_q zT (d + 1) (M := zt_X9_talk) (bk := zb_X9_talk_4) rfl rfl _ _ _ _).trans rfl
set_option maxRecDepth 20000 in
theorem zX_talk_5_q (d : Nat) (A : zA) (L : zL) : zX_talk_5 (d + 1) A L = zbi (zW_sayerNow d A L) (fun r1 A1 L1 => some (some (.int r1), A1, L1)) := (zrun_q zT (d + 1) (M := zt_X9_talk) (bk := zb_X9_talk_5) rfl rfl _ _ _ _).trans rfl
set_option maxRecDepth 20000 in
theorem zX_talk_6_q (d : Nat) (A : zA) (L : zL) : zX_talk_6 (d + 1) A L = zbi (zW_optionsNow d A L) (fun r1 A1 L1 => some (some (.int (r1 &&& (255 : Int32))), A1, L1)) := (zrun_q zT (d + 1) (M := zt_X9_talk) (bk := zb_X9_talk_6) rfl rfl _ _ _ _).trans rfl
set_option maxRecDepth 20000 in
theorem zX_talk_7_q (d : Nat) (A : zA) (L : zL) : zX_talk_7 (d + 1) A L = zbi (zW_optionsNow d A L) (fun r1 A1 L1 => some (some (.int ((zshr r1 (8 : Int32)) &&& (1 : Int32))), A1, L1)) := (zrun_q zT (d + 1) (M := zt_X9_talk) (bk := zb_X9_talk_7) rfl rfl _ _ _ _).trans rfl
set_option maxRecDepth 20000 in
theorem zX_talk_8_q (d : Nat) (A : zA) (L : zL) : zX_talk_8 (d + 1) A L = zbi (zX_refused d (-2 : Int32) A L) (fun r1 A1 L1 => some (some (.int r1), A1, L1)) := (zrun_q zT (d + 1) (M := zt_X9_talk) (bk := zb_X9_talk_8) rfl rfl _ _ _ _).trans rfl
set_option maxRecDepth 20000 in
theorem zD_renew_q (d : Nat) (A : zA) (L : zL) : zD_renew d A L = if ((zput A 51 4 ((A 51 4) + (1 : Int32))) 51 4) < (1048576 : Int32) then zD_renew_3 d (zput A 51 4 ((A 51 4) + (1 : Int32))) L else zD_renew_1 d (0 : Int32) (zput A 51 4 ((A 51 4) + (1 : Int32))) L := (zrun_q zT d (M := zt_X2_renew) (bk := zb_X2_renew_0) rfl rfl _ _ _ _).trans rfl
set_option maxRecDepth 20000 in
theorem zD_deedNow_q (d : Nat) (A : zA) (L : zL) : zD_deedNow d A L = if (A 14 3) = 0 then zD_deedNow_1 d A L else zD_deedNow_2 d (-9 : Int32) A L := (zrun_q zT d (M := zt_X2_deedNow) (bk := zb_X2_deedNow_0) rfl rfl _ _ _ _).trans rfl
set_option maxRecDepth 20000 in
theorem zX_goes_1_q (d : Nat) (v1 : Int32) (A : zA) (L : zL) : zX_goes_1 d v1 A L = if v1 = (8 : Int32) then zcb (1 : Int32) (zX_goes_3 d v1 (zput A 14 3 (1 : Int32)) L) else zX_goes_2 d v1 A L := (zrun_q zT d (M := zt_X9_goes) (bk := zb_X9_goes_1) rfl rfl _ _ _ _).trans rfl
set_option maxRecDepth 20000 in
theorem zX_ends_1_q (d : Nat) (A : zA) (L : zL) : zX_ends_1 (d + 1) A L = zbi (zX_refused d (-2 : Int32) A L) (fun r1 A1 L1 => some (some (.int r1), A1, L1)) := (zrun_q zT (d + 1) (M := zt_X9_ends) (bk := zb_X9_ends_1) rfl rfl _ _ _ _).trans rfl
set_option maxRecDepth 20000 in
theorem zX_ends_2_q (d : Nat) (v1 : Int32) (A : zA) (L : zL) : zX_ends_2 (d + 1) v1 A L = if (A 9 4) = 0 then zbi (zX_refused d (-3 : Int32) A L) (fun r1 A1 L1 => some (some (.int r1), A1, L1)) else zX_ends_3 (d + 1) v1 A L := (zrun_q zT (d + 1) (M := zt_X9_ends) (bk := zb_X9_ends_2) rfl rfl _ _ _ _).trans rfl
set_option maxRecDepth 20000 in
theorem zX_value_1_q (d : Nat) (v1 : Int32) (A : zA) (L : zL) : zX_value_1 (d + 1) v1 A L = zbv (zD_renew d A L) (fun A1 L1 => zbi (zD_endNow d A1 L1) (fun r2 A2 L2 => zbi (zD_worthOfEnd d v1 r2 A2 L2) (fun r3 A3 L3 => some (some (.int r3), A3, L3)))) := (zrun_q zT (d + 1) (M := zt_X9_value) (bk := zb_X9_value_1) rfl rfl _ _ _ _).trans rfl
set_option maxRecDepth 20000 in
theorem zX_worthRefused_q (d : Nat) (v1 : Int32) (A : zA) (L : zL) : zX_worthRefused (d + 1) v1 A L = zbi (zX_refused d v1 A L) (fun r1 A1 L1 => some (some (.int ((1000000000 : Int32) - r1)), A1, L1)) := (zrun_q zT (d + 1) (M := zt_X9_worthRefused) (bk := zb_X9_worthRefused_0) rfl rfl _ _ _ _).trans rfl
set_option maxRecDepth 20000 in
theorem zX_forces_1_q (d : Nat) (A : zA) (L : zL) : zX_forces_1 (d + 1) A L = zbi (zX_refused d (-1 : Int32) A L) (fun r1 A1 L1 => some (some (.int r1), A1, L1)) := (zrun_q zT (d + 1) (M := zt_X9_forces) (bk := zb_X9_forces_1) rfl rfl _ _ _ _).trans rfl
set_option maxRecDepth 20000 in
theorem zX_forces_2_q (d : Nat) (v1 : Int32) (v2 : Int32) (A : zA) (L : zL) : zX_forces_2 (d + 1) v1 v2 A L = zbl (zO_meaningsWith d v2 A L) (fun r1 A1 L1 => zbi (zO_ensuresNow d v1 r1 (0 : Int32) A1 L1) (fun r2 A2 L2 => if r2 = 0 then zX_forces_3 (d + 1) A2 L2 else zX_forces_4 (d + 1) (1 : Int32) A2 L2)) := (zrun_q zT (d + 1) (M := zt_X9_forces) (bk := zb_X9_forces_2) rfl rfl _ _ _ _).trans rfl
set_option maxRecDepth 20000 in
theorem zX_keeps_1_q (d : Nat) (A : zA) (L : zL) : zX_keeps_1 (d + 1) A L = zbi (zX_refused d (-1 : Int32) A L) (fun r1 A1 L1 => some (some (.int r1), A1, L1)) := (zrun_q zT (d + 1) (M := zt_X9_keeps) (bk := zb_X9_keeps_1) rfl rfl _ _ _ _).trans rfl
set_option maxRecDepth 20000 in
theorem zX_keeps_2_q (d : Nat) (v1 : Int32) (v2 : Int32) (A : zA) (L : zL) : zX_keeps_2 (d + 1) v1 v2 A L = zbl (zO_meaningsWith d v2 A L) (fun r1 A1 L1 => zbi (zO_ensuresNow d v1 (r1 ^^^ (-1 : Int64)) (1 : Int32) A1 L1) (fun r2 A2 L2 => if r2 = 0 then zX_keeps_3 (d + 1) A2 L2 else zX_keeps_4 (d + 1) (1 : Int32) A2 L2)) := (zrun_q zT (d + 1) (M := zt_X9_keeps) (bk := zb_X9_keeps_2) rfl rfl _ _ _ _).trans rfl
set_option maxRecDepth 20000 in
theorem zX_sticks_1_q (d : Nat) (v1 : Int32) (A : zA) (L : zL) : zX_sticks_1 (d + 1) v1 A L = zbi (zO_ensuresNow d v1 (0 : Int64) (1 : Int32) A L) (fun r1 A1 L1 => if r1 = 0 then zX_sticks_2 (d + 1) A1 L1 else zX_sticks_3 (d + 1) (1 : Int32) A1 L1) := (zrun_q zT (d + 1) (M := zt_X9_sticks) (bk := zb_X9_sticks_1) rfl rfl _ _ _ _).trans rfl
set_option maxRecDepth 20000 in
theorem zX_holds_1_q (d : Nat) (v1 : Int32) (A : zA) (L : zL) : zX_holds_1 (d + 1) v1 A L = zbi (zO_mostWords d v1 A L) (fun r1 A1 L1 => zX_holds_2 (d + 1) r1 A1 L1) := (zrun_q zT (d + 1) (M := zt_X9_holds) (bk := zb_X9_holds_1) rfl rfl _ _ _ _).trans rfl
set_option maxRecDepth 20000 in
theorem zX_holds_2_q (d : Nat) (s0 : Int32) (A : zA) (L : zL) : zX_holds_2 d s0 A L = some (some (.int s0), A, L) := (zrun_q zT d (M := zt_X9_holds) (bk := zb_X9_holds_2) rfl rfl _ _ _ _).trans rfl
set_option maxRecDepth 20000 in
theorem zX_sure_1_q (d : Nat) (v1 : Int32) (A : zA) (L : zL) : zX_sure_1 (d + 1) v1 A L = zbi (zO_surestWorth d v1 A L) (fun r1 A1 L1 => zX_sure_2 (d + 1) r1 A1 L1) := (zrun_q zT (d + 1) (M := zt_X9_sure) (bk := zb_X9_sure_1) rfl rfl _ _ _ _).trans rfl
set_option maxRecDepth 20000 in
theorem zX_sure_2_q (d : Nat) (s0 : Int32) (A : zA) (L : zL) : zX_sure_2 d s0 A L = some (some (.int s0), A, L) := (zrun_q zT d (M := zt_X9_sure) (bk := zb_X9_sure_2) rfl rfl _ _ _ _).trans rfl
set_option maxRecDepth 20000 in
theorem zX_meanings_1_q (d : Nat) (v1 : Int32) (A : zA) (L : zL) : zX_meanings_1 (d + 1) v1 A L = if (A 9 4) = 0 then zbi (zX_refused d (-3 : Int32) A L) (fun r1 A1 L1 => some (some (.int r1), A1, L1)) else zX_meanings_2 (d + 1) v1 A L := (zrun_q zT (d + 1) (M := zt_X9_meanings) (bk := zb_X9_meanings_1) rfl rfl _ _ _ _).trans rfl
set_option maxRecDepth 20000 in
theorem zX_canStick_1_q (d : Nat) (A : zA) (L : zL) : zX_canStick_1 (d + 1) A L = zbv (zH_look d A L) (fun A1 L1 => if (A1 59 3) = 0 then zX_canStick_2 (d + 1) A1 L1 else zX_canStick_3 (d + 1) (1 : Int32) A1 L1) := (zrun_q zT (d + 1) (M := zt_X9_canStick) (bk := zb_X9_canStick_1) rfl rfl _ _ _ _).trans rfl
set_option maxRecDepth 20000 in
theorem zX_begins_1_q (d : Nat) (v1 : Int32) (A : zA) (L : zL) : zX_begins_1 (d + 1) v1 A L = zbi (zB_bestTurning d v1 A L) (fun r1 A1 L1 => zX_begins_2 (d + 1) r1 A1 L1) := (zrun_q zT (d + 1) (M := zt_X9_begins) (bk := zb_X9_begins_1) rfl rfl _ _ _ _).trans rfl
set_option maxRecDepth 20000 in
theorem zX_begins_2_q (d : Nat) (s0 : Int32) (A : zA) (L : zL) : zX_begins_2 d s0 A L = some (some (.int s0), A, L) := (zrun_q zT d (M := zt_X9_begins) (bk := zb_X9_begins_2) rfl rfl _ _ _ _).trans rfl
set_option maxRecDepth 20000 in
theorem zX_turns_1_q (d : Nat) (v1 : Int32) (A : zA) (L : zL) : zX_turns_1 (d + 1) v1 A L = zbi (zB_bestOrder d v1 A L) (fun r1 A1 L1 => zX_turns_2 (d + 1) r1 A1 L1) := (zrun_q zT (d + 1) (M := zt_X9_turns) (bk := zb_X9_turns_1) rfl rfl _ _ _ _).trans rfl
set_option maxRecDepth 20000 in
theorem zX_turns_2_q (d : Nat) (s0 : Int32) (A : zA) (L : zL) : zX_turns_2 d s0 A L = some (some (.int s0), A, L) := (zrun_q zT d (M := zt_X9_turns) (bk := zb_X9_turns_2) rfl rfl _ _ _ _).trans rfl
set_option maxRecDepth 20000 in
theorem zX_buys_1_q (d : Nat) (v1 : Int32) (A : zA) (L : zL) : zX_buys_1 (d + 1) v1 A L = zbi (zB_bestWord d v1 A L) (fun r1 A1 L1 => zX_buys_2 (d + 1) r1 A1 L1) := (zrun_q zT (d + 1) (M := zt_X9_buys) (bk := zb_X9_buys_1) rfl rfl _ _ _ _).trans rfl
set_option maxRecDepth 20000 in
theorem zX_buys_2_q (d : Nat) (s0 : Int32) (A : zA) (L : zL) : zX_buys_2 d s0 A L = some (some (.int s0), A, L) := (zrun_q zT d (M := zt_X9_buys) (bk := zb_X9_buys_2) rfl rfl _ _ _ _).trans rfl
set_option maxRecDepth 20000 in
theorem zX_price_1_q (d : Nat) (A : zA) (L : zL) : zX_price_1 (d + 1) A L = zbi (zX_worthRefused d (-1 : Int32) A L) (fun r1 A1 L1 => some (some (.int r1), A1, L1)) := (zrun_q zT (d + 1) (M := zt_X9_price) (bk := zb_X9_price_1) rfl rfl _ _ _ _).trans rfl
set_option maxRecDepth 20000 in
theorem zX_price_2_q (d : Nat) (v1 : Int32) (v2 : Int32) (A : zA) (L : zL) : zX_price_2 (d + 1) v1 v2 A L = zbi (zB_gain d v1 v2 (1 : Int32) A L) (fun r1 A1 L1 => some (some (.int r1), A1, L1)) := (zrun_q zT (d + 1) (M := zt_X9_price) (bk := zb_X9_price_2) rfl rfl _ _ _ _).trans rfl
set_option maxRecDepth 20000 in
theorem zX_lacks_1_q (d : Nat) (A : zA) (L : zL) : zX_lacks_1 (d + 1) A L = zbi (zX_worthRefused d (-1 : Int32) A L) (fun r1 A1 L1 => some (some (.int r1), A1, L1)) := (zrun_q zT (d + 1) (M := zt_X9_lacks) (bk := zb_X9_lacks_1) rfl rfl _ _ _ _).trans rfl
set_option maxRecDepth 20000 in
theorem zX_lacks_2_q (d : Nat) (v1 : Int32) (v2 : Int32) (A : zA) (L : zL) : zX_lacks_2 (d + 1) v1 v2 A L = zbi (zB_gain d v1 v2 (0 : Int32) A L) (fun r1 A1 L1 => some (some (.int r1), A1, L1)) := (zrun_q zT (d + 1) (M := zt_X9_lacks) (bk := zb_X9_lacks_2) rfl rfl _ _ _ _).trans rfl
set_option maxRecDepth 20000 in
theorem zX_knows_1_q (d : Nat) (v1 : Int32) (A : zA) (L : zL) : zX_knows_1 (d + 1) v1 A L = zbi (zB_gainOfSight d v1 A L) (fun r1 A1 L1 => zX_knows_2 (d + 1) r1 A1 L1) := (zrun_q zT (d + 1) (M := zt_X9_knows) (bk := zb_X9_knows_1) rfl rfl _ _ _ _).trans rfl
set_option maxRecDepth 20000 in
theorem zX_knows_2_q (d : Nat) (s0 : Int32) (A : zA) (L : zL) : zX_knows_2 d s0 A L = some (some (.int s0), A, L) := (zrun_q zT d (M := zt_X9_knows) (bk := zb_X9_knows_2) rfl rfl _ _ _ _).trans rfl
set_option maxRecDepth 20000 in
theorem zX_as_1_q (d : Nat) (v1 : Int32) (A : zA) (L : zL) : zX_as_1 (d + 1) v1 A L = zbi (zB_bestKind d v1 A L) (fun r1 A1 L1 => zX_as_2 (d + 1) r1 A1 L1) := (zrun_q zT (d + 1) (M := zt_X9_as) (bk := zb_X9_as_1) rfl rfl _ _ _ _).trans rfl
set_option maxRecDepth 20000 in
theorem zX_as_2_q (d : Nat) (s0 : Int32) (A : zA) (L : zL) : zX_as_2 d s0 A L = some (some (.int s0), A, L) := (zrun_q zT d (M := zt_X9_as) (bk := zb_X9_as_2) rfl rfl _ _ _ _).trans rfl
set_option maxRecDepth 20000 in
theorem zX_least_1_q (d : Nat) (A : zA) (L : zL) : zX_least_1 (d + 1) A L = zbi (zX_refused d (-1 : Int32) A L) (fun r1 A1 L1 => some (some (.int r1), A1, L1)) := (zrun_q zT (d + 1) (M := zt_X9_least) (bk := zb_X9_least_1) rfl rfl _ _ _ _).trans rfl
set_option maxRecDepth 20000 in
theorem zX_least_2_q (d : Nat) (v1 : Int32) (v2 : Int32) (A : zA) (L : zL) : zX_least_2 (d + 1) v1 v2 A L = zbi (zO_fewestRules d v1 v2 A L) (fun r1 A1 L1 => some (some (.int r1), A1, L1)) := (zrun_q zT (d + 1) (M := zt_X9_least) (bk := zb_X9_least_2) rfl rfl _ _ _ _).trans rfl
set_option maxRecDepth 20000 in
theorem zX_kinds_1_q (d : Nat) (v1 : Int32) (A : zA) (L : zL) : zX_kinds_1 (d + 1) v1 A L = zbi (zD_kindsFitting d v1 A L) (fun r1 A1 L1 => zX_kinds_2 (d + 1) r1 A1 L1) := (zrun_q zT (d + 1) (M := zt_X9_kinds) (bk := zb_X9_kinds_1) rfl rfl _ _ _ _).trans rfl
set_option maxRecDepth 20000 in
theorem zX_kinds_2_q (d : Nat) (s0 : Int32) (A : zA) (L : zL) : zX_kinds_2 d s0 A L = some (some (.int s0), A, L) := (zrun_q zT d (M := zt_X9_kinds) (bk := zb_X9_kinds_2) rfl rfl _ _ _ _).trans rfl
set_option maxRecDepth 20000 in
theorem zX_row_1_q (d : Nat) (v1 : Int32) (A : zA) (L : zL) : zX_row_1 d v1 A L = if (A 0 9) < 0 then zX_row_2 d A L else if (A 0 9) < (8 : Int32) then zX_row_3 d v1 A L else zX_row_2 d A L := (zrun_q zT d (M := zt_X9_row) (bk := zb_X9_row_1) rfl rfl _ _ _ _).trans rfl
set_option maxRecDepth 20000 in
theorem zX_judge_1_q (d : Nat) (A : zA) (L : zL) : zX_judge_1 d A L = zX_judge_2 d (A 0 9) (0 : Int32) (0 : Int32) (zput A 0 9 (0 : Int32)) L := (zrun_q zT d (M := zt_X9_judge) (bk := zb_X9_judge_1) rfl rfl _ _ _ _).trans rfl
set_option maxRecDepth 20000 in
theorem zX_seeds_1_q (d : Nat) (v1 : Int32) (v2 : Int32) (v3 : Int32) (A : zA) (L : zL) : zX_seeds_1 (d + 1) v1 v2 v3 A L = if (1 : Int32) ≤ v2 then zX_seeds_2 (d + 1) v1 v2 v3 A L else zbi (zX_worthRefused d (-4 : Int32) A L) (fun r1 A1 L1 => some (some (.int r1), A1, L1)) := (zrun_q zT (d + 1) (M := zt_X9_seeds) (bk := zb_X9_seeds_1) rfl rfl _ _ _ _).trans rfl
set_option maxRecDepth 20000 in
theorem zWi_copyFrom_1_q (d : Nat) (A : zA) (L : zL) : zWi_copyFrom_1 (d + 1) A L = zbv (zGi_copyFrom_2 d A L) (fun A1 L1 => zbv (zPi_copyFrom_9 d A1 L1) (fun A2 L2 => zbv (zTi_copyFrom_14 d A2 L2) (fun A3 L3 => some (none, (zput (zput A3 17 3 (A3 1 3)) 17 4 ((zput A3 17 3 (A3 1 3)) 1 4)), L3)))) := (zrun_q zT (d + 1) (M := zt_X8_copyFrom) (bk := zb_X8_copyFrom_0) rfl rfl _ _ _ _).trans rfl
set_option maxRecDepth 20000 in
theorem zX_restore_1_q (d : Nat) (A : zA) (L : zL) : zX_restore_1 (d + 1) A L = zbv (zW_copyFrom_17 d A L) (fun A1 L1 => some (some (.int (A1 14 2)), A1, L1)) := (zrun_q zT (d + 1) (M := zt_X9_restore) (bk := zb_X9_restore_1) rfl rfl _ _ _ _).trans rfl
set_option maxRecDepth 20000 in
theorem zX_count_1_q (d : Nat) (A : zA) (L : zL) : zX_count_1 d A L = some (some (.int (A 2 6)), A, L) := (zrun_q zT d (M := zt_X9_count) (bk := zb_X9_count_1) rfl rfl _ _ _ _).trans rfl
set_option maxRecDepth 20000 in
theorem zX_count_2_q (d : Nat) (A : zA) (L : zL) : zX_count_2 (d + 1) A L = zbi (zJ_bitCount d (A 2 7) A L) (fun r1 A1 L1 => some (some (.int r1), A1, L1)) := (zrun_q zT (d + 1) (M := zt_X9_count) (bk := zb_X9_count_2) rfl rfl _ _ _ _).trans rfl
set_option maxRecDepth 20000 in
theorem zX_count_3_q (d : Nat) (A : zA) (L : zL) : zX_count_3 d A L = some (some (.int (A 9 4)), A, L) := (zrun_q zT d (M := zt_X9_count) (bk := zb_X9_count_3) rfl rfl _ _ _ _).trans rfl
set_option maxRecDepth 20000 in
theorem zX_count_4_q (d : Nat) (A : zA) (L : zL) : zX_count_4 d A L = some (some (.int (A 1 3)), A, L) := (zrun_q zT d (M := zt_X9_count) (bk := zb_X9_count_4) rfl rfl _ _ _ _).trans rfl
set_option maxRecDepth 20000 in
theorem zX_count_5_q (d : Nat) (A : zA) (L : zL) : zX_count_5 d A L = some (some (.int (A 1 4)), A, L) := (zrun_q zT d (M := zt_X9_count) (bk := zb_X9_count_5) rfl rfl _ _ _ _).trans rfl
set_option maxRecDepth 20000 in
theorem zX_count_6_q (d : Nat) (A : zA) (L : zL) : zX_count_6 d A L = some (some (.int (A 33 2)), A, L) := (zrun_q zT d (M := zt_X9_count) (bk := zb_X9_count_6) rfl rfl _ _ _ _).trans rfl
set_option maxRecDepth 20000 in
theorem zX_count_7_q (d : Nat) (A : zA) (L : zL) : zX_count_7 d A L = some (some (.int (A 0 9)), A, L) := (zrun_q zT d (M := zt_X9_count) (bk := zb_X9_count_7) rfl rfl _ _ _ _).trans rfl
set_option maxRecDepth 20000 in
theorem zX_count_8_q (d : Nat) (v1 : Int32) (A : zA) (L : zL) : zX_count_8 d v1 A L = if v1 < (11 : Int32) then zX_count_9 d A L else if (16 : Int32) < v1 then zX_count_9 d A L else zck (v1 - (10 : Int32)) 7 (zX_count_10 d (A 62 ((v1 - (10 : Int32))).toNatClampNeg) A L) := (zrun_q zT d (M := zt_X9_count) (bk := zb_X9_count_8) rfl rfl _ _ _ _).trans rfl
set_option maxRecDepth 20000 in
theorem zX_feed_2_q (d : Nat) (A : zA) (L : zL) : zX_feed_2 (d + 1) A L = zbi (zX_refused d (-6 : Int32) A L) (fun r1 A1 L1 => some (some (.int r1), A1, L1)) := (zrun_q zT (d + 1) (M := zt_X9_feed) (bk := zb_X9_feed_2) rfl rfl _ _ _ _).trans rfl
set_option maxRecDepth 20000 in
theorem zR_isFull_q (d : Nat) (A : zA) (L : zL) : zR_isFull d A L = if (A 33 2) < (64 : Int32) then zR_isFull_1 d A L else zR_isFull_2 d (1 : Int32) A L := (zrun_q zT d (M := zt_X6_isFull) (bk := zb_X6_isFull_0) rfl rfl _ _ _ _).trans rfl
set_option maxRecDepth 20000 in
theorem zX_feed_3_q (d : Nat) (v1 : Int32) (A : zA) (L : zL) : zX_feed_3 (d + 1) v1 A L = zbi (zR_accept d v1 A L) (fun r1 A1 L1 => some (some (.int r1), A1, L1)) := (zrun_q zT (d + 1) (M := zt_X9_feed) (bk := zb_X9_feed_3) rfl rfl _ _ _ _).trans rfl
set_option maxRecDepth 20000 in
theorem zX_refused_1_q (d : Nat) (v1 : Int32) (A : zA) (L : zL) : zX_refused_1 d v1 A L = some (some (.int v1), A, L) := (zrun_q zT d (M := zt_X9_refused) (bk := zb_X9_refused_1) rfl rfl _ _ _ _).trans rfl
set_option maxRecDepth 20000 in
theorem zR_readInto_1_q (d : Nat) (A : zA) (L : zL) : zR_readInto_1 (d + 1) A L = zbi (zR_isWellFormed d A L) (fun r1 A1 L1 => if r1 = 0 then zR_readInto_1_1 (d + 1) A1 L1 else zbv (zWt_copyFrom_1 d A1 L1) (fun A2 L2 => zbi (zR_applyAll d A2 L2) (fun r3 A3 L3 => if r3 ≤ 0 then zR_readInto_1_2 (d + 1) r3 A3 L3 else zbv (zW_copyFrom_35 d A3 L3) (fun A4 L4 => zR_readInto_1_2 (d + 1) r3 A4 L4)))) := (zrun_q zT (d + 1) (M := zt_X6_readInto) (bk := zb_X6_readInto_0) rfl rfl _ _ _ _).trans rfl
set_option maxRecDepth 20000 in
theorem zX_rule_3_q (d : Nat) (A : zA) (L : zL) : zX_rule_3 (d + 1) A L = zbi (zX_refused d (-2 : Int32) A L) (fun r1 A1 L1 => some (some (.int r1), A1, L1)) := (zrun_q zT (d + 1) (M := zt_X9_rule) (bk := zb_X9_rule_3) rfl rfl _ _ _ _).trans rfl
set_option maxRecDepth 20000 in
theorem zX_rule_4_q (d : Nat) (v1 : Int32) (v2 : Int32) (A : zA) (L : zL) : zX_rule_4 (d + 1) v1 v2 A L = zbi (zG_tells d v1 v2 A L) (fun r1 A1 L1 => some (some (.int r1), A1, L1)) := (zrun_q zT (d + 1) (M := zt_X9_rule) (bk := zb_X9_rule_4) rfl rfl _ _ _ _).trans rfl
set_option maxRecDepth 20000 in
theorem zG_isEnd_q (d : Nat) (v1 : Int32) (A : zA) (L : zL) : zG_isEnd (d + 1) v1 A L = zbi (zG_isState d v1 A L) (fun r1 A1 L1 => if r1 = 0 then zG_isEnd_1 (d + 1) A1 L1 else if ((zshr (A1 2 7) v1) &&& (1 : Int32)) = 0 then zG_isEnd_1 (d + 1) A1 L1 else zG_isEnd_2 (d + 1) (1 : Int32) A1 L1) := (zrun_q zT (d + 1) (M := zt_X1_isEnd) (bk := zb_X1_isEnd_0) rfl rfl _ _ _ _).trans rfl
set_option maxRecDepth 20000 in
theorem zX_end_3_q (d : Nat) (A : zA) (L : zL) : zX_end_3 d A L = zX_end_4 d (0 : Int32) A L := (zrun_q zT d (M := zt_X9_end) (bk := zb_X9_end_3) rfl rfl _ _ _ _).trans rfl
set_option maxRecDepth 20000 in
theorem zX_end_4_q (d : Nat) (s0 : Int32) (A : zA) (L : zL) : zX_end_4 d s0 A L = some (some (.int s0), A, L) := (zrun_q zT d (M := zt_X9_end) (bk := zb_X9_end_4) rfl rfl _ _ _ _).trans rfl
set_option maxRecDepth 20000 in
theorem zX_isNobody_1_q (d : Nat) (A : zA) (L : zL) : zX_isNobody_1 d A L = zX_isNobody_3 d (1 : Int32) A L := (zrun_q zT d (M := zt_X9_isNobody) (bk := zb_X9_isNobody_1) rfl rfl _ _ _ _).trans rfl
set_option maxRecDepth 20000 in
theorem zX_isNobody_2_q (d : Nat) (A : zA) (L : zL) : zX_isNobody_2 d A L = zX_isNobody_3 d (0 : Int32) A L := (zrun_q zT d (M := zt_X9_isNobody) (bk := zb_X9_isNobody_2) rfl rfl _ _ _ _).trans rfl
set_option maxRecDepth 20000 in
theorem zX_person_2_q (d : Nat) (v1 : Int32) (A : zA) (L : zL) : zX_person_2 (d + 1) v1 A L = zbi (zP_kindOf d v1 A L) (fun r1 A1 L1 => some (some (.int r1), A1, L1)) := (zrun_q zT (d + 1) (M := zt_X9_person) (bk := zb_X9_person_2) rfl rfl _ _ _ _).trans rfl
set_option maxRecDepth 20000 in
theorem zX_person_3_q (d : Nat) (v1 : Int32) (A : zA) (L : zL) : zX_person_3 (d + 1) v1 A L = zbi (zP_wordsOf d v1 A L) (fun r1 A1 L1 => some (some (.int r1), A1, L1)) := (zrun_q zT (d + 1) (M := zt_X9_person) (bk := zb_X9_person_3) rfl rfl _ _ _ _).trans rfl
set_option maxRecDepth 20000 in
theorem zX_person_4_q (d : Nat) (v1 : Int32) (A : zA) (L : zL) : zX_person_4 (d + 1) v1 A L = zbi (zP_placeOf d v1 A L) (fun r1 A1 L1 => some (some (.int r1), A1, L1)) := (zrun_q zT (d + 1) (M := zt_X9_person) (bk := zb_X9_person_4) rfl rfl _ _ _ _).trans rfl
set_option maxRecDepth 20000 in
theorem zX_person_5_q (d : Nat) (A : zA) (L : zL) : zX_person_5 (d + 1) A L = zbi (zX_refused d (-2 : Int32) A L) (fun r1 A1 L1 => some (some (.int r1), A1, L1)) := (zrun_q zT (d + 1) (M := zt_X9_person) (bk := zb_X9_person_5) rfl rfl _ _ _ _).trans rfl
set_option maxRecDepth 20000 in
theorem zX_worth_3_q (d : Nat) (s0 : Int32) (A : zA) (L : zL) : zX_worth_3 d s0 A L = some (some (.int s0), A, L) := (zrun_q zT d (M := zt_X9_worth) (bk := zb_X9_worth_3) rfl rfl _ _ _ _).trans rfl
set_option maxRecDepth 20000 in
theorem zX_isNoMark_1_q (d : Nat) (A : zA) (L : zL) : zX_isNoMark_1 d A L = zX_isNoMark_3 d (1 : Int32) A L := (zrun_q zT d (M := zt_X9_isNoMark) (bk := zb_X9_isNoMark_1) rfl rfl _ _ _ _).trans rfl
set_option maxRecDepth 20000 in
theorem zX_isNoMark_2_q (d : Nat) (A : zA) (L : zL) : zX_isNoMark_2 d A L = zX_isNoMark_3 d (0 : Int32) A L := (zrun_q zT d (M := zt_X9_isNoMark) (bk := zb_X9_isNoMark_2) rfl rfl _ _ _ _).trans rfl
set_option maxRecDepth 20000 in
theorem zP_worthOf_q (d : Nat) (v1 : Int32) (v2 : Int32) (A : zA) (L : zL) : zP_worthOf (d + 1) v1 v2 A L = zbi (zP_has d v1 A L) (fun r1 A1 L1 => if r1 = 0 then zP_worthOf_1 (d + 1) A1 L1 else if v2 < 0 then zP_worthOf_1 (d + 1) A1 L1 else if (6 : Int32) ≤ v2 then zP_worthOf_1 (d + 1) A1 L1 else zck ((v1 * (6 : Int32)) + v2) 24 (zP_worthOf_2 (d + 1) (A1 12 (((v1 * (6 : Int32)) + v2)).toNatClampNeg) A1 L1)) := (zrun_q zT (d + 1) (M := zt_X3_worthOf) (bk := zb_X3_worthOf_0) rfl rfl _ _ _ _).trans rfl
set_option maxRecDepth 20000 in
theorem zX_values_3_q (d : Nat) (v1 : Int32) (v2 : Int32) (v3 : Int32) (A : zA) (L : zL) : zX_values_3 (d + 1) v1 v2 v3 A L = if v3 ≤ (9 : Int32) then zX_values_4 (d + 1) v1 v2 v3 A L else zbi (zX_worthRefused d (-6 : Int32) A L) (fun r1 A1 L1 => some (some (.int r1), A1, L1)) := (zrun_q zT (d + 1) (M := zt_X9_values) (bk := zb_X9_values_3) rfl rfl _ _ _ _).trans rfl
set_option maxRecDepth 20000 in
theorem zP_kindOf_q (d : Nat) (v1 : Int32) (A : zA) (L : zL) : zP_kindOf (d + 1) v1 A L = zbi (zP_has d v1 A L) (fun r1 A1 L1 => if r1 = 0 then zP_kindOf_1 (d + 1) A1 L1 else zck v1 4 (zP_kindOf_2 (d + 1) (A1 10 (v1).toNatClampNeg) A1 L1)) := (zrun_q zT (d + 1) (M := zt_X3_kindOf) (bk := zb_X3_kindOf_0) rfl rfl _ _ _ _).trans rfl
set_option maxRecDepth 20000 in
theorem zP_putKind_q (d : Nat) (v1 : Int32) (v2 : Int32) (A : zA) (L : zL) : zP_putKind (d + 1) v1 v2 A L = zbi (zP_has d v1 A L) (fun r1 A1 L1 => if r1 = 0 then zP_putKind_1 (d + 1) A1 L1 else zck v1 4 (zP_putKind_1 (d + 1) (zput A1 10 (v1).toNatClampNeg v2) L1)) := (zrun_q zT (d + 1) (M := zt_X3_putKind) (bk := zb_X3_putKind_0) rfl rfl _ _ _ _).trans rfl
set_option maxRecDepth 20000 in
theorem zX_isNoWord_1_q (d : Nat) (A : zA) (L : zL) : zX_isNoWord_1 d A L = zX_isNoWord_3 d (1 : Int32) A L := (zrun_q zT d (M := zt_X9_isNoWord) (bk := zb_X9_isNoWord_1) rfl rfl _ _ _ _).trans rfl
set_option maxRecDepth 20000 in
theorem zX_isNoWord_2_q (d : Nat) (A : zA) (L : zL) : zX_isNoWord_2 d A L = zX_isNoWord_3 d (0 : Int32) A L := (zrun_q zT d (M := zt_X9_isNoWord) (bk := zb_X9_isNoWord_2) rfl rfl _ _ _ _).trans rfl
set_option maxRecDepth 20000 in
theorem zP_putWord_q (d : Nat) (v1 : Int32) (v2 : Int32) (v3 : Int32) (A : zA) (L : zL) : zP_putWord (d + 1) v1 v2 v3 A L = zbi (zP_has d v1 A L) (fun r1 A1 L1 => if r1 = 0 then zP_putWord_3 (d + 1) A1 L1 else zck v1 4 (if ((zshr (A1 11 (v1).toNatClampNeg) v2) &&& (1 : Int32)) = 0 then zP_putWord_1 (d + 1) v1 v2 v3 A1 L1 else zP_putWord_2 (d + 1) v1 v2 v3 (1 : Int32) A1 L1)) := (zrun_q zT (d + 1) (M := zt_X3_putWord) (bk := zb_X3_putWord_0) rfl rfl _ _ _ _).trans rfl
set_option maxRecDepth 20000 in
theorem zX_word_3_q (d : Nat) (A : zA) (L : zL) : zX_word_3 d A L = zX_word_4 d (0 : Int32) A L := (zrun_q zT d (M := zt_X9_word) (bk := zb_X9_word_3) rfl rfl _ _ _ _).trans rfl
set_option maxRecDepth 20000 in
theorem zX_word_4_q (d : Nat) (s0 : Int32) (A : zA) (L : zL) : zX_word_4 d s0 A L = some (some (.int s0), A, L) := (zrun_q zT d (M := zt_X9_word) (bk := zb_X9_word_4) rfl rfl _ _ _ _).trans rfl
set_option maxRecDepth 20000 in
theorem zX_set_2_q (d : Nat) (v1 : Int32) (v2 : Int32) (s0 : Int32) (A : zA) (L : zL) : zX_set_2 d v1 v2 s0 A L = zX_set_3 d v1 v2 s0 (0 : Int32) A L := (zrun_q zT d (M := zt_X9_set) (bk := zb_X9_set_2) rfl rfl _ _ _ _).trans rfl
set_option maxRecDepth 20000 in
theorem zX_set_3_q (d : Nat) (v1 : Int32) (v2 : Int32) (s0 : Int32) (s1 : Int32) (A : zA) (L : zL) : zX_set_3 (d + 1) v1 v2 s0 s1 A L = if s1 ≤ s0 then zX_set_4 (d + 1) v1 v2 A L else zbi (zX_refused d (-4 : Int32) A L) (fun r1 A1 L1 => some (some (.int r1), A1, L1)) := (zrun_q zT (d + 1) (M := zt_X9_set) (bk := zb_X9_set_3) rfl rfl _ _ _ _).trans rfl
