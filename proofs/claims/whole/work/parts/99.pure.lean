/-! ===== the law, over the small machine, comes to 1 ===== -/
/-- the law's locals -/
def zLw (x : Int32) : zLv := [(0, .ref 1000), (1, .ref 0), (2, .ref 63), (3, .int x)]
section PU
variable {N n i a : Nat} {xs : Nat → Int32} {x : Int32} {A : zA} {L : zL}

set_option maxRecDepth 20000 in
theorem zl_2_q : zexL N xs (n + 1) 2 (zLw x) [] A L = zck (x + 1) N (zbi (zX_feed 799 (xs (x + 1).toNatClampNeg) A L) (fun r1 A1 L1 => zck (x + 1) N (zbi (zM_feed 799 (xs (x + 1).toNatClampNeg) A1 L1) (fun r2 A2 L2 => if r1 = r2 then zexL N xs n 48 (zLw x) [] A2 L2 else some (some (.int 0), A2, L2))))) := rfl
set_option maxRecDepth 20000 in
theorem zl_3_q : zexL N xs (n + 1) 3 (zLw x) [] A L = zbi (zX_tongue 799 A L) (fun r1 A1 L1 => zbi (zM_tongue 799 A1 L1) (fun r2 A2 L2 => if r1 = r2 then zexL N xs n 48 (zLw x) [] A2 L2 else some (some (.int 0), A2, L2))) := rfl
set_option maxRecDepth 20000 in
theorem zl_4_q : zexL N xs (n + 1) 4 (zLw x) [] A L = zck (x + 1) N (zck (x + 2) N (zbi (zX_rule 799 (xs (x + 1).toNatClampNeg) (xs (x + 2).toNatClampNeg) A L) (fun r1 A1 L1 => zck (x + 1) N (zck (x + 2) N (zbi (zM_rule 799 (xs (x + 1).toNatClampNeg) (xs (x + 2).toNatClampNeg) A1 L1) (fun r2 A2 L2 => if r1 = r2 then zexL N xs n 48 (zLw x) [] A2 L2 else some (some (.int 0), A2, L2))))))) := rfl
set_option maxRecDepth 20000 in
theorem zl_5_q : zexL N xs (n + 1) 5 (zLw x) [] A L = zck (x + 1) N (zbi (zX_end 799 (xs (x + 1).toNatClampNeg) A L) (fun r1 A1 L1 => zck (x + 1) N (zbi (zM_end 799 (xs (x + 1).toNatClampNeg) A1 L1) (fun r2 A2 L2 => if r1 = r2 then zexL N xs n 48 (zLw x) [] A2 L2 else some (some (.int 0), A2, L2))))) := rfl
set_option maxRecDepth 20000 in
theorem zl_6_q : zexL N xs (n + 1) 6 (zLw x) [] A L = zck (x + 1) N (zck (x + 2) N (zbi (zX_person 799 (xs (x + 1).toNatClampNeg) (xs (x + 2).toNatClampNeg) A L) (fun r1 A1 L1 => zck (x + 1) N (zck (x + 2) N (zbi (zM_person 799 (xs (x + 1).toNatClampNeg) (xs (x + 2).toNatClampNeg) A1 L1) (fun r2 A2 L2 => if r1 = r2 then zexL N xs n 48 (zLw x) [] A2 L2 else some (some (.int 0), A2, L2))))))) := rfl
set_option maxRecDepth 20000 in
theorem zl_7_q : zexL N xs (n + 1) 7 (zLw x) [] A L = zck (x + 1) N (zck (x + 2) N (zbi (zX_worth 799 (xs (x + 1).toNatClampNeg) (xs (x + 2).toNatClampNeg) A L) (fun r1 A1 L1 => zck (x + 1) N (zck (x + 2) N (zbi (zM_worth 799 (xs (x + 1).toNatClampNeg) (xs (x + 2).toNatClampNeg) A1 L1) (fun r2 A2 L2 => if r1 = r2 then zexL N xs n 48 (zLw x) [] A2 L2 else some (some (.int 0), A2, L2))))))) := rfl
set_option maxRecDepth 20000 in
theorem zl_8_q : zexL N xs (n + 1) 8 (zLw x) [] A L = zck (x + 1) N (zck (x + 2) N (zck (x + 3) N (zbi (zX_values 799 (xs (x + 1).toNatClampNeg) (xs (x + 2).toNatClampNeg) (xs (x + 3).toNatClampNeg) A L) (fun r1 A1 L1 => zck (x + 1) N (zck (x + 2) N (zck (x + 3) N (zbi (zM_values 799 (xs (x + 1).toNatClampNeg) (xs (x + 2).toNatClampNeg) (xs (x + 3).toNatClampNeg) A1 L1) (fun r2 A2 L2 => if r1 = r2 then zexL N xs n 48 (zLw x) [] A2 L2 else some (some (.int 0), A2, L2))))))))) := rfl
set_option maxRecDepth 20000 in
theorem zl_9_q : zexL N xs (n + 1) 9 (zLw x) [] A L = zck (x + 1) N (zck (x + 2) N (zbi (zX_kind 799 (xs (x + 1).toNatClampNeg) (xs (x + 2).toNatClampNeg) A L) (fun r1 A1 L1 => zck (x + 1) N (zck (x + 2) N (zbi (zM_kind 799 (xs (x + 1).toNatClampNeg) (xs (x + 2).toNatClampNeg) A1 L1) (fun r2 A2 L2 => if r1 = r2 then zexL N xs n 48 (zLw x) [] A2 L2 else some (some (.int 0), A2, L2))))))) := rfl
set_option maxRecDepth 20000 in
theorem zl_15_q : zexL N xs (n + 1) 15 (zLw x) [] A L = zck (x + 1) N (zck (x + 2) N (zbi (zX_set 799 (xs (x + 1).toNatClampNeg) (xs (x + 2).toNatClampNeg) A L) (fun r1 A1 L1 => zck (x + 1) N (zck (x + 2) N (zbi (zM_set 799 (xs (x + 1).toNatClampNeg) (xs (x + 2).toNatClampNeg) A1 L1) (fun r2 A2 L2 => if r1 = r2 then zexL N xs n 48 (zLw x) [] A2 L2 else some (some (.int 0), A2, L2))))))) := rfl
set_option maxRecDepth 20000 in
theorem zl_16_q : zexL N xs (n + 1) 16 (zLw x) [] A L = zck (x + 1) N (zbi (zX_order 799 (xs (x + 1).toNatClampNeg) A L) (fun r1 A1 L1 => zck (x + 1) N (zbi (zM_order 799 (xs (x + 1).toNatClampNeg) A1 L1) (fun r2 A2 L2 => if r1 = r2 then zexL N xs n 48 (zLw x) [] A2 L2 else some (some (.int 0), A2, L2))))) := rfl
set_option maxRecDepth 20000 in
theorem zl_17_q : zexL N xs (n + 1) 17 (zLw x) [] A L = zck (x + 1) N (zbi (zX_say 799 (xs (x + 1).toNatClampNeg) A L) (fun r1 A1 L1 => zck (x + 1) N (zbi (zM_say 799 (xs (x + 1).toNatClampNeg) A1 L1) (fun r2 A2 L2 => if r1 = r2 then zexL N xs n 48 (zLw x) [] A2 L2 else some (some (.int 0), A2, L2))))) := rfl
set_option maxRecDepth 20000 in
theorem zl_18_q : zexL N xs (n + 1) 18 (zLw x) [] A L = zbi (zX_stop 799 A L) (fun r1 A1 L1 => zbi (zM_stop 799 A1 L1) (fun r2 A2 L2 => if r1 = r2 then zexL N xs n 48 (zLw x) [] A2 L2 else some (some (.int 0), A2, L2))) := rfl
set_option maxRecDepth 20000 in
theorem zl_19_q : zexL N xs (n + 1) 19 (zLw x) [] A L = zbi (zX_back 799 A L) (fun r1 A1 L1 => zbi (zM_back 799 A1 L1) (fun r2 A2 L2 => if r1 = r2 then zexL N xs n 48 (zLw x) [] A2 L2 else some (some (.int 0), A2, L2))) := rfl
set_option maxRecDepth 20000 in
theorem zl_20_q : zexL N xs (n + 1) 20 (zLw x) [] A L = zbi (zX_anew 799 A L) (fun r1 A1 L1 => zbi (zM_anew 799 A1 L1) (fun r2 A2 L2 => if r1 = r2 then zexL N xs n 48 (zLw x) [] A2 L2 else some (some (.int 0), A2, L2))) := rfl
set_option maxRecDepth 20000 in
theorem zl_21_q : zexL N xs (n + 1) 21 (zLw x) [] A L = zck (x + 1) N (zbi (zX_talk 799 (xs (x + 1).toNatClampNeg) A L) (fun r1 A1 L1 => zck (x + 1) N (zbi (zM_talk 799 (xs (x + 1).toNatClampNeg) A1 L1) (fun r2 A2 L2 => if r1 = r2 then zexL N xs n 48 (zLw x) [] A2 L2 else some (some (.int 0), A2, L2))))) := rfl
set_option maxRecDepth 20000 in
theorem zl_22_q : zexL N xs (n + 1) 22 (zLw x) [] A L = zbi (zX_does 799 A L) (fun r1 A1 L1 => zbi (zM_does 799 A1 L1) (fun r2 A2 L2 => if r1 = r2 then zexL N xs n 48 (zLw x) [] A2 L2 else some (some (.int 0), A2, L2))) := rfl
set_option maxRecDepth 20000 in
theorem zl_23_q : zexL N xs (n + 1) 23 (zLw x) [] A L = zbi (zX_goes 799 A L) (fun r1 A1 L1 => zbi (zM_goes 799 A1 L1) (fun r2 A2 L2 => if r1 = r2 then zexL N xs n 48 (zLw x) [] A2 L2 else some (some (.int 0), A2, L2))) := rfl
set_option maxRecDepth 20000 in
theorem zl_24_q : zexL N xs (n + 1) 24 (zLw x) [] A L = zck (x + 1) N (zbi (zX_ends 799 (xs (x + 1).toNatClampNeg) A L) (fun r1 A1 L1 => zck (x + 1) N (zbi (zM_ends 799 (xs (x + 1).toNatClampNeg) A1 L1) (fun r2 A2 L2 => if r1 = r2 then zexL N xs n 48 (zLw x) [] A2 L2 else some (some (.int 0), A2, L2))))) := rfl
set_option maxRecDepth 20000 in
theorem zl_25_q : zexL N xs (n + 1) 25 (zLw x) [] A L = zck (x + 1) N (zbi (zX_value 799 (xs (x + 1).toNatClampNeg) A L) (fun r1 A1 L1 => zck (x + 1) N (zbi (zM_value 799 (xs (x + 1).toNatClampNeg) A1 L1) (fun r2 A2 L2 => if r1 = r2 then zexL N xs n 48 (zLw x) [] A2 L2 else some (some (.int 0), A2, L2))))) := rfl
set_option maxRecDepth 20000 in
theorem zl_26_q : zexL N xs (n + 1) 26 (zLw x) [] A L = zck (x + 1) N (zck (x + 2) N (zbi (zX_forces 799 (xs (x + 1).toNatClampNeg) (xs (x + 2).toNatClampNeg) A L) (fun r1 A1 L1 => zck (x + 1) N (zck (x + 2) N (zbi (zM_forces 799 (xs (x + 1).toNatClampNeg) (xs (x + 2).toNatClampNeg) A1 L1) (fun r2 A2 L2 => if r1 = r2 then zexL N xs n 48 (zLw x) [] A2 L2 else some (some (.int 0), A2, L2))))))) := rfl
set_option maxRecDepth 20000 in
theorem zl_27_q : zexL N xs (n + 1) 27 (zLw x) [] A L = zck (x + 1) N (zck (x + 2) N (zbi (zX_keeps 799 (xs (x + 1).toNatClampNeg) (xs (x + 2).toNatClampNeg) A L) (fun r1 A1 L1 => zck (x + 1) N (zck (x + 2) N (zbi (zM_keeps 799 (xs (x + 1).toNatClampNeg) (xs (x + 2).toNatClampNeg) A1 L1) (fun r2 A2 L2 => if r1 = r2 then zexL N xs n 48 (zLw x) [] A2 L2 else some (some (.int 0), A2, L2))))))) := rfl
set_option maxRecDepth 20000 in
theorem zl_28_q : zexL N xs (n + 1) 28 (zLw x) [] A L = zck (x + 1) N (zbi (zX_sticks 799 (xs (x + 1).toNatClampNeg) A L) (fun r1 A1 L1 => zck (x + 1) N (zbi (zM_sticks 799 (xs (x + 1).toNatClampNeg) A1 L1) (fun r2 A2 L2 => if r1 = r2 then zexL N xs n 48 (zLw x) [] A2 L2 else some (some (.int 0), A2, L2))))) := rfl
set_option maxRecDepth 20000 in
theorem zl_29_q : zexL N xs (n + 1) 29 (zLw x) [] A L = zck (x + 1) N (zbi (zX_holds 799 (xs (x + 1).toNatClampNeg) A L) (fun r1 A1 L1 => zck (x + 1) N (zbi (zM_holds 799 (xs (x + 1).toNatClampNeg) A1 L1) (fun r2 A2 L2 => if r1 = r2 then zexL N xs n 48 (zLw x) [] A2 L2 else some (some (.int 0), A2, L2))))) := rfl
set_option maxRecDepth 20000 in
theorem zl_30_q : zexL N xs (n + 1) 30 (zLw x) [] A L = zck (x + 1) N (zbi (zX_sure 799 (xs (x + 1).toNatClampNeg) A L) (fun r1 A1 L1 => zck (x + 1) N (zbi (zM_sure 799 (xs (x + 1).toNatClampNeg) A1 L1) (fun r2 A2 L2 => if r1 = r2 then zexL N xs n 48 (zLw x) [] A2 L2 else some (some (.int 0), A2, L2))))) := rfl
set_option maxRecDepth 20000 in
theorem zl_31_q : zexL N xs (n + 1) 31 (zLw x) [] A L = zck (x + 1) N (zbi (zX_meanings 799 (xs (x + 1).toNatClampNeg) A L) (fun r1 A1 L1 => zck (x + 1) N (zbi (zM_meanings 799 (xs (x + 1).toNatClampNeg) A1 L1) (fun r2 A2 L2 => if r1 = r2 then zexL N xs n 48 (zLw x) [] A2 L2 else some (some (.int 0), A2, L2))))) := rfl
set_option maxRecDepth 20000 in
theorem zl_32_q : zexL N xs (n + 1) 32 (zLw x) [] A L = zbi (zX_canStick 799 A L) (fun r1 A1 L1 => zbi (zM_canStick 799 A1 L1) (fun r2 A2 L2 => if r1 = r2 then zexL N xs n 48 (zLw x) [] A2 L2 else some (some (.int 0), A2, L2))) := rfl
set_option maxRecDepth 20000 in
theorem zl_33_q : zexL N xs (n + 1) 33 (zLw x) [] A L = zck (x + 1) N (zbi (zX_begins 799 (xs (x + 1).toNatClampNeg) A L) (fun r1 A1 L1 => zck (x + 1) N (zbi (zM_begins 799 (xs (x + 1).toNatClampNeg) A1 L1) (fun r2 A2 L2 => if r1 = r2 then zexL N xs n 48 (zLw x) [] A2 L2 else some (some (.int 0), A2, L2))))) := rfl
set_option maxRecDepth 20000 in
theorem zl_34_q : zexL N xs (n + 1) 34 (zLw x) [] A L = zck (x + 1) N (zbi (zX_turns 799 (xs (x + 1).toNatClampNeg) A L) (fun r1 A1 L1 => zck (x + 1) N (zbi (zM_turns 799 (xs (x + 1).toNatClampNeg) A1 L1) (fun r2 A2 L2 => if r1 = r2 then zexL N xs n 48 (zLw x) [] A2 L2 else some (some (.int 0), A2, L2))))) := rfl
set_option maxRecDepth 20000 in
theorem zl_35_q : zexL N xs (n + 1) 35 (zLw x) [] A L = zck (x + 1) N (zbi (zX_buys 799 (xs (x + 1).toNatClampNeg) A L) (fun r1 A1 L1 => zck (x + 1) N (zbi (zM_buys 799 (xs (x + 1).toNatClampNeg) A1 L1) (fun r2 A2 L2 => if r1 = r2 then zexL N xs n 48 (zLw x) [] A2 L2 else some (some (.int 0), A2, L2))))) := rfl
set_option maxRecDepth 20000 in
theorem zl_36_q : zexL N xs (n + 1) 36 (zLw x) [] A L = zck (x + 1) N (zck (x + 2) N (zbi (zX_price 799 (xs (x + 1).toNatClampNeg) (xs (x + 2).toNatClampNeg) A L) (fun r1 A1 L1 => zck (x + 1) N (zck (x + 2) N (zbi (zM_price 799 (xs (x + 1).toNatClampNeg) (xs (x + 2).toNatClampNeg) A1 L1) (fun r2 A2 L2 => if r1 = r2 then zexL N xs n 48 (zLw x) [] A2 L2 else some (some (.int 0), A2, L2))))))) := rfl
set_option maxRecDepth 20000 in
theorem zl_37_q : zexL N xs (n + 1) 37 (zLw x) [] A L = zck (x + 1) N (zck (x + 2) N (zbi (zX_lacks 799 (xs (x + 1).toNatClampNeg) (xs (x + 2).toNatClampNeg) A L) (fun r1 A1 L1 => zck (x + 1) N (zck (x + 2) N (zbi (zM_lacks 799 (xs (x + 1).toNatClampNeg) (xs (x + 2).toNatClampNeg) A1 L1) (fun r2 A2 L2 => if r1 = r2 then zexL N xs n 48 (zLw x) [] A2 L2 else some (some (.int 0), A2, L2))))))) := rfl
set_option maxRecDepth 20000 in
theorem zl_38_q : zexL N xs (n + 1) 38 (zLw x) [] A L = zck (x + 1) N (zbi (zX_knows 799 (xs (x + 1).toNatClampNeg) A L) (fun r1 A1 L1 => zck (x + 1) N (zbi (zM_knows 799 (xs (x + 1).toNatClampNeg) A1 L1) (fun r2 A2 L2 => if r1 = r2 then zexL N xs n 48 (zLw x) [] A2 L2 else some (some (.int 0), A2, L2))))) := rfl
set_option maxRecDepth 20000 in
theorem zl_39_q : zexL N xs (n + 1) 39 (zLw x) [] A L = zck (x + 1) N (zbi (zX_as 799 (xs (x + 1).toNatClampNeg) A L) (fun r1 A1 L1 => zck (x + 1) N (zbi (zM_as 799 (xs (x + 1).toNatClampNeg) A1 L1) (fun r2 A2 L2 => if r1 = r2 then zexL N xs n 48 (zLw x) [] A2 L2 else some (some (.int 0), A2, L2))))) := rfl
set_option maxRecDepth 20000 in
theorem zl_40_q : zexL N xs (n + 1) 40 (zLw x) [] A L = zck (x + 1) N (zck (x + 2) N (zbi (zX_least 799 (xs (x + 1).toNatClampNeg) (xs (x + 2).toNatClampNeg) A L) (fun r1 A1 L1 => zck (x + 1) N (zck (x + 2) N (zbi (zM_least 799 (xs (x + 1).toNatClampNeg) (xs (x + 2).toNatClampNeg) A1 L1) (fun r2 A2 L2 => if r1 = r2 then zexL N xs n 48 (zLw x) [] A2 L2 else some (some (.int 0), A2, L2))))))) := rfl
set_option maxRecDepth 20000 in
theorem zl_41_q : zexL N xs (n + 1) 41 (zLw x) [] A L = zck (x + 1) N (zbi (zX_kinds 799 (xs (x + 1).toNatClampNeg) A L) (fun r1 A1 L1 => zck (x + 1) N (zbi (zM_kinds 799 (xs (x + 1).toNatClampNeg) A1 L1) (fun r2 A2 L2 => if r1 = r2 then zexL N xs n 48 (zLw x) [] A2 L2 else some (some (.int 0), A2, L2))))) := rfl
set_option maxRecDepth 20000 in
theorem zl_42_q : zexL N xs (n + 1) 42 (zLw x) [] A L = zck (x + 1) N (zbi (zX_row 799 (xs (x + 1).toNatClampNeg) A L) (fun r1 A1 L1 => zck (x + 1) N (zbi (zM_row 799 (xs (x + 1).toNatClampNeg) A1 L1) (fun r2 A2 L2 => if r1 = r2 then zexL N xs n 48 (zLw x) [] A2 L2 else some (some (.int 0), A2, L2))))) := rfl
set_option maxRecDepth 20000 in
theorem zl_43_q : zexL N xs (n + 1) 43 (zLw x) [] A L = zbi (zX_judge 799 A L) (fun r1 A1 L1 => zbi (zM_judge 799 A1 L1) (fun r2 A2 L2 => if r1 = r2 then zexL N xs n 48 (zLw x) [] A2 L2 else some (some (.int 0), A2, L2))) := rfl
set_option maxRecDepth 20000 in
theorem zl_44_q : zexL N xs (n + 1) 44 (zLw x) [] A L = zck (x + 1) N (zck (x + 2) N (zck (x + 3) N (zbi (zX_seeds 799 (xs (x + 1).toNatClampNeg) (xs (x + 2).toNatClampNeg) (xs (x + 3).toNatClampNeg) A L) (fun r1 A1 L1 => zck (x + 1) N (zck (x + 2) N (zck (x + 3) N (zbi (zM_seeds 799 (xs (x + 1).toNatClampNeg) (xs (x + 2).toNatClampNeg) (xs (x + 3).toNatClampNeg) A1 L1) (fun r2 A2 L2 => if r1 = r2 then zexL N xs n 48 (zLw x) [] A2 L2 else some (some (.int 0), A2, L2))))))))) := rfl
set_option maxRecDepth 20000 in
theorem zl_45_q : zexL N xs (n + 1) 45 (zLw x) [] A L = zbi (zX_image 799 A L) (fun r1 A1 L1 => zbi (zM_image 799 A1 L1) (fun r2 A2 L2 => if r1 = r2 then zexL N xs n 48 (zLw x) [] A2 L2 else some (some (.int 0), A2, L2))) := rfl
set_option maxRecDepth 20000 in
theorem zl_46_q : zexL N xs (n + 1) 46 (zLw x) [] A L = zbi (zX_restore 799 A L) (fun r1 A1 L1 => zbi (zM_restore 799 A1 L1) (fun r2 A2 L2 => if r1 = r2 then zexL N xs n 48 (zLw x) [] A2 L2 else some (some (.int 0), A2, L2))) := rfl
set_option maxRecDepth 20000 in
theorem zl_47_q : zexL N xs (n + 1) 47 (zLw x) [] A L = zck (x + 1) N (zbi (zX_count 799 (xs (x + 1).toNatClampNeg) A L) (fun r1 A1 L1 => zck (x + 1) N (zbi (zM_count 799 (xs (x + 1).toNatClampNeg) A1 L1) (fun r2 A2 L2 => if r1 = r2 then zexL N xs n 48 (zLw x) [] A2 L2 else some (some (.int 0), A2, L2))))) := rfl
set_option maxRecDepth 20000 in
theorem zl_1_q : zexL N xs (n + 1) 1 (zLw x) [] A L = if x > nI N - 4 then zexL N xs n 49 [] [] A L else zck x N (zsw (xs x.toNatClampNeg &&& 63) [(0, 2), (1, 3), (2, 4), (3, 5), (4, 6), (5, 7), (6, 8), (7, 9), (8, 10), (9, 15), (10, 16), (11, 17), (12, 18), (13, 19), (14, 20), (15, 21), (16, 22), (17, 23), (18, 24), (19, 25), (20, 26), (21, 27), (22, 28), (23, 29), (24, 30), (25, 31), (26, 32), (27, 33), (28, 34), (29, 35), (30, 36), (31, 37), (32, 38), (33, 39), (34, 40), (35, 41), (36, 42), (37, 43), (38, 44), (39, 45), (40, 46), (41, 47)] (fun b => zjmp (fun b lv st A L => zexL N xs n b lv st A L) zbs_law b (zLw x) [] A L) (zexL N xs n 48 (zLw x) [] A L)) := rfl
theorem zl_48_q : zexL N xs (n + 1) 48 (zLw x) [] A L = zexL N xs n 1 (zLw (x + 4)) [] A L := rfl
theorem zl_49_q : zexL N xs (n + 1) 49 [] [] A L = some (some (.int 1), A, L) := rfl
set_option maxRecDepth 20000 in
theorem zl_10_q : zexL N xs (n + 1) 10 (zLw x) [] A L = zck (x + 1) N (zck (x + 2) N (zck (x + 3) N (if xs (x + 3).toNatClampNeg = 0 then zexL N xs n 11 (zLw x) [.int (xs (x + 2).toNatClampNeg), .int (xs (x + 1).toNatClampNeg), .ref 0] A L else zexL N xs n 12 (zLw x) [.int 1, .int (xs (x + 2).toNatClampNeg), .int (xs (x + 1).toNatClampNeg), .ref 0] A L))) := rfl
theorem zl_11_q {st : List Value} : zexL N xs (n + 1) 11 (zLw x) st A L = zexL N xs n 12 (zLw x) (.int 0 :: st) A L := rfl
set_option maxRecDepth 20000 in
theorem zl_12_q {y1 y2 y3 : Int32} : zexL N xs (n + 1) 12 (zLw x) [.int y3, .int y2, .int y1, .ref 0] A L = zbi (zX_word 799 y1 y2 y3 A L) (fun r1 A L => zck (x + 1) N (zck (x + 2) N (zck (x + 3) N (if xs (x + 3).toNatClampNeg = 0 then zexL N xs n 13 (zLw x) [.int (xs (x + 2).toNatClampNeg), .int (xs (x + 1).toNatClampNeg), .ref 63, .int r1] A L else zexL N xs n 14 (zLw x) [.int 1, .int (xs (x + 2).toNatClampNeg), .int (xs (x + 1).toNatClampNeg), .ref 63, .int r1] A L)))) := rfl
theorem zl_13_q {st : List Value} : zexL N xs (n + 1) 13 (zLw x) st A L = zexL N xs n 14 (zLw x) (.int 0 :: st) A L := rfl
set_option maxRecDepth 20000 in
theorem zl_14_q {y1 y2 y3 r1 : Int32} : zexL N xs (n + 1) 14 (zLw x) [.int y3, .int y2, .int y1, .ref 63, .int r1] A L = zbi (zM_word 799 y1 y2 y3 A L) (fun r2 A2 L2 => if r1 = r2 then zexL N xs n 48 (zLw x) [] A2 L2 else some (some (.int 0), A2, L2)) := rfl
/-- from there the law comes to 1 -/
def zEv (N : Nat) (xs : Nat → Int32) (b : Nat) (i : Nat) (A : zA) (L : zL) : Prop := ∃ n A' L', zexL N xs n b (zLw (nI i)) [] A L = some (some (.int 1), A', L')
/-- what is to be shown of one call -/
def zCa (N : Nat) (xs : Nat → Int32) (b : Nat) : Prop := ∀ i a A L, i + 4 ≤ N → N ≤ 2048 → RR a A → a + 30 < 1048576 → (∀ A2 L2, RR (a + 30) A2 → zEv N xs 48 i A2 L2) → zEv N xs b i A L
theorem zxj (h : i + 4 ≤ N) (hN : N ≤ 2048) {j : Nat} (hj : j < 4) : nI i + nI j = nI (i + j) ∧ (nI (i + j)).toNatClampNeg = i + j ∧ ∀ o : Option zR, zck (nI (i + j)) N o = o := ⟨nI_add i j, nI_clamp (by omega), fun o => zck_n (by omega) (by omega)⟩

theorem zca_2 : zCa N xs 2 := by
  intro i a A L h hN hr ha hk
  obtain ⟨p1, q1, o1⟩ := zxj h hN (j := 1) (by omega)
  obtain ⟨w, A1, L1, A2, L2, e1, e2, e3⟩ := zP_feed (d := 729) (xs (i + 1)) a A L hr ha
  obtain ⟨n, A3, L3, e4⟩ := hk A2 L2 e3
  refine ⟨n + 1, A3, L3, ?_⟩
  rw [zl_2_q, show nI i + 1 = nI (i + 1) from p1, o1, q1, show zX_feed 799 (xs (i + 1)) A L = _ from e1, zbi_s, o1, show zM_feed 799 (xs (i + 1)) A1 L1 = _ from e2, zbi_s, if_pos rfl]
  exact e4
theorem zca_3 : zCa N xs 3 := by
  intro i a A L h hN hr ha hk
  obtain ⟨w, A1, L1, A2, L2, e1, e2, e3⟩ := zP_tongue (d := 729) a A L hr ha
  obtain ⟨n, A3, L3, e4⟩ := hk A2 L2 e3
  refine ⟨n + 1, A3, L3, ?_⟩
  rw [zl_3_q, show zX_tongue 799 A L = _ from e1, zbi_s, show zM_tongue 799 A1 L1 = _ from e2, zbi_s, if_pos rfl]
  exact e4
theorem zca_4 : zCa N xs 4 := by
  intro i a A L h hN hr ha hk
  obtain ⟨p1, q1, o1⟩ := zxj h hN (j := 1) (by omega)
  obtain ⟨p2, q2, o2⟩ := zxj h hN (j := 2) (by omega)
  obtain ⟨w, A1, L1, A2, L2, e1, e2, e3⟩ := zP_rule (d := 729) (xs (i + 1)) (xs (i + 2)) a A L hr ha
  obtain ⟨n, A3, L3, e4⟩ := hk A2 L2 e3
  refine ⟨n + 1, A3, L3, ?_⟩
  rw [zl_4_q, show nI i + 1 = nI (i + 1) from p1, o1, q1, show nI i + 2 = nI (i + 2) from p2, o2, q2, show zX_rule 799 (xs (i + 1)) (xs (i + 2)) A L = _ from e1, zbi_s, o1, o2, show zM_rule 799 (xs (i + 1)) (xs (i + 2)) A1 L1 = _ from e2, zbi_s, if_pos rfl]
  exact e4
theorem zca_5 : zCa N xs 5 := by
  intro i a A L h hN hr ha hk
  obtain ⟨p1, q1, o1⟩ := zxj h hN (j := 1) (by omega)
  obtain ⟨w, A1, L1, A2, L2, e1, e2, e3⟩ := zP_end (d := 729) (xs (i + 1)) a A L hr ha
  obtain ⟨n, A3, L3, e4⟩ := hk A2 L2 e3
  refine ⟨n + 1, A3, L3, ?_⟩
  rw [zl_5_q, show nI i + 1 = nI (i + 1) from p1, o1, q1, show zX_end 799 (xs (i + 1)) A L = _ from e1, zbi_s, o1, show zM_end 799 (xs (i + 1)) A1 L1 = _ from e2, zbi_s, if_pos rfl]
  exact e4
theorem zca_6 : zCa N xs 6 := by
  intro i a A L h hN hr ha hk
  obtain ⟨p1, q1, o1⟩ := zxj h hN (j := 1) (by omega)
  obtain ⟨p2, q2, o2⟩ := zxj h hN (j := 2) (by omega)
  obtain ⟨w, A1, L1, A2, L2, e1, e2, e3⟩ := zP_person (d := 729) (xs (i + 1)) (xs (i + 2)) a A L hr ha
  obtain ⟨n, A3, L3, e4⟩ := hk A2 L2 e3
  refine ⟨n + 1, A3, L3, ?_⟩
  rw [zl_6_q, show nI i + 1 = nI (i + 1) from p1, o1, q1, show nI i + 2 = nI (i + 2) from p2, o2, q2, show zX_person 799 (xs (i + 1)) (xs (i + 2)) A L = _ from e1, zbi_s, o1, o2, show zM_person 799 (xs (i + 1)) (xs (i + 2)) A1 L1 = _ from e2, zbi_s, if_pos rfl]
  exact e4
theorem zca_7 : zCa N xs 7 := by
  intro i a A L h hN hr ha hk
  obtain ⟨p1, q1, o1⟩ := zxj h hN (j := 1) (by omega)
  obtain ⟨p2, q2, o2⟩ := zxj h hN (j := 2) (by omega)
  obtain ⟨w, A1, L1, A2, L2, e1, e2, e3⟩ := zP_worth (d := 729) (xs (i + 1)) (xs (i + 2)) a A L hr ha
  obtain ⟨n, A3, L3, e4⟩ := hk A2 L2 e3
  refine ⟨n + 1, A3, L3, ?_⟩
  rw [zl_7_q, show nI i + 1 = nI (i + 1) from p1, o1, q1, show nI i + 2 = nI (i + 2) from p2, o2, q2, show zX_worth 799 (xs (i + 1)) (xs (i + 2)) A L = _ from e1, zbi_s, o1, o2, show zM_worth 799 (xs (i + 1)) (xs (i + 2)) A1 L1 = _ from e2, zbi_s, if_pos rfl]
  exact e4
theorem zca_8 : zCa N xs 8 := by
  intro i a A L h hN hr ha hk
  obtain ⟨p1, q1, o1⟩ := zxj h hN (j := 1) (by omega)
  obtain ⟨p2, q2, o2⟩ := zxj h hN (j := 2) (by omega)
  obtain ⟨p3, q3, o3⟩ := zxj h hN (j := 3) (by omega)
  obtain ⟨w, A1, L1, A2, L2, e1, e2, e3⟩ := zP_values (d := 729) (xs (i + 1)) (xs (i + 2)) (xs (i + 3)) a A L hr ha
  obtain ⟨n, A3, L3, e4⟩ := hk A2 L2 e3
  refine ⟨n + 1, A3, L3, ?_⟩
  rw [zl_8_q, show nI i + 1 = nI (i + 1) from p1, o1, q1, show nI i + 2 = nI (i + 2) from p2, o2, q2, show nI i + 3 = nI (i + 3) from p3, o3, q3, show zX_values 799 (xs (i + 1)) (xs (i + 2)) (xs (i + 3)) A L = _ from e1, zbi_s, o1, o2, o3, show zM_values 799 (xs (i + 1)) (xs (i + 2)) (xs (i + 3)) A1 L1 = _ from e2, zbi_s, if_pos rfl]
  exact e4
theorem zca_9 : zCa N xs 9 := by
  intro i a A L h hN hr ha hk
  obtain ⟨p1, q1, o1⟩ := zxj h hN (j := 1) (by omega)
  obtain ⟨p2, q2, o2⟩ := zxj h hN (j := 2) (by omega)
  obtain ⟨w, A1, L1, A2, L2, e1, e2, e3⟩ := zP_kind (d := 729) (xs (i + 1)) (xs (i + 2)) a A L hr ha
  obtain ⟨n, A3, L3, e4⟩ := hk A2 L2 e3
  refine ⟨n + 1, A3, L3, ?_⟩
  rw [zl_9_q, show nI i + 1 = nI (i + 1) from p1, o1, q1, show nI i + 2 = nI (i + 2) from p2, o2, q2, show zX_kind 799 (xs (i + 1)) (xs (i + 2)) A L = _ from e1, zbi_s, o1, o2, show zM_kind 799 (xs (i + 1)) (xs (i + 2)) A1 L1 = _ from e2, zbi_s, if_pos rfl]
  exact e4
theorem zca_15 : zCa N xs 15 := by
  intro i a A L h hN hr ha hk
  obtain ⟨p1, q1, o1⟩ := zxj h hN (j := 1) (by omega)
  obtain ⟨p2, q2, o2⟩ := zxj h hN (j := 2) (by omega)
  obtain ⟨w, A1, L1, A2, L2, e1, e2, e3⟩ := zP_set (d := 729) (xs (i + 1)) (xs (i + 2)) a A L hr ha
  obtain ⟨n, A3, L3, e4⟩ := hk A2 L2 e3
  refine ⟨n + 1, A3, L3, ?_⟩
  rw [zl_15_q, show nI i + 1 = nI (i + 1) from p1, o1, q1, show nI i + 2 = nI (i + 2) from p2, o2, q2, show zX_set 799 (xs (i + 1)) (xs (i + 2)) A L = _ from e1, zbi_s, o1, o2, show zM_set 799 (xs (i + 1)) (xs (i + 2)) A1 L1 = _ from e2, zbi_s, if_pos rfl]
  exact e4
theorem zca_16 : zCa N xs 16 := by
  intro i a A L h hN hr ha hk
  obtain ⟨p1, q1, o1⟩ := zxj h hN (j := 1) (by omega)
  obtain ⟨w, A1, L1, A2, L2, e1, e2, e3⟩ := zP_order (d := 729) (xs (i + 1)) a A L hr ha
  obtain ⟨n, A3, L3, e4⟩ := hk A2 L2 e3
  refine ⟨n + 1, A3, L3, ?_⟩
  rw [zl_16_q, show nI i + 1 = nI (i + 1) from p1, o1, q1, show zX_order 799 (xs (i + 1)) A L = _ from e1, zbi_s, o1, show zM_order 799 (xs (i + 1)) A1 L1 = _ from e2, zbi_s, if_pos rfl]
  exact e4
theorem zca_17 : zCa N xs 17 := by
  intro i a A L h hN hr ha hk
  obtain ⟨p1, q1, o1⟩ := zxj h hN (j := 1) (by omega)
  obtain ⟨w, A1, L1, A2, L2, e1, e2, e3⟩ := zP_say (d := 729) (xs (i + 1)) a A L hr ha
  obtain ⟨n, A3, L3, e4⟩ := hk A2 L2 e3
  refine ⟨n + 1, A3, L3, ?_⟩
  rw [zl_17_q, show nI i + 1 = nI (i + 1) from p1, o1, q1, show zX_say 799 (xs (i + 1)) A L = _ from e1, zbi_s, o1, show zM_say 799 (xs (i + 1)) A1 L1 = _ from e2, zbi_s, if_pos rfl]
  exact e4
theorem zca_18 : zCa N xs 18 := by
  intro i a A L h hN hr ha hk
  obtain ⟨w, A1, L1, A2, L2, e1, e2, e3⟩ := zP_stop (d := 729) a A L hr ha
  obtain ⟨n, A3, L3, e4⟩ := hk A2 L2 e3
  refine ⟨n + 1, A3, L3, ?_⟩
  rw [zl_18_q, show zX_stop 799 A L = _ from e1, zbi_s, show zM_stop 799 A1 L1 = _ from e2, zbi_s, if_pos rfl]
  exact e4
theorem zca_19 : zCa N xs 19 := by
  intro i a A L h hN hr ha hk
  obtain ⟨w, A1, L1, A2, L2, e1, e2, e3⟩ := zP_back (d := 729) a A L hr ha
  obtain ⟨n, A3, L3, e4⟩ := hk A2 L2 e3
  refine ⟨n + 1, A3, L3, ?_⟩
  rw [zl_19_q, show zX_back 799 A L = _ from e1, zbi_s, show zM_back 799 A1 L1 = _ from e2, zbi_s, if_pos rfl]
  exact e4
theorem zca_20 : zCa N xs 20 := by
  intro i a A L h hN hr ha hk
  obtain ⟨w, A1, L1, A2, L2, e1, e2, e3⟩ := zP_anew (d := 729) a A L hr ha
  obtain ⟨n, A3, L3, e4⟩ := hk A2 L2 e3
  refine ⟨n + 1, A3, L3, ?_⟩
  rw [zl_20_q, show zX_anew 799 A L = _ from e1, zbi_s, show zM_anew 799 A1 L1 = _ from e2, zbi_s, if_pos rfl]
  exact e4
theorem zca_21 : zCa N xs 21 := by
  intro i a A L h hN hr ha hk
  obtain ⟨p1, q1, o1⟩ := zxj h hN (j := 1) (by omega)
  obtain ⟨w, A1, L1, A2, L2, e1, e2, e3⟩ := zP_talk (d := 729) (xs (i + 1)) a A L hr ha
  obtain ⟨n, A3, L3, e4⟩ := hk A2 L2 e3
  refine ⟨n + 1, A3, L3, ?_⟩
  rw [zl_21_q, show nI i + 1 = nI (i + 1) from p1, o1, q1, show zX_talk 799 (xs (i + 1)) A L = _ from e1, zbi_s, o1, show zM_talk 799 (xs (i + 1)) A1 L1 = _ from e2, zbi_s, if_pos rfl]
  exact e4
theorem zca_22 : zCa N xs 22 := by
  intro i a A L h hN hr ha hk
  obtain ⟨w, A1, L1, A2, L2, e1, e2, e3⟩ := zP_does (d := 729) a A L hr ha
  obtain ⟨n, A3, L3, e4⟩ := hk A2 L2 e3
  refine ⟨n + 1, A3, L3, ?_⟩
  rw [zl_22_q, show zX_does 799 A L = _ from e1, zbi_s, show zM_does 799 A1 L1 = _ from e2, zbi_s, if_pos rfl]
  exact e4
theorem zca_23 : zCa N xs 23 := by
  intro i a A L h hN hr ha hk
  obtain ⟨w, A1, L1, A2, L2, e1, e2, e3⟩ := zP_goes (d := 729) a A L hr ha
  obtain ⟨n, A3, L3, e4⟩ := hk A2 L2 e3
  refine ⟨n + 1, A3, L3, ?_⟩
  rw [zl_23_q, show zX_goes 799 A L = _ from e1, zbi_s, show zM_goes 799 A1 L1 = _ from e2, zbi_s, if_pos rfl]
  exact e4
theorem zca_24 : zCa N xs 24 := by
  intro i a A L h hN hr ha hk
  obtain ⟨p1, q1, o1⟩ := zxj h hN (j := 1) (by omega)
  obtain ⟨w, A1, L1, A2, L2, e1, e2, e3⟩ := zP_ends (d := 729) (xs (i + 1)) a A L hr ha
  obtain ⟨n, A3, L3, e4⟩ := hk A2 L2 e3
  refine ⟨n + 1, A3, L3, ?_⟩
  rw [zl_24_q, show nI i + 1 = nI (i + 1) from p1, o1, q1, show zX_ends 799 (xs (i + 1)) A L = _ from e1, zbi_s, o1, show zM_ends 799 (xs (i + 1)) A1 L1 = _ from e2, zbi_s, if_pos rfl]
  exact e4
theorem zca_25 : zCa N xs 25 := by
  intro i a A L h hN hr ha hk
  obtain ⟨p1, q1, o1⟩ := zxj h hN (j := 1) (by omega)
  obtain ⟨w, A1, L1, A2, L2, e1, e2, e3⟩ := zP_value (d := 729) (xs (i + 1)) a A L hr ha
  obtain ⟨n, A3, L3, e4⟩ := hk A2 L2 e3
  refine ⟨n + 1, A3, L3, ?_⟩
  rw [zl_25_q, show nI i + 1 = nI (i + 1) from p1, o1, q1, show zX_value 799 (xs (i + 1)) A L = _ from e1, zbi_s, o1, show zM_value 799 (xs (i + 1)) A1 L1 = _ from e2, zbi_s, if_pos rfl]
  exact e4
theorem zca_26 : zCa N xs 26 := by
  intro i a A L h hN hr ha hk
  obtain ⟨p1, q1, o1⟩ := zxj h hN (j := 1) (by omega)
  obtain ⟨p2, q2, o2⟩ := zxj h hN (j := 2) (by omega)
  obtain ⟨w, A1, L1, A2, L2, e1, e2, e3⟩ := zP_forces (d := 729) (xs (i + 1)) (xs (i + 2)) a A L hr ha
  obtain ⟨n, A3, L3, e4⟩ := hk A2 L2 e3
  refine ⟨n + 1, A3, L3, ?_⟩
  rw [zl_26_q, show nI i + 1 = nI (i + 1) from p1, o1, q1, show nI i + 2 = nI (i + 2) from p2, o2, q2, show zX_forces 799 (xs (i + 1)) (xs (i + 2)) A L = _ from e1, zbi_s, o1, o2, show zM_forces 799 (xs (i + 1)) (xs (i + 2)) A1 L1 = _ from e2, zbi_s, if_pos rfl]
  exact e4
theorem zca_27 : zCa N xs 27 := by
  intro i a A L h hN hr ha hk
  obtain ⟨p1, q1, o1⟩ := zxj h hN (j := 1) (by omega)
  obtain ⟨p2, q2, o2⟩ := zxj h hN (j := 2) (by omega)
  obtain ⟨w, A1, L1, A2, L2, e1, e2, e3⟩ := zP_keeps (d := 729) (xs (i + 1)) (xs (i + 2)) a A L hr ha
  obtain ⟨n, A3, L3, e4⟩ := hk A2 L2 e3
  refine ⟨n + 1, A3, L3, ?_⟩
  rw [zl_27_q, show nI i + 1 = nI (i + 1) from p1, o1, q1, show nI i + 2 = nI (i + 2) from p2, o2, q2, show zX_keeps 799 (xs (i + 1)) (xs (i + 2)) A L = _ from e1, zbi_s, o1, o2, show zM_keeps 799 (xs (i + 1)) (xs (i + 2)) A1 L1 = _ from e2, zbi_s, if_pos rfl]
  exact e4
theorem zca_28 : zCa N xs 28 := by
  intro i a A L h hN hr ha hk
  obtain ⟨p1, q1, o1⟩ := zxj h hN (j := 1) (by omega)
  obtain ⟨w, A1, L1, A2, L2, e1, e2, e3⟩ := zP_sticks (d := 729) (xs (i + 1)) a A L hr ha
  obtain ⟨n, A3, L3, e4⟩ := hk A2 L2 e3
  refine ⟨n + 1, A3, L3, ?_⟩
  rw [zl_28_q, show nI i + 1 = nI (i + 1) from p1, o1, q1, show zX_sticks 799 (xs (i + 1)) A L = _ from e1, zbi_s, o1, show zM_sticks 799 (xs (i + 1)) A1 L1 = _ from e2, zbi_s, if_pos rfl]
  exact e4
theorem zca_29 : zCa N xs 29 := by
  intro i a A L h hN hr ha hk
  obtain ⟨p1, q1, o1⟩ := zxj h hN (j := 1) (by omega)
  obtain ⟨w, A1, L1, A2, L2, e1, e2, e3⟩ := zP_holds (d := 729) (xs (i + 1)) a A L hr ha
  obtain ⟨n, A3, L3, e4⟩ := hk A2 L2 e3
  refine ⟨n + 1, A3, L3, ?_⟩
  rw [zl_29_q, show nI i + 1 = nI (i + 1) from p1, o1, q1, show zX_holds 799 (xs (i + 1)) A L = _ from e1, zbi_s, o1, show zM_holds 799 (xs (i + 1)) A1 L1 = _ from e2, zbi_s, if_pos rfl]
  exact e4
theorem zca_30 : zCa N xs 30 := by
  intro i a A L h hN hr ha hk
  obtain ⟨p1, q1, o1⟩ := zxj h hN (j := 1) (by omega)
  obtain ⟨w, A1, L1, A2, L2, e1, e2, e3⟩ := zP_sure (d := 729) (xs (i + 1)) a A L hr ha
  obtain ⟨n, A3, L3, e4⟩ := hk A2 L2 e3
  refine ⟨n + 1, A3, L3, ?_⟩
  rw [zl_30_q, show nI i + 1 = nI (i + 1) from p1, o1, q1, show zX_sure 799 (xs (i + 1)) A L = _ from e1, zbi_s, o1, show zM_sure 799 (xs (i + 1)) A1 L1 = _ from e2, zbi_s, if_pos rfl]
  exact e4
theorem zca_31 : zCa N xs 31 := by
  intro i a A L h hN hr ha hk
  obtain ⟨p1, q1, o1⟩ := zxj h hN (j := 1) (by omega)
  obtain ⟨w, A1, L1, A2, L2, e1, e2, e3⟩ := zP_meanings (d := 729) (xs (i + 1)) a A L hr ha
  obtain ⟨n, A3, L3, e4⟩ := hk A2 L2 e3
  refine ⟨n + 1, A3, L3, ?_⟩
  rw [zl_31_q, show nI i + 1 = nI (i + 1) from p1, o1, q1, show zX_meanings 799 (xs (i + 1)) A L = _ from e1, zbi_s, o1, show zM_meanings 799 (xs (i + 1)) A1 L1 = _ from e2, zbi_s, if_pos rfl]
  exact e4
theorem zca_32 : zCa N xs 32 := by
  intro i a A L h hN hr ha hk
  obtain ⟨w, A1, L1, A2, L2, e1, e2, e3⟩ := zP_canStick (d := 729) a A L hr ha
  obtain ⟨n, A3, L3, e4⟩ := hk A2 L2 e3
  refine ⟨n + 1, A3, L3, ?_⟩
  rw [zl_32_q, show zX_canStick 799 A L = _ from e1, zbi_s, show zM_canStick 799 A1 L1 = _ from e2, zbi_s, if_pos rfl]
  exact e4
theorem zca_33 : zCa N xs 33 := by
  intro i a A L h hN hr ha hk
  obtain ⟨p1, q1, o1⟩ := zxj h hN (j := 1) (by omega)
  obtain ⟨w, A1, L1, A2, L2, e1, e2, e3⟩ := zP_begins (d := 729) (xs (i + 1)) a A L hr ha
  obtain ⟨n, A3, L3, e4⟩ := hk A2 L2 e3
  refine ⟨n + 1, A3, L3, ?_⟩
  rw [zl_33_q, show nI i + 1 = nI (i + 1) from p1, o1, q1, show zX_begins 799 (xs (i + 1)) A L = _ from e1, zbi_s, o1, show zM_begins 799 (xs (i + 1)) A1 L1 = _ from e2, zbi_s, if_pos rfl]
  exact e4
theorem zca_34 : zCa N xs 34 := by
  intro i a A L h hN hr ha hk
  obtain ⟨p1, q1, o1⟩ := zxj h hN (j := 1) (by omega)
  obtain ⟨w, A1, L1, A2, L2, e1, e2, e3⟩ := zP_turns (d := 729) (xs (i + 1)) a A L hr ha
  obtain ⟨n, A3, L3, e4⟩ := hk A2 L2 e3
  refine ⟨n + 1, A3, L3, ?_⟩
  rw [zl_34_q, show nI i + 1 = nI (i + 1) from p1, o1, q1, show zX_turns 799 (xs (i + 1)) A L = _ from e1, zbi_s, o1, show zM_turns 799 (xs (i + 1)) A1 L1 = _ from e2, zbi_s, if_pos rfl]
  exact e4
theorem zca_35 : zCa N xs 35 := by
  intro i a A L h hN hr ha hk
  obtain ⟨p1, q1, o1⟩ := zxj h hN (j := 1) (by omega)
  obtain ⟨w, A1, L1, A2, L2, e1, e2, e3⟩ := zP_buys (d := 729) (xs (i + 1)) a A L hr ha
  obtain ⟨n, A3, L3, e4⟩ := hk A2 L2 e3
  refine ⟨n + 1, A3, L3, ?_⟩
  rw [zl_35_q, show nI i + 1 = nI (i + 1) from p1, o1, q1, show zX_buys 799 (xs (i + 1)) A L = _ from e1, zbi_s, o1, show zM_buys 799 (xs (i + 1)) A1 L1 = _ from e2, zbi_s, if_pos rfl]
  exact e4
theorem zca_36 : zCa N xs 36 := by
  intro i a A L h hN hr ha hk
  obtain ⟨p1, q1, o1⟩ := zxj h hN (j := 1) (by omega)
  obtain ⟨p2, q2, o2⟩ := zxj h hN (j := 2) (by omega)
  obtain ⟨w, A1, L1, A2, L2, e1, e2, e3⟩ := zP_price (d := 729) (xs (i + 1)) (xs (i + 2)) a A L hr ha
  obtain ⟨n, A3, L3, e4⟩ := hk A2 L2 e3
  refine ⟨n + 1, A3, L3, ?_⟩
  rw [zl_36_q, show nI i + 1 = nI (i + 1) from p1, o1, q1, show nI i + 2 = nI (i + 2) from p2, o2, q2, show zX_price 799 (xs (i + 1)) (xs (i + 2)) A L = _ from e1, zbi_s, o1, o2, show zM_price 799 (xs (i + 1)) (xs (i + 2)) A1 L1 = _ from e2, zbi_s, if_pos rfl]
  exact e4
theorem zca_37 : zCa N xs 37 := by
  intro i a A L h hN hr ha hk
  obtain ⟨p1, q1, o1⟩ := zxj h hN (j := 1) (by omega)
  obtain ⟨p2, q2, o2⟩ := zxj h hN (j := 2) (by omega)
  obtain ⟨w, A1, L1, A2, L2, e1, e2, e3⟩ := zP_lacks (d := 729) (xs (i + 1)) (xs (i + 2)) a A L hr ha
  obtain ⟨n, A3, L3, e4⟩ := hk A2 L2 e3
  refine ⟨n + 1, A3, L3, ?_⟩
  rw [zl_37_q, show nI i + 1 = nI (i + 1) from p1, o1, q1, show nI i + 2 = nI (i + 2) from p2, o2, q2, show zX_lacks 799 (xs (i + 1)) (xs (i + 2)) A L = _ from e1, zbi_s, o1, o2, show zM_lacks 799 (xs (i + 1)) (xs (i + 2)) A1 L1 = _ from e2, zbi_s, if_pos rfl]
  exact e4
theorem zca_38 : zCa N xs 38 := by
  intro i a A L h hN hr ha hk
  obtain ⟨p1, q1, o1⟩ := zxj h hN (j := 1) (by omega)
  obtain ⟨w, A1, L1, A2, L2, e1, e2, e3⟩ := zP_knows (d := 729) (xs (i + 1)) a A L hr ha
  obtain ⟨n, A3, L3, e4⟩ := hk A2 L2 e3
  refine ⟨n + 1, A3, L3, ?_⟩
  rw [zl_38_q, show nI i + 1 = nI (i + 1) from p1, o1, q1, show zX_knows 799 (xs (i + 1)) A L = _ from e1, zbi_s, o1, show zM_knows 799 (xs (i + 1)) A1 L1 = _ from e2, zbi_s, if_pos rfl]
  exact e4
theorem zca_39 : zCa N xs 39 := by
  intro i a A L h hN hr ha hk
  obtain ⟨p1, q1, o1⟩ := zxj h hN (j := 1) (by omega)
  obtain ⟨w, A1, L1, A2, L2, e1, e2, e3⟩ := zP_as (d := 729) (xs (i + 1)) a A L hr ha
  obtain ⟨n, A3, L3, e4⟩ := hk A2 L2 e3
  refine ⟨n + 1, A3, L3, ?_⟩
  rw [zl_39_q, show nI i + 1 = nI (i + 1) from p1, o1, q1, show zX_as 799 (xs (i + 1)) A L = _ from e1, zbi_s, o1, show zM_as 799 (xs (i + 1)) A1 L1 = _ from e2, zbi_s, if_pos rfl]
  exact e4
theorem zca_40 : zCa N xs 40 := by
  intro i a A L h hN hr ha hk
  obtain ⟨p1, q1, o1⟩ := zxj h hN (j := 1) (by omega)
  obtain ⟨p2, q2, o2⟩ := zxj h hN (j := 2) (by omega)
  obtain ⟨w, A1, L1, A2, L2, e1, e2, e3⟩ := zP_least (d := 729) (xs (i + 1)) (xs (i + 2)) a A L hr ha
  obtain ⟨n, A3, L3, e4⟩ := hk A2 L2 e3
  refine ⟨n + 1, A3, L3, ?_⟩
  rw [zl_40_q, show nI i + 1 = nI (i + 1) from p1, o1, q1, show nI i + 2 = nI (i + 2) from p2, o2, q2, show zX_least 799 (xs (i + 1)) (xs (i + 2)) A L = _ from e1, zbi_s, o1, o2, show zM_least 799 (xs (i + 1)) (xs (i + 2)) A1 L1 = _ from e2, zbi_s, if_pos rfl]
  exact e4
theorem zca_41 : zCa N xs 41 := by
  intro i a A L h hN hr ha hk
  obtain ⟨p1, q1, o1⟩ := zxj h hN (j := 1) (by omega)
  obtain ⟨w, A1, L1, A2, L2, e1, e2, e3⟩ := zP_kinds (d := 729) (xs (i + 1)) a A L hr ha
  obtain ⟨n, A3, L3, e4⟩ := hk A2 L2 e3
  refine ⟨n + 1, A3, L3, ?_⟩
  rw [zl_41_q, show nI i + 1 = nI (i + 1) from p1, o1, q1, show zX_kinds 799 (xs (i + 1)) A L = _ from e1, zbi_s, o1, show zM_kinds 799 (xs (i + 1)) A1 L1 = _ from e2, zbi_s, if_pos rfl]
  exact e4
theorem zca_42 : zCa N xs 42 := by
  intro i a A L h hN hr ha hk
  obtain ⟨p1, q1, o1⟩ := zxj h hN (j := 1) (by omega)
  obtain ⟨w, A1, L1, A2, L2, e1, e2, e3⟩ := zP_row (d := 729) (xs (i + 1)) a A L hr ha
  obtain ⟨n, A3, L3, e4⟩ := hk A2 L2 e3
  refine ⟨n + 1, A3, L3, ?_⟩
  rw [zl_42_q, show nI i + 1 = nI (i + 1) from p1, o1, q1, show zX_row 799 (xs (i + 1)) A L = _ from e1, zbi_s, o1, show zM_row 799 (xs (i + 1)) A1 L1 = _ from e2, zbi_s, if_pos rfl]
  exact e4
theorem zca_43 : zCa N xs 43 := by
  intro i a A L h hN hr ha hk
  obtain ⟨w, A1, L1, A2, L2, e1, e2, e3⟩ := zP_judge (d := 729) a A L hr ha
  obtain ⟨n, A3, L3, e4⟩ := hk A2 L2 e3
  refine ⟨n + 1, A3, L3, ?_⟩
  rw [zl_43_q, show zX_judge 799 A L = _ from e1, zbi_s, show zM_judge 799 A1 L1 = _ from e2, zbi_s, if_pos rfl]
  exact e4
theorem zca_44 : zCa N xs 44 := by
  intro i a A L h hN hr ha hk
  obtain ⟨p1, q1, o1⟩ := zxj h hN (j := 1) (by omega)
  obtain ⟨p2, q2, o2⟩ := zxj h hN (j := 2) (by omega)
  obtain ⟨p3, q3, o3⟩ := zxj h hN (j := 3) (by omega)
  obtain ⟨w, A1, L1, A2, L2, e1, e2, e3⟩ := zP_seeds (d := 729) (xs (i + 1)) (xs (i + 2)) (xs (i + 3)) a A L hr ha
  obtain ⟨n, A3, L3, e4⟩ := hk A2 L2 e3
  refine ⟨n + 1, A3, L3, ?_⟩
  rw [zl_44_q, show nI i + 1 = nI (i + 1) from p1, o1, q1, show nI i + 2 = nI (i + 2) from p2, o2, q2, show nI i + 3 = nI (i + 3) from p3, o3, q3, show zX_seeds 799 (xs (i + 1)) (xs (i + 2)) (xs (i + 3)) A L = _ from e1, zbi_s, o1, o2, o3, show zM_seeds 799 (xs (i + 1)) (xs (i + 2)) (xs (i + 3)) A1 L1 = _ from e2, zbi_s, if_pos rfl]
  exact e4
theorem zca_45 : zCa N xs 45 := by
  intro i a A L h hN hr ha hk
  obtain ⟨w, A1, L1, A2, L2, e1, e2, e3⟩ := zP_image (d := 729) a A L hr ha
  obtain ⟨n, A3, L3, e4⟩ := hk A2 L2 e3
  refine ⟨n + 1, A3, L3, ?_⟩
  rw [zl_45_q, show zX_image 799 A L = _ from e1, zbi_s, show zM_image 799 A1 L1 = _ from e2, zbi_s, if_pos rfl]
  exact e4
theorem zca_46 : zCa N xs 46 := by
  intro i a A L h hN hr ha hk
  obtain ⟨w, A1, L1, A2, L2, e1, e2, e3⟩ := zP_restore (d := 729) a A L hr ha
  obtain ⟨n, A3, L3, e4⟩ := hk A2 L2 e3
  refine ⟨n + 1, A3, L3, ?_⟩
  rw [zl_46_q, show zX_restore 799 A L = _ from e1, zbi_s, show zM_restore 799 A1 L1 = _ from e2, zbi_s, if_pos rfl]
  exact e4
theorem zca_47 : zCa N xs 47 := by
  intro i a A L h hN hr ha hk
  obtain ⟨p1, q1, o1⟩ := zxj h hN (j := 1) (by omega)
  obtain ⟨w, A1, L1, A2, L2, e1, e2, e3⟩ := zP_count (d := 729) (xs (i + 1)) a A L hr ha
  obtain ⟨n, A3, L3, e4⟩ := hk A2 L2 e3
  refine ⟨n + 1, A3, L3, ?_⟩
  rw [zl_47_q, show nI i + 1 = nI (i + 1) from p1, o1, q1, show zX_count 799 (xs (i + 1)) A L = _ from e1, zbi_s, o1, show zM_count 799 (xs (i + 1)) A1 L1 = _ from e2, zbi_s, if_pos rfl]
  exact e4
theorem zca_10 : zCa N xs 10 := by
  intro i a A L h hN hr ha hk
  obtain ⟨p1, q1, o1⟩ := zxj h hN (j := 1) (by omega)
  obtain ⟨p2, q2, o2⟩ := zxj h hN (j := 2) (by omega)
  obtain ⟨p3, q3, o3⟩ := zxj h hN (j := 3) (by omega)
  obtain ⟨w, A1, L1, A2, L2, e1, e2, e3⟩ := zP_word (d := 729) (xs (i + 1)) (xs (i + 2)) (!decide (xs (i + 3) = 0)) a A L hr ha
  obtain ⟨n, A3, L3, e4⟩ := hk A2 L2 e3
  by_cases h0 : xs (i + 3) = 0
  · rw [decide_eq_true h0] at e1 e2
    refine ⟨n + 5, A3, L3, ?_⟩
    rw [zl_10_q, show nI i + 1 = nI (i + 1) from p1, o1, q1, show nI i + 2 = nI (i + 2) from p2, o2, q2, show nI i + 3 = nI (i + 3) from p3, o3, q3, if_pos h0, zl_11_q, zl_12_q, show zX_word 799 (xs (i + 1)) (xs (i + 2)) 0 A L = _ from e1, zbi_s, show nI i + 1 = nI (i + 1) from p1, o1, q1, show nI i + 2 = nI (i + 2) from p2, o2, q2, show nI i + 3 = nI (i + 3) from p3, o3, q3, if_pos h0, zl_13_q, zl_14_q, show zM_word 799 (xs (i + 1)) (xs (i + 2)) 0 A1 L1 = _ from e2, zbi_s, if_pos rfl]
    exact e4
  · rw [decide_eq_false h0] at e1 e2
    refine ⟨n + 3, A3, L3, ?_⟩
    rw [zl_10_q, show nI i + 1 = nI (i + 1) from p1, o1, q1, show nI i + 2 = nI (i + 2) from p2, o2, q2, show nI i + 3 = nI (i + 3) from p3, o3, q3, if_neg h0, zl_12_q, show zX_word 799 (xs (i + 1)) (xs (i + 2)) 1 A L = _ from e1, zbi_s, show nI i + 1 = nI (i + 1) from p1, o1, q1, show nI i + 2 = nI (i + 2) from p2, o2, q2, show nI i + 3 = nI (i + 3) from p3, o3, q3, if_neg h0, zl_14_q, show zM_word 799 (xs (i + 1)) (xs (i + 2)) 1 A1 L1 = _ from e2, zbi_s, if_pos rfl]
    exact e4
/-- the first step of a turn of the law's loop -/
theorem zl_head {k : Nat} (h : i + 4 ≤ N) (hN : N ≤ 2048) (hk : k < 64) (hx : xs i &&& 63 = nI k) : zexL N xs (n + 1) 1 (zLw (nI i)) [] A L = zsw (nI k) [(0, 2), (1, 3), (2, 4), (3, 5), (4, 6), (5, 7), (6, 8), (7, 9), (8, 10), (9, 15), (10, 16), (11, 17), (12, 18), (13, 19), (14, 20), (15, 21), (16, 22), (17, 23), (18, 24), (19, 25), (20, 26), (21, 27), (22, 28), (23, 29), (24, 30), (25, 31), (26, 32), (27, 33), (28, 34), (29, 35), (30, 36), (31, 37), (32, 38), (33, 39), (34, 40), (35, 41), (36, 42), (37, 43), (38, 44), (39, 45), (40, 46), (41, 47)] (fun b => zjmp (fun b lv st A L => zexL N xs n b lv st A L) zbs_law b (zLw (nI i)) [] A L) (zexL N xs n 48 (zLw (nI i)) [] A L) := by
  have hlt : ¬ nI i > nI N - 4 := by
    intro h1
    have h2 := Int32.lt_iff_toInt_lt.mp h1
    rw [show nI N - 4 = nI N - nI 4 from rfl, pk_sub_toInt (by omega) (by omega), nI_toInt (by omega)] at h2
    omega
  rw [zl_1_q, if_neg hlt, zck_n (by omega) (by omega), nI_clamp (by omega), hx]
theorem zl_out (h : N < i + 4) (hN : N ≤ 2048) (hi : i < 4096) : zEv N xs 1 i A L := by
  refine ⟨2, A, L, ?_⟩
  have hlt : nI i > nI N - 4 := by
    show nI N - nI 4 < nI i
    rw [Int32.lt_iff_toInt_lt, pk_sub_toInt (by omega) (by omega), nI_toInt (by omega)]
    omega
  rw [zl_1_q, if_pos hlt, zl_49_q]
theorem zl_step (h : zEv N xs 1 (i + 4) A L) : zEv N xs 48 i A L := by
  obtain ⟨n, A', L', e⟩ := h
  exact ⟨n + 1, A', L', by rw [zl_48_q, show nI i + 4 = nI (i + 4) from nI_add i 4]; exact e⟩
/-- a call's number, with what is to be shown of it -/
theorem zl_turn {k : Nat} (hk : k < 64) : (∃ b, zCa N xs b ∧ ∀ n i A L, zsw (nI k) [(0, 2), (1, 3), (2, 4), (3, 5), (4, 6), (5, 7), (6, 8), (7, 9), (8, 10), (9, 15), (10, 16), (11, 17), (12, 18), (13, 19), (14, 20), (15, 21), (16, 22), (17, 23), (18, 24), (19, 25), (20, 26), (21, 27), (22, 28), (23, 29), (24, 30), (25, 31), (26, 32), (27, 33), (28, 34), (29, 35), (30, 36), (31, 37), (32, 38), (33, 39), (34, 40), (35, 41), (36, 42), (37, 43), (38, 44), (39, 45), (40, 46), (41, 47)] (fun b => zjmp (fun b lv st A L => zexL N xs n b lv st A L) zbs_law b (zLw (nI i)) [] A L) (zexL N xs n 48 (zLw (nI i)) [] A L) = zexL N xs n b (zLw (nI i)) [] A L) ∨ ∀ n i A L, zsw (nI k) [(0, 2), (1, 3), (2, 4), (3, 5), (4, 6), (5, 7), (6, 8), (7, 9), (8, 10), (9, 15), (10, 16), (11, 17), (12, 18), (13, 19), (14, 20), (15, 21), (16, 22), (17, 23), (18, 24), (19, 25), (20, 26), (21, 27), (22, 28), (23, 29), (24, 30), (25, 31), (26, 32), (27, 33), (28, 34), (29, 35), (30, 36), (31, 37), (32, 38), (33, 39), (34, 40), (35, 41), (36, 42), (37, 43), (38, 44), (39, 45), (40, 46), (41, 47)] (fun b => zjmp (fun b lv st A L => zexL N xs n b lv st A L) zbs_law b (zLw (nI i)) [] A L) (zexL N xs n 48 (zLw (nI i)) [] A L) = zexL N xs n 48 (zLw (nI i)) [] A L := by
  match k, hk with
  | 0, _ => exact Or.inl ⟨2, zca_2, fun n i A L => rfl⟩
  | 1, _ => exact Or.inl ⟨3, zca_3, fun n i A L => rfl⟩
  | 2, _ => exact Or.inl ⟨4, zca_4, fun n i A L => rfl⟩
  | 3, _ => exact Or.inl ⟨5, zca_5, fun n i A L => rfl⟩
  | 4, _ => exact Or.inl ⟨6, zca_6, fun n i A L => rfl⟩
  | 5, _ => exact Or.inl ⟨7, zca_7, fun n i A L => rfl⟩
  | 6, _ => exact Or.inl ⟨8, zca_8, fun n i A L => rfl⟩
  | 7, _ => exact Or.inl ⟨9, zca_9, fun n i A L => rfl⟩
  | 8, _ => exact Or.inl ⟨10, zca_10, fun n i A L => rfl⟩
  | 9, _ => exact Or.inl ⟨15, zca_15, fun n i A L => rfl⟩
  | 10, _ => exact Or.inl ⟨16, zca_16, fun n i A L => rfl⟩
  | 11, _ => exact Or.inl ⟨17, zca_17, fun n i A L => rfl⟩
  | 12, _ => exact Or.inl ⟨18, zca_18, fun n i A L => rfl⟩
  | 13, _ => exact Or.inl ⟨19, zca_19, fun n i A L => rfl⟩
  | 14, _ => exact Or.inl ⟨20, zca_20, fun n i A L => rfl⟩
  | 15, _ => exact Or.inl ⟨21, zca_21, fun n i A L => rfl⟩
  | 16, _ => exact Or.inl ⟨22, zca_22, fun n i A L => rfl⟩
  | 17, _ => exact Or.inl ⟨23, zca_23, fun n i A L => rfl⟩
  | 18, _ => exact Or.inl ⟨24, zca_24, fun n i A L => rfl⟩
  | 19, _ => exact Or.inl ⟨25, zca_25, fun n i A L => rfl⟩
  | 20, _ => exact Or.inl ⟨26, zca_26, fun n i A L => rfl⟩
  | 21, _ => exact Or.inl ⟨27, zca_27, fun n i A L => rfl⟩
  | 22, _ => exact Or.inl ⟨28, zca_28, fun n i A L => rfl⟩
  | 23, _ => exact Or.inl ⟨29, zca_29, fun n i A L => rfl⟩
  | 24, _ => exact Or.inl ⟨30, zca_30, fun n i A L => rfl⟩
  | 25, _ => exact Or.inl ⟨31, zca_31, fun n i A L => rfl⟩
  | 26, _ => exact Or.inl ⟨32, zca_32, fun n i A L => rfl⟩
  | 27, _ => exact Or.inl ⟨33, zca_33, fun n i A L => rfl⟩
  | 28, _ => exact Or.inl ⟨34, zca_34, fun n i A L => rfl⟩
  | 29, _ => exact Or.inl ⟨35, zca_35, fun n i A L => rfl⟩
  | 30, _ => exact Or.inl ⟨36, zca_36, fun n i A L => rfl⟩
  | 31, _ => exact Or.inl ⟨37, zca_37, fun n i A L => rfl⟩
  | 32, _ => exact Or.inl ⟨38, zca_38, fun n i A L => rfl⟩
  | 33, _ => exact Or.inl ⟨39, zca_39, fun n i A L => rfl⟩
  | 34, _ => exact Or.inl ⟨40, zca_40, fun n i A L => rfl⟩
  | 35, _ => exact Or.inl ⟨41, zca_41, fun n i A L => rfl⟩
  | 36, _ => exact Or.inl ⟨42, zca_42, fun n i A L => rfl⟩
  | 37, _ => exact Or.inl ⟨43, zca_43, fun n i A L => rfl⟩
  | 38, _ => exact Or.inl ⟨44, zca_44, fun n i A L => rfl⟩
  | 39, _ => exact Or.inl ⟨45, zca_45, fun n i A L => rfl⟩
  | 40, _ => exact Or.inl ⟨46, zca_46, fun n i A L => rfl⟩
  | 41, _ => exact Or.inl ⟨47, zca_47, fun n i A L => rfl⟩
  | 42, _ => exact Or.inr (fun n i A L => rfl)
  | 43, _ => exact Or.inr (fun n i A L => rfl)
  | 44, _ => exact Or.inr (fun n i A L => rfl)
  | 45, _ => exact Or.inr (fun n i A L => rfl)
  | 46, _ => exact Or.inr (fun n i A L => rfl)
  | 47, _ => exact Or.inr (fun n i A L => rfl)
  | 48, _ => exact Or.inr (fun n i A L => rfl)
  | 49, _ => exact Or.inr (fun n i A L => rfl)
  | 50, _ => exact Or.inr (fun n i A L => rfl)
  | 51, _ => exact Or.inr (fun n i A L => rfl)
  | 52, _ => exact Or.inr (fun n i A L => rfl)
  | 53, _ => exact Or.inr (fun n i A L => rfl)
  | 54, _ => exact Or.inr (fun n i A L => rfl)
  | 55, _ => exact Or.inr (fun n i A L => rfl)
  | 56, _ => exact Or.inr (fun n i A L => rfl)
  | 57, _ => exact Or.inr (fun n i A L => rfl)
  | 58, _ => exact Or.inr (fun n i A L => rfl)
  | 59, _ => exact Or.inr (fun n i A L => rfl)
  | 60, _ => exact Or.inr (fun n i A L => rfl)
  | 61, _ => exact Or.inr (fun n i A L => rfl)
  | 62, _ => exact Or.inr (fun n i A L => rfl)
  | 63, _ => exact Or.inr (fun n i A L => rfl)
  | k + 64, h => omega
theorem zl_loop (hN : N ≤ 2048) : ∀ q i a A L, N < i + 4 * (q + 1) → i < 2100 → RR a A → a + 30 * q + 30 < 1048576 → zEv N xs 1 i A L := by
  intro q
  induction q with
  | zero =>
    intro i a A L hq hi hr ha
    exact zl_out (by omega) hN (by omega)
  | succ q ih =>
    intro i a A L hq hi hr ha
    by_cases h : N < i + 4
    · exact zl_out h hN (by omega)
    · have h4 : i + 4 ≤ N := by omega
      have hk : ∃ k, k < 64 ∧ xs i &&& 63 = nI k := by
        have hx : xs i = nI (xs i).toBitVec.toNat := Int32.toBitVec_inj.1 (show (xs i).toBitVec = BitVec.ofNat 32 (xs i).toBitVec.toNat by simp)
        refine ⟨(xs i).toBitVec.toNat % 64, Nat.mod_lt _ (by omega), ?_⟩
        rw [← nI_and63, ← hx]
      obtain ⟨k, hk, hx⟩ := hk
      rcases zl_turn (N := N) (xs := xs) hk with ⟨b, hc, hb⟩ | hb
      · obtain ⟨n, A', L', e⟩ := hc i a A L h4 hN hr (by omega) (fun A2 L2 hr2 => zl_step (ih (i + 4) (a + 30) A2 L2 (by omega) (by omega) hr2 (by omega)))
        exact ⟨n + 1, A', L', by rw [zl_head h4 hN hk hx, hb]; exact e⟩
      · obtain ⟨n, A', L', e⟩ := zl_step (ih (i + 4) a A L (by omega) (by omega) hr (by omega))
        exact ⟨n + 1, A', L', by rw [zl_head h4 hN hk hx, hb]; exact e⟩
/-- what the two makers leave is alike -/
theorem RR_0 : RR 0 zA0 := by
  have hz : ∀ c, c ≠ 1 → c ≤ 16 → ∀ j, zv zA0 c j = 0 := fun c h1 h2 j => by
    rw [zv_at h2]
    unfold zA0
    rw [if_neg h1, if_neg (by omega), if_neg (by omega), if_neg (by omega)]
  have h0 : ∀ b, 0 < b → zIs b (0 : Int32) := fun b hb => ⟨0, hb, rfl⟩
  have hR : vR (zv zA0) = 0 := by unfold vR; rw [hz 2 (by decide) (by decide)]; decide
  have hP : vP (zv zA0) = 0 := by unfold vP; rw [hz 9 (by decide) (by decide)]; decide
  have hS : vSz (zv zA0) = 0 := by unfold vSz; rw [hz 14 (by decide) (by decide)]; decide
  have hsp : vSp (zv zA0) = 0 := by unfold vSp; rw [hz 16 (by decide) (by decide)]; decide
  have hok : Ok (zv zA0) := by
    refine ⟨?_, ?_, fun r hr => ⟨?_, ?_, ?_, Or.inr ?_⟩, fun r q hr => ?_, fun i hi => ?_, fun s hs => ?_, fun s t hs ht => ?_, fun r hr => ?_, ?_, fun p hp => ⟨?_, ?_⟩, fun i hi => ?_, fun i hi => ?_, fun i hi => ?_, fun i j hi => ?_, ?_, ?_, ?_, ?_, ?_, ?_, fun i hi => ?_⟩
    · rw [hz 2 (by decide) (by decide)]; exact h0 _ (by decide)
    · rw [hz 2 (by decide) (by decide)]; exact h0 _ (by decide)
    · rw [hz 3 (by decide) (by decide)]; exact h0 _ (by decide)
    · rw [hz 4 (by decide) (by decide)]; exact h0 _ (by decide)
    · rw [hz 5 (by decide) (by decide)]; exact h0 _ (by decide)
    · rw [hz 6 (by decide) (by decide)]; exact h0 _ (by decide)
    · omega
    · rw [hz 7 (by decide) (by decide)]; exact h0 _ (by decide)
    · rw [hz 8 (by decide) (by decide)]; exact h0 _ (by decide)
    · have hw : vWf (zv zA0) s = 0 := by unfold vWf; rw [hz 8 (by decide) (by decide)]; decide
      rw [hw, hR, Nat.zero_testBit]
      constructor
      · intro h; cases h
      · rintro ⟨h, -⟩; omega
    · omega
    · rw [hz 9 (by decide) (by decide)]; exact h0 _ (by decide)
    · rw [hz 10 (by decide) (by decide)]; exact h0 _ (by decide)
    · rw [hz 11 (by decide) (by decide)]; exact h0 _ (by decide)
    · rw [hz 12 (by decide) (by decide)]; decide
    · rw [hz 13 (by decide) (by decide)]; exact h0 _ (by decide)
    · omega
    · omega
    · exact ⟨6, by decide, rfl⟩
    · show 0 < (zv zA0 1 3).toNatClampNeg
      rw [show zv zA0 1 3 = 6 from rfl]; decide
    · exact ⟨5, by decide, rfl⟩
    · rw [hz 14 (by decide) (by decide)]; exact h0 _ (by decide)
    · exact Or.inl (hz 14 (by decide) (by decide) 3)
    · exact hz 16 (by decide) (by decide) 0
    · omega
  refine ⟨hok, ⟨rfl, rfl, rfl, rfl, rfl, rfl, rfl, rfl, rfl, rfl, rfl, rfl, rfl, rfl, rfl, rfl, ?_, ?_⟩, rfl, rfl, ⟨0, by omega, rfl, rfl⟩, rfl, ⟨0, by omega, rfl, rfl, fun i hi => absurd hi (Nat.not_lt_zero i)⟩, rfl, Or.inl ⟨rfl, rfl⟩, 0, Nat.le_refl 0, rfl, fun i _ => ⟨⟨0, rfl, by decide⟩, 0, rfl, by decide⟩⟩
  · unfold vSt; rw [hsp]; rfl
  · unfold vMe; rw [hsp]; rfl
theorem zPure_ok : zPure := by
  intro N xs hN
  obtain ⟨n, A, L, e⟩ := zl_loop (N := N) (xs := xs) hN 512 0 0 zA0 zL0 (by omega) (by omega) RR_0 (by omega)
  exact ⟨n, A, L, e⟩
end PU
