set_option maxRecDepth 100000 in
set_option maxHeartbeats 4000000 in
theorem mX6_aim (Y : zY) (x0 : Int32) (M : zMem) (b : zMem) (hF : FX6_aim x0 M = some b) : zMt Y yX6_aim cX6_aim 4 none 0 0 [.ref 34, .int x0] M (zQv Y b) := by
  refine zMt_of (own := RX6) (by decide +kernel) rfl (Nat.le_of_ble_eq_true rfl) (fun X C => ?_)
  have key : zR Y X 4 (zFv Y X (fun b => b)) (FX6_aim x0 M) 0 [(0, .ref 34), (1, .int x0)] [] M := by
    unfold FX6_aim
    refine z_iload_n C 1 dX6_aim_0 rfl rfl rfl ?_
    refine z_istoreP_n (lo' := [(2, .int x0), (0, .ref 34), (1, .int x0)]) C dX6_aim_1 rfl (by decide) rfl rfl ?_
    refine z_iconst C (0 : Int32) dX6_aim_2 rfl rfl ?_
    refine z_istoreP_n (lo' := [(3, .int (0 : Int32)), (2, .int x0), (0, .ref 34), (1, .int x0)]) C dX6_aim_3 rfl (by decide) rfl rfl ?_
    refine z_loop (sM := fun s => s.2.2) (sl := fun s => [(0, .ref 34), (2, .int s.1), (3, .int s.2.1)]) [2, 1, 0] rfl rfl (fun r2 hr2 s3 => ?_)
    unfold FX6_aim_L4
    refine z_iload_n C 2 dX6_aim_4 rfl rfl rfl ?_
    refine z_aload_n C 0 dX6_aim_5 rfl rfl rfl ?_
    refine z_get (v := .int (s3.2.2.1 34 12)) C 12 zOK6 rfl (by decide) w247 rfl rfl dX6_aim_6 rfl ?_
    refine z_icmpge C dX6_aim_9 rfl rfl ?_ ?_
    · exact z_vret C rfl dX6_aim_42
    · refine z_aload_n C 0 dX6_aim_12 rfl rfl rfl ?_
      refine z_get (v := .ref 93) C 9 zOK6 rfl (by decide) w244 rfl rfl dX6_aim_13 rfl ?_
      refine z_iload_n C 2 dX6_aim_16 rfl rfl rfl ?_
      refine z_iload_n C 2 dX6_aim_17 rfl rfl rfl ?_
      refine z_bipush C (16 : Int32) dX6_aim_18 rfl rfl ?_
      refine z_imul C dX6_aim_20 rfl ?_
      refine z_iload_n C 1 dX6_aim_21 rfl rfl rfl ?_
      refine z_aload_n C 0 dX6_aim_22 rfl rfl rfl ?_
      refine z_get (v := .int (s3.2.2.1 34 13)) C 13 zOK6 rfl (by decide) w248 rfl rfl dX6_aim_23 rfl ?_
      refine z_irem C dX6_aim_26 rfl ?_
      refine z_iadd C dX6_aim_27 rfl ?_
      refine z_iastore C 3 rfl dX6_aim_28 rfl (fun M4 => ?_)
      refine z_iload_n C 1 dX6_aim_29 rfl rfl rfl ?_
      refine z_aload_n C 0 dX6_aim_30 rfl rfl rfl ?_
      refine z_get (v := .int (M4.1 34 13)) C 13 zOK6 rfl (by decide) w248 rfl rfl dX6_aim_31 rfl ?_
      refine z_idiv C dX6_aim_34 rfl ?_
      refine z_istore_n C (fun z => [(2, .int z), (0, .ref 34), (3, .int s3.2.1)]) dX6_aim_35 rfl (by decide) (fun _ => rfl) rfl (fun x5 => ?_)
      refine z_iinc (v := (s3.2.1 + (1 : Int32))) C 2 (fun z => [(3, .int z), (2, .int x5), (0, .ref 34)]) dX6_aim_36 rfl rfl (by decide) (fun _ => rfl) rfl (fun x6 => ?_)
      refine z_goto C dX6_aim_39 rfl ?_
      exact z_perm [2, 1, 0] rfl (hr2 (x5, x6, M4))
  exact key b hF
set_option maxRecDepth 100000 in
set_option maxHeartbeats 4000000 in
theorem mX6_shownBy (Y : zY) (x0 : Int32) (M : zMem) (b : Int32) (hF : FX6_shownBy x0 M = some b) : zMt Y yX6_shownBy cX6_shownBy 4 (some .int) 0 0 [.ref 34, .int x0] M (zQi Y b M) := by
  refine zMt_of (own := RX6) (by decide +kernel) rfl (Nat.le_of_ble_eq_true rfl) (fun X C => ?_)
  have key : zR Y X 4 (zFi Y X (fun b => b) (fun _ => M)) (FX6_shownBy x0 M) 0 [(0, .ref 34), (1, .int x0)] [] M := by
    unfold FX6_shownBy
    refine z_aload_n C 0 dX6_shownBy_0 rfl rfl rfl ?_
    refine z_get (v := .ref 55) C 7 zOK6 rfl (by decide) w242 rfl rfl dX6_shownBy_1 rfl ?_
    refine z_iload_n C 1 dX6_shownBy_4 rfl rfl rfl ?_
    refine z_iaload C 36 rfl dX6_shownBy_5 rfl ?_
    refine z_istore_n C (fun z => [(2, .int z), (0, .ref 34), (1, .int x0)]) dX6_shownBy_6 rfl (by decide) (fun _ => rfl) rfl (fun x2 => ?_)
    refine z_iconst C (0 : Int32) dX6_shownBy_7 rfl rfl ?_
    refine z_istoreP_n (lo' := [(3, .int (0 : Int32)), (2, .int x2), (0, .ref 34), (1, .int x0)]) C dX6_shownBy_8 rfl (by decide) rfl rfl ?_
    refine z_loop (sM := fun s => M) (sl := fun s => [(0, .ref 34), (1, .int x0), (2, .int s.1), (3, .int s.2)]) [2, 3, 1, 0] rfl rfl (fun r3 hr3 s4 => ?_)
    unfold FX6_shownBy_L9
    refine z_iload_n C 3 dX6_shownBy_9 rfl rfl rfl ?_
    refine z_aload_n C 0 dX6_shownBy_10 rfl rfl rfl ?_
    refine z_get (v := .int (M.1 34 12)) C 12 zOK6 rfl (by decide) w247 rfl rfl dX6_shownBy_11 rfl ?_
    refine z_icmpge C dX6_shownBy_14 rfl rfl ?_ ?_
    · refine z_iload_n C 2 dX6_shownBy_39 rfl rfl rfl ?_
      exact z_iret C rfl rfl dX6_shownBy_40
    · refine z_iload_n C 2 dX6_shownBy_17 rfl rfl rfl ?_
      refine z_aload_n C 0 dX6_shownBy_18 rfl rfl rfl ?_
      refine z_get (v := .ref 56) C 8 zOK6 rfl (by decide) w243 rfl rfl dX6_shownBy_19 rfl ?_
      refine z_iload_n C 1 dX6_shownBy_22 rfl rfl rfl ?_
      refine z_aaload C 36 rfl dX6_shownBy_23 rfl ?_
      refine z_aload_n C 0 dX6_shownBy_24 rfl rfl rfl ?_
      refine z_get (v := .ref 93) C 9 zOK6 rfl (by decide) w244 rfl rfl dX6_shownBy_25 rfl ?_
      refine z_iload_n C 3 dX6_shownBy_28 rfl rfl rfl ?_
      refine z_iaload C 3 rfl dX6_shownBy_29 rfl ?_
      refine z_iaload C (zlenI (zrow 56 x0)) rfl dX6_shownBy_30 rfl ?_
      refine z_isub C dX6_shownBy_31 rfl ?_
      refine z_istore_n C (fun z => [(2, .int z), (0, .ref 34), (1, .int x0), (3, .int s4.2)]) dX6_shownBy_32 rfl (by decide) (fun _ => rfl) rfl (fun x5 => ?_)
      refine z_iinc (v := (s4.2 + (1 : Int32))) C 3 (fun z => [(3, .int z), (2, .int x5), (0, .ref 34), (1, .int x0)]) dX6_shownBy_33 rfl rfl (by decide) (fun _ => rfl) rfl (fun x6 => ?_)
      refine z_goto C dX6_shownBy_36 rfl ?_
      exact z_perm [2, 3, 1, 0] rfl (hr3 (x5, x6))
  exact key b hF
set_option maxRecDepth 100000 in
set_option maxHeartbeats 4000000 in
theorem mX6_holds (Y : zY) (x0 : Int32) (M : zMem) (b : Int32 × zMem) (hF : FX6_holds x0 M = some b) : zMt Y yX6_holds cX6_holds 3 (some .boolean) 1 23 [.ref 34, .int x0] M (zQi Y b.1 b.2) := by
  refine zMt_of (own := RX6) (by decide +kernel) rfl (Nat.le_of_ble_eq_true rfl) (fun X C => ?_)
  have key : zR Y X 3 (zFi Y X (fun b => b.1) (fun b => b.2)) (FX6_holds x0 M) 0 [(0, .ref 34), (1, .int x0)] [] M := by
    unfold FX6_holds
    refine z_aload_n C 0 dX6_holds_0 rfl rfl rfl ?_
    refine z_iload_n C 1 dX6_holds_1 rfl rfl rfl ?_
    refine z_cv (fun b => b) (fun b hb => z_V (na := 1) (ci := 6) (r := (RX6, TX6, 18)) C [.int x0] rfl (mX6_aim Y x0 M b hb) rfl rfl w670 w672 w34 w85 w673 hdX6_aim ⟨Nat.le_of_ble_eq_true rfl, Nat.le_of_ble_eq_true rfl⟩ (Nat.le_of_ble_eq_true rfl) rfl dX6_holds_2) rfl (fun b2 => ?_)
    refine z_iconst C (0 : Int32) dX6_holds_5 rfl rfl ?_
    refine z_istoreP_n (lo' := [(2, .int (0 : Int32)), (0, .ref 34), (1, .int x0)]) C dX6_holds_6 rfl (by decide) rfl rfl ?_
    refine z_loop (sM := fun s => b2) (sl := fun s => [(0, .ref 34), (2, .int s)]) [1, 0] rfl rfl (fun r3 hr3 s4 => ?_)
    unfold FX6_holds_L7
    refine z_iload_n C 1 dX6_holds_7 rfl rfl rfl ?_
    refine z_iconst C (2 : Int32) dX6_holds_8 rfl rfl ?_
    refine z_aload_n C 0 dX6_holds_9 rfl rfl rfl ?_
    refine z_get (v := .int (b2.1 34 4)) C 4 zOK6 rfl (by decide) w236 rfl rfl dX6_holds_10 rfl ?_
    refine z_imul C dX6_holds_13 rfl ?_
    refine z_icmpge C dX6_holds_14 rfl rfl ?_ ?_
    · refine z_iconst C (1 : Int32) dX6_holds_40 rfl rfl ?_
      exact z_zretK C rfl rfl rfl dX6_holds_41
    · refine z_aload_n C 0 dX6_holds_17 rfl rfl rfl ?_
      refine z_iload_n C 1 dX6_holds_18 rfl rfl rfl ?_
      refine z_ci (fun b => b) (fun _ => b2) (fun b hb => z_V (na := 1) (ci := 6) (r := (RX6, TX6, 18)) C [.int s4] rfl (mX6_shownBy Y s4 b2 b hb) rfl rfl w674 w676 w35 w85 w677 hdX6_shownBy ⟨Nat.le_of_ble_eq_true rfl, Nat.le_of_ble_eq_true rfl⟩ (Nat.le_of_ble_eq_true rfl) rfl dX6_holds_19) rfl (fun b5 => ?_)
      refine z_ci (fun b => b) (fun _ => b2) (fun b hb => z_S (na := 1) C [.int b5] rfl (mJ9_abs_0f7a4 Y b5 b2 b hb) w678 w567 w89 w568 hdJ9_abs_0f7a4 ⟨Nat.le_of_ble_eq_true rfl, Nat.le_of_ble_eq_true rfl⟩ (Nat.le_of_ble_eq_true rfl) rfl dX6_holds_22) rfl (fun b6 => ?_)
      refine z_aload_n C 0 dX6_holds_25 rfl rfl rfl ?_
      refine z_get (v := .int (b2.1 34 6)) C 6 zOK6 rfl (by decide) w240 rfl rfl dX6_holds_26 rfl ?_
      refine z_icmple C dX6_holds_29 rfl rfl ?_ ?_
      · refine z_iinc (v := (s4 + (1 : Int32))) C 1 (fun z => [(2, .int z), (0, .ref 34)]) dX6_holds_34 rfl rfl (by decide) (fun _ => rfl) rfl (fun x7 => ?_)
        refine z_goto C dX6_holds_37 rfl ?_
        exact z_perm [1, 0] rfl (hr3 x7)
      · refine z_iconst C (0 : Int32) dX6_holds_32 rfl rfl ?_
        exact z_zretK C rfl rfl rfl dX6_holds_33
  exact key b hF
set_option maxRecDepth 100000 in
set_option maxHeartbeats 4000000 in
theorem mX6_gather (Y : zY) (M : zMem) (b : zMem) (hF : FX6_gather M = some b) : zMt Y yX6_gather cX6_gather 2 none 2 45 [.ref 34] M (zQv Y b) := by
  refine zMt_of (own := RX6) (by decide +kernel) rfl (Nat.le_of_ble_eq_true rfl) (fun X C => ?_)
  have key : zR Y X 2 (zFv Y X (fun b => b)) (FX6_gather M) 0 [(0, .ref 34)] [] M := by
    unfold FX6_gather
    refine z_aload_n C 0 dX6_gather_0 rfl rfl rfl ?_
    refine z_get (v := .int (M.1 34 17)) C 17 zOK6 rfl (by decide) w255 rfl rfl dX6_gather_1 rfl ?_
    refine z_ifeq C dX6_gather_4 rfl rfl ?_ ?_
    · refine z_aload_n C 0 dX6_gather_8 rfl rfl rfl ?_
      refine z_iconst C (0 : Int32) dX6_gather_9 rfl rfl ?_
      refine z_puti C 15 zOK6 rfl (by decide) w251 rfl rfl rfl rfl rfl dX6_gather_10 rfl (fun M1 => ?_)
      refine z_iconst C (0 : Int32) dX6_gather_13 rfl rfl ?_
      refine z_istoreP_n (lo' := [(1, .int (0 : Int32)), (0, .ref 34)]) C dX6_gather_14 rfl (by decide) rfl rfl ?_
      refine z_loop (sM := fun s => s.2) (sl := fun s => [(0, .ref 34), (1, .int s.1)]) [1, 0] rfl rfl (fun r2 hr2 s3 => ?_)
      unfold FX6_gather_L15
      refine z_iload_n C 1 dX6_gather_15 rfl rfl rfl ?_
      refine z_aload_n C 0 dX6_gather_16 rfl rfl rfl ?_
      refine z_get (v := .int (s3.2.1 34 14)) C 14 zOK6 rfl (by decide) w249 rfl rfl dX6_gather_17 rfl ?_
      refine z_join (fun k5 => ∀ (u4 : Unit), zR Y X 2 (zFv Y X (fun b => b)) (k5 u4) 64 [(0, .ref 34)] [] s3.2) (fun u4 => ?_) (fun k5 hk5 => ?_)
      · refine z_aload_n C 0 dX6_gather_64 rfl rfl rfl ?_
        refine z_iconst C (1 : Int32) dX6_gather_65 rfl rfl ?_
        refine z_puti C 17 zOK6 rfl (by decide) w255 rfl rfl rfl rfl rfl dX6_gather_66 rfl (fun M6 => ?_)
        exact z_vret C rfl dX6_gather_69
      · refine z_icmpge C dX6_gather_20 rfl rfl ?_ ?_
        · exact z_perm [0] rfl (hk5 ())
        · refine z_iload_n C 1 dX6_gather_23 rfl rfl rfl ?_
          refine z_sipush C (4096 : Int32) dX6_gather_24 rfl rfl ?_
          refine z_icmpge C dX6_gather_27 rfl rfl ?_ ?_
          · exact z_perm [0] rfl (hk5 ())
          · refine z_aload_n C 0 dX6_gather_30 rfl rfl rfl ?_
            refine z_iload_n C 1 dX6_gather_31 rfl rfl rfl ?_
            refine z_ci (fun b => b.1) (fun b => b.2) (fun b hb => z_V (na := 1) (ci := 6) (r := (RX6, TX6, 18)) C [.int s3.1] rfl (mX6_holds Y s3.1 s3.2 b hb) rfl rfl w687 w668 w33 w85 w669 hdX6_holds ⟨Nat.le_of_ble_eq_true rfl, Nat.le_of_ble_eq_true rfl⟩ (Nat.le_of_ble_eq_true rfl) rfl dX6_gather_32) rfl (fun b7 => ?_)
            refine z_ifeq C dX6_gather_35 rfl rfl ?_ ?_
            · refine z_iinc (v := (s3.1 + (1 : Int32))) C 1 (fun z => [(1, .int z), (0, .ref 34)]) dX6_gather_58 rfl rfl (by decide) (fun _ => rfl) rfl (fun x8 => ?_)
              refine z_goto C dX6_gather_61 rfl ?_
              exact z_perm [1, 0] rfl (hr2 (x8, b7.2))
            · refine z_aload_n C 0 dX6_gather_38 rfl rfl rfl ?_
              refine z_get (v := .ref 94) C 10 zOK6 rfl (by decide) w245 rfl rfl dX6_gather_39 rfl ?_
              refine z_aload_n C 0 dX6_gather_42 rfl rfl rfl ?_
              refine z_get (v := .int (b7.2.1 34 15)) C 15 zOK6 rfl (by decide) w251 rfl rfl dX6_gather_43 rfl ?_
              refine z_iload_n C 1 dX6_gather_46 rfl rfl rfl ?_
              refine z_iastore C 4096 rfl dX6_gather_47 rfl (fun M9 => ?_)
              refine z_aload_n C 0 dX6_gather_48 rfl rfl rfl ?_
              refine z_dup C dX6_gather_49 rfl rfl ?_
              refine z_get (v := .int (M9.1 34 15)) C 15 zOK6 rfl (by decide) w251 rfl rfl dX6_gather_50 rfl ?_
              refine z_iconst C (1 : Int32) dX6_gather_53 rfl rfl ?_
              refine z_iadd C dX6_gather_54 rfl ?_
              refine z_puti C 15 zOK6 rfl (by decide) w251 rfl rfl rfl rfl rfl dX6_gather_55 rfl (fun M10 => ?_)
              refine z_iinc (v := (s3.1 + (1 : Int32))) C 1 (fun z => [(1, .int z), (0, .ref 34)]) dX6_gather_58 rfl rfl (by decide) (fun _ => rfl) rfl (fun x11 => ?_)
              refine z_goto C dX6_gather_61 rfl ?_
              exact z_perm [1, 0] rfl (hr2 (x11, M10))
    · exact z_vret C rfl dX6_gather_7
  exact key b hF
set_option maxRecDepth 100000 in
set_option maxHeartbeats 4000000 in
theorem mX6_weightOf (Y : zY) (x0 : Int32) (x1 : Int32) (M : zMem) (b : Int32) (hF : FX6_weightOf x0 x1 M = some b) : zMt Y yX6_weightOf cX6_weightOf 5 (some .int) 0 0 [.ref 34, .int x0, .int x1] M (zQi Y b M) := by
  refine zMt_of (own := RX6) (by decide +kernel) rfl (Nat.le_of_ble_eq_true rfl) (fun X C => ?_)
  have key : zR Y X 5 (zFi Y X (fun b => b) (fun _ => M)) (FX6_weightOf x0 x1 M) 0 [(0, .ref 34), (1, .int x0), (2, .int x1)] [] M := by
    unfold FX6_weightOf
    refine z_iload_n C 1 dX6_weightOf_0 rfl rfl rfl ?_
    refine z_istoreP_n (lo' := [(3, .int x0), (0, .ref 34), (1, .int x0), (2, .int x1)]) C dX6_weightOf_1 rfl (by decide) rfl rfl ?_
    refine z_iconst C (0 : Int32) dX6_weightOf_2 rfl rfl ?_
    refine z_istoreP (lo' := [(4, .int (0 : Int32)), (3, .int x0), (0, .ref 34), (1, .int x0), (2, .int x1)]) C dX6_weightOf_3 (by decide) rfl rfl ?_
    refine z_loop (sM := fun s => M) (sl := fun s => [(0, .ref 34), (2, .int x1), (3, .int s.1), (4, .int s.2)]) [2, 4, 1, 0] rfl rfl (fun r3 hr3 s4 => ?_)
    unfold FX6_weightOf_L5
    refine z_iload C 3 dX6_weightOf_5 rfl rfl ?_
    refine z_iload_n C 1 dX6_weightOf_7 rfl rfl rfl ?_
    refine z_icmpge C dX6_weightOf_8 rfl rfl ?_ ?_
    · refine z_iload_n C 2 dX6_weightOf_24 rfl rfl rfl ?_
      refine z_aload_n C 0 dX6_weightOf_25 rfl rfl rfl ?_
      refine z_get (v := .int (M.1 34 13)) C 13 zOK6 rfl (by decide) w248 rfl rfl dX6_weightOf_26 rfl ?_
      refine z_irem C dX6_weightOf_29 rfl ?_
      exact z_iret C rfl rfl dX6_weightOf_30
    · refine z_iload_n C 2 dX6_weightOf_11 rfl rfl rfl ?_
      refine z_aload_n C 0 dX6_weightOf_12 rfl rfl rfl ?_
      refine z_get (v := .int (M.1 34 13)) C 13 zOK6 rfl (by decide) w248 rfl rfl dX6_weightOf_13 rfl ?_
      refine z_idiv C dX6_weightOf_16 rfl ?_
      refine z_istore_n C (fun z => [(3, .int z), (0, .ref 34), (2, .int x1), (4, .int s4.2)]) dX6_weightOf_17 rfl (by decide) (fun _ => rfl) rfl (fun x5 => ?_)
      refine z_iinc (v := (s4.2 + (1 : Int32))) C 3 (fun z => [(4, .int z), (3, .int x5), (0, .ref 34), (2, .int x1)]) dX6_weightOf_18 rfl rfl (by decide) (fun _ => rfl) rfl (fun x6 => ?_)
      refine z_goto C dX6_weightOf_21 rfl ?_
      exact z_perm [2, 3, 1, 0] rfl (hr3 (x5, x6))
  exact key b hF
set_option maxRecDepth 100000 in
set_option maxHeartbeats 4000000 in
theorem mX6_least (Y : zY) (M : zMem) (b : Int32) (hF : FX6_least M = some b) : zMt Y yX6_least cX6_least 6 (some .int) 1 24 [.ref 34] M (zQi Y b M) := by
  refine zMt_of (own := RX6) (by decide +kernel) rfl (Nat.le_of_ble_eq_true rfl) (fun X C => ?_)
  have key : zR Y X 6 (zFi Y X (fun b => b) (fun _ => M)) (FX6_least M) 0 [(0, .ref 34)] [] M := by
    unfold FX6_least
    refine z_bipush C (-9 : Int32) dX6_least_0 rfl rfl ?_
    refine z_istoreP_n (lo' := [(1, .int (-9 : Int32)), (0, .ref 34)]) C dX6_least_2 rfl (by decide) rfl rfl ?_
    refine z_iconst C (0 : Int32) dX6_least_3 rfl rfl ?_
    refine z_istoreP_n (lo' := [(2, .int (0 : Int32)), (1, .int (-9 : Int32)), (0, .ref 34)]) C dX6_least_4 rfl (by decide) rfl rfl ?_
    refine z_iconst C (0 : Int32) dX6_least_5 rfl rfl ?_
    refine z_istoreP_n (lo' := [(3, .int (0 : Int32)), (2, .int (0 : Int32)), (1, .int (-9 : Int32)), (0, .ref 34)]) C dX6_least_6 rfl (by decide) rfl rfl ?_
    refine z_loop (sM := fun s => M) (sl := fun s => [(0, .ref 34), (1, .int s.1), (2, .int s.2.1), (3, .int s.2.2)]) [3, 2, 1, 0] rfl rfl (fun r1 hr1 s2 => ?_)
    unfold FX6_least_L7
    refine z_iload_n C 3 dX6_least_7 rfl rfl rfl ?_
    refine z_aload_n C 0 dX6_least_8 rfl rfl rfl ?_
    refine z_get (v := .int (M.1 34 15)) C 15 zOK6 rfl (by decide) w251 rfl rfl dX6_least_9 rfl ?_
    refine z_icmpge C dX6_least_12 rfl rfl ?_ ?_
    · refine z_iload_n C 1 dX6_least_81 rfl rfl rfl ?_
      exact z_iret C rfl rfl dX6_least_82
    · refine z_iconst C (0 : Int32) dX6_least_15 rfl rfl ?_
      refine z_istoreP (lo' := [(4, .int (0 : Int32)), (0, .ref 34), (1, .int s2.1), (2, .int s2.2.1), (3, .int s2.2.2)]) C dX6_least_16 (by decide) rfl rfl ?_
      refine z_iconst C (0 : Int32) dX6_least_18 rfl rfl ?_
      refine z_istoreP (lo' := [(5, .int (0 : Int32)), (4, .int (0 : Int32)), (0, .ref 34), (1, .int s2.1), (2, .int s2.2.1), (3, .int s2.2.2)]) C dX6_least_19 (by decide) rfl rfl ?_
      refine z_loop (sM := fun s => M) (sl := fun s => [(0, .ref 34), (1, .int s2.1), (2, .int s2.2.1), (3, .int s2.2.2), (4, .int s.1), (5, .int s.2)]) [2, 3, 4, 5, 1, 0] rfl rfl (fun r3 hr3 s4 => ?_)
      unfold FX6_least_L21
      refine z_iload C 5 dX6_least_21 rfl rfl ?_
      refine z_aload_n C 0 dX6_least_23 rfl rfl rfl ?_
      refine z_get (v := .int (M.1 34 12)) C 12 zOK6 rfl (by decide) w247 rfl rfl dX6_least_24 rfl ?_
      refine z_icmpge C dX6_least_27 rfl rfl ?_ ?_
      · refine z_iload_n C 1 dX6_least_53 rfl rfl rfl ?_
        refine z_bipush C (-9 : Int32) dX6_least_54 rfl rfl ?_
        refine z_join (fun k6 => ∀ (u5 : Unit), zR Y X 6 (zFi Y X (fun b => b) (fun _ => M)) (k6 u5) 65 [(0, .ref 34), (3, .int s2.2.2), (4, .int s4.1)] [] M) (fun u5 => ?_) (fun k6 hk6 => ?_)
        · refine z_aload_n C 0 dX6_least_65 rfl rfl rfl ?_
          refine z_get (v := .ref 94) C 10 zOK6 rfl (by decide) w245 rfl rfl dX6_least_66 rfl ?_
          refine z_iload_n C 1 dX6_least_69 rfl rfl rfl ?_
          refine z_iaload C 4096 rfl dX6_least_70 rfl ?_
          refine z_istore_n C (fun z => [(1, .int z), (0, .ref 34), (3, .int s2.2.2), (4, .int s4.1)]) dX6_least_71 rfl (by decide) (fun _ => rfl) rfl (fun x7 => ?_)
          refine z_iload C 3 dX6_least_72 rfl rfl ?_
          refine z_istoreP_n (lo' := [(2, .int s4.1), (1, .int x7), (0, .ref 34), (3, .int s2.2.2), (4, .int s4.1)]) C dX6_least_74 rfl (by decide) rfl rfl ?_
          refine z_iinc (v := (s2.2.2 + (1 : Int32))) C 3 (fun z => [(3, .int z), (2, .int s4.1), (1, .int x7), (0, .ref 34), (4, .int s4.1)]) dX6_least_75 rfl rfl (by decide) (fun _ => rfl) rfl (fun x8 => ?_)
          refine z_goto C dX6_least_78 rfl ?_
          exact z_perm [3, 2, 1, 0] rfl (hr1 (x7, s4.1, x8))
        · refine z_icmpeq C dX6_least_56 rfl rfl ?_ ?_
          · exact z_perm [0, 3, 4] rfl (hk6 ())
          · refine z_iload C 4 dX6_least_59 rfl rfl ?_
            refine z_iload_n C 2 dX6_least_61 rfl rfl rfl ?_
            refine z_icmpge C dX6_least_62 rfl rfl ?_ ?_
            · refine z_iinc (v := (s2.2.2 + (1 : Int32))) C 3 (fun z => [(3, .int z), (0, .ref 34), (1, .int s2.1), (2, .int s2.2.1), (4, .int s4.1), (5, .int s4.2)]) dX6_least_75 rfl rfl (by decide) (fun _ => rfl) rfl (fun x9 => ?_)
              refine z_goto C dX6_least_78 rfl ?_
              exact z_perm [1, 2, 3, 0] rfl (hr1 (s2.1, s2.2.1, x9))
            · exact z_perm [0, 3, 4] rfl (hk6 ())
      · refine z_iload C 4 dX6_least_30 rfl rfl ?_
        refine z_aload_n C 0 dX6_least_32 rfl rfl rfl ?_
        refine z_aload_n C 0 dX6_least_33 rfl rfl rfl ?_
        refine z_get (v := .ref 94) C 10 zOK6 rfl (by decide) w245 rfl rfl dX6_least_34 rfl ?_
        refine z_iload_n C 3 dX6_least_37 rfl rfl rfl ?_
        refine z_iaload C 4096 rfl dX6_least_38 rfl ?_
        refine z_iload C 5 dX6_least_39 rfl rfl ?_
        refine z_ci (fun b => b) (fun _ => M) (fun b hb => z_V (na := 2) (ci := 6) (r := (RX6, TX6, 18)) C [.int (zrd M 94 s2.2.2), .int s4.2] rfl (mX6_weightOf Y (zrd M 94 s2.2.2) s4.2 M b hb) rfl rfl w692 w694 w38 w85 w695 hdX6_weightOf ⟨Nat.le_of_ble_eq_true rfl, Nat.le_of_ble_eq_true rfl⟩ (Nat.le_of_ble_eq_true rfl) rfl dX6_least_41) rfl (fun b10 => ?_)
        refine z_iadd C dX6_least_44 rfl ?_
        refine z_istore C (fun z => [(4, .int z), (0, .ref 34), (1, .int s2.1), (2, .int s2.2.1), (3, .int s2.2.2), (5, .int s4.2)]) dX6_least_45 (by decide) (fun _ => rfl) rfl (fun x11 => ?_)
        refine z_iinc (v := (s4.2 + (1 : Int32))) C 5 (fun z => [(5, .int z), (4, .int x11), (0, .ref 34), (1, .int s2.1), (2, .int s2.2.1), (3, .int s2.2.2)]) dX6_least_47 rfl rfl (by decide) (fun _ => rfl) rfl (fun x12 => ?_)
        refine z_goto C dX6_least_50 rfl ?_
        exact z_perm [2, 3, 4, 5, 1, 0] rfl (hr3 (x11, x12))
  exact key b hF
set_option maxRecDepth 100000 in
set_option maxHeartbeats 4000000 in
theorem mX6_sureWeight (Y : zY) (x0 : Int32) (M : zMem) (b : Int32) (hF : FX6_sureWeight x0 M = some b) : zMt Y yX6_sureWeight cX6_sureWeight 4 (some .int) 1 24 [.ref 34, .int x0] M (zQi Y b M) := by
  refine zMt_of (own := RX6) (by decide +kernel) rfl (Nat.le_of_ble_eq_true rfl) (fun X C => ?_)
  have key : zR Y X 4 (zFi Y X (fun b => b) (fun _ => M)) (FX6_sureWeight x0 M) 0 [(0, .ref 34), (1, .int x0)] [] M := by
    unfold FX6_sureWeight
    refine z_aload_n C 0 dX6_sureWeight_0 rfl rfl rfl ?_
    refine z_get (v := .int (M.1 34 15)) C 15 zOK6 rfl (by decide) w251 rfl rfl dX6_sureWeight_1 rfl ?_
    refine z_ifne C dX6_sureWeight_4 rfl rfl ?_ ?_
    · refine z_aload_n C 0 dX6_sureWeight_10 rfl rfl rfl ?_
      refine z_aload_n C 0 dX6_sureWeight_11 rfl rfl rfl ?_
      refine z_get (v := .ref 94) C 10 zOK6 rfl (by decide) w245 rfl rfl dX6_sureWeight_12 rfl ?_
      refine z_iconst C (0 : Int32) dX6_sureWeight_15 rfl rfl ?_
      refine z_iaload C 4096 rfl dX6_sureWeight_16 rfl ?_
      refine z_iload_n C 1 dX6_sureWeight_17 rfl rfl rfl ?_
      refine z_ci (fun b => b) (fun _ => M) (fun b hb => z_V (na := 2) (ci := 6) (r := (RX6, TX6, 18)) C [.int (zrd M 94 (0 : Int32)), .int x0] rfl (mX6_weightOf Y (zrd M 94 (0 : Int32)) x0 M b hb) rfl rfl w692 w694 w38 w85 w695 hdX6_weightOf ⟨Nat.le_of_ble_eq_true rfl, Nat.le_of_ble_eq_true rfl⟩ (Nat.le_of_ble_eq_true rfl) rfl dX6_sureWeight_18) rfl (fun b2 => ?_)
      refine z_istoreP_n (lo' := [(2, .int b2), (0, .ref 34), (1, .int x0)]) C dX6_sureWeight_21 rfl (by decide) rfl rfl ?_
      refine z_iconst C (1 : Int32) dX6_sureWeight_22 rfl rfl ?_
      refine z_istoreP_n (lo' := [(3, .int (1 : Int32)), (2, .int b2), (0, .ref 34), (1, .int x0)]) C dX6_sureWeight_23 rfl (by decide) rfl rfl ?_
      refine z_loop (sM := fun s => M) (sl := fun s => [(0, .ref 34), (1, .int x0), (2, .int b2), (3, .int s)]) [2, 3, 1, 0] rfl rfl (fun r3 hr3 s4 => ?_)
      unfold FX6_sureWeight_L24
      refine z_iload_n C 3 dX6_sureWeight_24 rfl rfl rfl ?_
      refine z_aload_n C 0 dX6_sureWeight_25 rfl rfl rfl ?_
      refine z_get (v := .int (M.1 34 15)) C 15 zOK6 rfl (by decide) w251 rfl rfl dX6_sureWeight_26 rfl ?_
      refine z_icmpge C dX6_sureWeight_29 rfl rfl ?_ ?_
      · refine z_iload_n C 2 dX6_sureWeight_56 rfl rfl rfl ?_
        exact z_iret C rfl rfl dX6_sureWeight_57
      · refine z_aload_n C 0 dX6_sureWeight_32 rfl rfl rfl ?_
        refine z_aload_n C 0 dX6_sureWeight_33 rfl rfl rfl ?_
        refine z_get (v := .ref 94) C 10 zOK6 rfl (by decide) w245 rfl rfl dX6_sureWeight_34 rfl ?_
        refine z_iload_n C 3 dX6_sureWeight_37 rfl rfl rfl ?_
        refine z_iaload C 4096 rfl dX6_sureWeight_38 rfl ?_
        refine z_iload_n C 1 dX6_sureWeight_39 rfl rfl rfl ?_
        refine z_ci (fun b => b) (fun _ => M) (fun b hb => z_V (na := 2) (ci := 6) (r := (RX6, TX6, 18)) C [.int (zrd M 94 s4), .int x0] rfl (mX6_weightOf Y (zrd M 94 s4) x0 M b hb) rfl rfl w692 w694 w38 w85 w695 hdX6_weightOf ⟨Nat.le_of_ble_eq_true rfl, Nat.le_of_ble_eq_true rfl⟩ (Nat.le_of_ble_eq_true rfl) rfl dX6_sureWeight_40) rfl (fun b5 => ?_)
        refine z_iload_n C 2 dX6_sureWeight_43 rfl rfl rfl ?_
        refine z_icmpeq C dX6_sureWeight_44 rfl rfl ?_ ?_
        · refine z_iinc (v := (s4 + (1 : Int32))) C 3 (fun z => [(3, .int z), (0, .ref 34), (1, .int x0), (2, .int b2)]) dX6_sureWeight_50 rfl rfl (by decide) (fun _ => rfl) rfl (fun x6 => ?_)
          refine z_goto C dX6_sureWeight_53 rfl ?_
          exact z_perm [1, 2, 3, 0] rfl (hr3 x6)
        · refine z_bipush C (-9 : Int32) dX6_sureWeight_47 rfl rfl ?_
          exact z_iret C rfl rfl dX6_sureWeight_49
    · refine z_bipush C (-9 : Int32) dX6_sureWeight_7 rfl rfl ?_
      exact z_iret C rfl rfl dX6_sureWeight_9
  exact key b hF
set_option maxRecDepth 100000 in
set_option maxHeartbeats 4000000 in
theorem mX6_splitHeaps (Y : zY) (x0 : Int32) (M : zMem) (b : zMem) (hF : FX6_splitHeaps x0 M = some b) : zMt Y yX6_splitHeaps cX6_splitHeaps 3 none 2 47 [.ref 34, .int x0] M (zQv Y b) := by
  refine zMt_of (own := RX6) (by decide +kernel) rfl (Nat.le_of_ble_eq_true rfl) (fun X C => ?_)
  have key : zR Y X 3 (zFv Y X (fun b => b)) (FX6_splitHeaps x0 M) 0 [(0, .ref 34), (1, .int x0)] [] M := by
    unfold FX6_splitHeaps
    refine z_aload_n C 0 dX6_splitHeaps_0 rfl rfl rfl ?_
    refine z_get (v := .ref 11) C 1 zOK6 rfl (by decide) w233 rfl rfl dX6_splitHeaps_1 rfl ?_
    refine z_cv (fun b => b) (fun b hb => z_VN (na := 0) (ci := 4) (r := (RX4, TX4, 4)) C [] rfl (mX4_start Y M b hb) rfl rfl (List.mem_of_getElem? (i := 38) rfl) w535 w15 w81 w536 hdX4_startN ⟨Nat.le_of_ble_eq_true rfl, Nat.le_of_ble_eq_true rfl⟩ (Nat.le_of_ble_eq_true rfl) rfl dX6_splitHeaps_4) rfl (fun b2 => ?_)
    refine z_iconst C (0 : Int32) dX6_splitHeaps_7 rfl rfl ?_
    refine z_istoreP_n (lo' := [(2, .int (0 : Int32)), (0, .ref 34), (1, .int x0)]) C dX6_splitHeaps_8 rfl (by decide) rfl rfl ?_
    refine z_loop (sM := fun s => s.2) (sl := fun s => [(0, .ref 34), (1, .int x0), (2, .int s.1)]) [1, 2, 0] rfl rfl (fun r3 hr3 s4 => ?_)
    unfold FX6_splitHeaps_L9
    refine z_iload_n C 2 dX6_splitHeaps_9 rfl rfl rfl ?_
    refine z_aload_n C 0 dX6_splitHeaps_10 rfl rfl rfl ?_
    refine z_get (v := .int (s4.2.1 34 15)) C 15 zOK6 rfl (by decide) w251 rfl rfl dX6_splitHeaps_11 rfl ?_
    refine z_icmpge C dX6_splitHeaps_14 rfl rfl ?_ ?_
    · exact z_vret C rfl dX6_splitHeaps_69
    · refine z_aload_n C 0 dX6_splitHeaps_17 rfl rfl rfl ?_
      refine z_aload_n C 0 dX6_splitHeaps_18 rfl rfl rfl ?_
      refine z_get (v := .ref 94) C 10 zOK6 rfl (by decide) w245 rfl rfl dX6_splitHeaps_19 rfl ?_
      refine z_iload_n C 2 dX6_splitHeaps_22 rfl rfl rfl ?_
      refine z_iaload C 4096 rfl dX6_splitHeaps_23 rfl ?_
      refine z_cv (fun b => b) (fun b hb => z_V (na := 1) (ci := 6) (r := (RX6, TX6, 18)) C [.int (zrd s4.2 94 s4.1)] rfl (mX6_aim Y (zrd s4.2 94 s4.1) s4.2 b hb) rfl rfl w670 w672 w34 w85 w673 hdX6_aim ⟨Nat.le_of_ble_eq_true rfl, Nat.le_of_ble_eq_true rfl⟩ (Nat.le_of_ble_eq_true rfl) rfl dX6_splitHeaps_24) rfl (fun b5 => ?_)
      refine z_aload_n C 0 dX6_splitHeaps_27 rfl rfl rfl ?_
      refine z_get (v := .ref 95) C 11 zOK6 rfl (by decide) w246 rfl rfl dX6_splitHeaps_28 rfl ?_
      refine z_iload_n C 2 dX6_splitHeaps_31 rfl rfl rfl ?_
      refine z_aload_n C 0 dX6_splitHeaps_32 rfl rfl rfl ?_
      refine z_get (v := .ref 11) C 1 zOK6 rfl (by decide) w233 rfl rfl dX6_splitHeaps_33 rfl ?_
      refine z_aload_n C 0 dX6_splitHeaps_36 rfl rfl rfl ?_
      refine z_get (v := .ref 95) C 11 zOK6 rfl (by decide) w246 rfl rfl dX6_splitHeaps_37 rfl ?_
      refine z_iload_n C 2 dX6_splitHeaps_40 rfl rfl rfl ?_
      refine z_iaload C 4096 rfl dX6_splitHeaps_41 rfl ?_
      refine z_sipush C (8192 : Int32) dX6_splitHeaps_42 rfl rfl ?_
      refine z_imul C dX6_splitHeaps_45 rfl ?_
      refine z_aload_n C 0 dX6_splitHeaps_46 rfl rfl rfl ?_
      refine z_iload_n C 1 dX6_splitHeaps_47 rfl rfl rfl ?_
      refine z_ci (fun b => b) (fun _ => b5) (fun b hb => z_V (na := 1) (ci := 6) (r := (RX6, TX6, 18)) C [.int x0] rfl (mX6_shownBy Y x0 b5 b hb) rfl rfl w674 w676 w35 w85 w677 hdX6_shownBy ⟨Nat.le_of_ble_eq_true rfl, Nat.le_of_ble_eq_true rfl⟩ (Nat.le_of_ble_eq_true rfl) rfl dX6_splitHeaps_48) rfl (fun b6 => ?_)
      refine z_ci (fun b => b) (fun _ => b5) (fun b hb => z_SN (na := 1) C [.int b6] rfl (mX7_cellOf Y b6 b5 b hb) (List.mem_of_getElem? (i := 39) rfl) w428 w79 w429 hdX7_cellOf ⟨Nat.le_of_ble_eq_true rfl, Nat.le_of_ble_eq_true rfl⟩ (Nat.le_of_ble_eq_true rfl) rfl dX6_splitHeaps_51) rfl (fun b7 => ?_)
      refine z_iadd C dX6_splitHeaps_54 rfl ?_
      refine z_sipush C (4096 : Int32) dX6_splitHeaps_55 rfl rfl ?_
      refine z_iadd C dX6_splitHeaps_58 rfl ?_
      refine z_ci (fun b => b.1) (fun b => b.2) (fun b hb => z_VN (na := 1) (ci := 4) (r := (RX4, TX4, 4)) C [.int ((((zrd b5 95 s4.1) * (8192 : Int32)) + b7) + (4096 : Int32))] rfl (mX4_numberOf Y ((((zrd b5 95 s4.1) * (8192 : Int32)) + b7) + (4096 : Int32)) b5 b hb) rfl rfl (List.mem_of_getElem? (i := 40) rfl) w540 w16 w81 w541 hdX4_numberOfN ⟨Nat.le_of_ble_eq_true rfl, Nat.le_of_ble_eq_true rfl⟩ (Nat.le_of_ble_eq_true rfl) rfl dX6_splitHeaps_59) rfl (fun b8 => ?_)
      refine z_iastore C 4096 rfl dX6_splitHeaps_62 rfl (fun M9 => ?_)
      refine z_iinc (v := (s4.1 + (1 : Int32))) C 2 (fun z => [(2, .int z), (0, .ref 34), (1, .int x0)]) dX6_splitHeaps_63 rfl rfl (by decide) (fun _ => rfl) rfl (fun x10 => ?_)
      refine z_goto C dX6_splitHeaps_66 rfl ?_
      exact z_perm [1, 2, 0] rfl (hr3 (x10, M9))
  exact key b hF
set_option maxRecDepth 100000 in
set_option maxHeartbeats 4000000 in
theorem mX6_twins (Y : zY) (M : zMem) (b : Int32 × zMem) (hF : FX6_twins M = some b) : zMt Y yX6_twins cX6_twins 3 (some .int) 3 69 [.ref 34] M (zQi Y b.1 b.2) := by
  refine zMt_of (own := RX6) (by decide +kernel) rfl (Nat.le_of_ble_eq_true rfl) (fun X C => ?_)
  have key : zR Y X 3 (zFi Y X (fun b => b.1) (fun b => b.2)) (FX6_twins M) 0 [(0, .ref 34)] [] M := by
    unfold FX6_twins
    refine z_aload_n C 0 dX6_twins_0 rfl rfl rfl ?_
    refine z_get (v := .int (M.1 34 15)) C 15 zOK6 rfl (by decide) w251 rfl rfl dX6_twins_1 rfl ?_
    refine z_join (fun k2 => ∀ (x1 : Int32), zR Y X 3 (zFi Y X (fun b => b.1) (fun b => b.2)) (k2 x1) 12 [(0, .ref 34)] [.int x1] M) (fun x1 => ?_) (fun k2 hk2 => ?_)
    · refine z_istoreP_n (lo' := [(1, .int x1), (0, .ref 34)]) C dX6_twins_12 rfl (by decide) rfl rfl ?_
      refine z_aload_n C 1 dX6_twins_13 rfl rfl rfl ?_
      refine z_get (v := .ref 95) C 11 zOK6 rfl (by decide) w246 rfl rfl dX6_twins_14 rfl ?_
      refine z_iconst C (0 : Int32) dX6_twins_17 rfl rfl ?_
      refine z_cv (fun b => b) (fun b hb => z_S (na := 2) C [.ref 95, .int (0 : Int32)] rfl (mJ7_fill_53178 Y 95 (0 : Int32) M b hb) w659 w300 w87 w301 hdJ7_fill_53178 ⟨Nat.le_of_ble_eq_true rfl, Nat.le_of_ble_eq_true rfl⟩ (Nat.le_of_ble_eq_true rfl) rfl dX6_twins_18) rfl (fun b3 => ?_)
      refine z_iconst C (0 : Int32) dX6_twins_21 rfl rfl ?_
      refine z_istoreP_n (lo' := [(2, .int (0 : Int32)), (1, .int x1), (0, .ref 34)]) C dX6_twins_22 rfl (by decide) rfl rfl ?_
      refine z_loop (sM := fun s => s.2.2) (sl := fun s => [(0, .ref 34), (1, .int s.1), (2, .int s.2.1)]) [2, 1, 0] rfl rfl (fun r4 hr4 s5 => ?_)
      unfold FX6_twins_L23
      refine z_iload_n C 2 dX6_twins_23 rfl rfl rfl ?_
      refine z_aload_n C 0 dX6_twins_24 rfl rfl rfl ?_
      refine z_get (v := .int (s5.2.2.1 34 5)) C 5 zOK6 rfl (by decide) w238 rfl rfl dX6_twins_25 rfl ?_
      refine z_icmpge C dX6_twins_28 rfl rfl ?_ ?_
      · refine z_iload_n C 1 dX6_twins_67 rfl rfl rfl ?_
        exact z_iret C rfl rfl dX6_twins_68
      · refine z_aload_n C 0 dX6_twins_31 rfl rfl rfl ?_
        refine z_bipush C (20 : Int32) dX6_twins_32 rfl rfl ?_
        refine z_iconst C (2 : Int32) dX6_twins_34 rfl rfl ?_
        refine z_iload_n C 2 dX6_twins_35 rfl rfl rfl ?_
        refine z_imul C dX6_twins_36 rfl ?_
        refine z_iadd C dX6_twins_37 rfl ?_
        refine z_cv (fun b => b) (fun b hb => z_V (na := 1) (ci := 6) (r := (RX6, TX6, 18)) C [.int ((20 : Int32) + ((2 : Int32) * s5.2.1))] rfl (mX6_splitHeaps Y ((20 : Int32) + ((2 : Int32) * s5.2.1)) s5.2.2 b hb) rfl rfl w700 w702 w40 w85 w703 hdX6_splitHeaps ⟨Nat.le_of_ble_eq_true rfl, Nat.le_of_ble_eq_true rfl⟩ (Nat.le_of_ble_eq_true rfl) rfl dX6_twins_38) rfl (fun b6 => ?_)
        refine z_aload_n C 0 dX6_twins_41 rfl rfl rfl ?_
        refine z_bipush C (20 : Int32) dX6_twins_42 rfl rfl ?_
        refine z_iconst C (2 : Int32) dX6_twins_44 rfl rfl ?_
        refine z_iload_n C 2 dX6_twins_45 rfl rfl rfl ?_
        refine z_imul C dX6_twins_46 rfl ?_
        refine z_iadd C dX6_twins_47 rfl ?_
        refine z_iconst C (1 : Int32) dX6_twins_48 rfl rfl ?_
        refine z_iadd C dX6_twins_49 rfl ?_
        refine z_cv (fun b => b) (fun b hb => z_V (na := 1) (ci := 6) (r := (RX6, TX6, 18)) C [.int (((20 : Int32) + ((2 : Int32) * s5.2.1)) + (1 : Int32))] rfl (mX6_splitHeaps Y (((20 : Int32) + ((2 : Int32) * s5.2.1)) + (1 : Int32)) b6 b hb) rfl rfl w700 w702 w40 w85 w703 hdX6_splitHeaps ⟨Nat.le_of_ble_eq_true rfl, Nat.le_of_ble_eq_true rfl⟩ (Nat.le_of_ble_eq_true rfl) rfl dX6_twins_50) rfl (fun b7 => ?_)
        refine z_aload_n C 0 dX6_twins_53 rfl rfl rfl ?_
        refine z_get (v := .ref 11) C 1 zOK6 rfl (by decide) w233 rfl rfl dX6_twins_54 rfl ?_
        refine z_getN (v := .int (b7.1 11 3)) C 3 zOK4 rfl (by decide) (List.mem_of_getElem? (i := 9) rfl) rfl rfl dX6_twins_57 rfl ?_
        refine z_istore_n C (fun z => [(1, .int z), (0, .ref 34), (2, .int s5.2.1)]) dX6_twins_60 rfl (by decide) (fun _ => rfl) rfl (fun x8 => ?_)
        refine z_iinc (v := (s5.2.1 + (1 : Int32))) C 2 (fun z => [(2, .int z), (1, .int x8), (0, .ref 34)]) dX6_twins_61 rfl rfl (by decide) (fun _ => rfl) rfl (fun x9 => ?_)
        refine z_goto C dX6_twins_64 rfl ?_
        exact z_perm [2, 1, 0] rfl (hr4 (x8, x9, b7))
    · refine z_ifle C dX6_twins_4 rfl rfl ?_ ?_
      · refine z_iconst C (0 : Int32) dX6_twins_11 rfl rfl ?_
        exact z_perm [0] rfl (hk2 (0 : Int32))
      · refine z_iconst C (1 : Int32) dX6_twins_7 rfl rfl ?_
        refine z_goto C dX6_twins_8 rfl ?_
        exact z_perm [0] rfl (hk2 (1 : Int32))
  exact key b hF
set_option maxRecDepth 100000 in
set_option maxHeartbeats 4000000 in
theorem mX6_nextLook (Y : zY) (M : zMem) (b : Int32 × zMem) (hF : FX6_nextLook M = some b) : zMt Y yX6_nextLook cX6_nextLook 5 (some .int) 3 69 [.ref 34] M (zQi Y b.1 b.2) := by
  refine zMt_of (own := RX6) (by decide +kernel) rfl (Nat.le_of_ble_eq_true rfl) (fun X C => ?_)
  have key : zR Y X 5 (zFi Y X (fun b => b.1) (fun b => b.2)) (FX6_nextLook M) 0 [(0, .ref 34)] [] M := by
    unfold FX6_nextLook
    refine z_bipush C (-9 : Int32) dX6_nextLook_0 rfl rfl ?_
    refine z_istoreP_n (lo' := [(1, .int (-9 : Int32)), (0, .ref 34)]) C dX6_nextLook_2 rfl (by decide) rfl rfl ?_
    refine z_iconst C (0 : Int32) dX6_nextLook_3 rfl rfl ?_
    refine z_istoreP_n (lo' := [(2, .int (0 : Int32)), (1, .int (-9 : Int32)), (0, .ref 34)]) C dX6_nextLook_4 rfl (by decide) rfl rfl ?_
    refine z_iconst C (0 : Int32) dX6_nextLook_5 rfl rfl ?_
    refine z_istoreP_n (lo' := [(3, .int (0 : Int32)), (2, .int (0 : Int32)), (1, .int (-9 : Int32)), (0, .ref 34)]) C dX6_nextLook_6 rfl (by decide) rfl rfl ?_
    refine z_loop (sM := fun s => s.2.2.2) (sl := fun s => [(0, .ref 34), (1, .int s.1), (2, .int s.2.1), (3, .int s.2.2.1)]) [3, 2, 1, 0] rfl rfl (fun r1 hr1 s2 => ?_)
    unfold FX6_nextLook_L7
    refine z_iload_n C 3 dX6_nextLook_7 rfl rfl rfl ?_
    refine z_aload_n C 0 dX6_nextLook_8 rfl rfl rfl ?_
    refine z_get (v := .int (s2.2.2.2.1 34 5)) C 5 zOK6 rfl (by decide) w238 rfl rfl dX6_nextLook_9 rfl ?_
    refine z_icmpge C dX6_nextLook_12 rfl rfl ?_ ?_
    · refine z_iload_n C 1 dX6_nextLook_92 rfl rfl rfl ?_
      exact z_iret C rfl rfl dX6_nextLook_93
    · refine z_aload_n C 0 dX6_nextLook_15 rfl rfl rfl ?_
      refine z_get (v := .int (s2.2.2.2.1 34 15)) C 15 zOK6 rfl (by decide) w251 rfl rfl dX6_nextLook_16 rfl ?_
      refine z_ifle C dX6_nextLook_19 rfl rfl ?_ ?_
      · refine z_iload_n C 1 dX6_nextLook_92 rfl rfl rfl ?_
        exact z_iret C rfl rfl dX6_nextLook_93
      · refine z_aload_n C 0 dX6_nextLook_22 rfl rfl rfl ?_
        refine z_get (v := .ref 95) C 11 zOK6 rfl (by decide) w246 rfl rfl dX6_nextLook_23 rfl ?_
        refine z_iconst C (0 : Int32) dX6_nextLook_26 rfl rfl ?_
        refine z_cv (fun b => b) (fun b hb => z_S (na := 2) C [.ref 95, .int (0 : Int32)] rfl (mJ7_fill_53178 Y 95 (0 : Int32) s2.2.2.2 b hb) w659 w300 w87 w301 hdJ7_fill_53178 ⟨Nat.le_of_ble_eq_true rfl, Nat.le_of_ble_eq_true rfl⟩ (Nat.le_of_ble_eq_true rfl) rfl dX6_nextLook_27) rfl (fun b3 => ?_)
        refine z_aload_n C 0 dX6_nextLook_30 rfl rfl rfl ?_
        refine z_bipush C (20 : Int32) dX6_nextLook_31 rfl rfl ?_
        refine z_iconst C (2 : Int32) dX6_nextLook_33 rfl rfl ?_
        refine z_iload_n C 3 dX6_nextLook_34 rfl rfl rfl ?_
        refine z_imul C dX6_nextLook_35 rfl ?_
        refine z_iadd C dX6_nextLook_36 rfl ?_
        refine z_cv (fun b => b) (fun b hb => z_V (na := 1) (ci := 6) (r := (RX6, TX6, 18)) C [.int ((20 : Int32) + ((2 : Int32) * s2.2.2.1))] rfl (mX6_splitHeaps Y ((20 : Int32) + ((2 : Int32) * s2.2.2.1)) b3 b hb) rfl rfl w700 w702 w40 w85 w703 hdX6_splitHeaps ⟨Nat.le_of_ble_eq_true rfl, Nat.le_of_ble_eq_true rfl⟩ (Nat.le_of_ble_eq_true rfl) rfl dX6_nextLook_37) rfl (fun b4 => ?_)
        refine z_aload_n C 0 dX6_nextLook_40 rfl rfl rfl ?_
        refine z_bipush C (20 : Int32) dX6_nextLook_41 rfl rfl ?_
        refine z_iconst C (2 : Int32) dX6_nextLook_43 rfl rfl ?_
        refine z_iload_n C 3 dX6_nextLook_44 rfl rfl rfl ?_
        refine z_imul C dX6_nextLook_45 rfl ?_
        refine z_iadd C dX6_nextLook_46 rfl ?_
        refine z_iconst C (1 : Int32) dX6_nextLook_47 rfl rfl ?_
        refine z_iadd C dX6_nextLook_48 rfl ?_
        refine z_cv (fun b => b) (fun b hb => z_V (na := 1) (ci := 6) (r := (RX6, TX6, 18)) C [.int (((20 : Int32) + ((2 : Int32) * s2.2.2.1)) + (1 : Int32))] rfl (mX6_splitHeaps Y (((20 : Int32) + ((2 : Int32) * s2.2.2.1)) + (1 : Int32)) b4 b hb) rfl rfl w700 w702 w40 w85 w703 hdX6_splitHeaps ⟨Nat.le_of_ble_eq_true rfl, Nat.le_of_ble_eq_true rfl⟩ (Nat.le_of_ble_eq_true rfl) rfl dX6_nextLook_49) rfl (fun b5 => ?_)
        refine z_aload_n C 0 dX6_nextLook_52 rfl rfl rfl ?_
        refine z_get (v := .ref 11) C 1 zOK6 rfl (by decide) w233 rfl rfl dX6_nextLook_53 rfl ?_
        refine z_getN (v := .ref 14) C 2 zOK4 rfl (by decide) (List.mem_of_getElem? (i := 7) rfl) rfl rfl dX6_nextLook_56 rfl ?_
        refine z_aload_n C 0 dX6_nextLook_59 rfl rfl rfl ?_
        refine z_get (v := .ref 11) C 1 zOK6 rfl (by decide) w233 rfl rfl dX6_nextLook_60 rfl ?_
        refine z_ci (fun b => b) (fun _ => b5) (fun b hb => z_VN (na := 0) (ci := 4) (r := (RX4, TX4, 4)) C [] rfl (mX4_greatest Y b5 b hb) rfl rfl (List.mem_of_getElem? (i := 42) rfl) w549 w18 w81 w550 hdX4_greatestN ⟨Nat.le_of_ble_eq_true rfl, Nat.le_of_ble_eq_true rfl⟩ (Nat.le_of_ble_eq_true rfl) rfl dX6_nextLook_63) rfl (fun b6 => ?_)
        refine z_iaload C 4096 rfl dX6_nextLook_66 rfl ?_
        refine z_istore C (fun z => [(4, .int z), (0, .ref 34), (1, .int s2.1), (2, .int s2.2.1), (3, .int s2.2.2.1)]) dX6_nextLook_67 (by decide) (fun _ => rfl) rfl (fun x7 => ?_)
        refine z_iload_n C 2 dX6_nextLook_69 rfl rfl rfl ?_
        refine z_bipush C (-9 : Int32) dX6_nextLook_70 rfl rfl ?_
        refine z_join (fun k9 => ∀ (u8 : Unit), zR Y X 5 (zFi Y X (fun b => b.1) (fun b => b.2)) (k9 u8) 81 [(0, .ref 34), (3, .int s2.2.2.1), (4, .int x7)] [] b5) (fun u8 => ?_) (fun k9 hk9 => ?_)
        · refine z_iload_n C 1 dX6_nextLook_81 rfl rfl rfl ?_
          refine z_istoreP_n (lo' := [(1, .int s2.2.2.1), (0, .ref 34), (3, .int s2.2.2.1), (4, .int x7)]) C dX6_nextLook_82 rfl (by decide) rfl rfl ?_
          refine z_iload C 3 dX6_nextLook_83 rfl rfl ?_
          refine z_istoreP_n (lo' := [(2, .int x7), (1, .int s2.2.2.1), (0, .ref 34), (3, .int s2.2.2.1), (4, .int x7)]) C dX6_nextLook_85 rfl (by decide) rfl rfl ?_
          refine z_iinc (v := (s2.2.2.1 + (1 : Int32))) C 3 (fun z => [(3, .int z), (2, .int x7), (1, .int s2.2.2.1), (0, .ref 34), (4, .int x7)]) dX6_nextLook_86 rfl rfl (by decide) (fun _ => rfl) rfl (fun x10 => ?_)
          refine z_goto C dX6_nextLook_89 rfl ?_
          exact z_perm [3, 2, 1, 0] rfl (hr1 (s2.2.2.1, x7, x10, b5))
        · refine z_icmpeq C dX6_nextLook_72 rfl rfl ?_ ?_
          · exact z_perm [1, 4, 0] rfl (hk9 ())
          · refine z_iload C 0 dX6_nextLook_75 rfl rfl ?_
            refine z_iload_n C 3 dX6_nextLook_77 rfl rfl rfl ?_
            refine z_icmpge C dX6_nextLook_78 rfl rfl ?_ ?_
            · refine z_iinc (v := (s2.2.2.1 + (1 : Int32))) C 4 (fun z => [(3, .int z), (4, .int x7), (0, .ref 34), (1, .int s2.1), (2, .int s2.2.1)]) dX6_nextLook_86 rfl rfl (by decide) (fun _ => rfl) rfl (fun x11 => ?_)
              refine z_goto C dX6_nextLook_89 rfl ?_
              exact z_perm [2, 3, 4, 0] rfl (hr1 (s2.1, s2.2.1, x11, b5))
            · exact z_perm [1, 4, 0] rfl (hk9 ())
  exact key b hF
set_option maxRecDepth 100000 in
set_option maxHeartbeats 4000000 in
theorem mX7_isFeature (Y : zY) (x0 : Int32) (x1 : Int32) (M : zMem) (b : Int32) (hF : FX7_isFeature x0 x1 M = some b) : zMt Y yX7_isFeature cX7_isFeature 2 (some .boolean) 1 22 [.int x0, .int x1] M (zQi Y b M) := by
  refine zMt_of (own := RX7) (by decide +kernel) rfl (Nat.le_of_ble_eq_true rfl) (fun X C => ?_)
  have key : zR Y X 2 (zFi Y X (fun b => b) (fun _ => M)) (FX7_isFeature x0 x1 M) 0 [(0, .int x0), (1, .int x1)] [] M := by
    unfold FX7_isFeature
    refine z_iload_n C 1 dX7_isFeature_0 rfl rfl rfl ?_
    refine z_getsL C w355 dX7_isFeature_1 rfl ?_
    refine z_iload_n C 0 dX7_isFeature_4 rfl rfl rfl ?_
    refine z_ialoadL C dX7_isFeature_5 rfl ?_
    refine z_getsM C w357 dX7_isFeature_6 rfl ?_
    refine z_iload_n C 0 dX7_isFeature_9 rfl rfl rfl ?_
    refine z_ialoadM C dX7_isFeature_10 rfl ?_
    refine z_ci (fun b => b) (fun _ => M) (fun b hb => z_S (na := 3) C [.int x1, .int (zLO (zcl x0)), .int (zMO (zcl x0))] rfl (mX7_within Y x1 (zLO (zcl x0)) (zMO (zcl x0)) M b hb) w359 w360 w79 w361 hdX7_within ⟨Nat.le_of_ble_eq_true rfl, Nat.le_of_ble_eq_true rfl⟩ (Nat.le_of_ble_eq_true rfl) rfl dX7_isFeature_11) rfl (fun b3 => ?_)
    exact z_zret C rfl rfl dX7_isFeature_14
  exact key b hF
set_option maxRecDepth 100000 in
set_option maxHeartbeats 4000000 in
theorem mX7_lensChanges (Y : zY) (M : zMem) (b : zMem) (hF : FX7_lensChanges M = some b) : zMt Y yX7_lensChanges cX7_lensChanges 1 none 0 0 [.ref 0] M (zQv Y b) := by
  refine zMt_of (own := RX7) (by decide +kernel) rfl (Nat.le_of_ble_eq_true rfl) (fun X C => ?_)
  have key : zR Y X 1 (zFv Y X (fun b => b)) (FX7_lensChanges M) 0 [(0, .ref 0)] [] M := by
    unfold FX7_lensChanges
    refine z_aload_n C 0 dX7_lensChanges_0 rfl rfl rfl ?_
    refine z_get (v := .ref 15) C 1 zOK7 rfl (by decide) w324 rfl rfl dX7_lensChanges_1 rfl ?_
    refine z_iconst C (1 : Int32) dX7_lensChanges_4 rfl rfl ?_
    refine z_putiN C 5 zOK3 rfl (by decide) (List.mem_of_getElem? (i := 12) rfl) rfl rfl rfl rfl rfl dX7_lensChanges_5 rfl (fun M1 => ?_)
    refine z_aload_n C 0 dX7_lensChanges_8 rfl rfl rfl ?_
    refine z_get (v := .ref 34) C 5 zOK7 rfl (by decide) w328 rfl rfl dX7_lensChanges_9 rfl ?_
    refine z_iconst C (1 : Int32) dX7_lensChanges_12 rfl rfl ?_
    refine z_putiN C 16 zOK6 rfl (by decide) (List.mem_of_getElem? (i := 24) rfl) rfl rfl rfl rfl rfl dX7_lensChanges_13 rfl (fun M2 => ?_)
    exact z_vret C rfl dX7_lensChanges_16
  exact key b hF
set_option maxRecDepth 100000 in
set_option maxHeartbeats 4000000 in
theorem mX7_body (Y : zY) (x0 : Int32) (x1 : Int32) (x2 : Int32) (x3 : Int32) (M : zMem) (b : Int32 × zMem) (hF : FX7_body x0 x1 x2 x3 M = some b) : zMt Y yX7_body cX7_body 5 (some .int) 2 43 [.ref 0, .int x0, .int x1, .int x2, .int x3] M (zQi Y b.1 b.2) := by
  refine zMt_of (own := RX7) (by decide +kernel) rfl (Nat.le_of_ble_eq_true rfl) (fun X C => ?_)
  have key : zR Y X 5 (zFi Y X (fun b => b.1) (fun b => b.2)) (FX7_body x0 x1 x2 x3 M) 0 [(0, .ref 0), (1, .int x0), (2, .int x1), (3, .int x2), (4, .int x3)] [] M := by
    unfold FX7_body
    refine z_iconst C (0 : Int32) dX7_body_0 rfl rfl ?_
    refine z_iload_n C 1 dX7_body_1 rfl rfl rfl ?_
    refine z_ci (fun b => b) (fun _ => M) (fun b hb => z_S (na := 2) C [.int (0 : Int32), .int x0] rfl (mX7_isFeature Y (0 : Int32) x0 M b hb) w352 w353 w79 w354 hdX7_isFeature ⟨Nat.le_of_ble_eq_true rfl, Nat.le_of_ble_eq_true rfl⟩ (Nat.le_of_ble_eq_true rfl) rfl dX7_body_2) rfl (fun b5 => ?_)
    refine z_ifeq C dX7_body_5 rfl rfl ?_ ?_
    · refine z_iconst C (-1 : Int32) dX7_body_33 rfl rfl ?_
      exact z_iret C rfl rfl dX7_body_34
    · refine z_iconst C (1 : Int32) dX7_body_8 rfl rfl ?_
      refine z_iload_n C 2 dX7_body_9 rfl rfl rfl ?_
      refine z_ci (fun b => b) (fun _ => M) (fun b hb => z_S (na := 2) C [.int (1 : Int32), .int x1] rfl (mX7_isFeature Y (1 : Int32) x1 M b hb) w352 w353 w79 w354 hdX7_isFeature ⟨Nat.le_of_ble_eq_true rfl, Nat.le_of_ble_eq_true rfl⟩ (Nat.le_of_ble_eq_true rfl) rfl dX7_body_10) rfl (fun b6 => ?_)
      refine z_ifeq C dX7_body_13 rfl rfl ?_ ?_
      · refine z_iconst C (-1 : Int32) dX7_body_33 rfl rfl ?_
        exact z_iret C rfl rfl dX7_body_34
      · refine z_iconst C (2 : Int32) dX7_body_16 rfl rfl ?_
        refine z_iload_n C 3 dX7_body_17 rfl rfl rfl ?_
        refine z_ci (fun b => b) (fun _ => M) (fun b hb => z_S (na := 2) C [.int (2 : Int32), .int x2] rfl (mX7_isFeature Y (2 : Int32) x2 M b hb) w352 w353 w79 w354 hdX7_isFeature ⟨Nat.le_of_ble_eq_true rfl, Nat.le_of_ble_eq_true rfl⟩ (Nat.le_of_ble_eq_true rfl) rfl dX7_body_18) rfl (fun b7 => ?_)
        refine z_ifeq C dX7_body_21 rfl rfl ?_ ?_
        · refine z_iconst C (-1 : Int32) dX7_body_33 rfl rfl ?_
          exact z_iret C rfl rfl dX7_body_34
        · refine z_iconst C (3 : Int32) dX7_body_24 rfl rfl ?_
          refine z_iload C 4 dX7_body_25 rfl rfl ?_
          refine z_ci (fun b => b) (fun _ => M) (fun b hb => z_S (na := 2) C [.int (3 : Int32), .int x3] rfl (mX7_isFeature Y (3 : Int32) x3 M b hb) w352 w353 w79 w354 hdX7_isFeature ⟨Nat.le_of_ble_eq_true rfl, Nat.le_of_ble_eq_true rfl⟩ (Nat.le_of_ble_eq_true rfl) rfl dX7_body_27) rfl (fun b8 => ?_)
          refine z_ifne C dX7_body_30 rfl rfl ?_ ?_
          · refine z_aload_n C 0 dX7_body_35 rfl rfl rfl ?_
            refine z_get (v := .ref 1) C 0 zOK7 rfl (by decide) w323 rfl rfl dX7_body_36 rfl ?_
            refine z_getN (v := .int (M.1 1 1)) C 1 zOK2 rfl (by decide) (List.mem_of_getElem? (i := 2) rfl) rfl rfl dX7_body_39 rfl ?_
            refine z_bipush C (8 : Int32) dX7_body_42 rfl rfl ?_
            refine z_icmplt C dX7_body_44 rfl rfl ?_ ?_
            · refine z_aload_n C 0 dX7_body_50 rfl rfl rfl ?_
              refine z_cv (fun b => b) (fun b hb => z_V (na := 0) (ci := 7) (r := (RX7, TX7, 8)) C [] rfl (mX7_lensChanges Y M b hb) rfl rfl w362 w364 w0 w79 w365 hdX7_lensChanges ⟨Nat.le_of_ble_eq_true rfl, Nat.le_of_ble_eq_true rfl⟩ (Nat.le_of_ble_eq_true rfl) rfl dX7_body_51) rfl (fun b9 => ?_)
              refine z_aload_n C 0 dX7_body_54 rfl rfl rfl ?_
              refine z_get (v := .ref 1) C 0 zOK7 rfl (by decide) w323 rfl rfl dX7_body_55 rfl ?_
              refine z_iload_n C 1 dX7_body_58 rfl rfl rfl ?_
              refine z_iload_n C 2 dX7_body_59 rfl rfl rfl ?_
              refine z_iload_n C 3 dX7_body_60 rfl rfl rfl ?_
              refine z_iload C 4 dX7_body_61 rfl rfl ?_
              refine z_ci (fun b => b.1) (fun b => b.2) (fun b hb => z_VN (na := 4) (ci := 2) (r := (RX2, TX2, 4)) C [.int x0, .int x1, .int x2, .int x3] rfl (mX2_add Y x0 x1 x2 x3 b9 b hb) rfl rfl (List.mem_of_getElem? (i := 7) rfl) w368 w1 w80 w369 hdX2_addN ⟨Nat.le_of_ble_eq_true rfl, Nat.le_of_ble_eq_true rfl⟩ (Nat.le_of_ble_eq_true rfl) rfl dX7_body_63) rfl (fun b10 => ?_)
              exact z_iret C rfl rfl dX7_body_66
            · refine z_bipush C (-3 : Int32) dX7_body_47 rfl rfl ?_
              exact z_iret C rfl rfl dX7_body_49
          · refine z_iconst C (-1 : Int32) dX7_body_33 rfl rfl ?_
            exact z_iret C rfl rfl dX7_body_34
  exact key b hF
set_option maxRecDepth 100000 in
set_option maxHeartbeats 4000000 in
theorem mX7_isBody (Y : zY) (x0 : Int32) (M : zMem) (b : Int32) (hF : FX7_isBody x0 M = some b) : zMt Y yX7_isBody cX7_isBody 2 (some .boolean) 1 22 [.ref 0, .int x0] M (zQi Y b M) := by
  refine zMt_of (own := RX7) (by decide +kernel) rfl (Nat.le_of_ble_eq_true rfl) (fun X C => ?_)
  have key : zR Y X 2 (zFi Y X (fun b => b) (fun _ => M)) (FX7_isBody x0 M) 0 [(0, .ref 0), (1, .int x0)] [] M := by
    unfold FX7_isBody
    refine z_iload_n C 1 dX7_isBody_0 rfl rfl rfl ?_
    refine z_iconst C (0 : Int32) dX7_isBody_1 rfl rfl ?_
    refine z_aload_n C 0 dX7_isBody_2 rfl rfl rfl ?_
    refine z_get (v := .ref 1) C 0 zOK7 rfl (by decide) w323 rfl rfl dX7_isBody_3 rfl ?_
    refine z_getN (v := .int (M.1 1 1)) C 1 zOK2 rfl (by decide) (List.mem_of_getElem? (i := 2) rfl) rfl rfl dX7_isBody_6 rfl ?_
    refine z_iconst C (1 : Int32) dX7_isBody_9 rfl rfl ?_
    refine z_isub C dX7_isBody_10 rfl ?_
    refine z_ci (fun b => b) (fun _ => M) (fun b hb => z_S (na := 3) C [.int x0, .int (0 : Int32), .int ((M.1 1 1) - (1 : Int32))] rfl (mX7_within Y x0 (0 : Int32) ((M.1 1 1) - (1 : Int32)) M b hb) w359 w360 w79 w361 hdX7_within ⟨Nat.le_of_ble_eq_true rfl, Nat.le_of_ble_eq_true rfl⟩ (Nat.le_of_ble_eq_true rfl) rfl dX7_isBody_11) rfl (fun b2 => ?_)
    exact z_zret C rfl rfl dX7_isBody_14
  exact key b hF
set_option maxRecDepth 100000 in
set_option maxHeartbeats 4000000 in
theorem mX7_set (Y : zY) (x0 : Int32) (x1 : Int32) (x2 : Int32) (M : zMem) (b : Int32 × zMem) (hF : FX7_set x0 x1 x2 M = some b) : zMt Y yX7_set cX7_set 5 (some .int) 2 43 [.ref 0, .int x0, .int x1, .int x2] M (zQi Y b.1 b.2) := by
  refine zMt_of (own := RX7) (by decide +kernel) rfl (Nat.le_of_ble_eq_true rfl) (fun X C => ?_)
  have key : zR Y X 5 (zFi Y X (fun b => b.1) (fun b => b.2)) (FX7_set x0 x1 x2 M) 0 [(0, .ref 0), (1, .int x0), (2, .int x1), (3, .int x2)] [] M := by
    unfold FX7_set
    refine z_aload_n C 0 dX7_set_0 rfl rfl rfl ?_
    refine z_iload_n C 1 dX7_set_1 rfl rfl rfl ?_
    refine z_ci (fun b => b) (fun _ => M) (fun b hb => z_V (na := 1) (ci := 7) (r := (RX7, TX7, 8)) C [.int x0] rfl (mX7_isBody Y x0 M b hb) rfl rfl w375 w377 w2 w79 w378 hdX7_isBody ⟨Nat.le_of_ble_eq_true rfl, Nat.le_of_ble_eq_true rfl⟩ (Nat.le_of_ble_eq_true rfl) rfl dX7_set_2) rfl (fun b4 => ?_)
    refine z_ifeq C dX7_set_5 rfl rfl ?_ ?_
    · refine z_ldc C w379 dX7_set_25 rfl ?_
      exact z_iret C rfl rfl dX7_set_27
    · refine z_iload_n C 2 dX7_set_8 rfl rfl rfl ?_
      refine z_iconst C (0 : Int32) dX7_set_9 rfl rfl ?_
      refine z_iconst C (5 : Int32) dX7_set_10 rfl rfl ?_
      refine z_ci (fun b => b) (fun _ => M) (fun b hb => z_S (na := 3) C [.int x1, .int (0 : Int32), .int (5 : Int32)] rfl (mX7_within Y x1 (0 : Int32) (5 : Int32) M b hb) w359 w360 w79 w361 hdX7_within ⟨Nat.le_of_ble_eq_true rfl, Nat.le_of_ble_eq_true rfl⟩ (Nat.le_of_ble_eq_true rfl) rfl dX7_set_11) rfl (fun b5 => ?_)
      refine z_ifeq C dX7_set_14 rfl rfl ?_ ?_
      · refine z_ldc C w379 dX7_set_25 rfl ?_
        exact z_iret C rfl rfl dX7_set_27
      · refine z_iload_n C 2 dX7_set_17 rfl rfl rfl ?_
        refine z_iload_n C 3 dX7_set_18 rfl rfl rfl ?_
        refine z_ci (fun b => b) (fun _ => M) (fun b hb => z_S (na := 2) C [.int x1, .int x2] rfl (mX7_isFeature Y x1 x2 M b hb) w352 w353 w79 w354 hdX7_isFeature ⟨Nat.le_of_ble_eq_true rfl, Nat.le_of_ble_eq_true rfl⟩ (Nat.le_of_ble_eq_true rfl) rfl dX7_set_19) rfl (fun b6 => ?_)
        refine z_ifne C dX7_set_22 rfl rfl ?_ ?_
        · refine z_aload_n C 0 dX7_set_28 rfl rfl rfl ?_
          refine z_cv (fun b => b) (fun b hb => z_V (na := 0) (ci := 7) (r := (RX7, TX7, 8)) C [] rfl (mX7_lensChanges Y M b hb) rfl rfl w362 w364 w0 w79 w365 hdX7_lensChanges ⟨Nat.le_of_ble_eq_true rfl, Nat.le_of_ble_eq_true rfl⟩ (Nat.le_of_ble_eq_true rfl) rfl dX7_set_29) rfl (fun b7 => ?_)
          refine z_aload_n C 0 dX7_set_32 rfl rfl rfl ?_
          refine z_get (v := .ref 1) C 0 zOK7 rfl (by decide) w323 rfl rfl dX7_set_33 rfl ?_
          refine z_getN (v := .ref (zcl (b7.1 1 0))) C 0 zOK2 rfl (by decide) (List.mem_of_getElem? (i := 0) rfl) rfl rfl dX7_set_36 rfl ?_
          refine z_iload_n C 1 dX7_set_39 rfl rfl rfl ?_
          refine z_aaload C (zlenR (zcl (b7.1 1 0))) rfl dX7_set_40 rfl ?_
          refine z_iload_n C 2 dX7_set_41 rfl rfl rfl ?_
          refine z_iaload C (zlenI (zrow (zcl (b7.1 1 0)) x0)) rfl dX7_set_42 rfl ?_
          refine z_istore C (fun z => [(4, .int z), (0, .ref 0), (1, .int x0), (2, .int x1), (3, .int x2)]) dX7_set_43 (by decide) (fun _ => rfl) rfl (fun x8 => ?_)
          refine z_aload_n C 1 dX7_set_45 rfl rfl rfl ?_
          refine z_get (v := .ref 1) C 0 zOK7 rfl (by decide) w323 rfl rfl dX7_set_46 rfl ?_
          refine z_getN (v := .ref (zcl (b7.1 1 0))) C 0 zOK2 rfl (by decide) (List.mem_of_getElem? (i := 0) rfl) rfl rfl dX7_set_49 rfl ?_
          refine z_iload_n C 2 dX7_set_52 rfl rfl rfl ?_
          refine z_aaload C (zlenR (zcl (b7.1 1 0))) rfl dX7_set_53 rfl ?_
          refine z_iload_n C 3 dX7_set_54 rfl rfl rfl ?_
          refine z_iload_n C 4 dX7_set_55 rfl rfl rfl ?_
          refine z_iastore C (zlenI (zrow (zcl (b7.1 1 0)) x0)) rfl dX7_set_56 rfl (fun M9 => ?_)
          refine z_iload C 0 dX7_set_57 rfl rfl ?_
          exact z_iret C rfl rfl dX7_set_59
        · refine z_ldc C w379 dX7_set_25 rfl ?_
          exact z_iret C rfl rfl dX7_set_27
  exact key b hF
set_option maxRecDepth 100000 in
set_option maxHeartbeats 4000000 in
theorem mX7_drop (Y : zY) (M : zMem) (b : Int32 × zMem) (hF : FX7_drop M = some b) : zMt Y yX7_drop cX7_drop 1 (some .int) 1 20 [.ref 0] M (zQi Y b.1 b.2) := by
  refine zMt_of (own := RX7) (by decide +kernel) rfl (Nat.le_of_ble_eq_true rfl) (fun X C => ?_)
  have key : zR Y X 1 (zFi Y X (fun b => b.1) (fun b => b.2)) (FX7_drop M) 0 [(0, .ref 0)] [] M := by
    unfold FX7_drop
    refine z_aload_n C 0 dX7_drop_0 rfl rfl rfl ?_
    refine z_get (v := .ref 1) C 0 zOK7 rfl (by decide) w323 rfl rfl dX7_drop_1 rfl ?_
    refine z_getN (v := .int (M.1 1 1)) C 1 zOK2 rfl (by decide) (List.mem_of_getElem? (i := 2) rfl) rfl rfl dX7_drop_4 rfl ?_
    refine z_ifgt C dX7_drop_7 rfl rfl ?_ ?_
    · refine z_aload_n C 0 dX7_drop_13 rfl rfl rfl ?_
      refine z_cv (fun b => b) (fun b hb => z_V (na := 0) (ci := 7) (r := (RX7, TX7, 8)) C [] rfl (mX7_lensChanges Y M b hb) rfl rfl w362 w364 w0 w79 w365 hdX7_lensChanges ⟨Nat.le_of_ble_eq_true rfl, Nat.le_of_ble_eq_true rfl⟩ (Nat.le_of_ble_eq_true rfl) rfl dX7_drop_14) rfl (fun b1 => ?_)
      refine z_aload_n C 0 dX7_drop_17 rfl rfl rfl ?_
      refine z_get (v := .ref 1) C 0 zOK7 rfl (by decide) w323 rfl rfl dX7_drop_18 rfl ?_
      refine z_dup C dX7_drop_21 rfl rfl ?_
      refine z_getN (v := .int (b1.1 1 1)) C 1 zOK2 rfl (by decide) (List.mem_of_getElem? (i := 2) rfl) rfl rfl dX7_drop_22 rfl ?_
      refine z_iconst C (1 : Int32) dX7_drop_25 rfl rfl ?_
      refine z_isub C dX7_drop_26 rfl ?_
      refine z_putiN C 1 zOK2 rfl (by decide) (List.mem_of_getElem? (i := 2) rfl) rfl rfl rfl rfl rfl dX7_drop_27 rfl (fun M2 => ?_)
      refine z_aload_n C 0 dX7_drop_30 rfl rfl rfl ?_
      refine z_get (v := .ref 1) C 0 zOK7 rfl (by decide) w323 rfl rfl dX7_drop_31 rfl ?_
      refine z_getN (v := .int (M2.1 1 1)) C 1 zOK2 rfl (by decide) (List.mem_of_getElem? (i := 2) rfl) rfl rfl dX7_drop_34 rfl ?_
      exact z_iret C rfl rfl dX7_drop_37
    · refine z_bipush C (-2 : Int32) dX7_drop_10 rfl rfl ?_
      exact z_iret C rfl rfl dX7_drop_12
  exact key b hF
set_option maxRecDepth 100000 in
set_option maxHeartbeats 4000000 in
theorem mX7_field (Y : zY) (x0 : Int32) (x1 : Int32) (M : zMem) (b : Int32 × zMem) (hF : FX7_field x0 x1 M = some b) : zMt Y yX7_field cX7_field 4 (some .int) 1 22 [.ref 0, .int x0, .int x1] M (zQi Y b.1 b.2) := by
  refine zMt_of (own := RX7) (by decide +kernel) rfl (Nat.le_of_ble_eq_true rfl) (fun X C => ?_)
  have key : zR Y X 4 (zFi Y X (fun b => b.1) (fun b => b.2)) (FX7_field x0 x1 M) 0 [(0, .ref 0), (1, .int x0), (2, .int x1)] [] M := by
    unfold FX7_field
    refine z_iload_n C 1 dX7_field_0 rfl rfl rfl ?_
    refine z_iconst C (0 : Int32) dX7_field_1 rfl rfl ?_
    refine z_iconst C (1 : Int32) dX7_field_2 rfl rfl ?_
    refine z_ci (fun b => b) (fun _ => M) (fun b hb => z_S (na := 3) C [.int x0, .int (0 : Int32), .int (1 : Int32)] rfl (mX7_within Y x0 (0 : Int32) (1 : Int32) M b hb) w359 w360 w79 w361 hdX7_within ⟨Nat.le_of_ble_eq_true rfl, Nat.le_of_ble_eq_true rfl⟩ (Nat.le_of_ble_eq_true rfl) rfl dX7_field_3) rfl (fun b3 => ?_)
    refine z_ifeq C dX7_field_6 rfl rfl ?_ ?_
    · refine z_ldc C w379 dX7_field_20 rfl ?_
      exact z_iret C rfl rfl dX7_field_22
    · refine z_iload_n C 2 dX7_field_9 rfl rfl rfl ?_
      refine z_bipush C (-8 : Int32) dX7_field_10 rfl rfl ?_
      refine z_bipush C (8 : Int32) dX7_field_12 rfl rfl ?_
      refine z_ci (fun b => b) (fun _ => M) (fun b hb => z_S (na := 3) C [.int x1, .int (-8 : Int32), .int (8 : Int32)] rfl (mX7_within Y x1 (-8 : Int32) (8 : Int32) M b hb) w359 w360 w79 w361 hdX7_within ⟨Nat.le_of_ble_eq_true rfl, Nat.le_of_ble_eq_true rfl⟩ (Nat.le_of_ble_eq_true rfl) rfl dX7_field_14) rfl (fun b4 => ?_)
      refine z_ifne C dX7_field_17 rfl rfl ?_ ?_
      · refine z_aload_n C 0 dX7_field_23 rfl rfl rfl ?_
        refine z_cv (fun b => b) (fun b hb => z_V (na := 0) (ci := 7) (r := (RX7, TX7, 8)) C [] rfl (mX7_lensChanges Y M b hb) rfl rfl w362 w364 w0 w79 w365 hdX7_lensChanges ⟨Nat.le_of_ble_eq_true rfl, Nat.le_of_ble_eq_true rfl⟩ (Nat.le_of_ble_eq_true rfl) rfl dX7_field_24) rfl (fun b5 => ?_)
        refine z_iload_n C 1 dX7_field_27 rfl rfl rfl ?_
        refine z_join (fun k7 => ∀ (x6 : Int32), zR Y X 4 (zFi Y X (fun b => b.1) (fun b => b.2)) (k7 x6) 48 [(0, .ref 0), (1, .int x0), (2, .int x1)] [.int x6] b5) (fun x6 => ?_) (fun k7 hk7 => ?_)
        · refine z_istoreP_n (lo' := [(3, .int x6), (0, .ref 0), (1, .int x0), (2, .int x1)]) C dX7_field_48 rfl (by decide) rfl rfl ?_
          refine z_iload_n C 2 dX7_field_49 rfl rfl rfl ?_
          refine z_ifne C dX7_field_50 rfl rfl ?_ ?_
          · refine z_aload_n C 1 dX7_field_64 rfl rfl rfl ?_
            refine z_get (v := .ref 1) C 0 zOK7 rfl (by decide) w323 rfl rfl dX7_field_65 rfl ?_
            refine z_iload_n C 3 dX7_field_68 rfl rfl rfl ?_
            refine z_putiN C 3 zOK2 rfl (by decide) (List.mem_of_getElem? (i := 4) rfl) rfl rfl rfl rfl rfl dX7_field_69 rfl (fun M8 => ?_)
            refine z_iload_n C 0 dX7_field_72 rfl rfl rfl ?_
            exact z_iret C rfl rfl dX7_field_73
          · refine z_aload_n C 1 dX7_field_53 rfl rfl rfl ?_
            refine z_get (v := .ref 1) C 0 zOK7 rfl (by decide) w323 rfl rfl dX7_field_54 rfl ?_
            refine z_iload_n C 3 dX7_field_57 rfl rfl rfl ?_
            refine z_putiN C 2 zOK2 rfl (by decide) (List.mem_of_getElem? (i := 3) rfl) rfl rfl rfl rfl rfl dX7_field_58 rfl (fun M9 => ?_)
            refine z_goto C dX7_field_61 rfl ?_
            refine z_iload_n C 0 dX7_field_72 rfl rfl rfl ?_
            exact z_iret C rfl rfl dX7_field_73
        · refine z_ifne C dX7_field_28 rfl rfl ?_ ?_
          · refine z_aload_n C 0 dX7_field_41 rfl rfl rfl ?_
            refine z_get (v := .ref 1) C 0 zOK7 rfl (by decide) w323 rfl rfl dX7_field_42 rfl ?_
            refine z_getN (v := .int (b5.1 1 3)) C 3 zOK2 rfl (by decide) (List.mem_of_getElem? (i := 4) rfl) rfl rfl dX7_field_45 rfl ?_
            exact z_perm [0, 1, 2] rfl (hk7 (b5.1 1 3))
          · refine z_aload_n C 0 dX7_field_31 rfl rfl rfl ?_
            refine z_get (v := .ref 1) C 0 zOK7 rfl (by decide) w323 rfl rfl dX7_field_32 rfl ?_
            refine z_getN (v := .int (b5.1 1 2)) C 2 zOK2 rfl (by decide) (List.mem_of_getElem? (i := 3) rfl) rfl rfl dX7_field_35 rfl ?_
            refine z_goto C dX7_field_38 rfl ?_
            exact z_perm [0, 1, 2] rfl (hk7 (b5.1 1 2))
      · refine z_ldc C w379 dX7_field_20 rfl ?_
        exact z_iret C rfl rfl dX7_field_22
  exact key b hF
set_option maxRecDepth 100000 in
set_option maxHeartbeats 4000000 in
theorem mX7_isWithin (Y : zY) (x0 : Int32) (x1 : Int32) (x2 : Int32) (M : zMem) (b : Int32) (hF : FX7_isWithin x0 x1 x2 = some b) : zMt Y yX7_isWithin cX7_isWithin 3 (some .boolean) 1 22 [.int x0, .int x1, .int x2] M (zQi Y b M) := by
  refine zMt_of (own := RX7) (by decide +kernel) rfl (Nat.le_of_ble_eq_true rfl) (fun X C => ?_)
  have key : zR Y X 3 (zFi Y X (fun b => b) (fun _ => M)) (FX7_isWithin x0 x1 x2) 0 [(0, .int x0), (1, .int x1), (2, .int x2)] [] M := by
    unfold FX7_isWithin
    refine z_iload_n C 0 dX7_isWithin_0 rfl rfl rfl ?_
    refine z_iload_n C 2 dX7_isWithin_1 rfl rfl rfl ?_
    refine z_ineg C dX7_isWithin_2 rfl ?_
    refine z_iload_n C 2 dX7_isWithin_3 rfl rfl rfl ?_
    refine z_ci (fun b => b) (fun _ => M) (fun b hb => z_S (na := 3) C [.int x0, .int (-x2), .int x2] rfl (mX7_within Y x0 (-x2) x2 M b hb) w359 w360 w79 w361 hdX7_within ⟨Nat.le_of_ble_eq_true rfl, Nat.le_of_ble_eq_true rfl⟩ (Nat.le_of_ble_eq_true rfl) rfl dX7_isWithin_4) rfl (fun b4 => ?_)
    refine z_ifeq C dX7_isWithin_7 rfl rfl ?_ ?_
    · refine z_iconst C (0 : Int32) dX7_isWithin_24 rfl rfl ?_
      exact z_zretK C rfl rfl rfl dX7_isWithin_25
    · refine z_iload_n C 1 dX7_isWithin_10 rfl rfl rfl ?_
      refine z_iload_n C 2 dX7_isWithin_11 rfl rfl rfl ?_
      refine z_ineg C dX7_isWithin_12 rfl ?_
      refine z_iload_n C 2 dX7_isWithin_13 rfl rfl rfl ?_
      refine z_ci (fun b => b) (fun _ => M) (fun b hb => z_S (na := 3) C [.int x1, .int (-x2), .int x2] rfl (mX7_within Y x1 (-x2) x2 M b hb) w359 w360 w79 w361 hdX7_within ⟨Nat.le_of_ble_eq_true rfl, Nat.le_of_ble_eq_true rfl⟩ (Nat.le_of_ble_eq_true rfl) rfl dX7_isWithin_14) rfl (fun b5 => ?_)
      refine z_ifeq C dX7_isWithin_17 rfl rfl ?_ ?_
      · refine z_iconst C (0 : Int32) dX7_isWithin_24 rfl rfl ?_
        exact z_zretK C rfl rfl rfl dX7_isWithin_25
      · refine z_iconst C (1 : Int32) dX7_isWithin_20 rfl rfl ?_
        refine z_goto C dX7_isWithin_21 rfl ?_
        exact z_zretK C rfl rfl rfl dX7_isWithin_25
  exact key b hF
set_option maxRecDepth 100000 in
set_option maxHeartbeats 4000000 in
theorem mX7_isAsked (Y : zY) (x0 : Int32) (x1 : Int32) (x2 : Int32) (M : zMem) (b : Int32) (hF : FX7_isAsked x0 x1 x2 = some b) : zMt Y yX7_isAsked cX7_isAsked 3 (some .boolean) 2 44 [.int x0, .int x1, .int x2] M (zQi Y b M) := by
  refine zMt_of (own := RX7) (by decide +kernel) rfl (Nat.le_of_ble_eq_true rfl) (fun X C => ?_)
  have key : zR Y X 3 (zFi Y X (fun b => b) (fun _ => M)) (FX7_isAsked x0 x1 x2) 0 [(0, .int x0), (1, .int x1), (2, .int x2)] [] M := by
    unfold FX7_isAsked
    refine z_iload_n C 0 dX7_isAsked_0 rfl rfl rfl ?_
    refine z_iload_n C 1 dX7_isAsked_1 rfl rfl rfl ?_
    refine z_bipush C (60 : Int32) dX7_isAsked_2 rfl rfl ?_
    refine z_ci (fun b => b) (fun _ => M) (fun b hb => z_S (na := 3) C [.int x0, .int x1, .int (60 : Int32)] rfl (mX7_isWithin Y x0 x1 (60 : Int32) M b hb) w395 w396 w79 w397 hdX7_isWithin ⟨Nat.le_of_ble_eq_true rfl, Nat.le_of_ble_eq_true rfl⟩ (Nat.le_of_ble_eq_true rfl) rfl dX7_isAsked_4) rfl (fun b4 => ?_)
    refine z_ifeq C dX7_isAsked_7 rfl rfl ?_ ?_
    · refine z_iconst C (0 : Int32) dX7_isAsked_23 rfl rfl ?_
      exact z_zretK C rfl rfl rfl dX7_isAsked_24
    · refine z_iload_n C 2 dX7_isAsked_10 rfl rfl rfl ?_
      refine z_iconst C (0 : Int32) dX7_isAsked_11 rfl rfl ?_
      refine z_iconst C (1 : Int32) dX7_isAsked_12 rfl rfl ?_
      refine z_ci (fun b => b) (fun _ => M) (fun b hb => z_S (na := 3) C [.int x2, .int (0 : Int32), .int (1 : Int32)] rfl (mX7_within Y x2 (0 : Int32) (1 : Int32) M b hb) w359 w360 w79 w361 hdX7_within ⟨Nat.le_of_ble_eq_true rfl, Nat.le_of_ble_eq_true rfl⟩ (Nat.le_of_ble_eq_true rfl) rfl dX7_isAsked_13) rfl (fun b5 => ?_)
      refine z_ifeq C dX7_isAsked_16 rfl rfl ?_ ?_
      · refine z_iconst C (0 : Int32) dX7_isAsked_23 rfl rfl ?_
        exact z_zretK C rfl rfl rfl dX7_isAsked_24
      · refine z_iconst C (1 : Int32) dX7_isAsked_19 rfl rfl ?_
        refine z_goto C dX7_isAsked_20 rfl ?_
        exact z_zretK C rfl rfl rfl dX7_isAsked_24
  exact key b hF
set_option maxRecDepth 100000 in
set_option maxHeartbeats 4000000 in
theorem mX7_bend (Y : zY) (x0 : Int32) (x1 : Int32) (x2 : Int32) (x3 : Int32) (x4 : Int32) (M : zMem) (b : Int32 × zMem) (hF : FX7_bend x0 x1 x2 x3 x4 M = some b) : zMt Y yX7_bend cX7_bend 7 (some .int) 3 66 [.ref 0, .int x0, .int x1, .int x2, .int x3, .int x4] M (zQi Y b.1 b.2) := by
  refine zMt_of (own := RX7) (by decide +kernel) rfl (Nat.le_of_ble_eq_true rfl) (fun X C => ?_)
  have key : zR Y X 7 (zFi Y X (fun b => b.1) (fun b => b.2)) (FX7_bend x0 x1 x2 x3 x4 M) 0 [(0, .ref 0), (1, .int x0), (2, .int x1), (3, .int x2), (4, .int x3), (5, .int x4)] [] M := by
    unfold FX7_bend
    refine z_iconst C (0 : Int32) dX7_bend_0 rfl rfl ?_
    refine z_iload_n C 1 dX7_bend_1 rfl rfl rfl ?_
    refine z_ci (fun b => b) (fun _ => M) (fun b hb => z_S (na := 2) C [.int (0 : Int32), .int x0] rfl (mX7_isFeature Y (0 : Int32) x0 M b hb) w352 w353 w79 w354 hdX7_isFeature ⟨Nat.le_of_ble_eq_true rfl, Nat.le_of_ble_eq_true rfl⟩ (Nat.le_of_ble_eq_true rfl) rfl dX7_bend_2) rfl (fun b6 => ?_)
    refine z_ifeq C dX7_bend_5 rfl rfl ?_ ?_
    · refine z_ldc C w379 dX7_bend_27 rfl ?_
      exact z_iret C rfl rfl dX7_bend_29
    · refine z_aload_n C 0 dX7_bend_8 rfl rfl rfl ?_
      refine z_iload_n C 2 dX7_bend_9 rfl rfl rfl ?_
      refine z_ci (fun b => b) (fun _ => M) (fun b hb => z_V (na := 1) (ci := 7) (r := (RX7, TX7, 8)) C [.int x1] rfl (mX7_isBody Y x1 M b hb) rfl rfl w375 w377 w2 w79 w378 hdX7_isBody ⟨Nat.le_of_ble_eq_true rfl, Nat.le_of_ble_eq_true rfl⟩ (Nat.le_of_ble_eq_true rfl) rfl dX7_bend_10) rfl (fun b7 => ?_)
      refine z_ifeq C dX7_bend_13 rfl rfl ?_ ?_
      · refine z_ldc C w379 dX7_bend_27 rfl ?_
        exact z_iret C rfl rfl dX7_bend_29
      · refine z_iload_n C 3 dX7_bend_16 rfl rfl rfl ?_
        refine z_iload C 4 dX7_bend_17 rfl rfl ?_
        refine z_iload C 5 dX7_bend_19 rfl rfl ?_
        refine z_ci (fun b => b) (fun _ => M) (fun b hb => z_S (na := 3) C [.int x2, .int x3, .int x4] rfl (mX7_isAsked Y x2 x3 x4 M b hb) w392 w393 w79 w394 hdX7_isAsked ⟨Nat.le_of_ble_eq_true rfl, Nat.le_of_ble_eq_true rfl⟩ (Nat.le_of_ble_eq_true rfl) rfl dX7_bend_21) rfl (fun b8 => ?_)
        refine z_ifne C dX7_bend_24 rfl rfl ?_ ?_
        · refine z_aload_n C 0 dX7_bend_30 rfl rfl rfl ?_
          refine z_get (v := .ref 1) C 0 zOK7 rfl (by decide) w323 rfl rfl dX7_bend_31 rfl ?_
          refine z_getN (v := .ref (zcl (M.1 1 0))) C 0 zOK2 rfl (by decide) (List.mem_of_getElem? (i := 0) rfl) rfl rfl dX7_bend_34 rfl ?_
          refine z_iload_n C 2 dX7_bend_37 rfl rfl rfl ?_
          refine z_aaload C (zlenR (zcl (M.1 1 0))) rfl dX7_bend_38 rfl ?_
          refine z_astore (lo' := [(6, .ref (zrow (zcl (M.1 1 0)) x1)), (0, .ref 0), (1, .int x0), (2, .int x1), (3, .int x2), (4, .int x3), (5, .int x4)]) C dX7_bend_39 (by decide) rfl rfl ?_
          refine z_aload_n C 1 dX7_bend_41 rfl rfl rfl ?_
          refine z_dup C dX7_bend_42 rfl rfl ?_
          refine z_get (v := .long (M.2 0)) C 7 zOK7 rfl (by decide) w330 rfl rfl dX7_bend_43 rfl ?_
          refine z_iload_n C 2 dX7_bend_46 rfl rfl rfl ?_
          refine z_ci (fun b => b) (fun _ => M) (fun b hb => z_SN (na := 1) C [.int x0] rfl (mX2_askedBy Y x0 M b hb) (List.mem_of_getElem? (i := 8) rfl) w399 w80 w400 hdX2_askedBy ⟨Nat.le_of_ble_eq_true rfl, Nat.le_of_ble_eq_true rfl⟩ (Nat.le_of_ble_eq_true rfl) rfl dX7_bend_47) rfl (fun b9 => ?_)
          refine z_i2l C dX7_bend_50 rfl ?_
          refine z_ladd C dX7_bend_51 rfl ?_
          refine z_putl C 7 zOK7 rfl (by decide) w330 rfl rfl rfl (by decide) rfl rfl dX7_bend_52 rfl (fun M10 => ?_)
          refine z_iload_n C 2 dX7_bend_55 rfl rfl rfl ?_
          refine z_aload C 0 dX7_bend_56 rfl rfl ?_
          refine z_aload C 0 dX7_bend_58 rfl rfl ?_
          refine z_iconst C (3 : Int32) dX7_bend_60 rfl rfl ?_
          refine z_iaload C (zlenI (zrow (zcl (M.1 1 0)) x1)) rfl dX7_bend_61 rfl ?_
          refine z_iload_n C 4 dX7_bend_62 rfl rfl rfl ?_
          refine z_iload C 5 dX7_bend_63 rfl rfl ?_
          refine z_iload C 6 dX7_bend_65 rfl rfl ?_
          refine z_ci (fun b => b) (fun _ => M10) (fun b hb => z_SN (na := 6) C [.int x0, .ref (zrow (zcl (M.1 1 0)) x1), .int (zrd M10 (zrow (zcl (M.1 1 0)) x1) (3 : Int32)), .int x2, .int x3, .int x4] rfl (mX2_bendBy Y x0 (zrow (zcl (M.1 1 0)) x1) (zrd M10 (zrow (zcl (M.1 1 0)) x1) (3 : Int32)) x2 x3 x4 M10 b hb) (List.mem_of_getElem? (i := 9) rfl) w402 w80 w403 hdX2_bendBy ⟨Nat.le_of_ble_eq_true rfl, Nat.le_of_ble_eq_true rfl⟩ (Nat.le_of_ble_eq_true rfl) rfl dX7_bend_67) rfl (fun b11 => ?_)
          exact z_iret C rfl rfl dX7_bend_70
        · refine z_ldc C w379 dX7_bend_27 rfl ?_
          exact z_iret C rfl rfl dX7_bend_29
  exact key b hF
set_option maxRecDepth 100000 in
set_option maxHeartbeats 4000000 in
theorem mX7_from (Y : zY) (x0 : Int32) (x1 : Int32) (x2 : Int32) (M : zMem) (b : Int32) (hF : FX7_from x0 x1 x2 M = some b) : zMt Y yX7_from cX7_from 4 (some .int) 4 100 [.ref 0, .int x0, .int x1, .int x2] M (zQi Y b M) := by
  refine zMt_of (own := RX7) (by decide +kernel) rfl (Nat.le_of_ble_eq_true rfl) (fun X C => ?_)
  have key : zR Y X 4 (zFi Y X (fun b => b) (fun _ => M)) (FX7_from x0 x1 x2 M) 0 [(0, .ref 0), (1, .int x0), (2, .int x1), (3, .int x2)] [] M := by
    unfold FX7_from
    refine z_iload_n C 1 dX7_from_0 rfl rfl rfl ?_
    refine z_iload_n C 2 dX7_from_1 rfl rfl rfl ?_
    refine z_iload_n C 3 dX7_from_2 rfl rfl rfl ?_
    refine z_ci (fun b => b) (fun _ => M) (fun b hb => z_S (na := 3) C [.int x0, .int x1, .int x2] rfl (mX7_isAsked Y x0 x1 x2 M b hb) w392 w393 w79 w394 hdX7_isAsked ⟨Nat.le_of_ble_eq_true rfl, Nat.le_of_ble_eq_true rfl⟩ (Nat.le_of_ble_eq_true rfl) rfl dX7_from_3) rfl (fun b4 => ?_)
    refine z_ifeq C dX7_from_6 rfl rfl ?_ ?_
    · refine z_ldc C w379 dX7_from_22 rfl ?_
      exact z_iret C rfl rfl dX7_from_24
    · refine z_aload_n C 0 dX7_from_9 rfl rfl rfl ?_
      refine z_get (v := .ref 1) C 0 zOK7 rfl (by decide) w323 rfl rfl dX7_from_10 rfl ?_
      refine z_iload_n C 1 dX7_from_13 rfl rfl rfl ?_
      refine z_iload_n C 2 dX7_from_14 rfl rfl rfl ?_
      refine z_iload_n C 3 dX7_from_15 rfl rfl rfl ?_
      refine z_ci (fun b => b) (fun _ => M) (fun b hb => z_VN (na := 3) (ci := 2) (r := (RX2, TX2, 4)) C [.int x0, .int x1, .int x2] rfl (mX2_lightAt Y x0 x1 x2 M b hb) rfl rfl (List.mem_of_getElem? (i := 10) rfl) w416 w3 w80 w417 hdX2_lightAtN ⟨Nat.le_of_ble_eq_true rfl, Nat.le_of_ble_eq_true rfl⟩ (Nat.le_of_ble_eq_true rfl) rfl dX7_from_16) rfl (fun b5 => ?_)
      refine z_goto C dX7_from_19 rfl ?_
      exact z_iret C rfl rfl dX7_from_24
  exact key b hF
set_option maxRecDepth 100000 in
set_option maxHeartbeats 4000000 in
theorem mX7_cell (Y : zY) (x0 : Int32) (x1 : Int32) (x2 : Int32) (M : zMem) (b : Int32) (hF : FX7_cell x0 x1 x2 M = some b) : zMt Y yX7_cell cX7_cell 4 (some .int) 4 100 [.ref 0, .int x0, .int x1, .int x2] M (zQi Y b M) := by
  refine zMt_of (own := RX7) (by decide +kernel) rfl (Nat.le_of_ble_eq_true rfl) (fun X C => ?_)
  have key : zR Y X 4 (zFi Y X (fun b => b) (fun _ => M)) (FX7_cell x0 x1 x2 M) 0 [(0, .ref 0), (1, .int x0), (2, .int x1), (3, .int x2)] [] M := by
    unfold FX7_cell
    refine z_iload_n C 1 dX7_cell_0 rfl rfl rfl ?_
    refine z_iload_n C 2 dX7_cell_1 rfl rfl rfl ?_
    refine z_iload_n C 3 dX7_cell_2 rfl rfl rfl ?_
    refine z_ci (fun b => b) (fun _ => M) (fun b hb => z_S (na := 3) C [.int x0, .int x1, .int x2] rfl (mX7_isAsked Y x0 x1 x2 M b hb) w392 w393 w79 w394 hdX7_isAsked ⟨Nat.le_of_ble_eq_true rfl, Nat.le_of_ble_eq_true rfl⟩ (Nat.le_of_ble_eq_true rfl) rfl dX7_cell_3) rfl (fun b4 => ?_)
    refine z_ifeq C dX7_cell_6 rfl rfl ?_ ?_
    · refine z_ldc C w379 dX7_cell_25 rfl ?_
      exact z_iret C rfl rfl dX7_cell_27
    · refine z_aload_n C 0 dX7_cell_9 rfl rfl rfl ?_
      refine z_get (v := .ref 1) C 0 zOK7 rfl (by decide) w323 rfl rfl dX7_cell_10 rfl ?_
      refine z_iload_n C 1 dX7_cell_13 rfl rfl rfl ?_
      refine z_iload_n C 2 dX7_cell_14 rfl rfl rfl ?_
      refine z_iload_n C 3 dX7_cell_15 rfl rfl rfl ?_
      refine z_ci (fun b => b) (fun _ => M) (fun b hb => z_VN (na := 3) (ci := 2) (r := (RX2, TX2, 4)) C [.int x0, .int x1, .int x2] rfl (mX2_lightAt Y x0 x1 x2 M b hb) rfl rfl (List.mem_of_getElem? (i := 10) rfl) w416 w3 w80 w417 hdX2_lightAtN ⟨Nat.le_of_ble_eq_true rfl, Nat.le_of_ble_eq_true rfl⟩ (Nat.le_of_ble_eq_true rfl) rfl dX7_cell_16) rfl (fun b5 => ?_)
      refine z_ci (fun b => b) (fun _ => M) (fun b hb => z_S (na := 1) C [.int b5] rfl (mX7_cellOf Y b5 M b hb) w427 w428 w79 w429 hdX7_cellOf ⟨Nat.le_of_ble_eq_true rfl, Nat.le_of_ble_eq_true rfl⟩ (Nat.le_of_ble_eq_true rfl) rfl dX7_cell_19) rfl (fun b6 => ?_)
      refine z_goto C dX7_cell_22 rfl ?_
      exact z_iret C rfl rfl dX7_cell_27
  exact key b hF
set_option maxRecDepth 100000 in
set_option maxHeartbeats 4000000 in
theorem mX7_markPictures (Y : zY) (x0 : Int32) (x1 : Int32) (M : zMem) (b : Int32 × zMem) (hF : FX7_markPictures x0 x1 M = some b) : zMt Y yX7_markPictures cX7_markPictures 7 (some .int) 5 123 [.ref 0, .int x0, .int x1] M (zQi Y b.1 b.2) := by
  refine zMt_of (own := RX7) (by decide +kernel) rfl (Nat.le_of_ble_eq_true rfl) (fun X C => ?_)
  have key : zR Y X 7 (zFi Y X (fun b => b.1) (fun b => b.2)) (FX7_markPictures x0 x1 M) 0 [(0, .ref 0), (1, .int x0), (2, .int x1)] [] M := by
    unfold FX7_markPictures
    refine z_aload_n C 0 dX7_markPictures_0 rfl rfl rfl ?_
    refine z_get (v := .ref 15) C 1 zOK7 rfl (by decide) w324 rfl rfl dX7_markPictures_1 rfl ?_
    refine z_cv (fun b => b) (fun b hb => z_VN (na := 0) (ci := 3) (r := (RX3, TX3, 6)) C [] rfl (mX3_lookAnew Y M b hb) rfl rfl (List.mem_of_getElem? (i := 11) rfl) w443 w6 w82 w444 hdX3_lookAnewN ⟨Nat.le_of_ble_eq_true rfl, Nat.le_of_ble_eq_true rfl⟩ (Nat.le_of_ble_eq_true rfl) rfl dX7_markPictures_4) rfl (fun b3 => ?_)
    refine z_iload_n C 1 dX7_markPictures_7 rfl rfl rfl ?_
    refine z_iload_n C 2 dX7_markPictures_8 rfl rfl rfl ?_
    refine z_ci (fun b => b) (fun _ => b3) (fun b hb => z_S (na := 2) C [.int x0, .int x1] rfl (mX7_keyOf Y x0 x1 b3 b hb) w472 w457 w79 w458 hdX7_keyOf ⟨Nat.le_of_ble_eq_true rfl, Nat.le_of_ble_eq_true rfl⟩ (Nat.le_of_ble_eq_true rfl) rfl dX7_markPictures_9) rfl (fun b4 => ?_)
    refine z_istoreP_n (lo' := [(3, .int b4), (0, .ref 0), (1, .int x0), (2, .int x1)]) C dX7_markPictures_12 rfl (by decide) rfl rfl ?_
    refine z_iconst C (0 : Int32) dX7_markPictures_13 rfl rfl ?_
    refine z_istoreP (lo' := [(4, .int (0 : Int32)), (3, .int b4), (0, .ref 0), (1, .int x0), (2, .int x1)]) C dX7_markPictures_14 (by decide) rfl rfl ?_
    refine z_iconst C (0 : Int32) dX7_markPictures_16 rfl rfl ?_
    refine z_istoreP (lo' := [(5, .int (0 : Int32)), (4, .int (0 : Int32)), (3, .int b4), (0, .ref 0), (1, .int x0), (2, .int x1)]) C dX7_markPictures_17 (by decide) rfl rfl ?_
    refine z_loop (sM := fun s => s.2.2) (sl := fun s => [(0, .ref 0), (3, .int b4), (4, .int s.1), (5, .int s.2.1)]) [3, 2, 1, 0] rfl rfl (fun r5 hr5 s6 => ?_)
    unfold FX7_markPictures_L19
    refine z_iload C 3 dX7_markPictures_19 rfl rfl ?_
    refine z_sipush C (2401 : Int32) dX7_markPictures_21 rfl rfl ?_
    refine z_icmpge C dX7_markPictures_24 rfl rfl ?_ ?_
    · refine z_iload C 2 dX7_markPictures_81 rfl rfl ?_
      exact z_iret C rfl rfl dX7_markPictures_83
    · refine z_aload_n C 0 dX7_markPictures_27 rfl rfl rfl ?_
      refine z_get (v := .ref 15) C 1 zOK7 rfl (by decide) w324 rfl rfl dX7_markPictures_28 rfl ?_
      refine z_getN (v := .ref 18) C 3 zOK3 rfl (by decide) (List.mem_of_getElem? (i := 11) rfl) rfl rfl dX7_markPictures_31 rfl ?_
      refine z_iload C 3 dX7_markPictures_34 rfl rfl ?_
      refine z_iaload C 2401 rfl dX7_markPictures_36 rfl ?_
      refine z_iload_n C 1 dX7_markPictures_37 rfl rfl rfl ?_
      refine z_join (fun k8 => ∀ (x7 : Int32), zR Y X 7 (zFi Y X (fun b => b.1) (fun b => b.2)) (k8 x7) 46 [(0, .ref 0), (3, .int b4), (4, .int s6.1), (5, .int s6.2.1)] [.int x7] s6.2.2) (fun x7 => ?_) (fun k8 hk8 => ?_)
      · refine z_istoreP (lo' := [(6, .int x7), (0, .ref 0), (3, .int b4), (4, .int s6.1), (5, .int s6.2.1)]) C dX7_markPictures_46 (by decide) rfl rfl ?_
        refine z_aload_n C 1 dX7_markPictures_48 rfl rfl rfl ?_
        refine z_get (v := .ref 20) C 2 zOK7 rfl (by decide) w325 rfl rfl dX7_markPictures_49 rfl ?_
        refine z_getN (v := .ref 21) C 0 zOK1 rfl (by decide) (List.mem_of_getElem? (i := 13) rfl) rfl rfl dX7_markPictures_52 rfl ?_
        refine z_iload C 4 dX7_markPictures_55 rfl rfl ?_
        refine z_iload C 0 dX7_markPictures_57 rfl rfl ?_
        refine z_zastore C 2401 rfl dX7_markPictures_59 rfl (fun M9 => ?_)
        refine z_iload C 3 dX7_markPictures_60 rfl rfl ?_
        refine z_iload C 0 dX7_markPictures_62 rfl rfl ?_
        refine z_join (fun k11 => ∀ (x10 : Int32), zR Y X 7 (zFi Y X (fun b => b.1) (fun b => b.2)) (k11 x10) 72 [(0, .ref 0), (3, .int b4), (5, .int s6.2.1)] [.int x10, .int s6.1] M9) (fun x10 => ?_) (fun k11 hk11 => ?_)
        · refine z_iadd C dX7_markPictures_72 rfl ?_
          refine z_istore C (fun z => [(4, .int z), (0, .ref 0), (3, .int b4), (5, .int s6.2.1)]) dX7_markPictures_73 (by decide) (fun _ => rfl) rfl (fun x12 => ?_)
          refine z_iinc (v := (s6.2.1 + (1 : Int32))) C 3 (fun z => [(5, .int z), (4, .int x12), (0, .ref 0), (3, .int b4)]) dX7_markPictures_75 rfl rfl (by decide) (fun _ => rfl) rfl (fun x13 => ?_)
          refine z_goto C dX7_markPictures_78 rfl ?_
          exact z_perm [2, 3, 1, 0] rfl (hr5 (x12, x13, M9))
        · refine z_ifeq C dX7_markPictures_64 rfl rfl ?_ ?_
          · refine z_iconst C (0 : Int32) dX7_markPictures_71 rfl rfl ?_
            exact z_perm [1, 2, 4] rfl (hk11 (0 : Int32))
          · refine z_iconst C (1 : Int32) dX7_markPictures_67 rfl rfl ?_
            refine z_goto C dX7_markPictures_68 rfl ?_
            exact z_perm [1, 2, 4] rfl (hk11 (1 : Int32))
      · refine z_icmpne C dX7_markPictures_38 rfl rfl ?_ ?_
        · refine z_iconst C (0 : Int32) dX7_markPictures_45 rfl rfl ?_
          exact z_perm [0, 1, 2, 3] rfl (hk8 (0 : Int32))
        · refine z_iconst C (1 : Int32) dX7_markPictures_41 rfl rfl ?_
          refine z_goto C dX7_markPictures_42 rfl ?_
          exact z_perm [0, 1, 2, 3] rfl (hk8 (1 : Int32))
  exact key b hF
set_option maxRecDepth 100000 in
set_option maxHeartbeats 4000000 in
theorem mX7_pictures (Y : zY) (x0 : Int32) (x1 : Int32) (x2 : Int32) (M : zMem) (b : Int32 × zMem) (hF : FX7_pictures x0 x1 x2 M = some b) : zMt Y yX7_pictures cX7_pictures 5 (some .int) 6 149 [.ref 0, .int x0, .int x1, .int x2] M (zQi Y b.1 b.2) := by
  refine zMt_of (own := RX7) (by decide +kernel) rfl (Nat.le_of_ble_eq_true rfl) (fun X C => ?_)
  have key : zR Y X 5 (zFi Y X (fun b => b.1) (fun b => b.2)) (FX7_pictures x0 x1 x2 M) 0 [(0, .ref 0), (1, .int x0), (2, .int x1), (3, .int x2)] [] M := by
    unfold FX7_pictures
    refine z_iload_n C 1 dX7_pictures_0 rfl rfl rfl ?_
    refine z_iload_n C 2 dX7_pictures_1 rfl rfl rfl ?_
    refine z_bipush C (99 : Int32) dX7_pictures_2 rfl rfl ?_
    refine z_ci (fun b => b) (fun _ => M) (fun b hb => z_S (na := 3) C [.int x0, .int x1, .int (99 : Int32)] rfl (mX7_isWithin Y x0 x1 (99 : Int32) M b hb) w395 w396 w79 w397 hdX7_isWithin ⟨Nat.le_of_ble_eq_true rfl, Nat.le_of_ble_eq_true rfl⟩ (Nat.le_of_ble_eq_true rfl) rfl dX7_pictures_4) rfl (fun b4 => ?_)
    refine z_ifeq C dX7_pictures_7 rfl rfl ?_ ?_
    · refine z_iconst C (-1 : Int32) dX7_pictures_19 rfl rfl ?_
      exact z_iret C rfl rfl dX7_pictures_20
    · refine z_iload_n C 3 dX7_pictures_10 rfl rfl rfl ?_
      refine z_iconst C (0 : Int32) dX7_pictures_11 rfl rfl ?_
      refine z_iconst C (1 : Int32) dX7_pictures_12 rfl rfl ?_
      refine z_ci (fun b => b) (fun _ => M) (fun b hb => z_S (na := 3) C [.int x2, .int (0 : Int32), .int (1 : Int32)] rfl (mX7_within Y x2 (0 : Int32) (1 : Int32) M b hb) w359 w360 w79 w361 hdX7_within ⟨Nat.le_of_ble_eq_true rfl, Nat.le_of_ble_eq_true rfl⟩ (Nat.le_of_ble_eq_true rfl) rfl dX7_pictures_13) rfl (fun b5 => ?_)
      refine z_ifne C dX7_pictures_16 rfl rfl ?_ ?_
      · refine z_aload_n C 0 dX7_pictures_21 rfl rfl rfl ?_
        refine z_iload_n C 1 dX7_pictures_22 rfl rfl rfl ?_
        refine z_iload_n C 2 dX7_pictures_23 rfl rfl rfl ?_
        refine z_ci (fun b => b.1) (fun b => b.2) (fun b hb => z_V (na := 2) (ci := 7) (r := (RX7, TX7, 8)) C [.int x0, .int x1] rfl (mX7_markPictures Y x0 x1 M b hb) rfl rfl w437 w439 w5 w79 w440 hdX7_markPictures ⟨Nat.le_of_ble_eq_true rfl, Nat.le_of_ble_eq_true rfl⟩ (Nat.le_of_ble_eq_true rfl) rfl dX7_pictures_24) rfl (fun b6 => ?_)
        refine z_istoreP (lo' := [(4, .int b6.1), (0, .ref 0), (1, .int x0), (2, .int x1), (3, .int x2)]) C dX7_pictures_27 (by decide) rfl rfl ?_
        refine z_iload_n C 4 dX7_pictures_29 rfl rfl rfl ?_
        refine z_ifne C dX7_pictures_30 rfl rfl ?_ ?_
        · refine z_aload_n C 1 dX7_pictures_36 rfl rfl rfl ?_
          refine z_get (v := .ref 20) C 2 zOK7 rfl (by decide) w325 rfl rfl dX7_pictures_37 rfl ?_
          refine z_bipush C (-9 : Int32) dX7_pictures_40 rfl rfl ?_
          refine z_ci (fun b => b.1) (fun b => b.2) (fun b hb => z_VN (na := 1) (ci := 1) (r := (RX1, TX1, 4)) C [.int (-9 : Int32)] rfl (mX1_split Y (-9 : Int32) b6.2 b hb) rfl rfl (List.mem_of_getElem? (i := 17) rfl) w475 w8 w83 w476 hdX1_splitN ⟨Nat.le_of_ble_eq_true rfl, Nat.le_of_ble_eq_true rfl⟩ (Nat.le_of_ble_eq_true rfl) rfl dX7_pictures_42) rfl (fun b7 => ?_)
          exact z_iret C rfl rfl dX7_pictures_45
        · refine z_iload C 0 dX7_pictures_33 rfl rfl ?_
          exact z_iret C rfl rfl dX7_pictures_35
      · refine z_iconst C (-1 : Int32) dX7_pictures_19 rfl rfl ?_
        exact z_iret C rfl rfl dX7_pictures_20
  exact key b hF
set_option maxRecDepth 100000 in
set_option maxHeartbeats 4000000 in
theorem mX7_group (Y : zY) (x0 : Int32) (x1 : Int32) (x2 : Int32) (x3 : Int32) (M : zMem) (b : Int32 × zMem) (hF : FX7_group x0 x1 x2 x3 M = some b) : zMt Y yX7_group cX7_group 7 (some .int) 6 149 [.ref 0, .int x0, .int x1, .int x2, .int x3] M (zQi Y b.1 b.2) := by
  refine zMt_of (own := RX7) (by decide +kernel) rfl (Nat.le_of_ble_eq_true rfl) (fun X C => ?_)
  have key : zR Y X 7 (zFi Y X (fun b => b.1) (fun b => b.2)) (FX7_group x0 x1 x2 x3 M) 0 [(0, .ref 0), (1, .int x0), (2, .int x1), (3, .int x2), (4, .int x3)] [] M := by
    unfold FX7_group
    refine z_iload_n C 1 dX7_group_0 rfl rfl rfl ?_
    refine z_iload_n C 2 dX7_group_1 rfl rfl rfl ?_
    refine z_bipush C (99 : Int32) dX7_group_2 rfl rfl ?_
    refine z_ci (fun b => b) (fun _ => M) (fun b hb => z_S (na := 3) C [.int x0, .int x1, .int (99 : Int32)] rfl (mX7_isWithin Y x0 x1 (99 : Int32) M b hb) w395 w396 w79 w397 hdX7_isWithin ⟨Nat.le_of_ble_eq_true rfl, Nat.le_of_ble_eq_true rfl⟩ (Nat.le_of_ble_eq_true rfl) rfl dX7_group_4) rfl (fun b5 => ?_)
    refine z_ifeq C dX7_group_7 rfl rfl ?_ ?_
    · refine z_ldc C w379 dX7_group_24 rfl ?_
      exact z_iret C rfl rfl dX7_group_26
    · refine z_iload_n C 3 dX7_group_10 rfl rfl rfl ?_
      refine z_iflt C dX7_group_11 rfl rfl ?_ ?_
      · refine z_ldc C w379 dX7_group_24 rfl ?_
        exact z_iret C rfl rfl dX7_group_26
      · refine z_iload C 4 dX7_group_14 rfl rfl ?_
        refine z_iconst C (0 : Int32) dX7_group_16 rfl rfl ?_
        refine z_iconst C (3 : Int32) dX7_group_17 rfl rfl ?_
        refine z_ci (fun b => b) (fun _ => M) (fun b hb => z_S (na := 3) C [.int x3, .int (0 : Int32), .int (3 : Int32)] rfl (mX7_within Y x3 (0 : Int32) (3 : Int32) M b hb) w359 w360 w79 w361 hdX7_within ⟨Nat.le_of_ble_eq_true rfl, Nat.le_of_ble_eq_true rfl⟩ (Nat.le_of_ble_eq_true rfl) rfl dX7_group_18) rfl (fun b6 => ?_)
        refine z_ifne C dX7_group_21 rfl rfl ?_ ?_
        · refine z_aload_n C 0 dX7_group_27 rfl rfl rfl ?_
          refine z_iload_n C 1 dX7_group_28 rfl rfl rfl ?_
          refine z_iload_n C 2 dX7_group_29 rfl rfl rfl ?_
          refine z_ci (fun b => b.1) (fun b => b.2) (fun b hb => z_V (na := 2) (ci := 7) (r := (RX7, TX7, 8)) C [.int x0, .int x1] rfl (mX7_markPictures Y x0 x1 M b hb) rfl rfl w437 w439 w5 w79 w440 hdX7_markPictures ⟨Nat.le_of_ble_eq_true rfl, Nat.le_of_ble_eq_true rfl⟩ (Nat.le_of_ble_eq_true rfl) rfl dX7_group_30) rfl (fun b7 => ?_)
          refine z_pop C dX7_group_33 rfl rfl ?_
          refine z_iload_n C 3 dX7_group_34 rfl rfl rfl ?_
          refine z_aload_n C 0 dX7_group_35 rfl rfl rfl ?_
          refine z_get (v := .ref 20) C 2 zOK7 rfl (by decide) w325 rfl rfl dX7_group_36 rfl ?_
          refine z_iload_n C 3 dX7_group_39 rfl rfl rfl ?_
          refine z_ci (fun b => b.1) (fun b => b.2) (fun b hb => z_VN (na := 1) (ci := 1) (r := (RX1, TX1, 4)) C [.int x2] rfl (mX1_split Y x2 b7.2 b hb) rfl rfl (List.mem_of_getElem? (i := 17) rfl) w475 w8 w83 w476 hdX1_splitN ⟨Nat.le_of_ble_eq_true rfl, Nat.le_of_ble_eq_true rfl⟩ (Nat.le_of_ble_eq_true rfl) rfl dX7_group_40) rfl (fun b8 => ?_)
          refine z_icmplt C dX7_group_43 rfl rfl ?_ ?_
          · refine z_aload_n C 0 dX7_group_49 rfl rfl rfl ?_
            refine z_get (v := .ref 20) C 2 zOK7 rfl (by decide) w325 rfl rfl dX7_group_50 rfl ?_
            refine z_getN (v := .int (b8.2.1 20 2)) C 2 zOK1 rfl (by decide) (List.mem_of_getElem? (i := 14) rfl) rfl rfl dX7_group_53 rfl ?_
            refine z_ci (fun b => b) (fun _ => b8.2) (fun b hb => z_S (na := 1) C [.int (b8.2.1 20 2)] rfl (mX7_xOf Y (b8.2.1 20 2) b8.2 b hb) w495 w450 w79 w451 hdX7_xOf ⟨Nat.le_of_ble_eq_true rfl, Nat.le_of_ble_eq_true rfl⟩ (Nat.le_of_ble_eq_true rfl) rfl dX7_group_56) rfl (fun b9 => ?_)
            refine z_istoreP (lo' := [(5, .int b9), (0, .ref 0), (1, .int x0), (2, .int x1), (3, .int x2), (4, .int x3)]) C dX7_group_59 (by decide) rfl rfl ?_
            refine z_aload_n C 1 dX7_group_61 rfl rfl rfl ?_
            refine z_get (v := .ref 20) C 2 zOK7 rfl (by decide) w325 rfl rfl dX7_group_62 rfl ?_
            refine z_getN (v := .int (b8.2.1 20 2)) C 2 zOK1 rfl (by decide) (List.mem_of_getElem? (i := 14) rfl) rfl rfl dX7_group_65 rfl ?_
            refine z_ci (fun b => b) (fun _ => b8.2) (fun b hb => z_S (na := 1) C [.int (b8.2.1 20 2)] rfl (mX7_yOf Y (b8.2.1 20 2) b8.2 b hb) w496 w453 w79 w454 hdX7_yOf ⟨Nat.le_of_ble_eq_true rfl, Nat.le_of_ble_eq_true rfl⟩ (Nat.le_of_ble_eq_true rfl) rfl dX7_group_68) rfl (fun b10 => ?_)
            refine z_istoreP (lo' := [(6, .int b10), (5, .int b9), (0, .ref 0), (1, .int x0), (2, .int x1), (3, .int x2), (4, .int x3)]) C dX7_group_71 (by decide) rfl rfl ?_
            refine z_iload C 6 dX7_group_73 rfl rfl ?_
            refine z_ite (fun hs75_0 => ?_) (fun hs75_0 => ?_)
            · refine z_tswIn (v := (0 : Int32)) (off := 25) C hs75_0 dX7_group_75 (by decide) (by decide) rfl rfl ?_
              refine z_iload C 1 dX7_group_100 rfl rfl ?_
              exact z_iret C rfl rfl dX7_group_102
            · refine z_ite (fun hs75_1 => ?_) (fun hs75_1 => ?_)
              · refine z_tswIn (v := (1 : Int32)) (off := 28) C hs75_1 dX7_group_75 (by decide) (by decide) rfl rfl ?_
                refine z_iload C 0 dX7_group_103 rfl rfl ?_
                exact z_iret C rfl rfl dX7_group_105
              · refine z_ite (fun hs75_2 => ?_) (fun hs75_2 => ?_)
                · refine z_tswIn (v := (2 : Int32)) (off := 31) C hs75_2 dX7_group_75 (by decide) (by decide) rfl rfl ?_
                  refine z_aload_n C 2 dX7_group_106 rfl rfl rfl ?_
                  refine z_get (v := .ref 20) C 2 zOK7 rfl (by decide) w325 rfl rfl dX7_group_107 rfl ?_
                  refine z_getN (v := .int (b8.2.1 20 3)) C 3 zOK1 rfl (by decide) (List.mem_of_getElem? (i := 15) rfl) rfl rfl dX7_group_110 rfl ?_
                  exact z_iret C rfl rfl dX7_group_113
                · refine z_tswOut C (by have e0 : x3.toInt ≠ 0 := fun e => hs75_0 (Int32.toInt_inj.mp (e.trans rfl)); have e1 : x3.toInt ≠ 1 := fun e => hs75_1 (Int32.toInt_inj.mp (e.trans rfl)); have e2 : x3.toInt ≠ 2 := fun e => hs75_2 (Int32.toInt_inj.mp (e.trans rfl)); omega) dX7_group_75 rfl ?_
                  refine z_aload_n C 2 dX7_group_114 rfl rfl rfl ?_
                  refine z_get (v := .ref 15) C 1 zOK7 rfl (by decide) w324 rfl rfl dX7_group_115 rfl ?_
                  refine z_iload C 1 dX7_group_118 rfl rfl ?_
                  refine z_iload C 0 dX7_group_120 rfl rfl ?_
                  refine z_ci (fun b => b) (fun _ => b8.2) (fun b hb => z_VN (na := 2) (ci := 3) (r := (RX3, TX3, 6)) C [.int b9, .int b10] rfl (mX3_parityAt Y b9 b10 b8.2 b hb) rfl rfl (List.mem_of_getElem? (i := 18) rfl) w499 w11 w82 w500 hdX3_parityAtN ⟨Nat.le_of_ble_eq_true rfl, Nat.le_of_ble_eq_true rfl⟩ (Nat.le_of_ble_eq_true rfl) rfl dX7_group_122) rfl (fun b11 => ?_)
                  exact z_iret C rfl rfl dX7_group_125
          · refine z_ldc C w379 dX7_group_46 rfl ?_
            exact z_iret C rfl rfl dX7_group_48
        · refine z_ldc C w379 dX7_group_24 rfl ?_
          exact z_iret C rfl rfl dX7_group_26
  exact key b hF
set_option maxRecDepth 100000 in
set_option maxHeartbeats 4000000 in
theorem mX7_parity (Y : zY) (x0 : Int32) (x1 : Int32) (M : zMem) (b : Int32 × zMem) (hF : FX7_parity x0 x1 M = some b) : zMt Y yX7_parity cX7_parity 3 (some .int) 5 123 [.ref 0, .int x0, .int x1] M (zQi Y b.1 b.2) := by
  refine zMt_of (own := RX7) (by decide +kernel) rfl (Nat.le_of_ble_eq_true rfl) (fun X C => ?_)
  have key : zR Y X 3 (zFi Y X (fun b => b.1) (fun b => b.2)) (FX7_parity x0 x1 M) 0 [(0, .ref 0), (1, .int x0), (2, .int x1)] [] M := by
    unfold FX7_parity
    refine z_iload_n C 1 dX7_parity_0 rfl rfl rfl ?_
    refine z_iload_n C 2 dX7_parity_1 rfl rfl rfl ?_
    refine z_bipush C (24 : Int32) dX7_parity_2 rfl rfl ?_
    refine z_ci (fun b => b) (fun _ => M) (fun b hb => z_S (na := 3) C [.int x0, .int x1, .int (24 : Int32)] rfl (mX7_isWithin Y x0 x1 (24 : Int32) M b hb) w395 w396 w79 w397 hdX7_isWithin ⟨Nat.le_of_ble_eq_true rfl, Nat.le_of_ble_eq_true rfl⟩ (Nat.le_of_ble_eq_true rfl) rfl dX7_parity_4) rfl (fun b3 => ?_)
    refine z_ifne C dX7_parity_7 rfl rfl ?_ ?_
    · refine z_aload_n C 0 dX7_parity_13 rfl rfl rfl ?_
      refine z_get (v := .ref 15) C 1 zOK7 rfl (by decide) w324 rfl rfl dX7_parity_14 rfl ?_
      refine z_cv (fun b => b) (fun b hb => z_VN (na := 0) (ci := 3) (r := (RX3, TX3, 6)) C [] rfl (mX3_lookAnew Y M b hb) rfl rfl (List.mem_of_getElem? (i := 11) rfl) w443 w6 w82 w444 hdX3_lookAnewN ⟨Nat.le_of_ble_eq_true rfl, Nat.le_of_ble_eq_true rfl⟩ (Nat.le_of_ble_eq_true rfl) rfl dX7_parity_17) rfl (fun b4 => ?_)
      refine z_aload_n C 0 dX7_parity_20 rfl rfl rfl ?_
      refine z_get (v := .ref 15) C 1 zOK7 rfl (by decide) w324 rfl rfl dX7_parity_21 rfl ?_
      refine z_iload_n C 1 dX7_parity_24 rfl rfl rfl ?_
      refine z_iload_n C 2 dX7_parity_25 rfl rfl rfl ?_
      refine z_ci (fun b => b) (fun _ => b4) (fun b hb => z_VN (na := 2) (ci := 3) (r := (RX3, TX3, 6)) C [.int x0, .int x1] rfl (mX3_parityAt Y x0 x1 b4 b hb) rfl rfl (List.mem_of_getElem? (i := 18) rfl) w499 w11 w82 w500 hdX3_parityAtN ⟨Nat.le_of_ble_eq_true rfl, Nat.le_of_ble_eq_true rfl⟩ (Nat.le_of_ble_eq_true rfl) rfl dX7_parity_26) rfl (fun b5 => ?_)
      exact z_iret C rfl rfl dX7_parity_29
    · refine z_ldc C w379 dX7_parity_10 rfl ?_
      exact z_iret C rfl rfl dX7_parity_12
  exact key b hF
set_option maxRecDepth 100000 in
set_option maxHeartbeats 4000000 in
theorem mX7_critical (Y : zY) (x0 : Int32) (x1 : Int32) (M : zMem) (b : Int32 × zMem) (hF : FX7_critical x0 x1 M = some b) : zMt Y yX7_critical cX7_critical 3 (some .int) 5 123 [.ref 0, .int x0, .int x1] M (zQi Y b.1 b.2) := by
  refine zMt_of (own := RX7) (by decide +kernel) rfl (Nat.le_of_ble_eq_true rfl) (fun X C => ?_)
  have key : zR Y X 3 (zFi Y X (fun b => b.1) (fun b => b.2)) (FX7_critical x0 x1 M) 0 [(0, .ref 0), (1, .int x0), (2, .int x1)] [] M := by
    unfold FX7_critical
    refine z_iload_n C 1 dX7_critical_0 rfl rfl rfl ?_
    refine z_iload_n C 2 dX7_critical_1 rfl rfl rfl ?_
    refine z_bipush C (24 : Int32) dX7_critical_2 rfl rfl ?_
    refine z_ci (fun b => b) (fun _ => M) (fun b hb => z_S (na := 3) C [.int x0, .int x1, .int (24 : Int32)] rfl (mX7_isWithin Y x0 x1 (24 : Int32) M b hb) w395 w396 w79 w397 hdX7_isWithin ⟨Nat.le_of_ble_eq_true rfl, Nat.le_of_ble_eq_true rfl⟩ (Nat.le_of_ble_eq_true rfl) rfl dX7_critical_4) rfl (fun b3 => ?_)
    refine z_ifne C dX7_critical_7 rfl rfl ?_ ?_
    · refine z_aload_n C 0 dX7_critical_12 rfl rfl rfl ?_
      refine z_get (v := .ref 15) C 1 zOK7 rfl (by decide) w324 rfl rfl dX7_critical_13 rfl ?_
      refine z_cv (fun b => b) (fun b hb => z_VN (na := 0) (ci := 3) (r := (RX3, TX3, 6)) C [] rfl (mX3_lookAnew Y M b hb) rfl rfl (List.mem_of_getElem? (i := 11) rfl) w443 w6 w82 w444 hdX3_lookAnewN ⟨Nat.le_of_ble_eq_true rfl, Nat.le_of_ble_eq_true rfl⟩ (Nat.le_of_ble_eq_true rfl) rfl dX7_critical_16) rfl (fun b4 => ?_)
      refine z_aload_n C 0 dX7_critical_19 rfl rfl rfl ?_
      refine z_get (v := .ref 15) C 1 zOK7 rfl (by decide) w324 rfl rfl dX7_critical_20 rfl ?_
      refine z_iload_n C 1 dX7_critical_23 rfl rfl rfl ?_
      refine z_iload_n C 2 dX7_critical_24 rfl rfl rfl ?_
      refine z_ci (fun b => b) (fun _ => b4) (fun b hb => z_VN (na := 2) (ci := 3) (r := (RX3, TX3, 6)) C [.int x0, .int x1] rfl (mX3_isCritical Y x0 x1 b4 b hb) rfl rfl (List.mem_of_getElem? (i := 20) rfl) w514 w12 w82 w515 hdX3_isCriticalN ⟨Nat.le_of_ble_eq_true rfl, Nat.le_of_ble_eq_true rfl⟩ (Nat.le_of_ble_eq_true rfl) rfl dX7_critical_25) rfl (fun b5 => ?_)
      refine z_ifeq C dX7_critical_28 rfl rfl ?_ ?_
      · refine z_iconst C (0 : Int32) dX7_critical_35 rfl rfl ?_
        exact z_iret C rfl rfl dX7_critical_36
      · refine z_iconst C (1 : Int32) dX7_critical_31 rfl rfl ?_
        refine z_goto C dX7_critical_32 rfl ?_
        exact z_iret C rfl rfl dX7_critical_36
    · refine z_iconst C (-1 : Int32) dX7_critical_10 rfl rfl ?_
      exact z_iret C rfl rfl dX7_critical_11
  exact key b hF
set_option maxRecDepth 100000 in
set_option maxHeartbeats 4000000 in
theorem mX7_markCriticals (Y : zY) (M : zMem) (b : Int32 × zMem) (hF : FX7_markCriticals M = some b) : zMt Y yX7_markCriticals cX7_markCriticals 4 (some .int) 3 66 [.ref 0] M (zQi Y b.1 b.2) := by
  refine zMt_of (own := RX7) (by decide +kernel) rfl (Nat.le_of_ble_eq_true rfl) (fun X C => ?_)
  have key : zR Y X 4 (zFi Y X (fun b => b.1) (fun b => b.2)) (FX7_markCriticals M) 0 [(0, .ref 0)] [] M := by
    unfold FX7_markCriticals
    refine z_iconst C (0 : Int32) dX7_markCriticals_0 rfl rfl ?_
    refine z_istoreP_n (lo' := [(1, .int (0 : Int32)), (0, .ref 0)]) C dX7_markCriticals_1 rfl (by decide) rfl rfl ?_
    refine z_iconst C (0 : Int32) dX7_markCriticals_2 rfl rfl ?_
    refine z_istoreP_n (lo' := [(2, .int (0 : Int32)), (1, .int (0 : Int32)), (0, .ref 0)]) C dX7_markCriticals_3 rfl (by decide) rfl rfl ?_
    refine z_loop (sM := fun s => s.2.2) (sl := fun s => [(0, .ref 0), (1, .int s.1), (2, .int s.2.1)]) [2, 1, 0] rfl rfl (fun r1 hr1 s2 => ?_)
    unfold FX7_markCriticals_L4
    refine z_iload_n C 2 dX7_markCriticals_4 rfl rfl rfl ?_
    refine z_sipush C (2401 : Int32) dX7_markCriticals_5 rfl rfl ?_
    refine z_icmpge C dX7_markCriticals_8 rfl rfl ?_ ?_
    · refine z_iload_n C 1 dX7_markCriticals_55 rfl rfl rfl ?_
      exact z_iret C rfl rfl dX7_markCriticals_56
    · refine z_aload_n C 0 dX7_markCriticals_11 rfl rfl rfl ?_
      refine z_get (v := .ref 15) C 1 zOK7 rfl (by decide) w324 rfl rfl dX7_markCriticals_12 rfl ?_
      refine z_iload_n C 2 dX7_markCriticals_15 rfl rfl rfl ?_
      refine z_ci (fun b => b) (fun _ => s2.2.2) (fun b hb => z_S (na := 1) C [.int s2.2.1] rfl (mX7_xOf Y s2.2.1 s2.2.2 b hb) w495 w450 w79 w451 hdX7_xOf ⟨Nat.le_of_ble_eq_true rfl, Nat.le_of_ble_eq_true rfl⟩ (Nat.le_of_ble_eq_true rfl) rfl dX7_markCriticals_16) rfl (fun b3 => ?_)
      refine z_iload_n C 2 dX7_markCriticals_19 rfl rfl rfl ?_
      refine z_ci (fun b => b) (fun _ => s2.2.2) (fun b hb => z_S (na := 1) C [.int s2.2.1] rfl (mX7_yOf Y s2.2.1 s2.2.2 b hb) w496 w453 w79 w454 hdX7_yOf ⟨Nat.le_of_ble_eq_true rfl, Nat.le_of_ble_eq_true rfl⟩ (Nat.le_of_ble_eq_true rfl) rfl dX7_markCriticals_20) rfl (fun b4 => ?_)
      refine z_ci (fun b => b) (fun _ => s2.2.2) (fun b hb => z_VN (na := 2) (ci := 3) (r := (RX3, TX3, 6)) C [.int b3, .int b4] rfl (mX3_isCritical Y b3 b4 s2.2.2 b hb) rfl rfl (List.mem_of_getElem? (i := 20) rfl) w514 w12 w82 w515 hdX3_isCriticalN ⟨Nat.le_of_ble_eq_true rfl, Nat.le_of_ble_eq_true rfl⟩ (Nat.le_of_ble_eq_true rfl) rfl dX7_markCriticals_23) rfl (fun b5 => ?_)
      refine z_istoreP_n (lo' := [(3, .int b5), (0, .ref 0), (1, .int s2.1), (2, .int s2.2.1)]) C dX7_markCriticals_26 rfl (by decide) rfl rfl ?_
      refine z_aload_n C 1 dX7_markCriticals_27 rfl rfl rfl ?_
      refine z_get (v := .ref 20) C 2 zOK7 rfl (by decide) w325 rfl rfl dX7_markCriticals_28 rfl ?_
      refine z_getN (v := .ref 21) C 0 zOK1 rfl (by decide) (List.mem_of_getElem? (i := 13) rfl) rfl rfl dX7_markCriticals_31 rfl ?_
      refine z_iload_n C 3 dX7_markCriticals_34 rfl rfl rfl ?_
      refine z_iload_n C 0 dX7_markCriticals_35 rfl rfl rfl ?_
      refine z_zastore C 2401 rfl dX7_markCriticals_36 rfl (fun M6 => ?_)
      refine z_iload_n C 2 dX7_markCriticals_37 rfl rfl rfl ?_
      refine z_iload_n C 0 dX7_markCriticals_38 rfl rfl rfl ?_
      refine z_join (fun k8 => ∀ (x7 : Int32), zR Y X 4 (zFi Y X (fun b => b.1) (fun b => b.2)) (k8 x7) 47 [(0, .ref 0), (2, .int s2.2.1)] [.int x7, .int s2.1] M6) (fun x7 => ?_) (fun k8 hk8 => ?_)
      · refine z_iadd C dX7_markCriticals_47 rfl ?_
        refine z_istore_n C (fun z => [(1, .int z), (0, .ref 0), (2, .int s2.2.1)]) dX7_markCriticals_48 rfl (by decide) (fun _ => rfl) rfl (fun x9 => ?_)
        refine z_iinc (v := (s2.2.1 + (1 : Int32))) C 2 (fun z => [(2, .int z), (1, .int x9), (0, .ref 0)]) dX7_markCriticals_49 rfl rfl (by decide) (fun _ => rfl) rfl (fun x10 => ?_)
        refine z_goto C dX7_markCriticals_52 rfl ?_
        exact z_perm [2, 1, 0] rfl (hr1 (x9, x10, M6))
      · refine z_ifeq C dX7_markCriticals_39 rfl rfl ?_ ?_
        · refine z_iconst C (0 : Int32) dX7_markCriticals_46 rfl rfl ?_
          exact z_perm [1, 3] rfl (hk8 (0 : Int32))
        · refine z_iconst C (1 : Int32) dX7_markCriticals_42 rfl rfl ?_
          refine z_goto C dX7_markCriticals_43 rfl ?_
          exact z_perm [1, 3] rfl (hk8 (1 : Int32))
  exact key b hF
set_option maxRecDepth 100000 in
set_option maxHeartbeats 4000000 in
theorem mX7_rings (Y : zY) (x0 : Int32) (M : zMem) (b : Int32 × zMem) (hF : FX7_rings x0 M = some b) : zMt Y yX7_rings cX7_rings 3 (some .int) 5 123 [.ref 0, .int x0] M (zQi Y b.1 b.2) := by
  refine zMt_of (own := RX7) (by decide +kernel) rfl (Nat.le_of_ble_eq_true rfl) (fun X C => ?_)
  have key : zR Y X 3 (zFi Y X (fun b => b.1) (fun b => b.2)) (FX7_rings x0 M) 0 [(0, .ref 0), (1, .int x0)] [] M := by
    unfold FX7_rings
    refine z_iload_n C 1 dX7_rings_0 rfl rfl rfl ?_
    refine z_iconst C (0 : Int32) dX7_rings_1 rfl rfl ?_
    refine z_iconst C (3 : Int32) dX7_rings_2 rfl rfl ?_
    refine z_ci (fun b => b) (fun _ => M) (fun b hb => z_S (na := 3) C [.int x0, .int (0 : Int32), .int (3 : Int32)] rfl (mX7_within Y x0 (0 : Int32) (3 : Int32) M b hb) w359 w360 w79 w361 hdX7_within ⟨Nat.le_of_ble_eq_true rfl, Nat.le_of_ble_eq_true rfl⟩ (Nat.le_of_ble_eq_true rfl) rfl dX7_rings_3) rfl (fun b2 => ?_)
    refine z_ifne C dX7_rings_6 rfl rfl ?_ ?_
    · refine z_aload_n C 0 dX7_rings_11 rfl rfl rfl ?_
      refine z_get (v := .ref 15) C 1 zOK7 rfl (by decide) w324 rfl rfl dX7_rings_12 rfl ?_
      refine z_cv (fun b => b) (fun b hb => z_VN (na := 0) (ci := 3) (r := (RX3, TX3, 6)) C [] rfl (mX3_lookAnew Y M b hb) rfl rfl (List.mem_of_getElem? (i := 11) rfl) w443 w6 w82 w444 hdX3_lookAnewN ⟨Nat.le_of_ble_eq_true rfl, Nat.le_of_ble_eq_true rfl⟩ (Nat.le_of_ble_eq_true rfl) rfl dX7_rings_15) rfl (fun b3 => ?_)
      refine z_iload_n C 1 dX7_rings_18 rfl rfl rfl ?_
      refine z_iconst C (2 : Int32) dX7_rings_19 rfl rfl ?_
      refine z_icmplt C dX7_rings_20 rfl rfl ?_ ?_
      · refine z_aload_n C 0 dX7_rings_41 rfl rfl rfl ?_
        refine z_ci (fun b => b.1) (fun b => b.2) (fun b hb => z_V (na := 0) (ci := 7) (r := (RX7, TX7, 8)) C [] rfl (mX7_markCriticals Y b3 b hb) rfl rfl w525 w527 w14 w79 w528 hdX7_markCriticals ⟨Nat.le_of_ble_eq_true rfl, Nat.le_of_ble_eq_true rfl⟩ (Nat.le_of_ble_eq_true rfl) rfl dX7_rings_42) rfl (fun b4 => ?_)
        refine z_istoreP_n (lo' := [(2, .int b4.1), (0, .ref 0), (1, .int x0)]) C dX7_rings_45 rfl (by decide) rfl rfl ?_
        refine z_iload_n C 2 dX7_rings_46 rfl rfl rfl ?_
        refine z_ifne C dX7_rings_47 rfl rfl ?_ ?_
        · refine z_aload_n C 1 dX7_rings_54 rfl rfl rfl ?_
          refine z_get (v := .ref 20) C 2 zOK7 rfl (by decide) w325 rfl rfl dX7_rings_55 rfl ?_
          refine z_bipush C (-9 : Int32) dX7_rings_58 rfl rfl ?_
          refine z_ci (fun b => b.1) (fun b => b.2) (fun b hb => z_VN (na := 1) (ci := 1) (r := (RX1, TX1, 4)) C [.int (-9 : Int32)] rfl (mX1_split Y (-9 : Int32) b4.2 b hb) rfl rfl (List.mem_of_getElem? (i := 17) rfl) w475 w8 w83 w476 hdX1_splitN ⟨Nat.le_of_ble_eq_true rfl, Nat.le_of_ble_eq_true rfl⟩ (Nat.le_of_ble_eq_true rfl) rfl dX7_rings_60) rfl (fun b5 => ?_)
          exact z_iret C rfl rfl dX7_rings_63
        · refine z_iload_n C 0 dX7_rings_50 rfl rfl rfl ?_
          refine z_goto C dX7_rings_51 rfl ?_
          exact z_iret C rfl rfl dX7_rings_63
      · refine z_aload_n C 0 dX7_rings_23 rfl rfl rfl ?_
        refine z_get (v := .ref 15) C 1 zOK7 rfl (by decide) w324 rfl rfl dX7_rings_24 rfl ?_
        refine z_iload_n C 1 dX7_rings_27 rfl rfl rfl ?_
        refine z_iconst C (2 : Int32) dX7_rings_28 rfl rfl ?_
        refine z_join (fun k7 => ∀ (x6 : Int32), zR Y X 3 (zFi Y X (fun b => b.1) (fun b => b.2)) (k7 x6) 37 [] [.int x6, .ref 15] b3) (fun x6 => ?_) (fun k7 hk7 => ?_)
        · refine z_ci (fun b => b) (fun _ => b3) (fun b hb => z_VN (na := 1) (ci := 3) (r := (RX3, TX3, 6)) C [.int x6] rfl (mX3_countOfParity Y x6 b3 b hb) rfl rfl (List.mem_of_getElem? (i := 21) rfl) w523 w13 w82 w524 hdX3_countOfParityN ⟨Nat.le_of_ble_eq_true rfl, Nat.le_of_ble_eq_true rfl⟩ (Nat.le_of_ble_eq_true rfl) rfl dX7_rings_37) rfl (fun b8 => ?_)
          exact z_iret C rfl rfl dX7_rings_40
        · refine z_icmpne C dX7_rings_29 rfl rfl ?_ ?_
          · refine z_iconst C (-1 : Int32) dX7_rings_36 rfl rfl ?_
            exact z_perm [] rfl (hk7 (-1 : Int32))
          · refine z_iconst C (1 : Int32) dX7_rings_32 rfl rfl ?_
            refine z_goto C dX7_rings_33 rfl ?_
            exact z_perm [] rfl (hk7 (1 : Int32))
    · refine z_iconst C (-1 : Int32) dX7_rings_9 rfl rfl ?_
      exact z_iret C rfl rfl dX7_rings_10
  exact key b hF
set_option maxRecDepth 100000 in
set_option maxHeartbeats 4000000 in
theorem mX7_brightest (Y : zY) (x0 : Int32) (M : zMem) (b : Int32 × zMem) (hF : FX7_brightest x0 M = some b) : zMt Y yX7_brightest cX7_brightest 3 (some .int) 5 123 [.ref 0, .int x0] M (zQi Y b.1 b.2) := by
  refine zMt_of (own := RX7) (by decide +kernel) rfl (Nat.le_of_ble_eq_true rfl) (fun X C => ?_)
  have key : zR Y X 3 (zFi Y X (fun b => b.1) (fun b => b.2)) (FX7_brightest x0 M) 0 [(0, .ref 0), (1, .int x0)] [] M := by
    unfold FX7_brightest
    refine z_iload_n C 1 dX7_brightest_0 rfl rfl rfl ?_
    refine z_iconst C (0 : Int32) dX7_brightest_1 rfl rfl ?_
    refine z_iconst C (2 : Int32) dX7_brightest_2 rfl rfl ?_
    refine z_ci (fun b => b) (fun _ => M) (fun b hb => z_S (na := 3) C [.int x0, .int (0 : Int32), .int (2 : Int32)] rfl (mX7_within Y x0 (0 : Int32) (2 : Int32) M b hb) w359 w360 w79 w361 hdX7_within ⟨Nat.le_of_ble_eq_true rfl, Nat.le_of_ble_eq_true rfl⟩ (Nat.le_of_ble_eq_true rfl) rfl dX7_brightest_3) rfl (fun b2 => ?_)
    refine z_ifne C dX7_brightest_6 rfl rfl ?_ ?_
    · refine z_aload_n C 0 dX7_brightest_12 rfl rfl rfl ?_
      refine z_get (v := .ref 15) C 1 zOK7 rfl (by decide) w324 rfl rfl dX7_brightest_13 rfl ?_
      refine z_cv (fun b => b) (fun b hb => z_VN (na := 0) (ci := 3) (r := (RX3, TX3, 6)) C [] rfl (mX3_lookAnew Y M b hb) rfl rfl (List.mem_of_getElem? (i := 11) rfl) w443 w6 w82 w444 hdX3_lookAnewN ⟨Nat.le_of_ble_eq_true rfl, Nat.le_of_ble_eq_true rfl⟩ (Nat.le_of_ble_eq_true rfl) rfl dX7_brightest_16) rfl (fun b3 => ?_)
      refine z_aload_n C 0 dX7_brightest_19 rfl rfl rfl ?_
      refine z_get (v := .ref 11) C 3 zOK7 rfl (by decide) w326 rfl rfl dX7_brightest_20 rfl ?_
      refine z_cv (fun b => b) (fun b hb => z_VN (na := 0) (ci := 4) (r := (RX4, TX4, 4)) C [] rfl (mX4_start Y b3 b hb) rfl rfl (List.mem_of_getElem? (i := 22) rfl) w535 w15 w81 w536 hdX4_startN ⟨Nat.le_of_ble_eq_true rfl, Nat.le_of_ble_eq_true rfl⟩ (Nat.le_of_ble_eq_true rfl) rfl dX7_brightest_23) rfl (fun b4 => ?_)
      refine z_iconst C (0 : Int32) dX7_brightest_26 rfl rfl ?_
      refine z_istoreP_n (lo' := [(2, .int (0 : Int32)), (0, .ref 0), (1, .int x0)]) C dX7_brightest_27 rfl (by decide) rfl rfl ?_
      refine z_loop (sM := fun s => s.2) (sl := fun s => [(0, .ref 0), (1, .int x0), (2, .int s.1)]) [1, 2, 0] rfl rfl (fun r5 hr5 s6 => ?_)
      unfold FX7_brightest_L28
      refine z_iload_n C 2 dX7_brightest_28 rfl rfl rfl ?_
      refine z_sipush C (2401 : Int32) dX7_brightest_29 rfl rfl ?_
      refine z_icmpge C dX7_brightest_32 rfl rfl ?_ ?_
      · refine z_aload_n C 0 dX7_brightest_58 rfl rfl rfl ?_
        refine z_get (v := .ref 11) C 3 zOK7 rfl (by decide) w326 rfl rfl dX7_brightest_59 rfl ?_
        refine z_ci (fun b => b) (fun _ => s6.2) (fun b hb => z_VN (na := 0) (ci := 4) (r := (RX4, TX4, 4)) C [] rfl (mX4_greatest Y s6.2 b hb) rfl rfl (List.mem_of_getElem? (i := 24) rfl) w549 w18 w81 w550 hdX4_greatestN ⟨Nat.le_of_ble_eq_true rfl, Nat.le_of_ble_eq_true rfl⟩ (Nat.le_of_ble_eq_true rfl) rfl dX7_brightest_62) rfl (fun b7 => ?_)
        refine z_istoreP_n (lo' := [(2, .int b7), (0, .ref 0), (1, .int x0)]) C dX7_brightest_65 rfl (by decide) rfl rfl ?_
        refine z_iload_n C 2 dX7_brightest_66 rfl rfl rfl ?_
        refine z_ifne C dX7_brightest_67 rfl rfl ?_ ?_
        · refine z_iload_n C 2 dX7_brightest_80 rfl rfl rfl ?_
          refine z_iconst C (1 : Int32) dX7_brightest_81 rfl rfl ?_
          refine z_icmpne C dX7_brightest_82 rfl rfl ?_ ?_
          · refine z_aload_n C 1 dX7_brightest_105 rfl rfl rfl ?_
            refine z_get (v := .ref 11) C 3 zOK7 rfl (by decide) w326 rfl rfl dX7_brightest_106 rfl ?_
            refine z_getN (v := .ref 13) C 1 zOK4 rfl (by decide) (List.mem_of_getElem? (i := 5) rfl) rfl rfl dX7_brightest_109 rfl ?_
            refine z_iload_n C 0 dX7_brightest_112 rfl rfl rfl ?_
            refine z_iaload C 4096 rfl dX7_brightest_113 rfl ?_
            refine z_sipush C (8192 : Int32) dX7_brightest_114 rfl rfl ?_
            refine z_idivK C dX7_brightest_117 (by decide) rfl ?_
            refine z_sipush C (4096 : Int32) dX7_brightest_118 rfl rfl ?_
            refine z_isub C dX7_brightest_121 rfl ?_
            exact z_iret C rfl rfl dX7_brightest_122
          · refine z_aload_n C 1 dX7_brightest_85 rfl rfl rfl ?_
            refine z_get (v := .ref 11) C 3 zOK7 rfl (by decide) w326 rfl rfl dX7_brightest_86 rfl ?_
            refine z_getN (v := .ref 13) C 1 zOK4 rfl (by decide) (List.mem_of_getElem? (i := 5) rfl) rfl rfl dX7_brightest_89 rfl ?_
            refine z_iload_n C 0 dX7_brightest_92 rfl rfl rfl ?_
            refine z_iaload C 4096 rfl dX7_brightest_93 rfl ?_
            refine z_sipush C (8192 : Int32) dX7_brightest_94 rfl rfl ?_
            refine z_iremK C dX7_brightest_97 (by decide) rfl ?_
            refine z_sipush C (4096 : Int32) dX7_brightest_98 rfl rfl ?_
            refine z_isub C dX7_brightest_101 rfl ?_
            refine z_goto C dX7_brightest_102 rfl ?_
            exact z_iret C rfl rfl dX7_brightest_122
        · refine z_aload_n C 1 dX7_brightest_70 rfl rfl rfl ?_
          refine z_get (v := .ref 11) C 3 zOK7 rfl (by decide) w326 rfl rfl dX7_brightest_71 rfl ?_
          refine z_getN (v := .ref 14) C 2 zOK4 rfl (by decide) (List.mem_of_getElem? (i := 6) rfl) rfl rfl dX7_brightest_74 rfl ?_
          refine z_iload_n C 0 dX7_brightest_77 rfl rfl rfl ?_
          refine z_iaload C 4096 rfl dX7_brightest_78 rfl ?_
          exact z_iret C rfl rfl dX7_brightest_79
      · refine z_aload_n C 0 dX7_brightest_35 rfl rfl rfl ?_
        refine z_get (v := .ref 11) C 3 zOK7 rfl (by decide) w326 rfl rfl dX7_brightest_36 rfl ?_
        refine z_aload_n C 0 dX7_brightest_39 rfl rfl rfl ?_
        refine z_get (v := .ref 15) C 1 zOK7 rfl (by decide) w324 rfl rfl dX7_brightest_40 rfl ?_
        refine z_getN (v := .ref 18) C 3 zOK3 rfl (by decide) (List.mem_of_getElem? (i := 11) rfl) rfl rfl dX7_brightest_43 rfl ?_
        refine z_iload_n C 2 dX7_brightest_46 rfl rfl rfl ?_
        refine z_iaload C 2401 rfl dX7_brightest_47 rfl ?_
        refine z_ci (fun b => b.1) (fun b => b.2) (fun b hb => z_VN (na := 1) (ci := 4) (r := (RX4, TX4, 4)) C [.int (zrd s6.2 18 s6.1)] rfl (mX4_numberOf Y (zrd s6.2 18 s6.1) s6.2 b hb) rfl rfl (List.mem_of_getElem? (i := 23) rfl) w540 w16 w81 w541 hdX4_numberOfN ⟨Nat.le_of_ble_eq_true rfl, Nat.le_of_ble_eq_true rfl⟩ (Nat.le_of_ble_eq_true rfl) rfl dX7_brightest_48) rfl (fun b8 => ?_)
        refine z_pop C dX7_brightest_51 rfl rfl ?_
        refine z_iinc (v := (s6.1 + (1 : Int32))) C 2 (fun z => [(2, .int z), (0, .ref 0), (1, .int x0)]) dX7_brightest_52 rfl rfl (by decide) (fun _ => rfl) rfl (fun x9 => ?_)
        refine z_goto C dX7_brightest_55 rfl ?_
        exact z_perm [1, 2, 0] rfl (hr5 (x9, b8.2))
    · refine z_ldc C w379 dX7_brightest_9 rfl ?_
      exact z_iret C rfl rfl dX7_brightest_11
  exact key b hF
set_option maxRecDepth 100000 in
set_option maxHeartbeats 4000000 in
theorem mX7_delay (Y : zY) (x0 : Int32) (x1 : Int32) (x2 : Int32) (x3 : Int32) (x4 : Int32) (x5 : Int32) (M : zMem) (b : Int64 × zMem) (hF : FX7_delay x0 x1 x2 x3 x4 x5 M = some b) : zMt Y yX7_delay cX7_delay 7 (some .long) 5 123 [.ref 0, .int x0, .int x1, .int x2, .int x3, .int x4, .int x5] M (zQl Y b.1 b.2) := by
  refine zMt_of (own := RX7) (by decide +kernel) rfl (Nat.le_of_ble_eq_true rfl) (fun X C => ?_)
  have key : zR Y X 7 (zFl Y X (fun b => b.1) (fun b => b.2)) (FX7_delay x0 x1 x2 x3 x4 x5 M) 0 [(0, .ref 0), (1, .int x0), (2, .int x1), (3, .int x2), (4, .int x3), (5, .int x4), (6, .int x5)] [] M := by
    unfold FX7_delay
    refine z_iload_n C 1 dX7_delay_0 rfl rfl rfl ?_
    refine z_iload_n C 2 dX7_delay_1 rfl rfl rfl ?_
    refine z_bipush C (24 : Int32) dX7_delay_2 rfl rfl ?_
    refine z_ci (fun b => b) (fun _ => M) (fun b hb => z_S (na := 3) C [.int x0, .int x1, .int (24 : Int32)] rfl (mX7_isWithin Y x0 x1 (24 : Int32) M b hb) w395 w396 w79 w397 hdX7_isWithin ⟨Nat.le_of_ble_eq_true rfl, Nat.le_of_ble_eq_true rfl⟩ (Nat.le_of_ble_eq_true rfl) rfl dX7_delay_4) rfl (fun b7 => ?_)
    refine z_join (fun k9 => ∀ (u8 : Unit), zR Y X 7 (zFl Y X (fun b => b.1) (fun b => b.2)) (k9 u8) 34 [] [] M) (fun u8 => ?_) (fun k9 hk9 => ?_)
    · refine z_ldc2 C w555 dX7_delay_34 rfl ?_
      exact z_lret C rfl rfl dX7_delay_37
    · refine z_ifeq C dX7_delay_7 rfl rfl ?_ ?_
      · exact z_perm [] rfl (hk9 ())
      · refine z_iload_n C 3 dX7_delay_10 rfl rfl rfl ?_
        refine z_iload C 4 dX7_delay_11 rfl rfl ?_
        refine z_bipush C (24 : Int32) dX7_delay_13 rfl rfl ?_
        refine z_ci (fun b => b) (fun _ => M) (fun b hb => z_S (na := 3) C [.int x2, .int x3, .int (24 : Int32)] rfl (mX7_isWithin Y x2 x3 (24 : Int32) M b hb) w395 w396 w79 w397 hdX7_isWithin ⟨Nat.le_of_ble_eq_true rfl, Nat.le_of_ble_eq_true rfl⟩ (Nat.le_of_ble_eq_true rfl) rfl dX7_delay_15) rfl (fun b10 => ?_)
        refine z_ifeq C dX7_delay_18 rfl rfl ?_ ?_
        · exact z_perm [] rfl (hk9 ())
        · refine z_iload C 5 dX7_delay_21 rfl rfl ?_
          refine z_iload C 6 dX7_delay_23 rfl rfl ?_
          refine z_sipush C (2000 : Int32) dX7_delay_25 rfl rfl ?_
          refine z_ci (fun b => b) (fun _ => M) (fun b hb => z_S (na := 3) C [.int x4, .int x5, .int (2000 : Int32)] rfl (mX7_isWithin Y x4 x5 (2000 : Int32) M b hb) w395 w396 w79 w397 hdX7_isWithin ⟨Nat.le_of_ble_eq_true rfl, Nat.le_of_ble_eq_true rfl⟩ (Nat.le_of_ble_eq_true rfl) rfl dX7_delay_28) rfl (fun b11 => ?_)
          refine z_ifne C dX7_delay_31 rfl rfl ?_ ?_
          · refine z_aload_n C 0 dX7_delay_38 rfl rfl rfl ?_
            refine z_get (v := .ref 15) C 1 zOK7 rfl (by decide) w324 rfl rfl dX7_delay_39 rfl ?_
            refine z_cv (fun b => b) (fun b hb => z_VN (na := 0) (ci := 3) (r := (RX3, TX3, 6)) C [] rfl (mX3_lookAnew Y M b hb) rfl rfl (List.mem_of_getElem? (i := 11) rfl) w443 w6 w82 w444 hdX3_lookAnewN ⟨Nat.le_of_ble_eq_true rfl, Nat.le_of_ble_eq_true rfl⟩ (Nat.le_of_ble_eq_true rfl) rfl dX7_delay_42) rfl (fun b12 => ?_)
            refine z_aload_n C 0 dX7_delay_45 rfl rfl rfl ?_
            refine z_get (v := .ref 15) C 1 zOK7 rfl (by decide) w324 rfl rfl dX7_delay_46 rfl ?_
            refine z_iload_n C 1 dX7_delay_49 rfl rfl rfl ?_
            refine z_iload_n C 2 dX7_delay_50 rfl rfl rfl ?_
            refine z_iload_n C 3 dX7_delay_51 rfl rfl rfl ?_
            refine z_iload C 4 dX7_delay_52 rfl rfl ?_
            refine z_iload C 5 dX7_delay_54 rfl rfl ?_
            refine z_iload C 6 dX7_delay_56 rfl rfl ?_
            refine z_cl (fun b => b) (fun _ => b12) (fun b hb => z_VN (na := 6) (ci := 3) (r := (RX3, TX3, 6)) C [.int x0, .int x1, .int x2, .int x3, .int x4, .int x5] rfl (mX3_delayOnWay Y x0 x1 x2 x3 x4 x5 b12 b hb) rfl rfl (List.mem_of_getElem? (i := 25) rfl) w558 w19 w82 w559 hdX3_delayOnWayN ⟨Nat.le_of_ble_eq_true rfl, Nat.le_of_ble_eq_true rfl⟩ (Nat.le_of_ble_eq_true rfl) rfl dX7_delay_58) rfl (fun b13 => ?_)
            exact z_lret C rfl rfl dX7_delay_61
          · exact z_perm [] rfl (hk9 ())
  exact key b hF
set_option maxRecDepth 100000 in
set_option maxHeartbeats 4000000 in
theorem mX7_stretch (Y : zY) (x0 : Int32) (M : zMem) (b : Int32 × zMem) (hF : FX7_stretch x0 M = some b) : zMt Y yX7_stretch cX7_stretch 2 (some .int) 5 123 [.ref 0, .int x0] M (zQi Y b.1 b.2) := by
  refine zMt_of (own := RX7) (by decide +kernel) rfl (Nat.le_of_ble_eq_true rfl) (fun X C => ?_)
  have key : zR Y X 2 (zFi Y X (fun b => b.1) (fun b => b.2)) (FX7_stretch x0 M) 0 [(0, .ref 0), (1, .int x0)] [] M := by
    unfold FX7_stretch
    refine z_iload_n C 1 dX7_stretch_0 rfl rfl rfl ?_
    refine z_iconst C (1 : Int32) dX7_stretch_1 rfl rfl ?_
    refine z_bipush C (24 : Int32) dX7_stretch_2 rfl rfl ?_
    refine z_ci (fun b => b) (fun _ => M) (fun b hb => z_S (na := 3) C [.int x0, .int (1 : Int32), .int (24 : Int32)] rfl (mX7_within Y x0 (1 : Int32) (24 : Int32) M b hb) w359 w360 w79 w361 hdX7_within ⟨Nat.le_of_ble_eq_true rfl, Nat.le_of_ble_eq_true rfl⟩ (Nat.le_of_ble_eq_true rfl) rfl dX7_stretch_4) rfl (fun b2 => ?_)
    refine z_ifne C dX7_stretch_7 rfl rfl ?_ ?_
    · refine z_aload_n C 0 dX7_stretch_13 rfl rfl rfl ?_
      refine z_get (v := .ref 15) C 1 zOK7 rfl (by decide) w324 rfl rfl dX7_stretch_14 rfl ?_
      refine z_cv (fun b => b) (fun b hb => z_VN (na := 0) (ci := 3) (r := (RX3, TX3, 6)) C [] rfl (mX3_lookAnew Y M b hb) rfl rfl (List.mem_of_getElem? (i := 11) rfl) w443 w6 w82 w444 hdX3_lookAnewN ⟨Nat.le_of_ble_eq_true rfl, Nat.le_of_ble_eq_true rfl⟩ (Nat.le_of_ble_eq_true rfl) rfl dX7_stretch_17) rfl (fun b3 => ?_)
      refine z_aload_n C 0 dX7_stretch_20 rfl rfl rfl ?_
      refine z_get (v := .ref 15) C 1 zOK7 rfl (by decide) w324 rfl rfl dX7_stretch_21 rfl ?_
      refine z_iload_n C 1 dX7_stretch_24 rfl rfl rfl ?_
      refine z_ci (fun b => b) (fun _ => b3) (fun b hb => z_VN (na := 1) (ci := 3) (r := (RX3, TX3, 6)) C [.int x0] rfl (mX3_stretchOf Y x0 b3 b hb) rfl rfl (List.mem_of_getElem? (i := 26) rfl) w575 w20 w82 w576 hdX3_stretchOfN ⟨Nat.le_of_ble_eq_true rfl, Nat.le_of_ble_eq_true rfl⟩ (Nat.le_of_ble_eq_true rfl) rfl dX7_stretch_25) rfl (fun b4 => ?_)
      exact z_iret C rfl rfl dX7_stretch_28
    · refine z_ldc C w379 dX7_stretch_10 rfl ?_
      exact z_iret C rfl rfl dX7_stretch_12
  exact key b hF
set_option maxRecDepth 100000 in
set_option maxHeartbeats 4000000 in
theorem mX7_type (Y : zY) (y0 : Int64) (x1 : Int32) (M : zMem) (b : Int32 × zMem) (hF : FX7_type y0 x1 M = some b) : zMt Y yX7_type cX7_type 5 (some .int) 1 22 [.ref 0, .long y0, .int x1] M (zQi Y b.1 b.2) := by
  refine zMt_of (own := RX7) (by decide +kernel) rfl (Nat.le_of_ble_eq_true rfl) (fun X C => ?_)
  have key : zR Y X 5 (zFi Y X (fun b => b.1) (fun b => b.2)) (FX7_type y0 x1 M) 0 [(0, .ref 0), (1, .long y0), (3, .int x1)] [] M := by
    unfold FX7_type
    refine z_iload_n C 2 dX7_type_0 rfl rfl rfl ?_
    refine z_iconst C (1 : Int32) dX7_type_1 rfl rfl ?_
    refine z_bipush C (8 : Int32) dX7_type_2 rfl rfl ?_
    refine z_ci (fun b => b) (fun _ => M) (fun b hb => z_S (na := 3) C [.int x1, .int (1 : Int32), .int (8 : Int32)] rfl (mX7_within Y x1 (1 : Int32) (8 : Int32) M b hb) w359 w360 w79 w361 hdX7_within ⟨Nat.le_of_ble_eq_true rfl, Nat.le_of_ble_eq_true rfl⟩ (Nat.le_of_ble_eq_true rfl) rfl dX7_type_4) rfl (fun b3 => ?_)
    refine z_ifne C dX7_type_7 rfl rfl ?_ ?_
    · refine z_aload_n C 0 dX7_type_12 rfl rfl rfl ?_
      refine z_get (v := .ref 23) C 4 zOK7 rfl (by decide) w327 rfl rfl dX7_type_13 rfl ?_
      refine z_getN (v := .int (M.1 23 2)) C 2 zOK5 rfl (by decide) (List.mem_of_getElem? (i := 17) rfl) rfl rfl dX7_type_16 rfl ?_
      refine z_iload_n C 2 dX7_type_19 rfl rfl rfl ?_
      refine z_iadd C dX7_type_20 rfl ?_
      refine z_sipush C (200 : Int32) dX7_type_21 rfl rfl ?_
      refine z_icmple C dX7_type_24 rfl rfl ?_ ?_
      · refine z_iload_n C 2 dX7_type_30 rfl rfl rfl ?_
        refine z_iconst C (1 : Int32) dX7_type_31 rfl rfl ?_
        refine z_isub C dX7_type_32 rfl ?_
        refine z_istore C (fun z => [(4, .int z), (0, .ref 0), (1, .long y0), (3, .int x1)]) dX7_type_33 (by decide) (fun _ => rfl) rfl (fun x4 => ?_)
        refine z_loop (sM := fun s => s.2) (sl := fun s => [(0, .ref 0), (1, .long y0), (4, .int s.1)]) [1, 2, 0] rfl rfl (fun r5 hr5 s6 => ?_)
        unfold FX7_type_L35
        refine z_iload C 2 dX7_type_35 rfl rfl ?_
        refine z_iflt C dX7_type_37 rfl rfl ?_ ?_
        · refine z_aload_n C 0 dX7_type_65 rfl rfl rfl ?_
          refine z_get (v := .ref 23) C 4 zOK7 rfl (by decide) w327 rfl rfl dX7_type_66 rfl ?_
          refine z_getN (v := .int (s6.2.1 23 2)) C 2 zOK5 rfl (by decide) (List.mem_of_getElem? (i := 17) rfl) rfl rfl dX7_type_69 rfl ?_
          exact z_iret C rfl rfl dX7_type_72
        · refine z_aload_n C 0 dX7_type_40 rfl rfl rfl ?_
          refine z_get (v := .ref 23) C 4 zOK7 rfl (by decide) w327 rfl rfl dX7_type_41 rfl ?_
          refine z_lload_n C 1 dX7_type_44 rfl rfl rfl ?_
          refine z_bipush C (8 : Int32) dX7_type_45 rfl rfl ?_
          refine z_iload C 2 dX7_type_47 rfl rfl ?_
          refine z_imul C dX7_type_49 rfl ?_
          refine z_lushr C dX7_type_50 rfl ?_
          refine z_ldc2 C w591 dX7_type_51 rfl ?_
          refine z_land C dX7_type_54 rfl ?_
          refine z_l2i C dX7_type_55 rfl ?_
          refine z_cv (fun b => b) (fun b hb => z_VN (na := 1) (ci := 5) (r := (RX5, TX5, 4)) C [.int ((zlushr y0 ((8 : Int32) * s6.1)) &&& (255 : Int64)).toInt32] rfl (mX5_add Y (((zlushr y0 ((8 : Int32) * s6.1)) &&& (255 : Int64)).toInt32) s6.2 b hb) rfl rfl (List.mem_of_getElem? (i := 27) rfl) w594 w22 w84 w595 hdX5_addN ⟨Nat.le_of_ble_eq_true rfl, Nat.le_of_ble_eq_true rfl⟩ (Nat.le_of_ble_eq_true rfl) rfl dX7_type_56) rfl (fun b7 => ?_)
          refine z_iinc (v := (s6.1 + (-1 : Int32))) C 2 (fun z => [(4, .int z), (0, .ref 0), (1, .long y0)]) dX7_type_59 rfl rfl (by decide) (fun _ => rfl) rfl (fun x8 => ?_)
          refine z_goto C dX7_type_62 rfl ?_
          exact z_perm [1, 2, 0] rfl (hr5 (x8, b7))
      · refine z_bipush C (-3 : Int32) dX7_type_27 rfl rfl ?_
        exact z_iret C rfl rfl dX7_type_29
    · refine z_iconst C (-1 : Int32) dX7_type_10 rfl rfl ?_
      exact z_iret C rfl rfl dX7_type_11
  exact key b hF
set_option maxRecDepth 100000 in
set_option maxHeartbeats 4000000 in
theorem mX7_clear (Y : zY) (M : zMem) (b : Int32 × zMem) (hF : FX7_clear M = some b) : zMt Y yX7_clear cX7_clear 2 (some .int) 0 0 [.ref 0] M (zQi Y b.1 b.2) := by
  refine zMt_of (own := RX7) (by decide +kernel) rfl (Nat.le_of_ble_eq_true rfl) (fun X C => ?_)
  have key : zR Y X 2 (zFi Y X (fun b => b.1) (fun b => b.2)) (FX7_clear M) 0 [(0, .ref 0)] [] M := by
    unfold FX7_clear
    refine z_aload_n C 0 dX7_clear_0 rfl rfl rfl ?_
    refine z_get (v := .ref 23) C 4 zOK7 rfl (by decide) w327 rfl rfl dX7_clear_1 rfl ?_
    refine z_getN (v := .int (M.1 23 2)) C 2 zOK5 rfl (by decide) (List.mem_of_getElem? (i := 17) rfl) rfl rfl dX7_clear_4 rfl ?_
    refine z_istore_n C (fun z => [(1, .int z), (0, .ref 0)]) dX7_clear_7 rfl (by decide) (fun _ => rfl) rfl (fun x1 => ?_)
    refine z_aload_n C 1 dX7_clear_8 rfl rfl rfl ?_
    refine z_get (v := .ref 23) C 4 zOK7 rfl (by decide) w327 rfl rfl dX7_clear_9 rfl ?_
    refine z_iconst C (0 : Int32) dX7_clear_12 rfl rfl ?_
    refine z_putiN C 2 zOK5 rfl (by decide) (List.mem_of_getElem? (i := 17) rfl) rfl rfl rfl rfl rfl dX7_clear_13 rfl (fun M2 => ?_)
    refine z_iload_n C 0 dX7_clear_16 rfl rfl rfl ?_
    exact z_iret C rfl rfl dX7_clear_17
  exact key b hF
set_option maxRecDepth 100000 in
set_option maxHeartbeats 4000000 in
theorem mX7_read (Y : zY) (M : zMem) (b : Int32 × zMem) (hF : FX7_read M = some b) : zMt Y yX7_read cX7_read 3 (some .int) 4 90 [.ref 0] M (zQi Y b.1 b.2) := by
  refine zMt_of (own := RX7) (by decide +kernel) rfl (Nat.le_of_ble_eq_true rfl) (fun X C => ?_)
  have key : zR Y X 3 (zFi Y X (fun b => b.1) (fun b => b.2)) (FX7_read M) 0 [(0, .ref 0)] [] M := by
    unfold FX7_read
    refine z_aload_n C 0 dX7_read_0 rfl rfl rfl ?_
    refine z_get (v := .ref 23) C 4 zOK7 rfl (by decide) w327 rfl rfl dX7_read_1 rfl ?_
    refine z_ci (fun b => b.1) (fun b => b.2) (fun b hb => z_VN (na := 0) (ci := 5) (r := (RX5, TX5, 4)) C [] rfl (mX5_tellBodies Y M b hb) rfl rfl (List.mem_of_getElem? (i := 28) rfl) w606 w23 w84 w607 hdX5_tellBodiesN ⟨Nat.le_of_ble_eq_true rfl, Nat.le_of_ble_eq_true rfl⟩ (Nat.le_of_ble_eq_true rfl) rfl dX7_read_4) rfl (fun b1 => ?_)
    refine z_istoreP_n (lo' := [(1, .int b1.1), (0, .ref 0)]) C dX7_read_7 rfl (by decide) rfl rfl ?_
    refine z_iload_n C 0 dX7_read_8 rfl rfl rfl ?_
    refine z_ifge C dX7_read_9 rfl rfl ?_ ?_
    · refine z_aload_n C 1 dX7_read_23 rfl rfl rfl ?_
      refine z_cv (fun b => b) (fun b hb => z_V (na := 0) (ci := 7) (r := (RX7, TX7, 8)) C [] rfl (mX7_lensChanges Y b1.2 b hb) rfl rfl w362 w364 w0 w79 w365 hdX7_lensChanges ⟨Nat.le_of_ble_eq_true rfl, Nat.le_of_ble_eq_true rfl⟩ (Nat.le_of_ble_eq_true rfl) rfl dX7_read_24) rfl (fun b2 => ?_)
      refine z_aload_n C 1 dX7_read_27 rfl rfl rfl ?_
      refine z_get (v := .ref 1) C 0 zOK7 rfl (by decide) w323 rfl rfl dX7_read_28 rfl ?_
      refine z_getN (v := .ref (zcl (b2.1 1 0))) C 0 zOK2 rfl (by decide) (List.mem_of_getElem? (i := 0) rfl) rfl rfl dX7_read_31 rfl ?_
      refine z_astore_n (lo' := [(2, .ref (zcl (b2.1 1 0))), (1, .int b1.1), (0, .ref 0)]) C dX7_read_34 rfl (by decide) rfl rfl ?_
      refine z_aload_n C 2 dX7_read_35 rfl rfl rfl ?_
      refine z_get (v := .ref 1) C 0 zOK7 rfl (by decide) w323 rfl rfl dX7_read_36 rfl ?_
      refine z_aload_n C 2 dX7_read_39 rfl rfl rfl ?_
      refine z_get (v := .ref 23) C 4 zOK7 rfl (by decide) w327 rfl rfl dX7_read_40 rfl ?_
      refine z_getN (v := .ref (zcl (b2.1 23 1))) C 1 zOK5 rfl (by decide) (List.mem_of_getElem? (i := 16) rfl) rfl rfl dX7_read_43 rfl ?_
      refine z_putrN C 0 zOK2 rfl (by decide) (List.mem_of_getElem? (i := 0) rfl) rfl rfl rfl (fun _ => rfl) (fun _ => rfl) dX7_read_46 rfl (fun M3 => ?_)
      refine z_aload_n C 2 dX7_read_49 rfl rfl rfl ?_
      refine z_get (v := .ref 1) C 0 zOK7 rfl (by decide) w323 rfl rfl dX7_read_50 rfl ?_
      refine z_iload_n C 1 dX7_read_53 rfl rfl rfl ?_
      refine z_putiN C 1 zOK2 rfl (by decide) (List.mem_of_getElem? (i := 2) rfl) rfl rfl rfl rfl rfl dX7_read_54 rfl (fun M4 => ?_)
      refine z_aload_n C 2 dX7_read_57 rfl rfl rfl ?_
      refine z_get (v := .ref 23) C 4 zOK7 rfl (by decide) w327 rfl rfl dX7_read_58 rfl ?_
      refine z_aload_n C 0 dX7_read_61 rfl rfl rfl ?_
      refine z_putrN C 1 zOK5 rfl (by decide) (List.mem_of_getElem? (i := 16) rfl) rfl rfl rfl (fun _ => rfl) (fun _ => rfl) dX7_read_62 rfl (fun M5 => ?_)
      refine z_aload_n C 2 dX7_read_65 rfl rfl rfl ?_
      refine z_get (v := .ref 23) C 4 zOK7 rfl (by decide) w327 rfl rfl dX7_read_66 rfl ?_
      refine z_iconst C (0 : Int32) dX7_read_69 rfl rfl ?_
      refine z_putiN C 2 zOK5 rfl (by decide) (List.mem_of_getElem? (i := 17) rfl) rfl rfl rfl rfl rfl dX7_read_70 rfl (fun M6 => ?_)
      refine z_iload_n C 1 dX7_read_73 rfl rfl rfl ?_
      exact z_iret C rfl rfl dX7_read_74
    · refine z_bipush C (-10 : Int32) dX7_read_12 rfl rfl ?_
      refine z_aload_n C 1 dX7_read_14 rfl rfl rfl ?_
      refine z_get (v := .ref 23) C 4 zOK7 rfl (by decide) w327 rfl rfl dX7_read_15 rfl ?_
      refine z_getN (v := .int (b1.2.1 23 3)) C 3 zOK5 rfl (by decide) (List.mem_of_getElem? (i := 18) rfl) rfl rfl dX7_read_18 rfl ?_
      refine z_isub C dX7_read_21 rfl ?_
      exact z_iret C rfl rfl dX7_read_22
  exact key b hF
set_option maxRecDepth 100000 in
set_option maxHeartbeats 4000000 in
theorem mX7_pair (Y : zY) (x0 : Int32) (x1 : Int32) (x2 : Int32) (x3 : Int32) (M : zMem) (b : Int32 × zMem) (hF : FX7_pair x0 x1 x2 x3 M = some b) : zMt Y yX7_pair cX7_pair 5 (some .int) 2 44 [.ref 0, .int x0, .int x1, .int x2, .int x3] M (zQi Y b.1 b.2) := by
  refine zMt_of (own := RX7) (by decide +kernel) rfl (Nat.le_of_ble_eq_true rfl) (fun X C => ?_)
  have key : zR Y X 5 (zFi Y X (fun b => b.1) (fun b => b.2)) (FX7_pair x0 x1 x2 x3 M) 0 [(0, .ref 0), (1, .int x0), (2, .int x1), (3, .int x2), (4, .int x3)] [] M := by
    unfold FX7_pair
    refine z_iload_n C 1 dX7_pair_0 rfl rfl rfl ?_
    refine z_iload_n C 2 dX7_pair_1 rfl rfl rfl ?_
    refine z_bipush C (30 : Int32) dX7_pair_2 rfl rfl ?_
    refine z_ci (fun b => b) (fun _ => M) (fun b hb => z_S (na := 3) C [.int x0, .int x1, .int (30 : Int32)] rfl (mX7_isWithin Y x0 x1 (30 : Int32) M b hb) w395 w396 w79 w397 hdX7_isWithin ⟨Nat.le_of_ble_eq_true rfl, Nat.le_of_ble_eq_true rfl⟩ (Nat.le_of_ble_eq_true rfl) rfl dX7_pair_4) rfl (fun b5 => ?_)
    refine z_ifeq C dX7_pair_7 rfl rfl ?_ ?_
    · refine z_iconst C (-1 : Int32) dX7_pair_21 rfl rfl ?_
      exact z_iret C rfl rfl dX7_pair_22
    · refine z_iload_n C 3 dX7_pair_10 rfl rfl rfl ?_
      refine z_iload C 4 dX7_pair_11 rfl rfl ?_
      refine z_bipush C (30 : Int32) dX7_pair_13 rfl rfl ?_
      refine z_ci (fun b => b) (fun _ => M) (fun b hb => z_S (na := 3) C [.int x2, .int x3, .int (30 : Int32)] rfl (mX7_isWithin Y x2 x3 (30 : Int32) M b hb) w395 w396 w79 w397 hdX7_isWithin ⟨Nat.le_of_ble_eq_true rfl, Nat.le_of_ble_eq_true rfl⟩ (Nat.le_of_ble_eq_true rfl) rfl dX7_pair_15) rfl (fun b6 => ?_)
      refine z_ifne C dX7_pair_18 rfl rfl ?_ ?_
      · refine z_aload_n C 0 dX7_pair_23 rfl rfl rfl ?_
        refine z_get (v := .ref 34) C 5 zOK7 rfl (by decide) w328 rfl rfl dX7_pair_24 rfl ?_
        refine z_getN (v := .int (M.1 34 4)) C 4 zOK6 rfl (by decide) (List.mem_of_getElem? (i := 19) rfl) rfl rfl dX7_pair_27 rfl ?_
        refine z_bipush C (10 : Int32) dX7_pair_30 rfl rfl ?_
        refine z_icmplt C dX7_pair_32 rfl rfl ?_ ?_
        · refine z_aload_n C 0 dX7_pair_38 rfl rfl rfl ?_
          refine z_get (v := .ref 34) C 5 zOK7 rfl (by decide) w328 rfl rfl dX7_pair_39 rfl ?_
          refine z_iload_n C 1 dX7_pair_42 rfl rfl rfl ?_
          refine z_iload_n C 2 dX7_pair_43 rfl rfl rfl ?_
          refine z_iload_n C 3 dX7_pair_44 rfl rfl rfl ?_
          refine z_iload C 4 dX7_pair_45 rfl rfl ?_
          refine z_ci (fun b => b.1) (fun b => b.2) (fun b hb => z_VN (na := 4) (ci := 6) (r := (RX6, TX6, 18)) C [.int x0, .int x1, .int x2, .int x3] rfl (mX6_addPair Y x0 x1 x2 x3 M b hb) rfl rfl (List.mem_of_getElem? (i := 30) rfl) w633 w28 w85 w634 hdX6_addPairN ⟨Nat.le_of_ble_eq_true rfl, Nat.le_of_ble_eq_true rfl⟩ (Nat.le_of_ble_eq_true rfl) rfl dX7_pair_47) rfl (fun b7 => ?_)
          exact z_iret C rfl rfl dX7_pair_50
        · refine z_bipush C (-3 : Int32) dX7_pair_35 rfl rfl ?_
          exact z_iret C rfl rfl dX7_pair_37
      · refine z_iconst C (-1 : Int32) dX7_pair_21 rfl rfl ?_
        exact z_iret C rfl rfl dX7_pair_22
  exact key b hF
set_option maxRecDepth 100000 in
set_option maxHeartbeats 4000000 in
theorem mX7_wipe (Y : zY) (M : zMem) (b : Int32 × zMem) (hF : FX7_wipe M = some b) : zMt Y yX7_wipe cX7_wipe 2 (some .int) 0 0 [.ref 0] M (zQi Y b.1 b.2) := by
  refine zMt_of (own := RX7) (by decide +kernel) rfl (Nat.le_of_ble_eq_true rfl) (fun X C => ?_)
  have key : zR Y X 2 (zFi Y X (fun b => b.1) (fun b => b.2)) (FX7_wipe M) 0 [(0, .ref 0)] [] M := by
    unfold FX7_wipe
    refine z_aload_n C 0 dX7_wipe_0 rfl rfl rfl ?_
    refine z_get (v := .ref 34) C 5 zOK7 rfl (by decide) w328 rfl rfl dX7_wipe_1 rfl ?_
    refine z_getN (v := .int (M.1 34 4)) C 4 zOK6 rfl (by decide) (List.mem_of_getElem? (i := 19) rfl) rfl rfl dX7_wipe_4 rfl ?_
    refine z_istore_n C (fun z => [(1, .int z), (0, .ref 0)]) dX7_wipe_7 rfl (by decide) (fun _ => rfl) rfl (fun x1 => ?_)
    refine z_aload_n C 1 dX7_wipe_8 rfl rfl rfl ?_
    refine z_get (v := .ref 34) C 5 zOK7 rfl (by decide) w328 rfl rfl dX7_wipe_9 rfl ?_
    refine z_iconst C (0 : Int32) dX7_wipe_12 rfl rfl ?_
    refine z_putiN C 4 zOK6 rfl (by decide) (List.mem_of_getElem? (i := 19) rfl) rfl rfl rfl rfl rfl dX7_wipe_13 rfl (fun M2 => ?_)
    refine z_aload_n C 1 dX7_wipe_16 rfl rfl rfl ?_
    refine z_get (v := .ref 34) C 5 zOK7 rfl (by decide) w328 rfl rfl dX7_wipe_17 rfl ?_
    refine z_iconst C (1 : Int32) dX7_wipe_20 rfl rfl ?_
    refine z_putiN C 16 zOK6 rfl (by decide) (List.mem_of_getElem? (i := 24) rfl) rfl rfl rfl rfl rfl dX7_wipe_21 rfl (fun M3 => ?_)
    refine z_iload_n C 0 dX7_wipe_24 rfl rfl rfl ?_
    exact z_iret C rfl rfl dX7_wipe_25
  exact key b hF
set_option maxRecDepth 100000 in
set_option maxHeartbeats 4000000 in
theorem mX7_tolerance (Y : zY) (x0 : Int32) (x1 : Int32) (M : zMem) (b : Int32 × zMem) (hF : FX7_tolerance x0 x1 M = some b) : zMt Y yX7_tolerance cX7_tolerance 4 (some .int) 1 22 [.ref 0, .int x0, .int x1] M (zQi Y b.1 b.2) := by
  refine zMt_of (own := RX7) (by decide +kernel) rfl (Nat.le_of_ble_eq_true rfl) (fun X C => ?_)
  have key : zR Y X 4 (zFi Y X (fun b => b.1) (fun b => b.2)) (FX7_tolerance x0 x1 M) 0 [(0, .ref 0), (1, .int x0), (2, .int x1)] [] M := by
    unfold FX7_tolerance
    refine z_iload_n C 1 dX7_tolerance_0 rfl rfl rfl ?_
    refine z_iconst C (0 : Int32) dX7_tolerance_1 rfl rfl ?_
    refine z_iconst C (1 : Int32) dX7_tolerance_2 rfl rfl ?_
    refine z_ci (fun b => b) (fun _ => M) (fun b hb => z_S (na := 3) C [.int x0, .int (0 : Int32), .int (1 : Int32)] rfl (mX7_within Y x0 (0 : Int32) (1 : Int32) M b hb) w359 w360 w79 w361 hdX7_within ⟨Nat.le_of_ble_eq_true rfl, Nat.le_of_ble_eq_true rfl⟩ (Nat.le_of_ble_eq_true rfl) rfl dX7_tolerance_3) rfl (fun b3 => ?_)
    refine z_ifeq C dX7_tolerance_6 rfl rfl ?_ ?_
    · refine z_iconst C (-1 : Int32) dX7_tolerance_28 rfl rfl ?_
      exact z_iret C rfl rfl dX7_tolerance_29
    · refine z_iload_n C 2 dX7_tolerance_9 rfl rfl rfl ?_
      refine z_iconst C (0 : Int32) dX7_tolerance_10 rfl rfl ?_
      refine z_iload_n C 1 dX7_tolerance_11 rfl rfl rfl ?_
      refine z_join (fun k5 => ∀ (x4 : Int32), zR Y X 4 (zFi Y X (fun b => b.1) (fun b => b.2)) (k5 x4) 22 [(0, .ref 0), (1, .int x0), (2, .int x1)] [.int x4, .int (0 : Int32), .int x1] M) (fun x4 => ?_) (fun k5 hk5 => ?_)
      · refine z_ci (fun b => b) (fun _ => M) (fun b hb => z_S (na := 3) C [.int x1, .int (0 : Int32), .int x4] rfl (mX7_within Y x1 (0 : Int32) x4 M b hb) w359 w360 w79 w361 hdX7_within ⟨Nat.le_of_ble_eq_true rfl, Nat.le_of_ble_eq_true rfl⟩ (Nat.le_of_ble_eq_true rfl) rfl dX7_tolerance_22) rfl (fun b6 => ?_)
        refine z_ifne C dX7_tolerance_25 rfl rfl ?_ ?_
        · refine z_iload_n C 1 dX7_tolerance_30 rfl rfl rfl ?_
          refine z_join (fun k8 => ∀ (x7 : Int32), zR Y X 4 (zFi Y X (fun b => b.1) (fun b => b.2)) (k8 x7) 51 [(0, .ref 0), (1, .int x0), (2, .int x1)] [.int x7] M) (fun x7 => ?_) (fun k8 hk8 => ?_)
          · refine z_istoreP_n (lo' := [(3, .int x7), (0, .ref 0), (1, .int x0), (2, .int x1)]) C dX7_tolerance_51 rfl (by decide) rfl rfl ?_
            refine z_iload_n C 2 dX7_tolerance_52 rfl rfl rfl ?_
            refine z_ifne C dX7_tolerance_53 rfl rfl ?_ ?_
            · refine z_aload_n C 1 dX7_tolerance_75 rfl rfl rfl ?_
              refine z_get (v := .ref 96) C 6 zOK7 rfl (by decide) w329 rfl rfl dX7_tolerance_76 rfl ?_
              refine z_iload_n C 3 dX7_tolerance_79 rfl rfl rfl ?_
              refine z_putiN C 5 zOK0 rfl (by decide) (List.mem_of_getElem? (i := 26) rfl) rfl rfl rfl rfl rfl dX7_tolerance_80 rfl (fun M9 => ?_)
              refine z_iload_n C 0 dX7_tolerance_83 rfl rfl rfl ?_
              exact z_iret C rfl rfl dX7_tolerance_84
            · refine z_aload_n C 1 dX7_tolerance_56 rfl rfl rfl ?_
              refine z_get (v := .ref 34) C 5 zOK7 rfl (by decide) w328 rfl rfl dX7_tolerance_57 rfl ?_
              refine z_iload_n C 3 dX7_tolerance_60 rfl rfl rfl ?_
              refine z_putiN C 6 zOK6 rfl (by decide) (List.mem_of_getElem? (i := 21) rfl) rfl rfl rfl rfl rfl dX7_tolerance_61 rfl (fun M10 => ?_)
              refine z_aload_n C 1 dX7_tolerance_64 rfl rfl rfl ?_
              refine z_get (v := .ref 34) C 5 zOK7 rfl (by decide) w328 rfl rfl dX7_tolerance_65 rfl ?_
              refine z_iconst C (1 : Int32) dX7_tolerance_68 rfl rfl ?_
              refine z_putiN C 16 zOK6 rfl (by decide) (List.mem_of_getElem? (i := 24) rfl) rfl rfl rfl rfl rfl dX7_tolerance_69 rfl (fun M11 => ?_)
              refine z_goto C dX7_tolerance_72 rfl ?_
              refine z_iload_n C 0 dX7_tolerance_83 rfl rfl rfl ?_
              exact z_iret C rfl rfl dX7_tolerance_84
          · refine z_ifne C dX7_tolerance_31 rfl rfl ?_ ?_
            · refine z_aload_n C 0 dX7_tolerance_44 rfl rfl rfl ?_
              refine z_get (v := .ref 96) C 6 zOK7 rfl (by decide) w329 rfl rfl dX7_tolerance_45 rfl ?_
              refine z_getN (v := .int (M.1 96 5)) C 5 zOK0 rfl (by decide) (List.mem_of_getElem? (i := 26) rfl) rfl rfl dX7_tolerance_48 rfl ?_
              exact z_perm [0, 1, 2] rfl (hk8 (M.1 96 5))
            · refine z_aload_n C 0 dX7_tolerance_34 rfl rfl rfl ?_
              refine z_get (v := .ref 34) C 5 zOK7 rfl (by decide) w328 rfl rfl dX7_tolerance_35 rfl ?_
              refine z_getN (v := .int (M.1 34 6)) C 6 zOK6 rfl (by decide) (List.mem_of_getElem? (i := 21) rfl) rfl rfl dX7_tolerance_38 rfl ?_
              refine z_goto C dX7_tolerance_41 rfl ?_
              exact z_perm [0, 1, 2] rfl (hk8 (M.1 34 6))
        · refine z_iconst C (-1 : Int32) dX7_tolerance_28 rfl rfl ?_
          exact z_iret C rfl rfl dX7_tolerance_29
      · refine z_ifne C dX7_tolerance_12 rfl rfl ?_ ?_
        · refine z_bipush C (99 : Int32) dX7_tolerance_20 rfl rfl ?_
          exact z_perm [0, 1, 2] rfl (hk5 (99 : Int32))
        · refine z_bipush C (64 : Int32) dX7_tolerance_15 rfl rfl ?_
          refine z_goto C dX7_tolerance_17 rfl ?_
          exact z_perm [0, 1, 2] rfl (hk5 (64 : Int32))
  exact key b hF
set_option maxRecDepth 100000 in
set_option maxHeartbeats 4000000 in
theorem mX7_isTrial (Y : zY) (x0 : Int32) (x1 : Int32) (M : zMem) (b : Int32) (hF : FX7_isTrial x0 x1 M = some b) : zMt Y yX7_isTrial cX7_isTrial 3 (some .boolean) 1 22 [.ref 0, .int x0, .int x1] M (zQi Y b M) := by
  refine zMt_of (own := RX7) (by decide +kernel) rfl (Nat.le_of_ble_eq_true rfl) (fun X C => ?_)
  have key : zR Y X 3 (zFi Y X (fun b => b) (fun _ => M)) (FX7_isTrial x0 x1 M) 0 [(0, .ref 0), (1, .int x0), (2, .int x1)] [] M := by
    unfold FX7_isTrial
    refine z_iload_n C 1 dX7_isTrial_0 rfl rfl rfl ?_
    refine z_iconst C (1 : Int32) dX7_isTrial_1 rfl rfl ?_
    refine z_iconst C (3 : Int32) dX7_isTrial_2 rfl rfl ?_
    refine z_ci (fun b => b) (fun _ => M) (fun b hb => z_S (na := 3) C [.int x0, .int (1 : Int32), .int (3 : Int32)] rfl (mX7_within Y x0 (1 : Int32) (3 : Int32) M b hb) w359 w360 w79 w361 hdX7_within ⟨Nat.le_of_ble_eq_true rfl, Nat.le_of_ble_eq_true rfl⟩ (Nat.le_of_ble_eq_true rfl) rfl dX7_isTrial_3) rfl (fun b3 => ?_)
    refine z_ifeq C dX7_isTrial_6 rfl rfl ?_ ?_
    · refine z_iconst C (0 : Int32) dX7_isTrial_34 rfl rfl ?_
      exact z_zretK C rfl rfl rfl dX7_isTrial_35
    · refine z_iload_n C 1 dX7_isTrial_9 rfl rfl rfl ?_
      refine z_aload_n C 0 dX7_isTrial_10 rfl rfl rfl ?_
      refine z_get (v := .ref 1) C 0 zOK7 rfl (by decide) w323 rfl rfl dX7_isTrial_11 rfl ?_
      refine z_getN (v := .int (M.1 1 1)) C 1 zOK2 rfl (by decide) (List.mem_of_getElem? (i := 2) rfl) rfl rfl dX7_isTrial_14 rfl ?_
      refine z_icmpgt C dX7_isTrial_17 rfl rfl ?_ ?_
      · refine z_iconst C (0 : Int32) dX7_isTrial_34 rfl rfl ?_
        exact z_zretK C rfl rfl rfl dX7_isTrial_35
      · refine z_iload_n C 2 dX7_isTrial_20 rfl rfl rfl ?_
        refine z_iconst C (1 : Int32) dX7_isTrial_21 rfl rfl ?_
        refine z_bipush C (15 : Int32) dX7_isTrial_22 rfl rfl ?_
        refine z_ci (fun b => b) (fun _ => M) (fun b hb => z_S (na := 3) C [.int x1, .int (1 : Int32), .int (15 : Int32)] rfl (mX7_within Y x1 (1 : Int32) (15 : Int32) M b hb) w359 w360 w79 w361 hdX7_within ⟨Nat.le_of_ble_eq_true rfl, Nat.le_of_ble_eq_true rfl⟩ (Nat.le_of_ble_eq_true rfl) rfl dX7_isTrial_24) rfl (fun b4 => ?_)
        refine z_ifeq C dX7_isTrial_27 rfl rfl ?_ ?_
        · refine z_iconst C (0 : Int32) dX7_isTrial_34 rfl rfl ?_
          exact z_zretK C rfl rfl rfl dX7_isTrial_35
        · refine z_iconst C (1 : Int32) dX7_isTrial_30 rfl rfl ?_
          refine z_goto C dX7_isTrial_31 rfl ?_
          exact z_zretK C rfl rfl rfl dX7_isTrial_35
  exact key b hF
set_option maxRecDepth 100000 in
set_option maxHeartbeats 4000000 in
theorem mX7_fits (Y : zY) (x0 : Int32) (x1 : Int32) (x2 : Int32) (M : zMem) (b : Int32 × zMem) (hF : FX7_fits x0 x1 x2 M = some b) : zMt Y yX7_fits cX7_fits 4 (some .int) 5 129 [.ref 0, .int x0, .int x1, .int x2] M (zQi Y b.1 b.2) := by
  refine zMt_of (own := RX7) (by decide +kernel) rfl (Nat.le_of_ble_eq_true rfl) (fun X C => ?_)
  have key : zR Y X 4 (zFi Y X (fun b => b.1) (fun b => b.2)) (FX7_fits x0 x1 x2 M) 0 [(0, .ref 0), (1, .int x0), (2, .int x1), (3, .int x2)] [] M := by
    unfold FX7_fits
    refine z_aload_n C 0 dX7_fits_0 rfl rfl rfl ?_
    refine z_iload_n C 1 dX7_fits_1 rfl rfl rfl ?_
    refine z_iload_n C 2 dX7_fits_2 rfl rfl rfl ?_
    refine z_ci (fun b => b) (fun _ => M) (fun b hb => z_V (na := 2) (ci := 7) (r := (RX7, TX7, 8)) C [.int x0, .int x1] rfl (mX7_isTrial Y x0 x1 M b hb) rfl rfl w647 w649 w29 w79 w650 hdX7_isTrial ⟨Nat.le_of_ble_eq_true rfl, Nat.le_of_ble_eq_true rfl⟩ (Nat.le_of_ble_eq_true rfl) rfl dX7_fits_3) rfl (fun b4 => ?_)
    refine z_ifne C dX7_fits_6 rfl rfl ?_ ?_
    · refine z_aload_n C 0 dX7_fits_11 rfl rfl rfl ?_
      refine z_get (v := .ref 34) C 5 zOK7 rfl (by decide) w328 rfl rfl dX7_fits_12 rfl ?_
      refine z_iload_n C 1 dX7_fits_15 rfl rfl rfl ?_
      refine z_iload_n C 2 dX7_fits_16 rfl rfl rfl ?_
      refine z_cv (fun b => b) (fun b hb => z_VN (na := 2) (ci := 6) (r := (RX6, TX6, 18)) C [.int x0, .int x1] rfl (mX6_load Y x0 x1 M b hb) rfl rfl (List.mem_of_getElem? (i := 31) rfl) w653 w30 w85 w654 hdX6_loadN ⟨Nat.le_of_ble_eq_true rfl, Nat.le_of_ble_eq_true rfl⟩ (Nat.le_of_ble_eq_true rfl) rfl dX7_fits_17) rfl (fun b5 => ?_)
      refine z_iload_n C 3 dX7_fits_20 rfl rfl rfl ?_
      refine z_iconst C (0 : Int32) dX7_fits_21 rfl rfl ?_
      refine z_aload_n C 0 dX7_fits_22 rfl rfl rfl ?_
      refine z_get (v := .ref 34) C 5 zOK7 rfl (by decide) w328 rfl rfl dX7_fits_23 rfl ?_
      refine z_getN (v := .int (b5.1 34 14)) C 14 zOK6 rfl (by decide) (List.mem_of_getElem? (i := 22) rfl) rfl rfl dX7_fits_26 rfl ?_
      refine z_iconst C (1 : Int32) dX7_fits_29 rfl rfl ?_
      refine z_isub C dX7_fits_30 rfl ?_
      refine z_ci (fun b => b) (fun _ => b5) (fun b hb => z_S (na := 3) C [.int x2, .int (0 : Int32), .int ((b5.1 34 14) - (1 : Int32))] rfl (mX7_within Y x2 (0 : Int32) ((b5.1 34 14) - (1 : Int32)) b5 b hb) w359 w360 w79 w361 hdX7_within ⟨Nat.le_of_ble_eq_true rfl, Nat.le_of_ble_eq_true rfl⟩ (Nat.le_of_ble_eq_true rfl) rfl dX7_fits_31) rfl (fun b6 => ?_)
      refine z_ifne C dX7_fits_34 rfl rfl ?_ ?_
      · refine z_aload_n C 0 dX7_fits_39 rfl rfl rfl ?_
        refine z_get (v := .ref 34) C 5 zOK7 rfl (by decide) w328 rfl rfl dX7_fits_40 rfl ?_
        refine z_iload_n C 3 dX7_fits_43 rfl rfl rfl ?_
        refine z_ci (fun b => b.1) (fun b => b.2) (fun b hb => z_VN (na := 1) (ci := 6) (r := (RX6, TX6, 18)) C [.int x2] rfl (mX6_holds Y x2 b5 b hb) rfl rfl (List.mem_of_getElem? (i := 34) rfl) w668 w33 w85 w669 hdX6_holdsN ⟨Nat.le_of_ble_eq_true rfl, Nat.le_of_ble_eq_true rfl⟩ (Nat.le_of_ble_eq_true rfl) rfl dX7_fits_44) rfl (fun b7 => ?_)
        refine z_ifeq C dX7_fits_47 rfl rfl ?_ ?_
        · refine z_iconst C (0 : Int32) dX7_fits_54 rfl rfl ?_
          exact z_iret C rfl rfl dX7_fits_55
        · refine z_iconst C (1 : Int32) dX7_fits_50 rfl rfl ?_
          refine z_goto C dX7_fits_51 rfl ?_
          exact z_iret C rfl rfl dX7_fits_55
      · refine z_iconst C (-1 : Int32) dX7_fits_37 rfl rfl ?_
        exact z_iret C rfl rfl dX7_fits_38
    · refine z_iconst C (-1 : Int32) dX7_fits_9 rfl rfl ?_
      exact z_iret C rfl rfl dX7_fits_10
  exact key b hF
set_option maxRecDepth 100000 in
set_option maxHeartbeats 4000000 in
theorem mX7_models (Y : zY) (x0 : Int32) (x1 : Int32) (x2 : Int32) (M : zMem) (b : Int32 × zMem) (hF : FX7_models x0 x1 x2 M = some b) : zMt Y yX7_models cX7_models 4 (some .int) 5 129 [.ref 0, .int x0, .int x1, .int x2] M (zQi Y b.1 b.2) := by
  refine zMt_of (own := RX7) (by decide +kernel) rfl (Nat.le_of_ble_eq_true rfl) (fun X C => ?_)
  have key : zR Y X 4 (zFi Y X (fun b => b.1) (fun b => b.2)) (FX7_models x0 x1 x2 M) 0 [(0, .ref 0), (1, .int x0), (2, .int x1), (3, .int x2)] [] M := by
    unfold FX7_models
    refine z_aload_n C 0 dX7_models_0 rfl rfl rfl ?_
    refine z_iload_n C 1 dX7_models_1 rfl rfl rfl ?_
    refine z_iload_n C 2 dX7_models_2 rfl rfl rfl ?_
    refine z_ci (fun b => b) (fun _ => M) (fun b hb => z_V (na := 2) (ci := 7) (r := (RX7, TX7, 8)) C [.int x0, .int x1] rfl (mX7_isTrial Y x0 x1 M b hb) rfl rfl w647 w649 w29 w79 w650 hdX7_isTrial ⟨Nat.le_of_ble_eq_true rfl, Nat.le_of_ble_eq_true rfl⟩ (Nat.le_of_ble_eq_true rfl) rfl dX7_models_3) rfl (fun b4 => ?_)
    refine z_ifeq C dX7_models_6 rfl rfl ?_ ?_
    · refine z_iconst C (-1 : Int32) dX7_models_18 rfl rfl ?_
      exact z_iret C rfl rfl dX7_models_19
    · refine z_iload_n C 3 dX7_models_9 rfl rfl rfl ?_
      refine z_iconst C (0 : Int32) dX7_models_10 rfl rfl ?_
      refine z_iconst C (3 : Int32) dX7_models_11 rfl rfl ?_
      refine z_ci (fun b => b) (fun _ => M) (fun b hb => z_S (na := 3) C [.int x2, .int (0 : Int32), .int (3 : Int32)] rfl (mX7_within Y x2 (0 : Int32) (3 : Int32) M b hb) w359 w360 w79 w361 hdX7_within ⟨Nat.le_of_ble_eq_true rfl, Nat.le_of_ble_eq_true rfl⟩ (Nat.le_of_ble_eq_true rfl) rfl dX7_models_12) rfl (fun b5 => ?_)
      refine z_ifne C dX7_models_15 rfl rfl ?_ ?_
      · refine z_aload_n C 0 dX7_models_20 rfl rfl rfl ?_
        refine z_get (v := .ref 34) C 5 zOK7 rfl (by decide) w328 rfl rfl dX7_models_21 rfl ?_
        refine z_iload_n C 1 dX7_models_24 rfl rfl rfl ?_
        refine z_iload_n C 2 dX7_models_25 rfl rfl rfl ?_
        refine z_cv (fun b => b) (fun b hb => z_VN (na := 2) (ci := 6) (r := (RX6, TX6, 18)) C [.int x0, .int x1] rfl (mX6_load Y x0 x1 M b hb) rfl rfl (List.mem_of_getElem? (i := 31) rfl) w653 w30 w85 w654 hdX6_loadN ⟨Nat.le_of_ble_eq_true rfl, Nat.le_of_ble_eq_true rfl⟩ (Nat.le_of_ble_eq_true rfl) rfl dX7_models_26) rfl (fun b6 => ?_)
        refine z_aload_n C 0 dX7_models_29 rfl rfl rfl ?_
        refine z_get (v := .ref 34) C 5 zOK7 rfl (by decide) w328 rfl rfl dX7_models_30 rfl ?_
        refine z_cv (fun b => b) (fun b hb => z_VN (na := 0) (ci := 6) (r := (RX6, TX6, 18)) C [] rfl (mX6_gather Y b6 b hb) rfl rfl (List.mem_of_getElem? (i := 35) rfl) w685 w36 w85 w686 hdX6_gatherN ⟨Nat.le_of_ble_eq_true rfl, Nat.le_of_ble_eq_true rfl⟩ (Nat.le_of_ble_eq_true rfl) rfl dX7_models_33) rfl (fun b7 => ?_)
        refine z_iload_n C 3 dX7_models_36 rfl rfl rfl ?_
        refine z_ite (fun hs37_0 => ?_) (fun hs37_0 => ?_)
        · refine z_tswIn (v := (0 : Int32)) (off := 27) C hs37_0 dX7_models_37 (by decide) (by decide) rfl rfl ?_
          refine z_aload_n C 0 dX7_models_64 rfl rfl rfl ?_
          refine z_get (v := .ref 34) C 5 zOK7 rfl (by decide) w328 rfl rfl dX7_models_65 rfl ?_
          refine z_getN (v := .int (b7.1 34 15)) C 15 zOK6 rfl (by decide) (List.mem_of_getElem? (i := 23) rfl) rfl rfl dX7_models_68 rfl ?_
          exact z_iret C rfl rfl dX7_models_71
        · refine z_ite (fun hs37_1 => ?_) (fun hs37_1 => ?_)
          · refine z_tswIn (v := (1 : Int32)) (off := 35) C hs37_1 dX7_models_37 (by decide) (by decide) rfl rfl ?_
            refine z_aload_n C 0 dX7_models_72 rfl rfl rfl ?_
            refine z_get (v := .ref 34) C 5 zOK7 rfl (by decide) w328 rfl rfl dX7_models_73 rfl ?_
            refine z_ci (fun b => b) (fun _ => b7) (fun b hb => z_VN (na := 0) (ci := 6) (r := (RX6, TX6, 18)) C [] rfl (mX6_least Y b7 b hb) rfl rfl (List.mem_of_getElem? (i := 36) rfl) w690 w37 w85 w691 hdX6_leastN ⟨Nat.le_of_ble_eq_true rfl, Nat.le_of_ble_eq_true rfl⟩ (Nat.le_of_ble_eq_true rfl) rfl dX7_models_76) rfl (fun b10 => ?_)
            exact z_iret C rfl rfl dX7_models_79
          · refine z_ite (fun hs37_2 => ?_) (fun hs37_2 => ?_)
            · refine z_tswIn (v := (2 : Int32)) (off := 43) C hs37_2 dX7_models_37 (by decide) (by decide) rfl rfl ?_
              refine z_aload_n C 0 dX7_models_80 rfl rfl rfl ?_
              refine z_get (v := .ref 34) C 5 zOK7 rfl (by decide) w328 rfl rfl dX7_models_81 rfl ?_
              refine z_ci (fun b => b.1) (fun b => b.2) (fun b hb => z_VN (na := 0) (ci := 6) (r := (RX6, TX6, 18)) C [] rfl (mX6_twins Y b7 b hb) rfl rfl (List.mem_of_getElem? (i := 37) rfl) w698 w39 w85 w699 hdX6_twinsN ⟨Nat.le_of_ble_eq_true rfl, Nat.le_of_ble_eq_true rfl⟩ (Nat.le_of_ble_eq_true rfl) rfl dX7_models_84) rfl (fun b9 => ?_)
              exact z_iret C rfl rfl dX7_models_87
            · refine z_tswOut C (by have e0 : x2.toInt ≠ 0 := fun e => hs37_0 (Int32.toInt_inj.mp (e.trans rfl)); have e1 : x2.toInt ≠ 1 := fun e => hs37_1 (Int32.toInt_inj.mp (e.trans rfl)); have e2 : x2.toInt ≠ 2 := fun e => hs37_2 (Int32.toInt_inj.mp (e.trans rfl)); omega) dX7_models_37 rfl ?_
              refine z_aload_n C 0 dX7_models_88 rfl rfl rfl ?_
              refine z_get (v := .ref 34) C 5 zOK7 rfl (by decide) w328 rfl rfl dX7_models_89 rfl ?_
              refine z_ci (fun b => b.1) (fun b => b.2) (fun b hb => z_VN (na := 0) (ci := 6) (r := (RX6, TX6, 18)) C [] rfl (mX6_nextLook Y b7 b hb) rfl rfl (List.mem_of_getElem? (i := 41) rfl) w709 w41 w85 w710 hdX6_nextLookN ⟨Nat.le_of_ble_eq_true rfl, Nat.le_of_ble_eq_true rfl⟩ (Nat.le_of_ble_eq_true rfl) rfl dX7_models_92) rfl (fun b8 => ?_)
              exact z_iret C rfl rfl dX7_models_95
      · refine z_iconst C (-1 : Int32) dX7_models_18 rfl rfl ?_
        exact z_iret C rfl rfl dX7_models_19
  exact key b hF
set_option maxRecDepth 100000 in
set_option maxHeartbeats 4000000 in
theorem mX7_sure (Y : zY) (x0 : Int32) (x1 : Int32) (x2 : Int32) (M : zMem) (b : Int32 × zMem) (hF : FX7_sure x0 x1 x2 M = some b) : zMt Y yX7_sure cX7_sure 4 (some .int) 5 129 [.ref 0, .int x0, .int x1, .int x2] M (zQi Y b.1 b.2) := by
  refine zMt_of (own := RX7) (by decide +kernel) rfl (Nat.le_of_ble_eq_true rfl) (fun X C => ?_)
  have key : zR Y X 4 (zFi Y X (fun b => b.1) (fun b => b.2)) (FX7_sure x0 x1 x2 M) 0 [(0, .ref 0), (1, .int x0), (2, .int x1), (3, .int x2)] [] M := by
    unfold FX7_sure
    refine z_aload_n C 0 dX7_sure_0 rfl rfl rfl ?_
    refine z_iload_n C 1 dX7_sure_1 rfl rfl rfl ?_
    refine z_iload_n C 2 dX7_sure_2 rfl rfl rfl ?_
    refine z_ci (fun b => b) (fun _ => M) (fun b hb => z_V (na := 2) (ci := 7) (r := (RX7, TX7, 8)) C [.int x0, .int x1] rfl (mX7_isTrial Y x0 x1 M b hb) rfl rfl w647 w649 w29 w79 w650 hdX7_isTrial ⟨Nat.le_of_ble_eq_true rfl, Nat.le_of_ble_eq_true rfl⟩ (Nat.le_of_ble_eq_true rfl) rfl dX7_sure_3) rfl (fun b4 => ?_)
    refine z_ifeq C dX7_sure_6 rfl rfl ?_ ?_
    · refine z_iconst C (-1 : Int32) dX7_sure_20 rfl rfl ?_
      exact z_iret C rfl rfl dX7_sure_21
    · refine z_iload_n C 3 dX7_sure_9 rfl rfl rfl ?_
      refine z_iconst C (0 : Int32) dX7_sure_10 rfl rfl ?_
      refine z_iload_n C 1 dX7_sure_11 rfl rfl rfl ?_
      refine z_iconst C (1 : Int32) dX7_sure_12 rfl rfl ?_
      refine z_isub C dX7_sure_13 rfl ?_
      refine z_ci (fun b => b) (fun _ => M) (fun b hb => z_S (na := 3) C [.int x2, .int (0 : Int32), .int (x0 - (1 : Int32))] rfl (mX7_within Y x2 (0 : Int32) (x0 - (1 : Int32)) M b hb) w359 w360 w79 w361 hdX7_within ⟨Nat.le_of_ble_eq_true rfl, Nat.le_of_ble_eq_true rfl⟩ (Nat.le_of_ble_eq_true rfl) rfl dX7_sure_14) rfl (fun b5 => ?_)
      refine z_ifne C dX7_sure_17 rfl rfl ?_ ?_
      · refine z_aload_n C 0 dX7_sure_22 rfl rfl rfl ?_
        refine z_get (v := .ref 34) C 5 zOK7 rfl (by decide) w328 rfl rfl dX7_sure_23 rfl ?_
        refine z_iload_n C 1 dX7_sure_26 rfl rfl rfl ?_
        refine z_iload_n C 2 dX7_sure_27 rfl rfl rfl ?_
        refine z_cv (fun b => b) (fun b hb => z_VN (na := 2) (ci := 6) (r := (RX6, TX6, 18)) C [.int x0, .int x1] rfl (mX6_load Y x0 x1 M b hb) rfl rfl (List.mem_of_getElem? (i := 31) rfl) w653 w30 w85 w654 hdX6_loadN ⟨Nat.le_of_ble_eq_true rfl, Nat.le_of_ble_eq_true rfl⟩ (Nat.le_of_ble_eq_true rfl) rfl dX7_sure_28) rfl (fun b6 => ?_)
        refine z_aload_n C 0 dX7_sure_31 rfl rfl rfl ?_
        refine z_get (v := .ref 34) C 5 zOK7 rfl (by decide) w328 rfl rfl dX7_sure_32 rfl ?_
        refine z_cv (fun b => b) (fun b hb => z_VN (na := 0) (ci := 6) (r := (RX6, TX6, 18)) C [] rfl (mX6_gather Y b6 b hb) rfl rfl (List.mem_of_getElem? (i := 35) rfl) w685 w36 w85 w686 hdX6_gatherN ⟨Nat.le_of_ble_eq_true rfl, Nat.le_of_ble_eq_true rfl⟩ (Nat.le_of_ble_eq_true rfl) rfl dX7_sure_35) rfl (fun b7 => ?_)
        refine z_aload_n C 0 dX7_sure_38 rfl rfl rfl ?_
        refine z_get (v := .ref 34) C 5 zOK7 rfl (by decide) w328 rfl rfl dX7_sure_39 rfl ?_
        refine z_iload_n C 3 dX7_sure_42 rfl rfl rfl ?_
        refine z_ci (fun b => b) (fun _ => b7) (fun b hb => z_VN (na := 1) (ci := 6) (r := (RX6, TX6, 18)) C [.int x2] rfl (mX6_sureWeight Y x2 b7 b hb) rfl rfl (List.mem_of_getElem? (i := 43) rfl) w718 w42 w85 w719 hdX6_sureWeightN ⟨Nat.le_of_ble_eq_true rfl, Nat.le_of_ble_eq_true rfl⟩ (Nat.le_of_ble_eq_true rfl) rfl dX7_sure_43) rfl (fun b8 => ?_)
        exact z_iret C rfl rfl dX7_sure_46
      · refine z_iconst C (-1 : Int32) dX7_sure_20 rfl rfl ?_
        exact z_iret C rfl rfl dX7_sure_21
  exact key b hF
set_option maxRecDepth 100000 in
set_option maxHeartbeats 4000000 in
theorem mX7_spot (Y : zY) (x0 : Int32) (x1 : Int32) (M : zMem) (b : Int32 × zMem) (hF : FX7_spot x0 x1 M = some b) : zMt Y yX7_spot cX7_spot 3 (some .int) 2 44 [.ref 0, .int x0, .int x1] M (zQi Y b.1 b.2) := by
  refine zMt_of (own := RX7) (by decide +kernel) rfl (Nat.le_of_ble_eq_true rfl) (fun X C => ?_)
  have key : zR Y X 3 (zFi Y X (fun b => b.1) (fun b => b.2)) (FX7_spot x0 x1 M) 0 [(0, .ref 0), (1, .int x0), (2, .int x1)] [] M := by
    unfold FX7_spot
    refine z_iload_n C 1 dX7_spot_0 rfl rfl rfl ?_
    refine z_iload_n C 2 dX7_spot_1 rfl rfl rfl ?_
    refine z_bipush C (30 : Int32) dX7_spot_2 rfl rfl ?_
    refine z_ci (fun b => b) (fun _ => M) (fun b hb => z_S (na := 3) C [.int x0, .int x1, .int (30 : Int32)] rfl (mX7_isWithin Y x0 x1 (30 : Int32) M b hb) w395 w396 w79 w397 hdX7_isWithin ⟨Nat.le_of_ble_eq_true rfl, Nat.le_of_ble_eq_true rfl⟩ (Nat.le_of_ble_eq_true rfl) rfl dX7_spot_4) rfl (fun b3 => ?_)
    refine z_ifne C dX7_spot_7 rfl rfl ?_ ?_
    · refine z_aload_n C 0 dX7_spot_12 rfl rfl rfl ?_
      refine z_get (v := .ref 34) C 5 zOK7 rfl (by decide) w328 rfl rfl dX7_spot_13 rfl ?_
      refine z_getN (v := .int (M.1 34 5)) C 5 zOK6 rfl (by decide) (List.mem_of_getElem? (i := 20) rfl) rfl rfl dX7_spot_16 rfl ?_
      refine z_bipush C (8 : Int32) dX7_spot_19 rfl rfl ?_
      refine z_icmplt C dX7_spot_21 rfl rfl ?_ ?_
      · refine z_aload_n C 0 dX7_spot_27 rfl rfl rfl ?_
        refine z_get (v := .ref 34) C 5 zOK7 rfl (by decide) w328 rfl rfl dX7_spot_28 rfl ?_
        refine z_iload_n C 1 dX7_spot_31 rfl rfl rfl ?_
        refine z_iload_n C 2 dX7_spot_32 rfl rfl rfl ?_
        refine z_ci (fun b => b.1) (fun b => b.2) (fun b hb => z_VN (na := 2) (ci := 6) (r := (RX6, TX6, 18)) C [.int x0, .int x1] rfl (mX6_addSpot Y x0 x1 M b hb) rfl rfl (List.mem_of_getElem? (i := 44) rfl) w726 w43 w85 w727 hdX6_addSpotN ⟨Nat.le_of_ble_eq_true rfl, Nat.le_of_ble_eq_true rfl⟩ (Nat.le_of_ble_eq_true rfl) rfl dX7_spot_33) rfl (fun b4 => ?_)
        exact z_iret C rfl rfl dX7_spot_36
      · refine z_bipush C (-3 : Int32) dX7_spot_24 rfl rfl ?_
        exact z_iret C rfl rfl dX7_spot_26
    · refine z_iconst C (-1 : Int32) dX7_spot_10 rfl rfl ?_
      exact z_iret C rfl rfl dX7_spot_11
  exact key b hF
set_option maxRecDepth 100000 in
set_option maxHeartbeats 4000000 in
theorem mX7_forget (Y : zY) (M : zMem) (b : Int32 × zMem) (hF : FX7_forget M = some b) : zMt Y yX7_forget cX7_forget 2 (some .int) 0 0 [.ref 0] M (zQi Y b.1 b.2) := by
  refine zMt_of (own := RX7) (by decide +kernel) rfl (Nat.le_of_ble_eq_true rfl) (fun X C => ?_)
  have key : zR Y X 2 (zFi Y X (fun b => b.1) (fun b => b.2)) (FX7_forget M) 0 [(0, .ref 0)] [] M := by
    unfold FX7_forget
    refine z_aload_n C 0 dX7_forget_0 rfl rfl rfl ?_
    refine z_get (v := .ref 34) C 5 zOK7 rfl (by decide) w328 rfl rfl dX7_forget_1 rfl ?_
    refine z_getN (v := .int (M.1 34 5)) C 5 zOK6 rfl (by decide) (List.mem_of_getElem? (i := 20) rfl) rfl rfl dX7_forget_4 rfl ?_
    refine z_istore_n C (fun z => [(1, .int z), (0, .ref 0)]) dX7_forget_7 rfl (by decide) (fun _ => rfl) rfl (fun x1 => ?_)
    refine z_aload_n C 1 dX7_forget_8 rfl rfl rfl ?_
    refine z_get (v := .ref 34) C 5 zOK7 rfl (by decide) w328 rfl rfl dX7_forget_9 rfl ?_
    refine z_iconst C (0 : Int32) dX7_forget_12 rfl rfl ?_
    refine z_putiN C 5 zOK6 rfl (by decide) (List.mem_of_getElem? (i := 20) rfl) rfl rfl rfl rfl rfl dX7_forget_13 rfl (fun M2 => ?_)
    refine z_aload_n C 1 dX7_forget_16 rfl rfl rfl ?_
    refine z_get (v := .ref 34) C 5 zOK7 rfl (by decide) w328 rfl rfl dX7_forget_17 rfl ?_
    refine z_iconst C (1 : Int32) dX7_forget_20 rfl rfl ?_
    refine z_putiN C 16 zOK6 rfl (by decide) (List.mem_of_getElem? (i := 24) rfl) rfl rfl rfl rfl rfl dX7_forget_21 rfl (fun M3 => ?_)
    refine z_iload_n C 0 dX7_forget_24 rfl rfl rfl ?_
    exact z_iret C rfl rfl dX7_forget_25
  exact key b hF
set_option maxRecDepth 100000 in
set_option maxHeartbeats 4000000 in
theorem mX7_bright (Y : zY) (x0 : Int32) (x1 : Int32) (x2 : Int32) (M : zMem) (b : Int32 × zMem) (hF : FX7_bright x0 x1 x2 M = some b) : zMt Y yX7_bright cX7_bright 6 (some .int) 2 44 [.ref 0, .int x0, .int x1, .int x2] M (zQi Y b.1 b.2) := by
  refine zMt_of (own := RX7) (by decide +kernel) rfl (Nat.le_of_ble_eq_true rfl) (fun X C => ?_)
  have key : zR Y X 6 (zFi Y X (fun b => b.1) (fun b => b.2)) (FX7_bright x0 x1 x2 M) 0 [(0, .ref 0), (1, .int x0), (2, .int x1), (3, .int x2)] [] M := by
    unfold FX7_bright
    refine z_iload_n C 1 dX7_bright_0 rfl rfl rfl ?_
    refine z_iload_n C 2 dX7_bright_1 rfl rfl rfl ?_
    refine z_bipush C (24 : Int32) dX7_bright_2 rfl rfl ?_
    refine z_ci (fun b => b) (fun _ => M) (fun b hb => z_S (na := 3) C [.int x0, .int x1, .int (24 : Int32)] rfl (mX7_isWithin Y x0 x1 (24 : Int32) M b hb) w395 w396 w79 w397 hdX7_isWithin ⟨Nat.le_of_ble_eq_true rfl, Nat.le_of_ble_eq_true rfl⟩ (Nat.le_of_ble_eq_true rfl) rfl dX7_bright_4) rfl (fun b4 => ?_)
    refine z_ifeq C dX7_bright_7 rfl rfl ?_ ?_
    · refine z_bipush C (-2 : Int32) dX7_bright_26 rfl rfl ?_
      exact z_iret C rfl rfl dX7_bright_28
    · refine z_iload_n C 3 dX7_bright_10 rfl rfl rfl ?_
      refine z_bipush C (-9 : Int32) dX7_bright_11 rfl rfl ?_
      refine z_join (fun k6 => ∀ (u5 : Unit), zR Y X 6 (zFi Y X (fun b => b.1) (fun b => b.2)) (k6 u5) 29 [(0, .ref 0), (1, .int x0), (2, .int x1), (3, .int x2)] [] M) (fun u5 => ?_) (fun k6 hk6 => ?_)
      · refine z_iload_n C 1 dX7_bright_29 rfl rfl rfl ?_
        refine z_iload_n C 2 dX7_bright_30 rfl rfl rfl ?_
        refine z_ci (fun b => b) (fun _ => M) (fun b hb => z_S (na := 2) C [.int x0, .int x1] rfl (mX7_pixelAt Y x0 x1 M b hb) w736 w502 w79 w503 hdX7_pixelAt ⟨Nat.le_of_ble_eq_true rfl, Nat.le_of_ble_eq_true rfl⟩ (Nat.le_of_ble_eq_true rfl) rfl dX7_bright_31) rfl (fun b7 => ?_)
        refine z_istoreP (lo' := [(4, .int b7), (0, .ref 0), (1, .int x0), (2, .int x1), (3, .int x2)]) C dX7_bright_34 (by decide) rfl rfl ?_
        refine z_aload_n C 1 dX7_bright_36 rfl rfl rfl ?_
        refine z_get (v := .ref 96) C 6 zOK7 rfl (by decide) w329 rfl rfl dX7_bright_37 rfl ?_
        refine z_getN (v := .ref 97) C 2 zOK0 rfl (by decide) (List.mem_of_getElem? (i := 25) rfl) rfl rfl dX7_bright_40 rfl ?_
        refine z_iload C 0 dX7_bright_43 rfl rfl ?_
        refine z_iaload C 2401 rfl dX7_bright_45 rfl ?_
        refine z_istore C (fun z => [(5, .int z), (4, .int b7), (0, .ref 0), (1, .int x0), (2, .int x1), (3, .int x2)]) dX7_bright_46 (by decide) (fun _ => rfl) rfl (fun x8 => ?_)
        refine z_aload_n C 2 dX7_bright_48 rfl rfl rfl ?_
        refine z_get (v := .ref 96) C 6 zOK7 rfl (by decide) w329 rfl rfl dX7_bright_49 rfl ?_
        refine z_getN (v := .ref 97) C 2 zOK0 rfl (by decide) (List.mem_of_getElem? (i := 25) rfl) rfl rfl dX7_bright_52 rfl ?_
        refine z_iload C 1 dX7_bright_55 rfl rfl ?_
        refine z_iload_n C 5 dX7_bright_57 rfl rfl rfl ?_
        refine z_iastore C 2401 rfl dX7_bright_58 rfl (fun M9 => ?_)
        refine z_iload C 0 dX7_bright_59 rfl rfl ?_
        exact z_iret C rfl rfl dX7_bright_61
      · refine z_icmpeq C dX7_bright_13 rfl rfl ?_ ?_
        · exact z_perm [0, 1, 2, 3] rfl (hk6 ())
        · refine z_iload_n C 3 dX7_bright_16 rfl rfl rfl ?_
          refine z_iconst C (0 : Int32) dX7_bright_17 rfl rfl ?_
          refine z_bipush C (99 : Int32) dX7_bright_18 rfl rfl ?_
          refine z_ci (fun b => b) (fun _ => M) (fun b hb => z_S (na := 3) C [.int x2, .int (0 : Int32), .int (99 : Int32)] rfl (mX7_within Y x2 (0 : Int32) (99 : Int32) M b hb) w359 w360 w79 w361 hdX7_within ⟨Nat.le_of_ble_eq_true rfl, Nat.le_of_ble_eq_true rfl⟩ (Nat.le_of_ble_eq_true rfl) rfl dX7_bright_20) rfl (fun b10 => ?_)
          refine z_ifne C dX7_bright_23 rfl rfl ?_ ?_
          · exact z_perm [0, 1, 2, 3] rfl (hk6 ())
          · refine z_bipush C (-2 : Int32) dX7_bright_26 rfl rfl ?_
            exact z_iret C rfl rfl dX7_bright_28
  exact key b hF
set_option maxRecDepth 100000 in
set_option maxHeartbeats 4000000 in
theorem mX7_far (Y : zY) (x0 : Int32) (x1 : Int32) (M : zMem) (b : Int32 × zMem) (hF : FX7_far x0 x1 M = some b) : zMt Y yX7_far cX7_far 3 (some .int) 5 123 [.ref 0, .int x0, .int x1] M (zQi Y b.1 b.2) := by
  refine zMt_of (own := RX7) (by decide +kernel) rfl (Nat.le_of_ble_eq_true rfl) (fun X C => ?_)
  have key : zR Y X 3 (zFi Y X (fun b => b.1) (fun b => b.2)) (FX7_far x0 x1 M) 0 [(0, .ref 0), (1, .int x0), (2, .int x1)] [] M := by
    unfold FX7_far
    refine z_iload_n C 1 dX7_far_0 rfl rfl rfl ?_
    refine z_iload_n C 2 dX7_far_1 rfl rfl rfl ?_
    refine z_bipush C (99 : Int32) dX7_far_2 rfl rfl ?_
    refine z_ci (fun b => b) (fun _ => M) (fun b hb => z_S (na := 3) C [.int x0, .int x1, .int (99 : Int32)] rfl (mX7_isWithin Y x0 x1 (99 : Int32) M b hb) w395 w396 w79 w397 hdX7_isWithin ⟨Nat.le_of_ble_eq_true rfl, Nat.le_of_ble_eq_true rfl⟩ (Nat.le_of_ble_eq_true rfl) rfl dX7_far_4) rfl (fun b3 => ?_)
    refine z_ifne C dX7_far_7 rfl rfl ?_ ?_
    · refine z_aload_n C 0 dX7_far_12 rfl rfl rfl ?_
      refine z_get (v := .ref 15) C 1 zOK7 rfl (by decide) w324 rfl rfl dX7_far_13 rfl ?_
      refine z_cv (fun b => b) (fun b hb => z_VN (na := 0) (ci := 3) (r := (RX3, TX3, 6)) C [] rfl (mX3_lookAnew Y M b hb) rfl rfl (List.mem_of_getElem? (i := 11) rfl) w443 w6 w82 w444 hdX3_lookAnewN ⟨Nat.le_of_ble_eq_true rfl, Nat.le_of_ble_eq_true rfl⟩ (Nat.le_of_ble_eq_true rfl) rfl dX7_far_16) rfl (fun b4 => ?_)
      refine z_aload_n C 0 dX7_far_19 rfl rfl rfl ?_
      refine z_get (v := .ref 96) C 6 zOK7 rfl (by decide) w329 rfl rfl dX7_far_20 rfl ?_
      refine z_iload_n C 1 dX7_far_23 rfl rfl rfl ?_
      refine z_iload_n C 2 dX7_far_24 rfl rfl rfl ?_
      refine z_ci (fun b => b) (fun _ => b4) (fun b hb => z_S (na := 2) C [.int x0, .int x1] rfl (mX7_keyOf Y x0 x1 b4 b hb) w472 w457 w79 w458 hdX7_keyOf ⟨Nat.le_of_ble_eq_true rfl, Nat.le_of_ble_eq_true rfl⟩ (Nat.le_of_ble_eq_true rfl) rfl dX7_far_25) rfl (fun b5 => ?_)
      refine z_ci (fun b => b) (fun _ => b4) (fun b hb => z_VN (na := 1) (ci := 0) (r := (RX0, TX0, 6)) C [.int b5] rfl (mX0_farOf Y b5 b4 b hb) rfl rfl (List.mem_of_getElem? (i := 45) rfl) w743 w44 w86 w744 hdX0_farOfN ⟨Nat.le_of_ble_eq_true rfl, Nat.le_of_ble_eq_true rfl⟩ (Nat.le_of_ble_eq_true rfl) rfl dX7_far_28) rfl (fun b6 => ?_)
      exact z_iret C rfl rfl dX7_far_31
    · refine z_iconst C (-1 : Int32) dX7_far_10 rfl rfl ?_
      exact z_iret C rfl rfl dX7_far_11
  exact key b hF
set_option maxRecDepth 100000 in
set_option maxHeartbeats 4000000 in
theorem mX7_contradicts (Y : zY) (M : zMem) (b : Int32 × zMem) (hF : FX7_contradicts M = some b) : zMt Y yX7_contradicts cX7_contradicts 1 (some .int) 5 123 [.ref 0] M (zQi Y b.1 b.2) := by
  refine zMt_of (own := RX7) (by decide +kernel) rfl (Nat.le_of_ble_eq_true rfl) (fun X C => ?_)
  have key : zR Y X 1 (zFi Y X (fun b => b.1) (fun b => b.2)) (FX7_contradicts M) 0 [(0, .ref 0)] [] M := by
    unfold FX7_contradicts
    refine z_aload_n C 0 dX7_contradicts_0 rfl rfl rfl ?_
    refine z_get (v := .ref 15) C 1 zOK7 rfl (by decide) w324 rfl rfl dX7_contradicts_1 rfl ?_
    refine z_cv (fun b => b) (fun b hb => z_VN (na := 0) (ci := 3) (r := (RX3, TX3, 6)) C [] rfl (mX3_lookAnew Y M b hb) rfl rfl (List.mem_of_getElem? (i := 11) rfl) w443 w6 w82 w444 hdX3_lookAnewN ⟨Nat.le_of_ble_eq_true rfl, Nat.le_of_ble_eq_true rfl⟩ (Nat.le_of_ble_eq_true rfl) rfl dX7_contradicts_4) rfl (fun b1 => ?_)
    refine z_aload_n C 0 dX7_contradicts_7 rfl rfl rfl ?_
    refine z_get (v := .ref 96) C 6 zOK7 rfl (by decide) w329 rfl rfl dX7_contradicts_8 rfl ?_
    refine z_ci (fun b => b.1) (fun b => b.2) (fun b hb => z_VN (na := 0) (ci := 0) (r := (RX0, TX0, 6)) C [] rfl (mX0_contradictions Y b1 b hb) rfl rfl (List.mem_of_getElem? (i := 46) rfl) w751 w45 w86 w752 hdX0_contradictionsN ⟨Nat.le_of_ble_eq_true rfl, Nat.le_of_ble_eq_true rfl⟩ (Nat.le_of_ble_eq_true rfl) rfl dX7_contradicts_11) rfl (fun b2 => ?_)
    exact z_iret C rfl rfl dX7_contradicts_14
  exact key b hF
set_option maxRecDepth 100000 in
set_option maxHeartbeats 4000000 in
theorem mX7_filled (Y : zY) (x0 : Int32) (x1 : Int32) (M : zMem) (b : Int32 × zMem) (hF : FX7_filled x0 x1 M = some b) : zMt Y yX7_filled cX7_filled 4 (some .int) 5 123 [.ref 0, .int x0, .int x1] M (zQi Y b.1 b.2) := by
  refine zMt_of (own := RX7) (by decide +kernel) rfl (Nat.le_of_ble_eq_true rfl) (fun X C => ?_)
  have key : zR Y X 4 (zFi Y X (fun b => b.1) (fun b => b.2)) (FX7_filled x0 x1 M) 0 [(0, .ref 0), (1, .int x0), (2, .int x1)] [] M := by
    unfold FX7_filled
    refine z_iload_n C 1 dX7_filled_0 rfl rfl rfl ?_
    refine z_iload_n C 2 dX7_filled_1 rfl rfl rfl ?_
    refine z_bipush C (24 : Int32) dX7_filled_2 rfl rfl ?_
    refine z_ci (fun b => b) (fun _ => M) (fun b hb => z_S (na := 3) C [.int x0, .int x1, .int (24 : Int32)] rfl (mX7_isWithin Y x0 x1 (24 : Int32) M b hb) w395 w396 w79 w397 hdX7_isWithin ⟨Nat.le_of_ble_eq_true rfl, Nat.le_of_ble_eq_true rfl⟩ (Nat.le_of_ble_eq_true rfl) rfl dX7_filled_4) rfl (fun b3 => ?_)
    refine z_ifne C dX7_filled_7 rfl rfl ?_ ?_
    · refine z_iload_n C 1 dX7_filled_12 rfl rfl rfl ?_
      refine z_iload_n C 2 dX7_filled_13 rfl rfl rfl ?_
      refine z_ci (fun b => b) (fun _ => M) (fun b hb => z_S (na := 2) C [.int x0, .int x1] rfl (mX7_pixelAt Y x0 x1 M b hb) w736 w502 w79 w503 hdX7_pixelAt ⟨Nat.le_of_ble_eq_true rfl, Nat.le_of_ble_eq_true rfl⟩ (Nat.le_of_ble_eq_true rfl) rfl dX7_filled_14) rfl (fun b4 => ?_)
      refine z_istoreP_n (lo' := [(3, .int b4), (0, .ref 0), (1, .int x0), (2, .int x1)]) C dX7_filled_17 rfl (by decide) rfl rfl ?_
      refine z_aload_n C 1 dX7_filled_18 rfl rfl rfl ?_
      refine z_get (v := .ref 96) C 6 zOK7 rfl (by decide) w329 rfl rfl dX7_filled_19 rfl ?_
      refine z_getN (v := .ref 97) C 2 zOK0 rfl (by decide) (List.mem_of_getElem? (i := 25) rfl) rfl rfl dX7_filled_22 rfl ?_
      refine z_iload_n C 0 dX7_filled_25 rfl rfl rfl ?_
      refine z_iaload C 2401 rfl dX7_filled_26 rfl ?_
      refine z_bipush C (-9 : Int32) dX7_filled_27 rfl rfl ?_
      refine z_icmpeq C dX7_filled_29 rfl rfl ?_ ?_
      · refine z_aload_n C 1 dX7_filled_42 rfl rfl rfl ?_
        refine z_get (v := .ref 15) C 1 zOK7 rfl (by decide) w324 rfl rfl dX7_filled_43 rfl ?_
        refine z_cv (fun b => b) (fun b hb => z_VN (na := 0) (ci := 3) (r := (RX3, TX3, 6)) C [] rfl (mX3_lookAnew Y M b hb) rfl rfl (List.mem_of_getElem? (i := 11) rfl) w443 w6 w82 w444 hdX3_lookAnewN ⟨Nat.le_of_ble_eq_true rfl, Nat.le_of_ble_eq_true rfl⟩ (Nat.le_of_ble_eq_true rfl) rfl dX7_filled_46) rfl (fun b5 => ?_)
        refine z_aload_n C 1 dX7_filled_49 rfl rfl rfl ?_
        refine z_get (v := .ref 96) C 6 zOK7 rfl (by decide) w329 rfl rfl dX7_filled_50 rfl ?_
        refine z_aload_n C 1 dX7_filled_53 rfl rfl rfl ?_
        refine z_get (v := .ref 15) C 1 zOK7 rfl (by decide) w324 rfl rfl dX7_filled_54 rfl ?_
        refine z_getN (v := .ref 18) C 3 zOK3 rfl (by decide) (List.mem_of_getElem? (i := 11) rfl) rfl rfl dX7_filled_57 rfl ?_
        refine z_iload_n C 0 dX7_filled_60 rfl rfl rfl ?_
        refine z_iaload C 2401 rfl dX7_filled_61 rfl ?_
        refine z_ci (fun b => b) (fun _ => b5) (fun b hb => z_VN (na := 1) (ci := 0) (r := (RX0, TX0, 6)) C [.int (zrd b5 18 b4)] rfl (mX0_farOf Y (zrd b5 18 b4) b5 b hb) rfl rfl (List.mem_of_getElem? (i := 45) rfl) w743 w44 w86 w744 hdX0_farOfN ⟨Nat.le_of_ble_eq_true rfl, Nat.le_of_ble_eq_true rfl⟩ (Nat.le_of_ble_eq_true rfl) rfl dX7_filled_62) rfl (fun b6 => ?_)
        exact z_iret C rfl rfl dX7_filled_65
      · refine z_aload_n C 1 dX7_filled_32 rfl rfl rfl ?_
        refine z_get (v := .ref 96) C 6 zOK7 rfl (by decide) w329 rfl rfl dX7_filled_33 rfl ?_
        refine z_getN (v := .ref 97) C 2 zOK0 rfl (by decide) (List.mem_of_getElem? (i := 25) rfl) rfl rfl dX7_filled_36 rfl ?_
        refine z_iload_n C 0 dX7_filled_39 rfl rfl rfl ?_
        refine z_iaload C 2401 rfl dX7_filled_40 rfl ?_
        exact z_iret C rfl rfl dX7_filled_41
    · refine z_iconst C (-1 : Int32) dX7_filled_10 rfl rfl ?_
      exact z_iret C rfl rfl dX7_filled_11
  exact key b hF
set_option maxRecDepth 100000 in
set_option maxHeartbeats 4000000 in
theorem mX7_count (Y : zY) (x0 : Int32) (M : zMem) (b : Int32) (hF : FX7_count x0 M = some b) : zMt Y yX7_count cX7_count 2 (some .int) 1 22 [.ref 0, .int x0] M (zQi Y b M) := by
  refine zMt_of (own := RX7) (by decide +kernel) rfl (Nat.le_of_ble_eq_true rfl) (fun X C => ?_)
  have key : zR Y X 2 (zFi Y X (fun b => b) (fun _ => M)) (FX7_count x0 M) 0 [(0, .ref 0), (1, .int x0)] [] M := by
    unfold FX7_count
    refine z_iload_n C 1 dX7_count_0 rfl rfl rfl ?_
    refine z_ite (fun hs1_0 => ?_) (fun hs1_0 => ?_)
    · refine z_tswIn (v := (0 : Int32)) (off := 39) C hs1_0 dX7_count_1 (by decide) (by decide) rfl rfl ?_
      refine z_aload_n C 0 dX7_count_40 rfl rfl rfl ?_
      refine z_get (v := .ref 1) C 0 zOK7 rfl (by decide) w323 rfl rfl dX7_count_41 rfl ?_
      refine z_getN (v := .int (M.1 1 1)) C 1 zOK2 rfl (by decide) (List.mem_of_getElem? (i := 2) rfl) rfl rfl dX7_count_44 rfl ?_
      exact z_iret C rfl rfl dX7_count_47
    · refine z_ite (fun hs1_1 => ?_) (fun hs1_1 => ?_)
      · refine z_tswIn (v := (1 : Int32)) (off := 47) C hs1_1 dX7_count_1 (by decide) (by decide) rfl rfl ?_
        refine z_aload_n C 0 dX7_count_48 rfl rfl rfl ?_
        refine z_get (v := .ref 34) C 5 zOK7 rfl (by decide) w328 rfl rfl dX7_count_49 rfl ?_
        refine z_getN (v := .int (M.1 34 4)) C 4 zOK6 rfl (by decide) (List.mem_of_getElem? (i := 19) rfl) rfl rfl dX7_count_52 rfl ?_
        exact z_iret C rfl rfl dX7_count_55
      · refine z_ite (fun hs1_2 => ?_) (fun hs1_2 => ?_)
        · refine z_tswIn (v := (2 : Int32)) (off := 55) C hs1_2 dX7_count_1 (by decide) (by decide) rfl rfl ?_
          refine z_aload_n C 0 dX7_count_56 rfl rfl rfl ?_
          refine z_get (v := .ref 34) C 5 zOK7 rfl (by decide) w328 rfl rfl dX7_count_57 rfl ?_
          refine z_getN (v := .int (M.1 34 5)) C 5 zOK6 rfl (by decide) (List.mem_of_getElem? (i := 20) rfl) rfl rfl dX7_count_60 rfl ?_
          exact z_iret C rfl rfl dX7_count_63
        · refine z_ite (fun hs1_3 => ?_) (fun hs1_3 => ?_)
          · refine z_tswIn (v := (3 : Int32)) (off := 63) C hs1_3 dX7_count_1 (by decide) (by decide) rfl rfl ?_
            refine z_aload_n C 0 dX7_count_64 rfl rfl rfl ?_
            refine z_get (v := .ref 96) C 6 zOK7 rfl (by decide) w329 rfl rfl dX7_count_65 rfl ?_
            refine z_ci (fun b => b) (fun _ => M) (fun b hb => z_VN (na := 0) (ci := 0) (r := (RX0, TX0, 6)) C [] rfl (mX0_toldCount Y M b hb) rfl rfl (List.mem_of_getElem? (i := 49) rfl) w771 w47 w86 w772 hdX0_toldCountN ⟨Nat.le_of_ble_eq_true rfl, Nat.le_of_ble_eq_true rfl⟩ (Nat.le_of_ble_eq_true rfl) rfl dX7_count_68) rfl (fun b3 => ?_)
            exact z_iret C rfl rfl dX7_count_71
          · refine z_ite (fun hs1_4 => ?_) (fun hs1_4 => ?_)
            · refine z_tswIn (v := (4 : Int32)) (off := 71) C hs1_4 dX7_count_1 (by decide) (by decide) rfl rfl ?_
              refine z_aload_n C 0 dX7_count_72 rfl rfl rfl ?_
              refine z_get (v := .ref 23) C 4 zOK7 rfl (by decide) w327 rfl rfl dX7_count_73 rfl ?_
              refine z_getN (v := .int (M.1 23 2)) C 2 zOK5 rfl (by decide) (List.mem_of_getElem? (i := 17) rfl) rfl rfl dX7_count_76 rfl ?_
              exact z_iret C rfl rfl dX7_count_79
            · refine z_ite (fun hs1_5 => ?_) (fun hs1_5 => ?_)
              · refine z_tswIn (v := (5 : Int32)) (off := 79) C hs1_5 dX7_count_1 (by decide) (by decide) rfl rfl ?_
                refine z_aload_n C 0 dX7_count_80 rfl rfl rfl ?_
                refine z_get (v := .ref 1) C 0 zOK7 rfl (by decide) w323 rfl rfl dX7_count_81 rfl ?_
                refine z_ci (fun b => b) (fun _ => M) (fun b hb => z_VN (na := 0) (ci := 2) (r := (RX2, TX2, 4)) C [] rfl (mX2_weights Y M b hb) rfl rfl (List.mem_of_getElem? (i := 50) rfl) w775 w48 w80 w776 hdX2_weightsN ⟨Nat.le_of_ble_eq_true rfl, Nat.le_of_ble_eq_true rfl⟩ (Nat.le_of_ble_eq_true rfl) rfl dX7_count_84) rfl (fun b2 => ?_)
                exact z_iret C rfl rfl dX7_count_87
              · refine z_tswOut C (by have e0 : x0.toInt ≠ 0 := fun e => hs1_0 (Int32.toInt_inj.mp (e.trans rfl)); have e1 : x0.toInt ≠ 1 := fun e => hs1_1 (Int32.toInt_inj.mp (e.trans rfl)); have e2 : x0.toInt ≠ 2 := fun e => hs1_2 (Int32.toInt_inj.mp (e.trans rfl)); have e3 : x0.toInt ≠ 3 := fun e => hs1_3 (Int32.toInt_inj.mp (e.trans rfl)); have e4 : x0.toInt ≠ 4 := fun e => hs1_4 (Int32.toInt_inj.mp (e.trans rfl)); have e5 : x0.toInt ≠ 5 := fun e => hs1_5 (Int32.toInt_inj.mp (e.trans rfl)); omega) dX7_count_1 rfl ?_
                refine z_iconst C (-1 : Int32) dX7_count_88 rfl rfl ?_
                exact z_iret C rfl rfl dX7_count_89
  exact key b hF
set_option maxRecDepth 100000 in
set_option maxHeartbeats 4000000 in
theorem mX7_trace (Y : zY) (M : zMem) (b : Int64) (hF : FX7_trace M = some b) : zMt Y yX7_trace cX7_trace 1 (some .long) 0 0 [.ref 0] M (zQl Y b M) := by
  refine zMt_of (own := RX7) (by decide +kernel) rfl (Nat.le_of_ble_eq_true rfl) (fun X C => ?_)
  have key : zR Y X 1 (zFl Y X (fun b => b) (fun _ => M)) (FX7_trace M) 0 [(0, .ref 0)] [] M := by
    unfold FX7_trace
    refine z_aload_n C 0 dX7_trace_0 rfl rfl rfl ?_
    refine z_get (v := .long (M.2 0)) C 7 zOK7 rfl (by decide) w330 rfl rfl dX7_trace_1 rfl ?_
    exact z_lret C rfl rfl dX7_trace_4
  exact key b hF
set_option maxRecDepth 100000 in
set_option maxHeartbeats 4000000 in
theorem mX8_in (Y : zY) (x0 : Int32) (x1 : Int32) (x2 : Int32) (M : zMem) (b : Int32) (hF : FX8_in x0 x1 x2 = some b) : zMt Y yX8_in cX8_in 3 (some .boolean) 0 0 [.int x0, .int x1, .int x2] M (zQi Y b M) := by
  refine zMt_of (own := RX8) (by decide +kernel) rfl (Nat.le_of_ble_eq_true rfl) (fun X C => ?_)
  have key : zR Y X 3 (zFi Y X (fun b => b) (fun _ => M)) (FX8_in x0 x1 x2) 0 [(0, .int x0), (1, .int x1), (2, .int x2)] [] M := by
    unfold FX8_in
    refine z_iload_n C 0 dX8_in_0 rfl rfl rfl ?_
    refine z_iload_n C 1 dX8_in_1 rfl rfl rfl ?_
    refine z_icmplt C dX8_in_2 rfl rfl ?_ ?_
    · refine z_iconst C (0 : Int32) dX8_in_14 rfl rfl ?_
      exact z_zretK C rfl rfl rfl dX8_in_15
    · refine z_iload_n C 0 dX8_in_5 rfl rfl rfl ?_
      refine z_iload_n C 2 dX8_in_6 rfl rfl rfl ?_
      refine z_icmpgt C dX8_in_7 rfl rfl ?_ ?_
      · refine z_iconst C (0 : Int32) dX8_in_14 rfl rfl ?_
        exact z_zretK C rfl rfl rfl dX8_in_15
      · refine z_iconst C (1 : Int32) dX8_in_10 rfl rfl ?_
        refine z_goto C dX8_in_11 rfl ?_
        exact z_zretK C rfl rfl rfl dX8_in_15
  exact key b hF
set_option maxRecDepth 100000 in
set_option maxHeartbeats 4000000 in
theorem mX8_isNear (Y : zY) (x0 : Int32) (x1 : Int32) (x2 : Int32) (M : zMem) (b : Int32) (hF : FX8_isNear x0 x1 x2 = some b) : zMt Y yX8_isNear cX8_isNear 3 (some .boolean) 1 22 [.int x0, .int x1, .int x2] M (zQi Y b M) := by
  refine zMt_of (own := RX8) (by decide +kernel) rfl (Nat.le_of_ble_eq_true rfl) (fun X C => ?_)
  have key : zR Y X 3 (zFi Y X (fun b => b) (fun _ => M)) (FX8_isNear x0 x1 x2) 0 [(0, .int x0), (1, .int x1), (2, .int x2)] [] M := by
    unfold FX8_isNear
    refine z_iload_n C 0 dX8_isNear_0 rfl rfl rfl ?_
    refine z_iload_n C 2 dX8_isNear_1 rfl rfl rfl ?_
    refine z_ineg C dX8_isNear_2 rfl ?_
    refine z_iload_n C 2 dX8_isNear_3 rfl rfl rfl ?_
    refine z_ci (fun b => b) (fun _ => M) (fun b hb => z_S (na := 3) C [.int x0, .int (-x2), .int x2] rfl (mX8_in Y x0 (-x2) x2 M b hb) w896 w897 w88 w898 hdX8_in ⟨Nat.le_of_ble_eq_true rfl, Nat.le_of_ble_eq_true rfl⟩ (Nat.le_of_ble_eq_true rfl) rfl dX8_isNear_4) rfl (fun b4 => ?_)
    refine z_ifeq C dX8_isNear_7 rfl rfl ?_ ?_
    · refine z_iconst C (0 : Int32) dX8_isNear_24 rfl rfl ?_
      exact z_zretK C rfl rfl rfl dX8_isNear_25
    · refine z_iload_n C 1 dX8_isNear_10 rfl rfl rfl ?_
      refine z_iload_n C 2 dX8_isNear_11 rfl rfl rfl ?_
      refine z_ineg C dX8_isNear_12 rfl ?_
      refine z_iload_n C 2 dX8_isNear_13 rfl rfl rfl ?_
      refine z_ci (fun b => b) (fun _ => M) (fun b hb => z_S (na := 3) C [.int x1, .int (-x2), .int x2] rfl (mX8_in Y x1 (-x2) x2 M b hb) w896 w897 w88 w898 hdX8_in ⟨Nat.le_of_ble_eq_true rfl, Nat.le_of_ble_eq_true rfl⟩ (Nat.le_of_ble_eq_true rfl) rfl dX8_isNear_14) rfl (fun b5 => ?_)
      refine z_ifeq C dX8_isNear_17 rfl rfl ?_ ?_
      · refine z_iconst C (0 : Int32) dX8_isNear_24 rfl rfl ?_
        exact z_zretK C rfl rfl rfl dX8_isNear_25
      · refine z_iconst C (1 : Int32) dX8_isNear_20 rfl rfl ?_
        refine z_goto C dX8_isNear_21 rfl ?_
        exact z_zretK C rfl rfl rfl dX8_isNear_25
  exact key b hF
set_option maxRecDepth 100000 in
set_option maxHeartbeats 4000000 in
theorem mX8_floored (Y : zY) (y0 : Int64) (x1 : Int32) (M : zMem) (b : Int32) (hF : FX8_floored y0 x1 = some b) : zMt Y yX8_floored cX8_floored 5 (some .int) 0 0 [.long y0, .int x1] M (zQi Y b M) := by
  refine zMt_of (own := RX8) (by decide +kernel) rfl (Nat.le_of_ble_eq_true rfl) (fun X C => ?_)
  have key : zR Y X 5 (zFi Y X (fun b => b) (fun _ => M)) (FX8_floored y0 x1) 0 [(0, .long y0), (2, .int x1)] [] M := by
    unfold FX8_floored
    refine z_lload_n C 0 dX8_floored_0 rfl rfl rfl ?_
    refine z_iload_n C 1 dX8_floored_1 rfl rfl rfl ?_
    refine z_i2l C dX8_floored_2 rfl ?_
    refine z_ldiv C dX8_floored_3 rfl ?_
    refine z_lstore_n C (fun z => [(3, .long z), (0, .long y0), (2, .int x1)]) dX8_floored_4 rfl (by decide) (fun _ => rfl) rfl (fun y3 => ?_)
    refine z_lload_n C 1 dX8_floored_5 rfl rfl rfl ?_
    refine z_iload_n C 2 dX8_floored_6 rfl rfl rfl ?_
    refine z_i2l C dX8_floored_7 rfl ?_
    refine z_lrem C dX8_floored_8 rfl ?_
    refine z_lconst C (0 : Int64) dX8_floored_9 rfl rfl ?_
    refine z_lcmp C dX8_floored_10 rfl ?_
    refine z_join (fun k5 => ∀ (y4 : Int64), zR Y X 5 (zFi Y X (fun b => b) (fun _ => M)) (k5 y4) 21 [] [.long y4] M) (fun y4 => ?_) (fun k5 hk5 => ?_)
    · refine z_l2i C dX8_floored_21 rfl ?_
      exact z_iret C rfl rfl dX8_floored_22
    · refine z_ifge C dX8_floored_11 rfl rfl ?_ ?_
      · refine z_lload_n C 0 dX8_floored_20 rfl rfl rfl ?_
        exact z_perm [] rfl (hk5 y3)
      · refine z_lload_n C 0 dX8_floored_14 rfl rfl rfl ?_
        refine z_lconst C (1 : Int64) dX8_floored_15 rfl rfl ?_
        refine z_lsub C dX8_floored_16 rfl ?_
        refine z_goto C dX8_floored_17 rfl ?_
        exact z_perm [] rfl (hk5 (y3 - (1 : Int64)))
  exact key b hF
set_option maxRecDepth 100000 in
set_option maxHeartbeats 4000000 in
theorem mX8_isTold (Y : zY) (x0 : Int32) (x1 : Int32) (M : zMem) (b : Int32) (hF : FX8_isTold x0 x1 = some b) : zMt Y yX8_isTold cX8_isTold 2 (some .boolean) 1 22 [.int x0, .int x1] M (zQi Y b M) := by
  refine zMt_of (own := RX8) (by decide +kernel) rfl (Nat.le_of_ble_eq_true rfl) (fun X C => ?_)
  have key : zR Y X 2 (zFi Y X (fun b => b) (fun _ => M)) (FX8_isTold x0 x1) 0 [(0, .int x0), (1, .int x1)] [] M := by
    unfold FX8_isTold
    refine z_iload_n C 0 dX8_isTold_0 rfl rfl rfl ?_
    refine z_ifne C dX8_isTold_1 rfl rfl ?_ ?_
    · refine z_iload_n C 0 dX8_isTold_13 rfl rfl rfl ?_
      refine z_iconst C (3 : Int32) dX8_isTold_14 rfl rfl ?_
      refine z_icmpge C dX8_isTold_15 rfl rfl ?_ ?_
      · refine z_iload_n C 0 dX8_isTold_29 rfl rfl rfl ?_
        refine z_iconst C (3 : Int32) dX8_isTold_30 rfl rfl ?_
        refine z_icmpne C dX8_isTold_31 rfl rfl ?_ ?_
        · refine z_iload_n C 0 dX8_isTold_45 rfl rfl rfl ?_
          refine z_iconst C (4 : Int32) dX8_isTold_46 rfl rfl ?_
          refine z_icmpne C dX8_isTold_47 rfl rfl ?_ ?_
          · refine z_iload_n C 1 dX8_isTold_61 rfl rfl rfl ?_
            refine z_iconst C (0 : Int32) dX8_isTold_62 rfl rfl ?_
            refine z_bipush C (90 : Int32) dX8_isTold_63 rfl rfl ?_
            refine z_ci (fun b => b) (fun _ => M) (fun b hb => z_S (na := 3) C [.int x1, .int (0 : Int32), .int (90 : Int32)] rfl (mX8_in Y x1 (0 : Int32) (90 : Int32) M b hb) w896 w897 w88 w898 hdX8_in ⟨Nat.le_of_ble_eq_true rfl, Nat.le_of_ble_eq_true rfl⟩ (Nat.le_of_ble_eq_true rfl) rfl dX8_isTold_65) rfl (fun b3 => ?_)
            exact z_zret C rfl rfl dX8_isTold_68
          · refine z_iload_n C 1 dX8_isTold_50 rfl rfl rfl ?_
            refine z_iconst C (0 : Int32) dX8_isTold_51 rfl rfl ?_
            refine z_sipush C (900 : Int32) dX8_isTold_52 rfl rfl ?_
            refine z_ci (fun b => b) (fun _ => M) (fun b hb => z_S (na := 3) C [.int x1, .int (0 : Int32), .int (900 : Int32)] rfl (mX8_in Y x1 (0 : Int32) (900 : Int32) M b hb) w896 w897 w88 w898 hdX8_in ⟨Nat.le_of_ble_eq_true rfl, Nat.le_of_ble_eq_true rfl⟩ (Nat.le_of_ble_eq_true rfl) rfl dX8_isTold_55) rfl (fun b4 => ?_)
            refine z_goto C dX8_isTold_58 rfl ?_
            exact z_zret C rfl rfl dX8_isTold_68
        · refine z_iload_n C 1 dX8_isTold_34 rfl rfl rfl ?_
          refine z_iconst C (0 : Int32) dX8_isTold_35 rfl rfl ?_
          refine z_sipush C (400 : Int32) dX8_isTold_36 rfl rfl ?_
          refine z_ci (fun b => b) (fun _ => M) (fun b hb => z_S (na := 3) C [.int x1, .int (0 : Int32), .int (400 : Int32)] rfl (mX8_in Y x1 (0 : Int32) (400 : Int32) M b hb) w896 w897 w88 w898 hdX8_in ⟨Nat.le_of_ble_eq_true rfl, Nat.le_of_ble_eq_true rfl⟩ (Nat.le_of_ble_eq_true rfl) rfl dX8_isTold_39) rfl (fun b5 => ?_)
          refine z_goto C dX8_isTold_42 rfl ?_
          exact z_zret C rfl rfl dX8_isTold_68
      · refine z_iload_n C 1 dX8_isTold_18 rfl rfl rfl ?_
        refine z_bipush C (-40 : Int32) dX8_isTold_19 rfl rfl ?_
        refine z_bipush C (40 : Int32) dX8_isTold_21 rfl rfl ?_
        refine z_ci (fun b => b) (fun _ => M) (fun b hb => z_S (na := 3) C [.int x1, .int (-40 : Int32), .int (40 : Int32)] rfl (mX8_in Y x1 (-40 : Int32) (40 : Int32) M b hb) w896 w897 w88 w898 hdX8_in ⟨Nat.le_of_ble_eq_true rfl, Nat.le_of_ble_eq_true rfl⟩ (Nat.le_of_ble_eq_true rfl) rfl dX8_isTold_23) rfl (fun b6 => ?_)
        refine z_goto C dX8_isTold_26 rfl ?_
        exact z_zret C rfl rfl dX8_isTold_68
    · refine z_iload_n C 1 dX8_isTold_4 rfl rfl rfl ?_
      refine z_iconst C (0 : Int32) dX8_isTold_5 rfl rfl ?_
      refine z_iconst C (2 : Int32) dX8_isTold_6 rfl rfl ?_
      refine z_ci (fun b => b) (fun _ => M) (fun b hb => z_S (na := 3) C [.int x1, .int (0 : Int32), .int (2 : Int32)] rfl (mX8_in Y x1 (0 : Int32) (2 : Int32) M b hb) w896 w897 w88 w898 hdX8_in ⟨Nat.le_of_ble_eq_true rfl, Nat.le_of_ble_eq_true rfl⟩ (Nat.le_of_ble_eq_true rfl) rfl dX8_isTold_7) rfl (fun b7 => ?_)
      refine z_goto C dX8_isTold_10 rfl ?_
      exact z_zret C rfl rfl dX8_isTold_68
  exact key b hF
set_option maxRecDepth 100000 in
set_option maxHeartbeats 4000000 in
theorem mX8_isBody (Y : zY) (x0 : Int32) (M : zMem) (b : Int32) (hF : FX8_isBody x0 M = some b) : zMt Y yX8_isBody cX8_isBody 2 (some .boolean) 1 22 [.ref 100, .int x0] M (zQi Y b M) := by
  refine zMt_of (own := RX8) (by decide +kernel) rfl (Nat.le_of_ble_eq_true rfl) (fun X C => ?_)
  have key : zR Y X 2 (zFi Y X (fun b => b) (fun _ => M)) (FX8_isBody x0 M) 0 [(0, .ref 100), (1, .int x0)] [] M := by
    unfold FX8_isBody
    refine z_iload_n C 1 dX8_isBody_0 rfl rfl rfl ?_
    refine z_iconst C (0 : Int32) dX8_isBody_1 rfl rfl ?_
    refine z_aload_n C 0 dX8_isBody_2 rfl rfl rfl ?_
    refine z_get (v := .int (M.1 100 1)) C 1 zOK8 rfl (by decide) w789 rfl rfl dX8_isBody_3 rfl ?_
    refine z_iconst C (1 : Int32) dX8_isBody_6 rfl rfl ?_
    refine z_isub C dX8_isBody_7 rfl ?_
    refine z_ci (fun b => b) (fun _ => M) (fun b hb => z_S (na := 3) C [.int x0, .int (0 : Int32), .int ((M.1 100 1) - (1 : Int32))] rfl (mX8_in Y x0 (0 : Int32) ((M.1 100 1) - (1 : Int32)) M b hb) w896 w897 w88 w898 hdX8_in ⟨Nat.le_of_ble_eq_true rfl, Nat.le_of_ble_eq_true rfl⟩ (Nat.le_of_ble_eq_true rfl) rfl dX8_isBody_8) rfl (fun b2 => ?_)
    exact z_zret C rfl rfl dX8_isBody_11
  exact key b hF
set_option maxRecDepth 100000 in
set_option maxHeartbeats 4000000 in
theorem mX8_body (Y : zY) (x0 : Int32) (x1 : Int32) (x2 : Int32) (x3 : Int32) (M : zMem) (b : Int32 × zMem) (hF : FX8_body x0 x1 x2 x3 M = some b) : zMt Y yX8_body cX8_body 6 (some .int) 2 44 [.ref 100, .int x0, .int x1, .int x2, .int x3] M (zQi Y b.1 b.2) := by
  refine zMt_of (own := RX8) (by decide +kernel) rfl (Nat.le_of_ble_eq_true rfl) (fun X C => ?_)
  have key : zR Y X 6 (zFi Y X (fun b => b.1) (fun b => b.2)) (FX8_body x0 x1 x2 x3 M) 0 [(0, .ref 100), (1, .int x0), (2, .int x1), (3, .int x2), (4, .int x3)] [] M := by
    unfold FX8_body
    refine z_iload_n C 1 dX8_body_0 rfl rfl rfl ?_
    refine z_iconst C (0 : Int32) dX8_body_1 rfl rfl ?_
    refine z_iconst C (2 : Int32) dX8_body_2 rfl rfl ?_
    refine z_ci (fun b => b) (fun _ => M) (fun b hb => z_S (na := 3) C [.int x0, .int (0 : Int32), .int (2 : Int32)] rfl (mX8_in Y x0 (0 : Int32) (2 : Int32) M b hb) w896 w897 w88 w898 hdX8_in ⟨Nat.le_of_ble_eq_true rfl, Nat.le_of_ble_eq_true rfl⟩ (Nat.le_of_ble_eq_true rfl) rfl dX8_body_3) rfl (fun b5 => ?_)
    refine z_ifeq C dX8_body_6 rfl rfl ?_ ?_
    · refine z_iconst C (-1 : Int32) dX8_body_31 rfl rfl ?_
      exact z_iret C rfl rfl dX8_body_32
    · refine z_iload_n C 2 dX8_body_9 rfl rfl rfl ?_
      refine z_iload_n C 3 dX8_body_10 rfl rfl rfl ?_
      refine z_bipush C (40 : Int32) dX8_body_11 rfl rfl ?_
      refine z_ci (fun b => b) (fun _ => M) (fun b hb => z_S (na := 3) C [.int x1, .int x2, .int (40 : Int32)] rfl (mX8_isNear Y x1 x2 (40 : Int32) M b hb) w899 w900 w88 w901 hdX8_isNear ⟨Nat.le_of_ble_eq_true rfl, Nat.le_of_ble_eq_true rfl⟩ (Nat.le_of_ble_eq_true rfl) rfl dX8_body_13) rfl (fun b6 => ?_)
      refine z_ifeq C dX8_body_16 rfl rfl ?_ ?_
      · refine z_iconst C (-1 : Int32) dX8_body_31 rfl rfl ?_
        exact z_iret C rfl rfl dX8_body_32
      · refine z_iload C 4 dX8_body_19 rfl rfl ?_
        refine z_iconst C (0 : Int32) dX8_body_21 rfl rfl ?_
        refine z_sipush C (400 : Int32) dX8_body_22 rfl rfl ?_
        refine z_ci (fun b => b) (fun _ => M) (fun b hb => z_S (na := 3) C [.int x3, .int (0 : Int32), .int (400 : Int32)] rfl (mX8_in Y x3 (0 : Int32) (400 : Int32) M b hb) w896 w897 w88 w898 hdX8_in ⟨Nat.le_of_ble_eq_true rfl, Nat.le_of_ble_eq_true rfl⟩ (Nat.le_of_ble_eq_true rfl) rfl dX8_body_25) rfl (fun b7 => ?_)
        refine z_ifne C dX8_body_28 rfl rfl ?_ ?_
        · refine z_aload_n C 0 dX8_body_33 rfl rfl rfl ?_
          refine z_get (v := .int (M.1 100 1)) C 1 zOK8 rfl (by decide) w789 rfl rfl dX8_body_34 rfl ?_
          refine z_bipush C (8 : Int32) dX8_body_37 rfl rfl ?_
          refine z_icmpne C dX8_body_39 rfl rfl ?_ ?_
          · refine z_bipush C (6 : Int32) dX8_body_45 rfl rfl ?_
            refine z_aload_n C 0 dX8_body_47 rfl rfl rfl ?_
            refine z_get (v := .int (M.1 100 1)) C 1 zOK8 rfl (by decide) w789 rfl rfl dX8_body_48 rfl ?_
            refine z_imul C dX8_body_51 rfl ?_
            refine z_istore C (fun z => [(5, .int z), (0, .ref 100), (1, .int x0), (2, .int x1), (3, .int x2), (4, .int x3)]) dX8_body_52 (by decide) (fun _ => rfl) rfl (fun x8 => ?_)
            refine z_aload_n C 1 dX8_body_54 rfl rfl rfl ?_
            refine z_get (v := .ref 101) C 0 zOK8 rfl (by decide) w788 rfl rfl dX8_body_55 rfl ?_
            refine z_iload C 0 dX8_body_58 rfl rfl ?_
            refine z_iload_n C 2 dX8_body_60 rfl rfl rfl ?_
            refine z_iastore C 96 rfl dX8_body_61 rfl (fun M9 => ?_)
            refine z_aload_n C 1 dX8_body_62 rfl rfl rfl ?_
            refine z_get (v := .ref 101) C 0 zOK8 rfl (by decide) w788 rfl rfl dX8_body_63 rfl ?_
            refine z_iload C 0 dX8_body_66 rfl rfl ?_
            refine z_iconst C (1 : Int32) dX8_body_68 rfl rfl ?_
            refine z_iadd C dX8_body_69 rfl ?_
            refine z_iload_n C 3 dX8_body_70 rfl rfl rfl ?_
            refine z_iastore C 96 rfl dX8_body_71 rfl (fun M10 => ?_)
            refine z_aload_n C 1 dX8_body_72 rfl rfl rfl ?_
            refine z_get (v := .ref 101) C 0 zOK8 rfl (by decide) w788 rfl rfl dX8_body_73 rfl ?_
            refine z_iload C 0 dX8_body_76 rfl rfl ?_
            refine z_iconst C (2 : Int32) dX8_body_78 rfl rfl ?_
            refine z_iadd C dX8_body_79 rfl ?_
            refine z_iload_n C 4 dX8_body_80 rfl rfl rfl ?_
            refine z_iastore C 96 rfl dX8_body_81 rfl (fun M11 => ?_)
            refine z_aload_n C 1 dX8_body_82 rfl rfl rfl ?_
            refine z_get (v := .ref 101) C 0 zOK8 rfl (by decide) w788 rfl rfl dX8_body_83 rfl ?_
            refine z_iload C 0 dX8_body_86 rfl rfl ?_
            refine z_iconst C (3 : Int32) dX8_body_88 rfl rfl ?_
            refine z_iadd C dX8_body_89 rfl ?_
            refine z_iload C 5 dX8_body_90 rfl rfl ?_
            refine z_iastore C 96 rfl dX8_body_92 rfl (fun M12 => ?_)
            refine z_aload_n C 1 dX8_body_93 rfl rfl rfl ?_
            refine z_get (v := .ref 101) C 0 zOK8 rfl (by decide) w788 rfl rfl dX8_body_94 rfl ?_
            refine z_iload C 0 dX8_body_97 rfl rfl ?_
            refine z_iconst C (4 : Int32) dX8_body_99 rfl rfl ?_
            refine z_iadd C dX8_body_100 rfl ?_
            refine z_iconst C (0 : Int32) dX8_body_101 rfl rfl ?_
            refine z_iastore C 96 rfl dX8_body_102 rfl (fun M13 => ?_)
            refine z_aload_n C 1 dX8_body_103 rfl rfl rfl ?_
            refine z_get (v := .ref 101) C 0 zOK8 rfl (by decide) w788 rfl rfl dX8_body_104 rfl ?_
            refine z_iload C 0 dX8_body_107 rfl rfl ?_
            refine z_iconst C (5 : Int32) dX8_body_109 rfl rfl ?_
            refine z_iadd C dX8_body_110 rfl ?_
            refine z_bipush C (90 : Int32) dX8_body_111 rfl rfl ?_
            refine z_iastore C 96 rfl dX8_body_113 rfl (fun M14 => ?_)
            refine z_aload_n C 1 dX8_body_114 rfl rfl rfl ?_
            refine z_dup C dX8_body_115 rfl rfl ?_
            refine z_get (v := .int (M14.1 100 1)) C 1 zOK8 rfl (by decide) w789 rfl rfl dX8_body_116 rfl ?_
            refine z_iconst C (1 : Int32) dX8_body_119 rfl rfl ?_
            refine z_iadd C dX8_body_120 rfl ?_
            refine z_puti C 1 zOK8 rfl (by decide) w789 rfl rfl rfl rfl rfl dX8_body_121 rfl (fun M15 => ?_)
            refine z_aload_n C 1 dX8_body_124 rfl rfl rfl ?_
            refine z_get (v := .int (M15.1 100 1)) C 1 zOK8 rfl (by decide) w789 rfl rfl dX8_body_125 rfl ?_
            refine z_iconst C (1 : Int32) dX8_body_128 rfl rfl ?_
            refine z_isub C dX8_body_129 rfl ?_
            exact z_iret C rfl rfl dX8_body_130
          · refine z_bipush C (-3 : Int32) dX8_body_42 rfl rfl ?_
            exact z_iret C rfl rfl dX8_body_44
        · refine z_iconst C (-1 : Int32) dX8_body_31 rfl rfl ?_
          exact z_iret C rfl rfl dX8_body_32
  exact key b hF
set_option maxRecDepth 100000 in
set_option maxHeartbeats 4000000 in
theorem mX8_set (Y : zY) (x0 : Int32) (x1 : Int32) (x2 : Int32) (M : zMem) (b : Int32 × zMem) (hF : FX8_set x0 x1 x2 M = some b) : zMt Y yX8_set cX8_set 5 (some .int) 2 43 [.ref 100, .int x0, .int x1, .int x2] M (zQi Y b.1 b.2) := by
  refine zMt_of (own := RX8) (by decide +kernel) rfl (Nat.le_of_ble_eq_true rfl) (fun X C => ?_)
  have key : zR Y X 5 (zFi Y X (fun b => b.1) (fun b => b.2)) (FX8_set x0 x1 x2 M) 0 [(0, .ref 100), (1, .int x0), (2, .int x1), (3, .int x2)] [] M := by
    unfold FX8_set
    refine z_aload_n C 0 dX8_set_0 rfl rfl rfl ?_
    refine z_iload_n C 1 dX8_set_1 rfl rfl rfl ?_
    refine z_ci (fun b => b) (fun _ => M) (fun b hb => z_V (na := 1) (ci := 8) (r := (RX8, TX8, 34)) C [.int x0] rfl (mX8_isBody Y x0 M b hb) rfl rfl w906 w908 w49 w88 w909 hdX8_isBody ⟨Nat.le_of_ble_eq_true rfl, Nat.le_of_ble_eq_true rfl⟩ (Nat.le_of_ble_eq_true rfl) rfl dX8_set_2) rfl (fun b4 => ?_)
    refine z_ifeq C dX8_set_5 rfl rfl ?_ ?_
    · refine z_ldc C w913 dX8_set_25 rfl ?_
      exact z_iret C rfl rfl dX8_set_27
    · refine z_iload_n C 2 dX8_set_8 rfl rfl rfl ?_
      refine z_iconst C (0 : Int32) dX8_set_9 rfl rfl ?_
      refine z_iconst C (5 : Int32) dX8_set_10 rfl rfl ?_
      refine z_ci (fun b => b) (fun _ => M) (fun b hb => z_S (na := 3) C [.int x1, .int (0 : Int32), .int (5 : Int32)] rfl (mX8_in Y x1 (0 : Int32) (5 : Int32) M b hb) w896 w897 w88 w898 hdX8_in ⟨Nat.le_of_ble_eq_true rfl, Nat.le_of_ble_eq_true rfl⟩ (Nat.le_of_ble_eq_true rfl) rfl dX8_set_11) rfl (fun b5 => ?_)
      refine z_ifeq C dX8_set_14 rfl rfl ?_ ?_
      · refine z_ldc C w913 dX8_set_25 rfl ?_
        exact z_iret C rfl rfl dX8_set_27
      · refine z_iload_n C 2 dX8_set_17 rfl rfl rfl ?_
        refine z_iload_n C 3 dX8_set_18 rfl rfl rfl ?_
        refine z_ci (fun b => b) (fun _ => M) (fun b hb => z_S (na := 2) C [.int x1, .int x2] rfl (mX8_isTold Y x1 x2 M b hb) w910 w911 w88 w912 hdX8_isTold ⟨Nat.le_of_ble_eq_true rfl, Nat.le_of_ble_eq_true rfl⟩ (Nat.le_of_ble_eq_true rfl) rfl dX8_set_19) rfl (fun b6 => ?_)
        refine z_ifne C dX8_set_22 rfl rfl ?_ ?_
        · refine z_aload_n C 0 dX8_set_28 rfl rfl rfl ?_
          refine z_get (v := .ref 101) C 0 zOK8 rfl (by decide) w788 rfl rfl dX8_set_29 rfl ?_
          refine z_bipush C (6 : Int32) dX8_set_32 rfl rfl ?_
          refine z_iload_n C 1 dX8_set_34 rfl rfl rfl ?_
          refine z_imul C dX8_set_35 rfl ?_
          refine z_iload_n C 2 dX8_set_36 rfl rfl rfl ?_
          refine z_iadd C dX8_set_37 rfl ?_
          refine z_iaload C 96 rfl dX8_set_38 rfl ?_
          refine z_istore C (fun z => [(4, .int z), (0, .ref 100), (1, .int x0), (2, .int x1), (3, .int x2)]) dX8_set_39 (by decide) (fun _ => rfl) rfl (fun x7 => ?_)
          refine z_aload_n C 1 dX8_set_41 rfl rfl rfl ?_
          refine z_get (v := .ref 101) C 0 zOK8 rfl (by decide) w788 rfl rfl dX8_set_42 rfl ?_
          refine z_bipush C (6 : Int32) dX8_set_45 rfl rfl ?_
          refine z_iload_n C 2 dX8_set_47 rfl rfl rfl ?_
          refine z_imul C dX8_set_48 rfl ?_
          refine z_iload_n C 3 dX8_set_49 rfl rfl rfl ?_
          refine z_iadd C dX8_set_50 rfl ?_
          refine z_iload_n C 4 dX8_set_51 rfl rfl rfl ?_
          refine z_iastore C 96 rfl dX8_set_52 rfl (fun M8 => ?_)
          refine z_iload C 0 dX8_set_53 rfl rfl ?_
          exact z_iret C rfl rfl dX8_set_55
        · refine z_ldc C w913 dX8_set_25 rfl ?_
          exact z_iret C rfl rfl dX8_set_27
  exact key b hF
set_option maxRecDepth 100000 in
set_option maxHeartbeats 4000000 in
theorem mX8_drop (Y : zY) (M : zMem) (b : Int32 × zMem) (hF : FX8_drop M = some b) : zMt Y yX8_drop cX8_drop 1 (some .int) 0 0 [.ref 100] M (zQi Y b.1 b.2) := by
  refine zMt_of (own := RX8) (by decide +kernel) rfl (Nat.le_of_ble_eq_true rfl) (fun X C => ?_)
  have key : zR Y X 1 (zFi Y X (fun b => b.1) (fun b => b.2)) (FX8_drop M) 0 [(0, .ref 100)] [] M := by
    unfold FX8_drop
    refine z_aload_n C 0 dX8_drop_0 rfl rfl rfl ?_
    refine z_get (v := .int (M.1 100 1)) C 1 zOK8 rfl (by decide) w789 rfl rfl dX8_drop_1 rfl ?_
    refine z_ifne C dX8_drop_4 rfl rfl ?_ ?_
    · refine z_aload_n C 0 dX8_drop_10 rfl rfl rfl ?_
      refine z_dup C dX8_drop_11 rfl rfl ?_
      refine z_get (v := .int (M.1 100 1)) C 1 zOK8 rfl (by decide) w789 rfl rfl dX8_drop_12 rfl ?_
      refine z_iconst C (1 : Int32) dX8_drop_15 rfl rfl ?_
      refine z_isub C dX8_drop_16 rfl ?_
      refine z_puti C 1 zOK8 rfl (by decide) w789 rfl rfl rfl rfl rfl dX8_drop_17 rfl (fun M1 => ?_)
      refine z_aload_n C 0 dX8_drop_20 rfl rfl rfl ?_
      refine z_get (v := .int (M1.1 100 1)) C 1 zOK8 rfl (by decide) w789 rfl rfl dX8_drop_21 rfl ?_
      exact z_iret C rfl rfl dX8_drop_24
    · refine z_bipush C (-2 : Int32) dX8_drop_7 rfl rfl ?_
      exact z_iret C rfl rfl dX8_drop_9
  exact key b hF
set_option maxRecDepth 100000 in
set_option maxHeartbeats 4000000 in
theorem mX8_field (Y : zY) (x0 : Int32) (x1 : Int32) (M : zMem) (b : Int32 × zMem) (hF : FX8_field x0 x1 M = some b) : zMt Y yX8_field cX8_field 4 (some .int) 1 22 [.ref 100, .int x0, .int x1] M (zQi Y b.1 b.2) := by
  refine zMt_of (own := RX8) (by decide +kernel) rfl (Nat.le_of_ble_eq_true rfl) (fun X C => ?_)
  have key : zR Y X 4 (zFi Y X (fun b => b.1) (fun b => b.2)) (FX8_field x0 x1 M) 0 [(0, .ref 100), (1, .int x0), (2, .int x1)] [] M := by
    unfold FX8_field
    refine z_iload_n C 1 dX8_field_0 rfl rfl rfl ?_
    refine z_iconst C (0 : Int32) dX8_field_1 rfl rfl ?_
    refine z_iconst C (1 : Int32) dX8_field_2 rfl rfl ?_
    refine z_ci (fun b => b) (fun _ => M) (fun b hb => z_S (na := 3) C [.int x0, .int (0 : Int32), .int (1 : Int32)] rfl (mX8_in Y x0 (0 : Int32) (1 : Int32) M b hb) w896 w897 w88 w898 hdX8_in ⟨Nat.le_of_ble_eq_true rfl, Nat.le_of_ble_eq_true rfl⟩ (Nat.le_of_ble_eq_true rfl) rfl dX8_field_3) rfl (fun b3 => ?_)
    refine z_ifeq C dX8_field_6 rfl rfl ?_ ?_
    · refine z_ldc C w913 dX8_field_20 rfl ?_
      exact z_iret C rfl rfl dX8_field_22
    · refine z_iload_n C 2 dX8_field_9 rfl rfl rfl ?_
      refine z_bipush C (-8 : Int32) dX8_field_10 rfl rfl ?_
      refine z_bipush C (8 : Int32) dX8_field_12 rfl rfl ?_
      refine z_ci (fun b => b) (fun _ => M) (fun b hb => z_S (na := 3) C [.int x1, .int (-8 : Int32), .int (8 : Int32)] rfl (mX8_in Y x1 (-8 : Int32) (8 : Int32) M b hb) w896 w897 w88 w898 hdX8_in ⟨Nat.le_of_ble_eq_true rfl, Nat.le_of_ble_eq_true rfl⟩ (Nat.le_of_ble_eq_true rfl) rfl dX8_field_14) rfl (fun b4 => ?_)
      refine z_ifne C dX8_field_17 rfl rfl ?_ ?_
      · refine z_iload_n C 1 dX8_field_23 rfl rfl rfl ?_
        refine z_join (fun k6 => ∀ (x5 : Int32), zR Y X 4 (zFi Y X (fun b => b.1) (fun b => b.2)) (k6 x5) 38 [(0, .ref 100), (1, .int x0), (2, .int x1)] [.int x5] M) (fun x5 => ?_) (fun k6 hk6 => ?_)
        · refine z_istoreP_n (lo' := [(3, .int x5), (0, .ref 100), (1, .int x0), (2, .int x1)]) C dX8_field_38 rfl (by decide) rfl rfl ?_
          refine z_aload_n C 1 dX8_field_39 rfl rfl rfl ?_
          refine z_iload_n C 2 dX8_field_40 rfl rfl rfl ?_
          refine z_join (fun k8 => ∀ (x7 : Int32), zR Y X 4 (zFi Y X (fun b => b.1) (fun b => b.2)) (k8 x7) 52 [(0, .ref 100), (1, .int x0), (2, .int x1), (3, .int x5)] [.int x7, .ref 100] M) (fun x7 => ?_) (fun k8 hk8 => ?_)
          · refine z_puti C 2 zOK8 rfl (by decide) w790 rfl rfl rfl rfl rfl dX8_field_52 rfl (fun M9 => ?_)
            refine z_aload_n C 0 dX8_field_55 rfl rfl rfl ?_
            refine z_iload_n C 1 dX8_field_56 rfl rfl rfl ?_
            refine z_iconst C (1 : Int32) dX8_field_57 rfl rfl ?_
            refine z_join (fun k11 => ∀ (x10 : Int32), zR Y X 4 (zFi Y X (fun b => b.1) (fun b => b.2)) (k11 x10) 69 [(3, .int x5)] [.int x10, .ref 100] M9) (fun x10 => ?_) (fun k11 hk11 => ?_)
            · refine z_puti C 3 zOK8 rfl (by decide) w791 rfl rfl rfl rfl rfl dX8_field_69 rfl (fun M12 => ?_)
              refine z_iload_n C 0 dX8_field_72 rfl rfl rfl ?_
              exact z_iret C rfl rfl dX8_field_73
            · refine z_icmpne C dX8_field_58 rfl rfl ?_ ?_
              · refine z_aload_n C 0 dX8_field_65 rfl rfl rfl ?_
                refine z_get (v := .int (M9.1 100 3)) C 3 zOK8 rfl (by decide) w791 rfl rfl dX8_field_66 rfl ?_
                exact z_perm [3] rfl (hk11 (M9.1 100 3))
              · refine z_iload_n C 2 dX8_field_61 rfl rfl rfl ?_
                refine z_goto C dX8_field_62 rfl ?_
                exact z_perm [3] rfl (hk11 x1)
          · refine z_ifne C dX8_field_41 rfl rfl ?_ ?_
            · refine z_aload_n C 1 dX8_field_48 rfl rfl rfl ?_
              refine z_get (v := .int (M.1 100 2)) C 2 zOK8 rfl (by decide) w790 rfl rfl dX8_field_49 rfl ?_
              exact z_perm [1, 2, 3, 0] rfl (hk8 (M.1 100 2))
            · refine z_iload_n C 3 dX8_field_44 rfl rfl rfl ?_
              refine z_goto C dX8_field_45 rfl ?_
              exact z_perm [1, 2, 3, 0] rfl (hk8 x1)
        · refine z_ifne C dX8_field_24 rfl rfl ?_ ?_
          · refine z_aload_n C 0 dX8_field_34 rfl rfl rfl ?_
            refine z_get (v := .int (M.1 100 3)) C 3 zOK8 rfl (by decide) w791 rfl rfl dX8_field_35 rfl ?_
            exact z_perm [0, 1, 2] rfl (hk6 (M.1 100 3))
          · refine z_aload_n C 0 dX8_field_27 rfl rfl rfl ?_
            refine z_get (v := .int (M.1 100 2)) C 2 zOK8 rfl (by decide) w790 rfl rfl dX8_field_28 rfl ?_
            refine z_goto C dX8_field_31 rfl ?_
            exact z_perm [0, 1, 2] rfl (hk6 (M.1 100 2))
      · refine z_ldc C w913 dX8_field_20 rfl ?_
        exact z_iret C rfl rfl dX8_field_22
  exact key b hF
set_option maxRecDepth 100000 in
set_option maxHeartbeats 4000000 in
theorem mX8_bendOf (Y : zY) (x0 : Int32) (x1 : Int32) (x2 : Int32) (x3 : Int32) (x4 : Int32) (M : zMem) (b : Int32) (hF : FX8_bendOf x0 x1 x2 x3 x4 M = some b) : zMt Y yX8_bendOf cX8_bendOf 11 (some .int) 0 0 [.ref 100, .int x0, .int x1, .int x2, .int x3, .int x4] M (zQi Y b M) := by
  refine zMt_of (own := RX8) (by decide +kernel) rfl (Nat.le_of_ble_eq_true rfl) (fun X C => ?_)
  have key : zR Y X 11 (zFi Y X (fun b => b) (fun _ => M)) (FX8_bendOf x0 x1 x2 x3 x4 M) 0 [(0, .ref 100), (1, .int x0), (2, .int x1), (3, .int x2), (4, .int x3), (5, .int x4)] [] M := by
    unfold FX8_bendOf
    refine z_iload_n C 3 dX8_bendOf_0 rfl rfl rfl ?_
    refine z_aload_n C 0 dX8_bendOf_1 rfl rfl rfl ?_
    refine z_get (v := .ref 101) C 0 zOK8 rfl (by decide) w788 rfl rfl dX8_bendOf_2 rfl ?_
    refine z_bipush C (6 : Int32) dX8_bendOf_5 rfl rfl ?_
    refine z_iload_n C 2 dX8_bendOf_7 rfl rfl rfl ?_
    refine z_imul C dX8_bendOf_8 rfl ?_
    refine z_iconst C (1 : Int32) dX8_bendOf_9 rfl rfl ?_
    refine z_iadd C dX8_bendOf_10 rfl ?_
    refine z_iaload C 96 rfl dX8_bendOf_11 rfl ?_
    refine z_isub C dX8_bendOf_12 rfl ?_
    refine z_istore C (fun z => [(6, .int z), (0, .ref 100), (1, .int x0), (2, .int x1), (3, .int x2), (4, .int x3), (5, .int x4)]) dX8_bendOf_13 (by decide) (fun _ => rfl) rfl (fun x6 => ?_)
    refine z_iload C 5 dX8_bendOf_15 rfl rfl ?_
    refine z_aload_n C 1 dX8_bendOf_17 rfl rfl rfl ?_
    refine z_get (v := .ref 101) C 0 zOK8 rfl (by decide) w788 rfl rfl dX8_bendOf_18 rfl ?_
    refine z_bipush C (6 : Int32) dX8_bendOf_21 rfl rfl ?_
    refine z_iload_n C 3 dX8_bendOf_23 rfl rfl rfl ?_
    refine z_imul C dX8_bendOf_24 rfl ?_
    refine z_iconst C (2 : Int32) dX8_bendOf_25 rfl rfl ?_
    refine z_iadd C dX8_bendOf_26 rfl ?_
    refine z_iaload C 96 rfl dX8_bendOf_27 rfl ?_
    refine z_isub C dX8_bendOf_28 rfl ?_
    refine z_istore C (fun z => [(7, .int z), (6, .int x6), (0, .ref 100), (1, .int x0), (2, .int x1), (3, .int x2), (4, .int x3), (5, .int x4)]) dX8_bendOf_29 (by decide) (fun _ => rfl) rfl (fun x7 => ?_)
    refine z_iload C 1 dX8_bendOf_31 rfl rfl ?_
    refine z_iload C 1 dX8_bendOf_33 rfl rfl ?_
    refine z_imul C dX8_bendOf_35 rfl ?_
    refine z_iload C 0 dX8_bendOf_36 rfl rfl ?_
    refine z_iload C 0 dX8_bendOf_38 rfl rfl ?_
    refine z_imul C dX8_bendOf_40 rfl ?_
    refine z_iadd C dX8_bendOf_41 rfl ?_
    refine z_istore C (fun z => [(8, .int z), (7, .int x7), (6, .int x6), (0, .ref 100), (1, .int x0), (2, .int x1), (3, .int x2), (4, .int x3), (5, .int x4)]) dX8_bendOf_42 (by decide) (fun _ => rfl) rfl (fun x8 => ?_)
    refine z_iload C 8 dX8_bendOf_44 rfl rfl ?_
    refine z_join (fun k10 => ∀ (x9 : Int32), zR Y X 11 (zFi Y X (fun b => b) (fun _ => M)) (k10 x9) 56 [(0, .ref 100), (1, .int x0), (2, .int x1), (8, .int x8)] [.int x9] M) (fun x9 => ?_) (fun k10 hk10 => ?_)
    · refine z_istoreP (lo' := [(9, .int x9), (0, .ref 100), (1, .int x0), (2, .int x1), (8, .int x8)]) C dX8_bendOf_56 (by decide) rfl rfl ?_
      refine z_iload C 4 dX8_bendOf_58 rfl rfl ?_
      refine z_ifeq C dX8_bendOf_60 rfl rfl ?_ ?_
      · refine z_iconst C (0 : Int32) dX8_bendOf_96 rfl rfl ?_
        exact z_iret C rfl rfl dX8_bendOf_97
      · refine z_iload_n C 2 dX8_bendOf_63 rfl rfl rfl ?_
        refine z_iconst C (2 : Int32) dX8_bendOf_64 rfl rfl ?_
        refine z_join (fun k12 => ∀ (u11 : Unit), zR Y X 11 (zFi Y X (fun b => b) (fun _ => M)) (k12 u11) 98 [(0, .ref 100), (1, .int x0), (2, .int x1), (8, .int x8), (9, .int x9)] [] M) (fun u11 => ?_) (fun k12 hk12 => ?_)
        · refine z_bipush C (16 : Int32) dX8_bendOf_98 rfl rfl ?_
          refine z_aload_n C 0 dX8_bendOf_100 rfl rfl rfl ?_
          refine z_get (v := .ref 101) C 0 zOK8 rfl (by decide) w788 rfl rfl dX8_bendOf_101 rfl ?_
          refine z_bipush C (6 : Int32) dX8_bendOf_104 rfl rfl ?_
          refine z_iload_n C 2 dX8_bendOf_106 rfl rfl rfl ?_
          refine z_imul C dX8_bendOf_107 rfl ?_
          refine z_iconst C (3 : Int32) dX8_bendOf_108 rfl rfl ?_
          refine z_iadd C dX8_bendOf_109 rfl ?_
          refine z_iaload C 96 rfl dX8_bendOf_110 rfl ?_
          refine z_imul C dX8_bendOf_111 rfl ?_
          refine z_iload C 4 dX8_bendOf_112 rfl rfl ?_
          refine z_imul C dX8_bendOf_114 rfl ?_
          refine z_iload C 3 dX8_bendOf_115 rfl rfl ?_
          refine z_idiv C dX8_bendOf_117 rfl ?_
          refine z_istore C (fun z => [(10, .int z), (0, .ref 100), (1, .int x0), (2, .int x1), (8, .int x8), (9, .int x9)]) dX8_bendOf_118 (by decide) (fun _ => rfl) rfl (fun x13 => ?_)
          refine z_iload_n C 2 dX8_bendOf_120 rfl rfl rfl ?_
          refine z_ifne C dX8_bendOf_121 rfl rfl ?_ ?_
          · refine z_iload C 0 dX8_bendOf_129 rfl rfl ?_
            refine z_i2l C dX8_bendOf_131 rfl ?_
            refine z_iload C 4 dX8_bendOf_132 rfl rfl ?_
            refine z_i2l C dX8_bendOf_134 rfl ?_
            refine z_lmul C dX8_bendOf_135 rfl ?_
            refine z_iload C 4 dX8_bendOf_136 rfl rfl ?_
            refine z_aload_n C 1 dX8_bendOf_138 rfl rfl rfl ?_
            refine z_get (v := .ref 101) C 0 zOK8 rfl (by decide) w788 rfl rfl dX8_bendOf_139 rfl ?_
            refine z_bipush C (6 : Int32) dX8_bendOf_142 rfl rfl ?_
            refine z_iload_n C 3 dX8_bendOf_144 rfl rfl rfl ?_
            refine z_imul C dX8_bendOf_145 rfl ?_
            refine z_iconst C (4 : Int32) dX8_bendOf_146 rfl rfl ?_
            refine z_iadd C dX8_bendOf_147 rfl ?_
            refine z_iaload C 96 rfl dX8_bendOf_148 rfl ?_
            refine z_iadd C dX8_bendOf_149 rfl ?_
            refine z_i2l C dX8_bendOf_150 rfl ?_
            refine z_ldiv C dX8_bendOf_151 rfl ?_
            refine z_l2i C dX8_bendOf_152 rfl ?_
            exact z_iret C rfl rfl dX8_bendOf_153
          · refine z_iload C 0 dX8_bendOf_124 rfl rfl ?_
            refine z_goto C dX8_bendOf_126 rfl ?_
            exact z_iret C rfl rfl dX8_bendOf_153
        · refine z_icmpne C dX8_bendOf_65 rfl rfl ?_ ?_
          · exact z_perm [1, 2, 3, 4, 0] rfl (hk12 ())
          · refine z_iload C 4 dX8_bendOf_68 rfl rfl ?_
            refine z_aload_n C 1 dX8_bendOf_70 rfl rfl rfl ?_
            refine z_get (v := .ref 101) C 0 zOK8 rfl (by decide) w788 rfl rfl dX8_bendOf_71 rfl ?_
            refine z_bipush C (6 : Int32) dX8_bendOf_74 rfl rfl ?_
            refine z_iload_n C 3 dX8_bendOf_76 rfl rfl rfl ?_
            refine z_imul C dX8_bendOf_77 rfl ?_
            refine z_iconst C (5 : Int32) dX8_bendOf_78 rfl rfl ?_
            refine z_iadd C dX8_bendOf_79 rfl ?_
            refine z_iaload C 96 rfl dX8_bendOf_80 rfl ?_
            refine z_aload_n C 1 dX8_bendOf_81 rfl rfl rfl ?_
            refine z_get (v := .ref 101) C 0 zOK8 rfl (by decide) w788 rfl rfl dX8_bendOf_82 rfl ?_
            refine z_bipush C (6 : Int32) dX8_bendOf_85 rfl rfl ?_
            refine z_iload_n C 3 dX8_bendOf_87 rfl rfl rfl ?_
            refine z_imul C dX8_bendOf_88 rfl ?_
            refine z_iconst C (5 : Int32) dX8_bendOf_89 rfl rfl ?_
            refine z_iadd C dX8_bendOf_90 rfl ?_
            refine z_iaload C 96 rfl dX8_bendOf_91 rfl ?_
            refine z_imul C dX8_bendOf_92 rfl ?_
            refine z_icmple C dX8_bendOf_93 rfl rfl ?_ ?_
            · exact z_perm [1, 2, 3, 4, 0] rfl (hk12 ())
            · refine z_iconst C (0 : Int32) dX8_bendOf_96 rfl rfl ?_
              exact z_iret C rfl rfl dX8_bendOf_97
    · refine z_ifne C dX8_bendOf_46 rfl rfl ?_ ?_
      · refine z_iload C 1 dX8_bendOf_54 rfl rfl ?_
        exact z_perm [3, 4, 5, 0] rfl (hk10 x7)
      · refine z_iload C 2 dX8_bendOf_49 rfl rfl ?_
        refine z_goto C dX8_bendOf_51 rfl ?_
        exact z_perm [3, 4, 5, 0] rfl (hk10 x6)
  exact key b hF
