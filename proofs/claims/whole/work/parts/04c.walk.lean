set_option maxRecDepth 100000 in
set_option maxHeartbeats 4000000 in
theorem mX8_bend (Y : zY) (x0 : Int32) (x1 : Int32) (x2 : Int32) (x3 : Int32) (x4 : Int32) (M : zMem) (b : Int32 × zMem) (hF : FX8_bend x0 x1 x2 x3 x4 M = some b) : zMt Y yX8_bend cX8_bend 6 (some .int) 2 44 [.ref 100, .int x0, .int x1, .int x2, .int x3, .int x4] M (zQi Y b.1 b.2) := by
  refine zMt_of (own := RX8) (by decide +kernel) rfl (Nat.le_of_ble_eq_true rfl) (fun X C => ?_)
  have key : zR Y X 6 (zFi Y X (fun b => b.1) (fun b => b.2)) (FX8_bend x0 x1 x2 x3 x4 M) 0 [(0, .ref 100), (1, .int x0), (2, .int x1), (3, .int x2), (4, .int x3), (5, .int x4)] [] M := by
    unfold FX8_bend
    refine z_iload_n C 1 dX8_bend_0 rfl rfl rfl ?_
    refine z_iconst C (0 : Int32) dX8_bend_1 rfl rfl ?_
    refine z_iconst C (2 : Int32) dX8_bend_2 rfl rfl ?_
    refine z_ci (fun b => b) (fun _ => M) (fun b hb => z_S (na := 3) C [.int x0, .int (0 : Int32), .int (2 : Int32)] rfl (mX8_in Y x0 (0 : Int32) (2 : Int32) M b hb) w896 w897 w88 w898 hdX8_in ⟨Nat.le_of_ble_eq_true rfl, Nat.le_of_ble_eq_true rfl⟩ (Nat.le_of_ble_eq_true rfl) rfl dX8_bend_3) rfl (fun b6 => ?_)
    refine z_ifeq C dX8_bend_6 rfl rfl ?_ ?_
    · refine z_ldc C w913 dX8_bend_38 rfl ?_
      exact z_iret C rfl rfl dX8_bend_40
    · refine z_aload_n C 0 dX8_bend_9 rfl rfl rfl ?_
      refine z_iload_n C 2 dX8_bend_10 rfl rfl rfl ?_
      refine z_ci (fun b => b) (fun _ => M) (fun b hb => z_V (na := 1) (ci := 8) (r := (RX8, TX8, 34)) C [.int x1] rfl (mX8_isBody Y x1 M b hb) rfl rfl w906 w908 w49 w88 w909 hdX8_isBody ⟨Nat.le_of_ble_eq_true rfl, Nat.le_of_ble_eq_true rfl⟩ (Nat.le_of_ble_eq_true rfl) rfl dX8_bend_11) rfl (fun b7 => ?_)
      refine z_ifeq C dX8_bend_14 rfl rfl ?_ ?_
      · refine z_ldc C w913 dX8_bend_38 rfl ?_
        exact z_iret C rfl rfl dX8_bend_40
      · refine z_iload_n C 3 dX8_bend_17 rfl rfl rfl ?_
        refine z_iload C 4 dX8_bend_18 rfl rfl ?_
        refine z_bipush C (60 : Int32) dX8_bend_20 rfl rfl ?_
        refine z_ci (fun b => b) (fun _ => M) (fun b hb => z_S (na := 3) C [.int x2, .int x3, .int (60 : Int32)] rfl (mX8_isNear Y x2 x3 (60 : Int32) M b hb) w899 w900 w88 w901 hdX8_isNear ⟨Nat.le_of_ble_eq_true rfl, Nat.le_of_ble_eq_true rfl⟩ (Nat.le_of_ble_eq_true rfl) rfl dX8_bend_22) rfl (fun b8 => ?_)
        refine z_ifeq C dX8_bend_25 rfl rfl ?_ ?_
        · refine z_ldc C w913 dX8_bend_38 rfl ?_
          exact z_iret C rfl rfl dX8_bend_40
        · refine z_iload C 5 dX8_bend_28 rfl rfl ?_
          refine z_iconst C (0 : Int32) dX8_bend_30 rfl rfl ?_
          refine z_iconst C (1 : Int32) dX8_bend_31 rfl rfl ?_
          refine z_ci (fun b => b) (fun _ => M) (fun b hb => z_S (na := 3) C [.int x4, .int (0 : Int32), .int (1 : Int32)] rfl (mX8_in Y x4 (0 : Int32) (1 : Int32) M b hb) w896 w897 w88 w898 hdX8_in ⟨Nat.le_of_ble_eq_true rfl, Nat.le_of_ble_eq_true rfl⟩ (Nat.le_of_ble_eq_true rfl) rfl dX8_bend_32) rfl (fun b9 => ?_)
          refine z_ifne C dX8_bend_35 rfl rfl ?_ ?_
          · refine z_aload_n C 0 dX8_bend_41 rfl rfl rfl ?_
            refine z_dup C dX8_bend_42 rfl rfl ?_
            refine z_get (v := .long (M.2 100)) C 14 zOK8 rfl (by decide) w802 rfl rfl dX8_bend_43 rfl ?_
            refine z_iload_n C 1 dX8_bend_46 rfl rfl rfl ?_
            refine z_join (fun k11 => ∀ (y10 : Int64), zR Y X 6 (zFi Y X (fun b => b.1) (fun b => b.2)) (k11 y10) 68 [(0, .ref 100), (1, .int x0), (2, .int x1), (3, .int x2), (4, .int x3), (5, .int x4)] [.long y10, .long (M.2 100), .ref 100] M) (fun y10 => ?_) (fun k11 hk11 => ?_)
            · refine z_ladd C dX8_bend_68 rfl ?_
              refine z_putl C 14 zOK8 rfl (by decide) w802 rfl rfl rfl (by decide) rfl rfl dX8_bend_69 rfl (fun M12 => ?_)
              refine z_aload_n C 0 dX8_bend_72 rfl rfl rfl ?_
              refine z_iload_n C 1 dX8_bend_73 rfl rfl rfl ?_
              refine z_iload_n C 2 dX8_bend_74 rfl rfl rfl ?_
              refine z_iload_n C 3 dX8_bend_75 rfl rfl rfl ?_
              refine z_iload C 4 dX8_bend_76 rfl rfl ?_
              refine z_iload C 5 dX8_bend_78 rfl rfl ?_
              refine z_ci (fun b => b) (fun _ => M12) (fun b hb => z_V (na := 5) (ci := 8) (r := (RX8, TX8, 34)) C [.int x0, .int x1, .int x2, .int x3, .int x4] rfl (mX8_bendOf Y x0 x1 x2 x3 x4 M12 b hb) rfl rfl w928 w930 w50 w88 w931 hdX8_bendOf ⟨Nat.le_of_ble_eq_true rfl, Nat.le_of_ble_eq_true rfl⟩ (Nat.le_of_ble_eq_true rfl) rfl dX8_bend_80) rfl (fun b13 => ?_)
              exact z_iret C rfl rfl dX8_bend_83
            · refine z_ifne C dX8_bend_47 rfl rfl ?_ ?_
              · refine z_iload_n C 1 dX8_bend_54 rfl rfl rfl ?_
                refine z_iconst C (1 : Int32) dX8_bend_55 rfl rfl ?_
                refine z_icmpne C dX8_bend_56 rfl rfl ?_ ?_
                · refine z_ldc2 C w927 dX8_bend_65 rfl ?_
                  exact z_perm [0, 1, 2, 3, 4, 5] rfl (hk11 (111 : Int64))
                · refine z_ldc2 C w926 dX8_bend_59 rfl ?_
                  refine z_goto C dX8_bend_62 rfl ?_
                  exact z_perm [0, 1, 2, 3, 4, 5] rfl (hk11 (11 : Int64))
              · refine z_lconst C (1 : Int64) dX8_bend_50 rfl rfl ?_
                refine z_goto C dX8_bend_51 rfl ?_
                exact z_perm [0, 1, 2, 3, 4, 5] rfl (hk11 (1 : Int64))
          · refine z_ldc C w913 dX8_bend_38 rfl ?_
            exact z_iret C rfl rfl dX8_bend_40
  exact key b hF
set_option maxRecDepth 100000 in
set_option maxHeartbeats 4000000 in
theorem mX8_fromOf (Y : zY) (x0 : Int32) (x1 : Int32) (x2 : Int32) (M : zMem) (b : Int32) (hF : FX8_fromOf x0 x1 x2 M = some b) : zMt Y yX8_fromOf cX8_fromOf 6 (some .int) 1 30 [.ref 100, .int x0, .int x1, .int x2] M (zQi Y b M) := by
  refine zMt_of (own := RX8) (by decide +kernel) rfl (Nat.le_of_ble_eq_true rfl) (fun X C => ?_)
  have key : zR Y X 6 (zFi Y X (fun b => b) (fun _ => M)) (FX8_fromOf x0 x1 x2 M) 0 [(0, .ref 100), (1, .int x0), (2, .int x1), (3, .int x2)] [] M := by
    unfold FX8_fromOf
    refine z_iload_n C 3 dX8_fromOf_0 rfl rfl rfl ?_
    refine z_join (fun k5 => ∀ (x4 : Int32), zR Y X 6 (zFi Y X (fun b => b) (fun _ => M)) (k5 x4) 43 [(0, .ref 100), (1, .int x0), (2, .int x1), (3, .int x2)] [.int x4] M) (fun x4 => ?_) (fun k5 hk5 => ?_)
    · refine z_istoreP (lo' := [(4, .int x4), (0, .ref 100), (1, .int x0), (2, .int x1), (3, .int x2)]) C dX8_fromOf_43 (by decide) rfl rfl ?_
      refine z_iconst C (0 : Int32) dX8_fromOf_45 rfl rfl ?_
      refine z_istoreP (lo' := [(5, .int (0 : Int32)), (4, .int x4), (0, .ref 100), (1, .int x0), (2, .int x1), (3, .int x2)]) C dX8_fromOf_46 (by decide) rfl rfl ?_
      refine z_loop (sM := fun s => M) (sl := fun s => [(0, .ref 100), (1, .int x0), (2, .int x1), (3, .int x2), (4, .int s.1), (5, .int s.2)]) [2, 3, 4, 5, 1, 0] rfl rfl (fun r6 hr6 s7 => ?_)
      unfold FX8_fromOf_L48
      refine z_iload C 5 dX8_fromOf_48 rfl rfl ?_
      refine z_aload_n C 0 dX8_fromOf_50 rfl rfl rfl ?_
      refine z_get (v := .int (M.1 100 1)) C 1 zOK8 rfl (by decide) w789 rfl rfl dX8_fromOf_51 rfl ?_
      refine z_icmpge C dX8_fromOf_54 rfl rfl ?_ ?_
      · refine z_iload C 4 dX8_fromOf_87 rfl rfl ?_
        exact z_iret C rfl rfl dX8_fromOf_89
      · refine z_iload C 4 dX8_fromOf_57 rfl rfl ?_
        refine z_aload_n C 0 dX8_fromOf_59 rfl rfl rfl ?_
        refine z_aload_n C 0 dX8_fromOf_60 rfl rfl rfl ?_
        refine z_get (v := .ref 101) C 0 zOK8 rfl (by decide) w788 rfl rfl dX8_fromOf_61 rfl ?_
        refine z_bipush C (6 : Int32) dX8_fromOf_64 rfl rfl ?_
        refine z_iload C 5 dX8_fromOf_66 rfl rfl ?_
        refine z_imul C dX8_fromOf_68 rfl ?_
        refine z_iaload C 96 rfl dX8_fromOf_69 rfl ?_
        refine z_iload C 5 dX8_fromOf_70 rfl rfl ?_
        refine z_iload_n C 1 dX8_fromOf_72 rfl rfl rfl ?_
        refine z_iload_n C 2 dX8_fromOf_73 rfl rfl rfl ?_
        refine z_iload_n C 3 dX8_fromOf_74 rfl rfl rfl ?_
        refine z_ci (fun b => b) (fun _ => M) (fun b hb => z_V (na := 5) (ci := 8) (r := (RX8, TX8, 34)) C [.int (zrd M 101 ((6 : Int32) * s7.2)), .int s7.2, .int x0, .int x1, .int x2] rfl (mX8_bendOf Y (zrd M 101 ((6 : Int32) * s7.2)) s7.2 x0 x1 x2 M b hb) rfl rfl w928 w930 w50 w88 w931 hdX8_bendOf ⟨Nat.le_of_ble_eq_true rfl, Nat.le_of_ble_eq_true rfl⟩ (Nat.le_of_ble_eq_true rfl) rfl dX8_fromOf_75) rfl (fun b8 => ?_)
        refine z_isub C dX8_fromOf_78 rfl ?_
        refine z_istore C (fun z => [(4, .int z), (0, .ref 100), (1, .int x0), (2, .int x1), (3, .int x2), (5, .int s7.2)]) dX8_fromOf_79 (by decide) (fun _ => rfl) rfl (fun x9 => ?_)
        refine z_iinc (v := (s7.2 + (1 : Int32))) C 5 (fun z => [(5, .int z), (4, .int x9), (0, .ref 100), (1, .int x0), (2, .int x1), (3, .int x2)]) dX8_fromOf_81 rfl rfl (by decide) (fun _ => rfl) rfl (fun x10 => ?_)
        refine z_goto C dX8_fromOf_84 rfl ?_
        exact z_perm [2, 3, 4, 5, 1, 0] rfl (hr6 (x9, x10))
    · refine z_ifne C dX8_fromOf_1 rfl rfl ?_ ?_
      · refine z_bipush C (16 : Int32) dX8_fromOf_25 rfl rfl ?_
        refine z_iload_n C 2 dX8_fromOf_27 rfl rfl rfl ?_
        refine z_imul C dX8_fromOf_28 rfl ?_
        refine z_aload_n C 0 dX8_fromOf_29 rfl rfl rfl ?_
        refine z_get (v := .int (M.1 100 3)) C 3 zOK8 rfl (by decide) w791 rfl rfl dX8_fromOf_30 rfl ?_
        refine z_iload_n C 1 dX8_fromOf_33 rfl rfl rfl ?_
        refine z_imul C dX8_fromOf_34 rfl ?_
        refine z_isub C dX8_fromOf_35 rfl ?_
        refine z_aload_n C 0 dX8_fromOf_36 rfl rfl rfl ?_
        refine z_get (v := .int (M.1 100 2)) C 2 zOK8 rfl (by decide) w790 rfl rfl dX8_fromOf_37 rfl ?_
        refine z_iload_n C 2 dX8_fromOf_40 rfl rfl rfl ?_
        refine z_imul C dX8_fromOf_41 rfl ?_
        refine z_iadd C dX8_fromOf_42 rfl ?_
        exact z_perm [0, 1, 2, 3] rfl (hk5 ((((16 : Int32) * x1) - ((M.1 100 3) * x0)) + ((M.1 100 2) * x1)))
      · refine z_bipush C (16 : Int32) dX8_fromOf_4 rfl rfl ?_
        refine z_iload_n C 1 dX8_fromOf_6 rfl rfl rfl ?_
        refine z_imul C dX8_fromOf_7 rfl ?_
        refine z_aload_n C 0 dX8_fromOf_8 rfl rfl rfl ?_
        refine z_get (v := .int (M.1 100 2)) C 2 zOK8 rfl (by decide) w790 rfl rfl dX8_fromOf_9 rfl ?_
        refine z_iload_n C 1 dX8_fromOf_12 rfl rfl rfl ?_
        refine z_imul C dX8_fromOf_13 rfl ?_
        refine z_isub C dX8_fromOf_14 rfl ?_
        refine z_aload_n C 0 dX8_fromOf_15 rfl rfl rfl ?_
        refine z_get (v := .int (M.1 100 3)) C 3 zOK8 rfl (by decide) w791 rfl rfl dX8_fromOf_16 rfl ?_
        refine z_iload_n C 2 dX8_fromOf_19 rfl rfl rfl ?_
        refine z_imul C dX8_fromOf_20 rfl ?_
        refine z_isub C dX8_fromOf_21 rfl ?_
        refine z_goto C dX8_fromOf_22 rfl ?_
        exact z_perm [0, 1, 2, 3] rfl (hk5 ((((16 : Int32) * x0) - ((M.1 100 2) * x0)) - ((M.1 100 3) * x1)))
  exact key b hF
set_option maxRecDepth 100000 in
set_option maxHeartbeats 4000000 in
theorem mX8_from (Y : zY) (x0 : Int32) (x1 : Int32) (x2 : Int32) (M : zMem) (b : Int32) (hF : FX8_from x0 x1 x2 M = some b) : zMt Y yX8_from cX8_from 4 (some .int) 2 55 [.ref 100, .int x0, .int x1, .int x2] M (zQi Y b M) := by
  refine zMt_of (own := RX8) (by decide +kernel) rfl (Nat.le_of_ble_eq_true rfl) (fun X C => ?_)
  have key : zR Y X 4 (zFi Y X (fun b => b) (fun _ => M)) (FX8_from x0 x1 x2 M) 0 [(0, .ref 100), (1, .int x0), (2, .int x1), (3, .int x2)] [] M := by
    unfold FX8_from
    refine z_iload_n C 1 dX8_from_0 rfl rfl rfl ?_
    refine z_iload_n C 2 dX8_from_1 rfl rfl rfl ?_
    refine z_bipush C (60 : Int32) dX8_from_2 rfl rfl ?_
    refine z_ci (fun b => b) (fun _ => M) (fun b hb => z_S (na := 3) C [.int x0, .int x1, .int (60 : Int32)] rfl (mX8_isNear Y x0 x1 (60 : Int32) M b hb) w899 w900 w88 w901 hdX8_isNear ⟨Nat.le_of_ble_eq_true rfl, Nat.le_of_ble_eq_true rfl⟩ (Nat.le_of_ble_eq_true rfl) rfl dX8_from_4) rfl (fun b4 => ?_)
    refine z_ifeq C dX8_from_7 rfl rfl ?_ ?_
    · refine z_ldc C w913 dX8_from_29 rfl ?_
      exact z_iret C rfl rfl dX8_from_31
    · refine z_iload_n C 3 dX8_from_10 rfl rfl rfl ?_
      refine z_iconst C (0 : Int32) dX8_from_11 rfl rfl ?_
      refine z_iconst C (1 : Int32) dX8_from_12 rfl rfl ?_
      refine z_ci (fun b => b) (fun _ => M) (fun b hb => z_S (na := 3) C [.int x2, .int (0 : Int32), .int (1 : Int32)] rfl (mX8_in Y x2 (0 : Int32) (1 : Int32) M b hb) w896 w897 w88 w898 hdX8_in ⟨Nat.le_of_ble_eq_true rfl, Nat.le_of_ble_eq_true rfl⟩ (Nat.le_of_ble_eq_true rfl) rfl dX8_from_13) rfl (fun b5 => ?_)
      refine z_ifeq C dX8_from_16 rfl rfl ?_ ?_
      · refine z_ldc C w913 dX8_from_29 rfl ?_
        exact z_iret C rfl rfl dX8_from_31
      · refine z_aload_n C 0 dX8_from_19 rfl rfl rfl ?_
        refine z_iload_n C 1 dX8_from_20 rfl rfl rfl ?_
        refine z_iload_n C 2 dX8_from_21 rfl rfl rfl ?_
        refine z_iload_n C 3 dX8_from_22 rfl rfl rfl ?_
        refine z_ci (fun b => b) (fun _ => M) (fun b hb => z_V (na := 3) (ci := 8) (r := (RX8, TX8, 34)) C [.int x0, .int x1, .int x2] rfl (mX8_fromOf Y x0 x1 x2 M b hb) rfl rfl w936 w938 w51 w88 w939 hdX8_fromOf ⟨Nat.le_of_ble_eq_true rfl, Nat.le_of_ble_eq_true rfl⟩ (Nat.le_of_ble_eq_true rfl) rfl dX8_from_23) rfl (fun b6 => ?_)
        refine z_goto C dX8_from_26 rfl ?_
        exact z_iret C rfl rfl dX8_from_31
  exact key b hF
set_option maxRecDepth 100000 in
set_option maxHeartbeats 4000000 in
theorem mX8_cellOf (Y : zY) (x0 : Int32) (x1 : Int32) (x2 : Int32) (M : zMem) (b : Int32) (hF : FX8_cellOf x0 x1 x2 M = some b) : zMt Y yX8_cellOf cX8_cellOf 4 (some .int) 2 55 [.ref 100, .int x0, .int x1, .int x2] M (zQi Y b M) := by
  refine zMt_of (own := RX8) (by decide +kernel) rfl (Nat.le_of_ble_eq_true rfl) (fun X C => ?_)
  have key : zR Y X 4 (zFi Y X (fun b => b) (fun _ => M)) (FX8_cellOf x0 x1 x2 M) 0 [(0, .ref 100), (1, .int x0), (2, .int x1), (3, .int x2)] [] M := by
    unfold FX8_cellOf
    refine z_aload_n C 0 dX8_cellOf_0 rfl rfl rfl ?_
    refine z_iload_n C 1 dX8_cellOf_1 rfl rfl rfl ?_
    refine z_iload_n C 2 dX8_cellOf_2 rfl rfl rfl ?_
    refine z_iload_n C 3 dX8_cellOf_3 rfl rfl rfl ?_
    refine z_ci (fun b => b) (fun _ => M) (fun b hb => z_V (na := 3) (ci := 8) (r := (RX8, TX8, 34)) C [.int x0, .int x1, .int x2] rfl (mX8_fromOf Y x0 x1 x2 M b hb) rfl rfl w936 w938 w51 w88 w939 hdX8_fromOf ⟨Nat.le_of_ble_eq_true rfl, Nat.le_of_ble_eq_true rfl⟩ (Nat.le_of_ble_eq_true rfl) rfl dX8_cellOf_4) rfl (fun b4 => ?_)
    refine z_i2l C dX8_cellOf_7 rfl ?_
    refine z_ldc2 C w948 dX8_cellOf_8 rfl ?_
    refine z_ladd C dX8_cellOf_11 rfl ?_
    refine z_bipush C (16 : Int32) dX8_cellOf_12 rfl rfl ?_
    refine z_ci (fun b => b) (fun _ => M) (fun b hb => z_S (na := 2) C [.long (b4.toInt64 + (8 : Int64)), .int (16 : Int32)] rfl (mX8_floored Y (b4.toInt64 + (8 : Int64)) (16 : Int32) M b hb) w949 w950 w88 w951 hdX8_floored ⟨Nat.le_of_ble_eq_true rfl, Nat.le_of_ble_eq_true rfl⟩ (Nat.le_of_ble_eq_true rfl) rfl dX8_cellOf_14) rfl (fun b5 => ?_)
    exact z_iret C rfl rfl dX8_cellOf_17
  exact key b hF
set_option maxRecDepth 100000 in
set_option maxHeartbeats 4000000 in
theorem mX8_cell (Y : zY) (x0 : Int32) (x1 : Int32) (x2 : Int32) (M : zMem) (b : Int32) (hF : FX8_cell x0 x1 x2 M = some b) : zMt Y yX8_cell cX8_cell 4 (some .int) 3 78 [.ref 100, .int x0, .int x1, .int x2] M (zQi Y b M) := by
  refine zMt_of (own := RX8) (by decide +kernel) rfl (Nat.le_of_ble_eq_true rfl) (fun X C => ?_)
  have key : zR Y X 4 (zFi Y X (fun b => b) (fun _ => M)) (FX8_cell x0 x1 x2 M) 0 [(0, .ref 100), (1, .int x0), (2, .int x1), (3, .int x2)] [] M := by
    unfold FX8_cell
    refine z_iload_n C 1 dX8_cell_0 rfl rfl rfl ?_
    refine z_iload_n C 2 dX8_cell_1 rfl rfl rfl ?_
    refine z_bipush C (60 : Int32) dX8_cell_2 rfl rfl ?_
    refine z_ci (fun b => b) (fun _ => M) (fun b hb => z_S (na := 3) C [.int x0, .int x1, .int (60 : Int32)] rfl (mX8_isNear Y x0 x1 (60 : Int32) M b hb) w899 w900 w88 w901 hdX8_isNear ⟨Nat.le_of_ble_eq_true rfl, Nat.le_of_ble_eq_true rfl⟩ (Nat.le_of_ble_eq_true rfl) rfl dX8_cell_4) rfl (fun b4 => ?_)
    refine z_ifeq C dX8_cell_7 rfl rfl ?_ ?_
    · refine z_ldc C w913 dX8_cell_29 rfl ?_
      exact z_iret C rfl rfl dX8_cell_31
    · refine z_iload_n C 3 dX8_cell_10 rfl rfl rfl ?_
      refine z_iconst C (0 : Int32) dX8_cell_11 rfl rfl ?_
      refine z_iconst C (1 : Int32) dX8_cell_12 rfl rfl ?_
      refine z_ci (fun b => b) (fun _ => M) (fun b hb => z_S (na := 3) C [.int x2, .int (0 : Int32), .int (1 : Int32)] rfl (mX8_in Y x2 (0 : Int32) (1 : Int32) M b hb) w896 w897 w88 w898 hdX8_in ⟨Nat.le_of_ble_eq_true rfl, Nat.le_of_ble_eq_true rfl⟩ (Nat.le_of_ble_eq_true rfl) rfl dX8_cell_13) rfl (fun b5 => ?_)
      refine z_ifeq C dX8_cell_16 rfl rfl ?_ ?_
      · refine z_ldc C w913 dX8_cell_29 rfl ?_
        exact z_iret C rfl rfl dX8_cell_31
      · refine z_aload_n C 0 dX8_cell_19 rfl rfl rfl ?_
        refine z_iload_n C 1 dX8_cell_20 rfl rfl rfl ?_
        refine z_iload_n C 2 dX8_cell_21 rfl rfl rfl ?_
        refine z_iload_n C 3 dX8_cell_22 rfl rfl rfl ?_
        refine z_ci (fun b => b) (fun _ => M) (fun b hb => z_V (na := 3) (ci := 8) (r := (RX8, TX8, 34)) C [.int x0, .int x1, .int x2] rfl (mX8_cellOf Y x0 x1 x2 M b hb) rfl rfl w944 w946 w52 w88 w947 hdX8_cellOf ⟨Nat.le_of_ble_eq_true rfl, Nat.le_of_ble_eq_true rfl⟩ (Nat.le_of_ble_eq_true rfl) rfl dX8_cell_23) rfl (fun b6 => ?_)
        refine z_goto C dX8_cell_26 rfl ?_
        exact z_iret C rfl rfl dX8_cell_31
  exact key b hF
set_option maxRecDepth 100000 in
set_option maxHeartbeats 4000000 in
theorem mX8_at (Y : zY) (x0 : Int32) (x1 : Int32) (M : zMem) (b : Int32) (hF : FX8_at x0 x1 = some b) : zMt Y yX8_at cX8_at 2 (some .int) 0 0 [.int x0, .int x1] M (zQi Y b M) := by
  refine zMt_of (own := RX8) (by decide +kernel) rfl (Nat.le_of_ble_eq_true rfl) (fun X C => ?_)
  have key : zR Y X 2 (zFi Y X (fun b => b) (fun _ => M)) (FX8_at x0 x1) 0 [(0, .int x0), (1, .int x1)] [] M := by
    unfold FX8_at
    refine z_bipush C (51 : Int32) dX8_at_0 rfl rfl ?_
    refine z_iload_n C 1 dX8_at_2 rfl rfl rfl ?_
    refine z_bipush C (25 : Int32) dX8_at_3 rfl rfl ?_
    refine z_iadd C dX8_at_5 rfl ?_
    refine z_imul C dX8_at_6 rfl ?_
    refine z_iload_n C 0 dX8_at_7 rfl rfl rfl ?_
    refine z_iadd C dX8_at_8 rfl ?_
    refine z_bipush C (25 : Int32) dX8_at_9 rfl rfl ?_
    refine z_iadd C dX8_at_11 rfl ?_
    exact z_iret C rfl rfl dX8_at_12
  exact key b hF
set_option maxRecDepth 100000 in
set_option maxHeartbeats 4000000 in
theorem mX8_findPlane (Y : zY) (M : zMem) (b : zMem) (hF : FX8_findPlane M = some b) : zMt Y yX8_findPlane cX8_findPlane 3 none 2 55 [.ref 100] M (zQv Y b) := by
  refine zMt_of (own := RX8) (by decide +kernel) rfl (Nat.le_of_ble_eq_true rfl) (fun X C => ?_)
  have key : zR Y X 3 (zFv Y X (fun b => b)) (FX8_findPlane M) 0 [(0, .ref 100)] [] M := by
    unfold FX8_findPlane
    refine z_bipush C (-25 : Int32) dX8_findPlane_0 rfl rfl ?_
    refine z_istoreP_n (lo' := [(1, .int (-25 : Int32)), (0, .ref 100)]) C dX8_findPlane_2 rfl (by decide) rfl rfl ?_
    refine z_loop (sM := fun s => s.2) (sl := fun s => [(0, .ref 100), (1, .int s.1)]) [1, 0] rfl rfl (fun r1 hr1 s2 => ?_)
    unfold FX8_findPlane_L3
    refine z_iload_n C 1 dX8_findPlane_3 rfl rfl rfl ?_
    refine z_bipush C (26 : Int32) dX8_findPlane_4 rfl rfl ?_
    refine z_icmpge C dX8_findPlane_6 rfl rfl ?_ ?_
    · exact z_vret C rfl dX8_findPlane_64
    · refine z_bipush C (-25 : Int32) dX8_findPlane_9 rfl rfl ?_
      refine z_istoreP_n (lo' := [(2, .int (-25 : Int32)), (0, .ref 100), (1, .int s2.1)]) C dX8_findPlane_11 rfl (by decide) rfl rfl ?_
      refine z_loop (sM := fun s => s.2) (sl := fun s => [(0, .ref 100), (1, .int s2.1), (2, .int s.1)]) [1, 2, 0] rfl rfl (fun r3 hr3 s4 => ?_)
      unfold FX8_findPlane_L12
      refine z_iload_n C 2 dX8_findPlane_12 rfl rfl rfl ?_
      refine z_bipush C (26 : Int32) dX8_findPlane_13 rfl rfl ?_
      refine z_icmpge C dX8_findPlane_15 rfl rfl ?_ ?_
      · refine z_iinc (v := (s2.1 + (1 : Int32))) C 1 (fun z => [(1, .int z), (0, .ref 100), (2, .int s4.1)]) dX8_findPlane_58 rfl rfl (by decide) (fun _ => rfl) rfl (fun x5 => ?_)
        refine z_goto C dX8_findPlane_61 rfl ?_
        exact z_perm [1, 0] rfl (hr1 (x5, s4.2))
      · refine z_aload_n C 0 dX8_findPlane_18 rfl rfl rfl ?_
        refine z_get (v := .ref 107) C 15 zOK8 rfl (by decide) w803 rfl rfl dX8_findPlane_19 rfl ?_
        refine z_iload_n C 2 dX8_findPlane_22 rfl rfl rfl ?_
        refine z_iload_n C 1 dX8_findPlane_23 rfl rfl rfl ?_
        refine z_ci (fun b => b) (fun _ => s4.2) (fun b hb => z_S (na := 2) C [.int s4.1, .int s2.1] rfl (mX8_at Y s4.1 s2.1 s4.2 b hb) w964 w965 w88 w966 hdX8_at ⟨Nat.le_of_ble_eq_true rfl, Nat.le_of_ble_eq_true rfl⟩ (Nat.le_of_ble_eq_true rfl) rfl dX8_findPlane_24) rfl (fun b6 => ?_)
        refine z_aload_n C 0 dX8_findPlane_27 rfl rfl rfl ?_
        refine z_iload_n C 2 dX8_findPlane_28 rfl rfl rfl ?_
        refine z_iload_n C 1 dX8_findPlane_29 rfl rfl rfl ?_
        refine z_iconst C (0 : Int32) dX8_findPlane_30 rfl rfl ?_
        refine z_ci (fun b => b) (fun _ => s4.2) (fun b hb => z_V (na := 3) (ci := 8) (r := (RX8, TX8, 34)) C [.int s4.1, .int s2.1, .int (0 : Int32)] rfl (mX8_fromOf Y s4.1 s2.1 (0 : Int32) s4.2 b hb) rfl rfl w936 w938 w51 w88 w939 hdX8_fromOf ⟨Nat.le_of_ble_eq_true rfl, Nat.le_of_ble_eq_true rfl⟩ (Nat.le_of_ble_eq_true rfl) rfl dX8_findPlane_31) rfl (fun b7 => ?_)
        refine z_iastore C 2601 rfl dX8_findPlane_34 rfl (fun M8 => ?_)
        refine z_aload_n C 0 dX8_findPlane_35 rfl rfl rfl ?_
        refine z_get (v := .ref 108) C 16 zOK8 rfl (by decide) w804 rfl rfl dX8_findPlane_36 rfl ?_
        refine z_iload_n C 2 dX8_findPlane_39 rfl rfl rfl ?_
        refine z_iload_n C 1 dX8_findPlane_40 rfl rfl rfl ?_
        refine z_ci (fun b => b) (fun _ => M8) (fun b hb => z_S (na := 2) C [.int s4.1, .int s2.1] rfl (mX8_at Y s4.1 s2.1 M8 b hb) w964 w965 w88 w966 hdX8_at ⟨Nat.le_of_ble_eq_true rfl, Nat.le_of_ble_eq_true rfl⟩ (Nat.le_of_ble_eq_true rfl) rfl dX8_findPlane_41) rfl (fun b9 => ?_)
        refine z_aload_n C 0 dX8_findPlane_44 rfl rfl rfl ?_
        refine z_iload_n C 2 dX8_findPlane_45 rfl rfl rfl ?_
        refine z_iload_n C 1 dX8_findPlane_46 rfl rfl rfl ?_
        refine z_iconst C (1 : Int32) dX8_findPlane_47 rfl rfl ?_
        refine z_ci (fun b => b) (fun _ => M8) (fun b hb => z_V (na := 3) (ci := 8) (r := (RX8, TX8, 34)) C [.int s4.1, .int s2.1, .int (1 : Int32)] rfl (mX8_fromOf Y s4.1 s2.1 (1 : Int32) M8 b hb) rfl rfl w936 w938 w51 w88 w939 hdX8_fromOf ⟨Nat.le_of_ble_eq_true rfl, Nat.le_of_ble_eq_true rfl⟩ (Nat.le_of_ble_eq_true rfl) rfl dX8_findPlane_48) rfl (fun b10 => ?_)
        refine z_iastore C 2601 rfl dX8_findPlane_51 rfl (fun M11 => ?_)
        refine z_iinc (v := (s4.1 + (1 : Int32))) C 2 (fun z => [(2, .int z), (0, .ref 100), (1, .int s2.1)]) dX8_findPlane_52 rfl rfl (by decide) (fun _ => rfl) rfl (fun x12 => ?_)
        refine z_goto C dX8_findPlane_55 rfl ?_
        exact z_perm [1, 2, 0] rfl (hr3 (x12, M11))
  exact key b hF
set_option maxRecDepth 100000 in
set_option maxHeartbeats 4000000 in
theorem mX8_findAround (Y : zY) (x0 : Int32) (x1 : Int32) (M : zMem) (b : zMem) (hF : FX8_findAround x0 x1 M = some b) : zMt Y yX8_findAround cX8_findAround 5 none 2 55 [.ref 100, .int x0, .int x1] M (zQv Y b) := by
  refine zMt_of (own := RX8) (by decide +kernel) rfl (Nat.le_of_ble_eq_true rfl) (fun X C => ?_)
  have key : zR Y X 5 (zFv Y X (fun b => b)) (FX8_findAround x0 x1 M) 0 [(0, .ref 100), (1, .int x0), (2, .int x1)] [] M := by
    unfold FX8_findAround
    refine z_iload_n C 2 dX8_findAround_0 rfl rfl rfl ?_
    refine z_iconst C (1 : Int32) dX8_findAround_1 rfl rfl ?_
    refine z_isub C dX8_findAround_2 rfl ?_
    refine z_istore_n C (fun z => [(3, .int z), (0, .ref 100), (1, .int x0), (2, .int x1)]) dX8_findAround_3 rfl (by decide) (fun _ => rfl) rfl (fun x3 => ?_)
    refine z_loop (sM := fun s => s.2) (sl := fun s => [(0, .ref 100), (1, .int x0), (2, .int x1), (3, .int s.1)]) [1, 2, 3, 0] rfl rfl (fun r4 hr4 s5 => ?_)
    unfold FX8_findAround_L4
    refine z_iload_n C 3 dX8_findAround_4 rfl rfl rfl ?_
    refine z_iload_n C 2 dX8_findAround_5 rfl rfl rfl ?_
    refine z_iconst C (2 : Int32) dX8_findAround_6 rfl rfl ?_
    refine z_iadd C dX8_findAround_7 rfl ?_
    refine z_icmpgt C dX8_findAround_8 rfl rfl ?_ ?_
    · exact z_vret C rfl dX8_findAround_85
    · refine z_iload_n C 1 dX8_findAround_11 rfl rfl rfl ?_
      refine z_iconst C (1 : Int32) dX8_findAround_12 rfl rfl ?_
      refine z_isub C dX8_findAround_13 rfl ?_
      refine z_istore C (fun z => [(4, .int z), (0, .ref 100), (1, .int x0), (2, .int x1), (3, .int s5.1)]) dX8_findAround_14 (by decide) (fun _ => rfl) rfl (fun x6 => ?_)
      refine z_loop (sM := fun s => s.2) (sl := fun s => [(0, .ref 100), (1, .int x0), (2, .int x1), (3, .int s5.1), (4, .int s.1)]) [1, 2, 3, 4, 0] rfl rfl (fun r7 hr7 s8 => ?_)
      unfold FX8_findAround_L16
      refine z_iload C 4 dX8_findAround_16 rfl rfl ?_
      refine z_iload_n C 1 dX8_findAround_18 rfl rfl rfl ?_
      refine z_iconst C (2 : Int32) dX8_findAround_19 rfl rfl ?_
      refine z_iadd C dX8_findAround_20 rfl ?_
      refine z_icmpgt C dX8_findAround_21 rfl rfl ?_ ?_
      · refine z_iinc (v := (s5.1 + (1 : Int32))) C 3 (fun z => [(3, .int z), (0, .ref 100), (1, .int x0), (2, .int x1), (4, .int s8.1)]) dX8_findAround_79 rfl rfl (by decide) (fun _ => rfl) rfl (fun x9 => ?_)
        refine z_goto C dX8_findAround_82 rfl ?_
        exact z_perm [1, 2, 3, 0] rfl (hr4 (x9, s8.2))
      · refine z_iload C 4 dX8_findAround_24 rfl rfl ?_
        refine z_iload_n C 3 dX8_findAround_26 rfl rfl rfl ?_
        refine z_bipush C (25 : Int32) dX8_findAround_27 rfl rfl ?_
        refine z_ci (fun b => b) (fun _ => s8.2) (fun b hb => z_S (na := 3) C [.int s8.1, .int s5.1, .int (25 : Int32)] rfl (mX8_isNear Y s8.1 s5.1 (25 : Int32) s8.2 b hb) w899 w900 w88 w901 hdX8_isNear ⟨Nat.le_of_ble_eq_true rfl, Nat.le_of_ble_eq_true rfl⟩ (Nat.le_of_ble_eq_true rfl) rfl dX8_findAround_29) rfl (fun b10 => ?_)
        refine z_ifeq C dX8_findAround_32 rfl rfl ?_ ?_
        · refine z_iinc (v := (s8.1 + (1 : Int32))) C 4 (fun z => [(4, .int z), (0, .ref 100), (1, .int x0), (2, .int x1), (3, .int s5.1)]) dX8_findAround_73 rfl rfl (by decide) (fun _ => rfl) rfl (fun x11 => ?_)
          refine z_goto C dX8_findAround_76 rfl ?_
          exact z_perm [1, 2, 3, 4, 0] rfl (hr7 (x11, s8.2))
        · refine z_aload_n C 0 dX8_findAround_35 rfl rfl rfl ?_
          refine z_get (v := .ref 107) C 15 zOK8 rfl (by decide) w803 rfl rfl dX8_findAround_36 rfl ?_
          refine z_iload C 4 dX8_findAround_39 rfl rfl ?_
          refine z_iload_n C 3 dX8_findAround_41 rfl rfl rfl ?_
          refine z_ci (fun b => b) (fun _ => s8.2) (fun b hb => z_S (na := 2) C [.int s8.1, .int s5.1] rfl (mX8_at Y s8.1 s5.1 s8.2 b hb) w964 w965 w88 w966 hdX8_at ⟨Nat.le_of_ble_eq_true rfl, Nat.le_of_ble_eq_true rfl⟩ (Nat.le_of_ble_eq_true rfl) rfl dX8_findAround_42) rfl (fun b12 => ?_)
          refine z_aload_n C 0 dX8_findAround_45 rfl rfl rfl ?_
          refine z_iload C 4 dX8_findAround_46 rfl rfl ?_
          refine z_iload_n C 3 dX8_findAround_48 rfl rfl rfl ?_
          refine z_iconst C (0 : Int32) dX8_findAround_49 rfl rfl ?_
          refine z_ci (fun b => b) (fun _ => s8.2) (fun b hb => z_V (na := 3) (ci := 8) (r := (RX8, TX8, 34)) C [.int s8.1, .int s5.1, .int (0 : Int32)] rfl (mX8_fromOf Y s8.1 s5.1 (0 : Int32) s8.2 b hb) rfl rfl w936 w938 w51 w88 w939 hdX8_fromOf ⟨Nat.le_of_ble_eq_true rfl, Nat.le_of_ble_eq_true rfl⟩ (Nat.le_of_ble_eq_true rfl) rfl dX8_findAround_50) rfl (fun b13 => ?_)
          refine z_iastore C 2601 rfl dX8_findAround_53 rfl (fun M14 => ?_)
          refine z_aload_n C 0 dX8_findAround_54 rfl rfl rfl ?_
          refine z_get (v := .ref 108) C 16 zOK8 rfl (by decide) w804 rfl rfl dX8_findAround_55 rfl ?_
          refine z_iload C 4 dX8_findAround_58 rfl rfl ?_
          refine z_iload_n C 3 dX8_findAround_60 rfl rfl rfl ?_
          refine z_ci (fun b => b) (fun _ => M14) (fun b hb => z_S (na := 2) C [.int s8.1, .int s5.1] rfl (mX8_at Y s8.1 s5.1 M14 b hb) w964 w965 w88 w966 hdX8_at ⟨Nat.le_of_ble_eq_true rfl, Nat.le_of_ble_eq_true rfl⟩ (Nat.le_of_ble_eq_true rfl) rfl dX8_findAround_61) rfl (fun b15 => ?_)
          refine z_aload_n C 0 dX8_findAround_64 rfl rfl rfl ?_
          refine z_iload C 4 dX8_findAround_65 rfl rfl ?_
          refine z_iload_n C 3 dX8_findAround_67 rfl rfl rfl ?_
          refine z_iconst C (1 : Int32) dX8_findAround_68 rfl rfl ?_
          refine z_ci (fun b => b) (fun _ => M14) (fun b hb => z_V (na := 3) (ci := 8) (r := (RX8, TX8, 34)) C [.int s8.1, .int s5.1, .int (1 : Int32)] rfl (mX8_fromOf Y s8.1 s5.1 (1 : Int32) M14 b hb) rfl rfl w936 w938 w51 w88 w939 hdX8_fromOf ⟨Nat.le_of_ble_eq_true rfl, Nat.le_of_ble_eq_true rfl⟩ (Nat.le_of_ble_eq_true rfl) rfl dX8_findAround_69) rfl (fun b16 => ?_)
          refine z_iastore C 2601 rfl dX8_findAround_72 rfl (fun M17 => ?_)
          refine z_iinc (v := (s8.1 + (1 : Int32))) C 4 (fun z => [(4, .int z), (0, .ref 100), (1, .int x0), (2, .int x1), (3, .int s5.1)]) dX8_findAround_73 rfl rfl (by decide) (fun _ => rfl) rfl (fun x18 => ?_)
          refine z_goto C dX8_findAround_76 rfl ?_
          exact z_perm [1, 2, 3, 4, 0] rfl (hr7 (x18, M17))
  exact key b hF
set_option maxRecDepth 100000 in
set_option maxHeartbeats 4000000 in
theorem mX8_findTold (Y : zY) (M : zMem) (b : zMem) (hF : FX8_findTold M = some b) : zMt Y yX8_findTold cX8_findTold 2 none 2 55 [.ref 100] M (zQv Y b) := by
  refine zMt_of (own := RX8) (by decide +kernel) rfl (Nat.le_of_ble_eq_true rfl) (fun X C => ?_)
  have key : zR Y X 2 (zFv Y X (fun b => b)) (FX8_findTold M) 0 [(0, .ref 100)] [] M := by
    unfold FX8_findTold
    refine z_iconst C (0 : Int32) dX8_findTold_0 rfl rfl ?_
    refine z_istoreP_n (lo' := [(1, .int (0 : Int32)), (0, .ref 100)]) C dX8_findTold_1 rfl (by decide) rfl rfl ?_
    refine z_loop (sM := fun s => s.2) (sl := fun s => [(0, .ref 100), (1, .int s.1)]) [1, 0] rfl rfl (fun r1 hr1 s2 => ?_)
    unfold FX8_findTold_L2
    refine z_iload_n C 1 dX8_findTold_2 rfl rfl rfl ?_
    refine z_sipush C (2401 : Int32) dX8_findTold_3 rfl rfl ?_
    refine z_icmpge C dX8_findTold_6 rfl rfl ?_ ?_
    · exact z_vret C rfl dX8_findTold_108
    · refine z_aload_n C 0 dX8_findTold_9 rfl rfl rfl ?_
      refine z_get (v := .ref 106) C 13 zOK8 rfl (by decide) w801 rfl rfl dX8_findTold_10 rfl ?_
      refine z_iload_n C 1 dX8_findTold_13 rfl rfl rfl ?_
      refine z_iaload C 2401 rfl dX8_findTold_14 rfl ?_
      refine z_bipush C (-9 : Int32) dX8_findTold_15 rfl rfl ?_
      refine z_icmpeq C dX8_findTold_17 rfl rfl ?_ ?_
      · refine z_iinc (v := (s2.1 + (1 : Int32))) C 1 (fun z => [(1, .int z), (0, .ref 100)]) dX8_findTold_102 rfl rfl (by decide) (fun _ => rfl) rfl (fun x3 => ?_)
        refine z_goto C dX8_findTold_105 rfl ?_
        exact z_perm [1, 0] rfl (hr1 (x3, s2.2))
      · refine z_aload_n C 0 dX8_findTold_20 rfl rfl rfl ?_
        refine z_get (v := .ref 107) C 15 zOK8 rfl (by decide) w803 rfl rfl dX8_findTold_21 rfl ?_
        refine z_iload_n C 1 dX8_findTold_24 rfl rfl rfl ?_
        refine z_bipush C (49 : Int32) dX8_findTold_25 rfl rfl ?_
        refine z_iremK C dX8_findTold_27 (by decide) rfl ?_
        refine z_bipush C (24 : Int32) dX8_findTold_28 rfl rfl ?_
        refine z_isub C dX8_findTold_30 rfl ?_
        refine z_iload_n C 1 dX8_findTold_31 rfl rfl rfl ?_
        refine z_bipush C (49 : Int32) dX8_findTold_32 rfl rfl ?_
        refine z_idivK C dX8_findTold_34 (by decide) rfl ?_
        refine z_bipush C (24 : Int32) dX8_findTold_35 rfl rfl ?_
        refine z_isub C dX8_findTold_37 rfl ?_
        refine z_ci (fun b => b) (fun _ => s2.2) (fun b hb => z_S (na := 2) C [.int ((zrem s2.1 (49 : Int32)) - (24 : Int32)), .int ((s2.1 / (49 : Int32)) - (24 : Int32))] rfl (mX8_at Y ((zrem s2.1 (49 : Int32)) - (24 : Int32)) ((s2.1 / (49 : Int32)) - (24 : Int32)) s2.2 b hb) w964 w965 w88 w966 hdX8_at ⟨Nat.le_of_ble_eq_true rfl, Nat.le_of_ble_eq_true rfl⟩ (Nat.le_of_ble_eq_true rfl) rfl dX8_findTold_38) rfl (fun b4 => ?_)
        refine z_aload_n C 0 dX8_findTold_41 rfl rfl rfl ?_
        refine z_iload_n C 1 dX8_findTold_42 rfl rfl rfl ?_
        refine z_bipush C (49 : Int32) dX8_findTold_43 rfl rfl ?_
        refine z_iremK C dX8_findTold_45 (by decide) rfl ?_
        refine z_bipush C (24 : Int32) dX8_findTold_46 rfl rfl ?_
        refine z_isub C dX8_findTold_48 rfl ?_
        refine z_iload_n C 1 dX8_findTold_49 rfl rfl rfl ?_
        refine z_bipush C (49 : Int32) dX8_findTold_50 rfl rfl ?_
        refine z_idivK C dX8_findTold_52 (by decide) rfl ?_
        refine z_bipush C (24 : Int32) dX8_findTold_53 rfl rfl ?_
        refine z_isub C dX8_findTold_55 rfl ?_
        refine z_iconst C (0 : Int32) dX8_findTold_56 rfl rfl ?_
        refine z_ci (fun b => b) (fun _ => s2.2) (fun b hb => z_V (na := 3) (ci := 8) (r := (RX8, TX8, 34)) C [.int ((zrem s2.1 (49 : Int32)) - (24 : Int32)), .int ((s2.1 / (49 : Int32)) - (24 : Int32)), .int (0 : Int32)] rfl (mX8_fromOf Y ((zrem s2.1 (49 : Int32)) - (24 : Int32)) ((s2.1 / (49 : Int32)) - (24 : Int32)) (0 : Int32) s2.2 b hb) rfl rfl w936 w938 w51 w88 w939 hdX8_fromOf ⟨Nat.le_of_ble_eq_true rfl, Nat.le_of_ble_eq_true rfl⟩ (Nat.le_of_ble_eq_true rfl) rfl dX8_findTold_57) rfl (fun b5 => ?_)
        refine z_iastore C 2601 rfl dX8_findTold_60 rfl (fun M6 => ?_)
        refine z_aload_n C 0 dX8_findTold_61 rfl rfl rfl ?_
        refine z_get (v := .ref 108) C 16 zOK8 rfl (by decide) w804 rfl rfl dX8_findTold_62 rfl ?_
        refine z_iload_n C 1 dX8_findTold_65 rfl rfl rfl ?_
        refine z_bipush C (49 : Int32) dX8_findTold_66 rfl rfl ?_
        refine z_iremK C dX8_findTold_68 (by decide) rfl ?_
        refine z_bipush C (24 : Int32) dX8_findTold_69 rfl rfl ?_
        refine z_isub C dX8_findTold_71 rfl ?_
        refine z_iload_n C 1 dX8_findTold_72 rfl rfl rfl ?_
        refine z_bipush C (49 : Int32) dX8_findTold_73 rfl rfl ?_
        refine z_idivK C dX8_findTold_75 (by decide) rfl ?_
        refine z_bipush C (24 : Int32) dX8_findTold_76 rfl rfl ?_
        refine z_isub C dX8_findTold_78 rfl ?_
        refine z_ci (fun b => b) (fun _ => M6) (fun b hb => z_S (na := 2) C [.int ((zrem s2.1 (49 : Int32)) - (24 : Int32)), .int ((s2.1 / (49 : Int32)) - (24 : Int32))] rfl (mX8_at Y ((zrem s2.1 (49 : Int32)) - (24 : Int32)) ((s2.1 / (49 : Int32)) - (24 : Int32)) M6 b hb) w964 w965 w88 w966 hdX8_at ⟨Nat.le_of_ble_eq_true rfl, Nat.le_of_ble_eq_true rfl⟩ (Nat.le_of_ble_eq_true rfl) rfl dX8_findTold_79) rfl (fun b7 => ?_)
        refine z_aload_n C 0 dX8_findTold_82 rfl rfl rfl ?_
        refine z_iload_n C 1 dX8_findTold_83 rfl rfl rfl ?_
        refine z_bipush C (49 : Int32) dX8_findTold_84 rfl rfl ?_
        refine z_iremK C dX8_findTold_86 (by decide) rfl ?_
        refine z_bipush C (24 : Int32) dX8_findTold_87 rfl rfl ?_
        refine z_isub C dX8_findTold_89 rfl ?_
        refine z_iload_n C 1 dX8_findTold_90 rfl rfl rfl ?_
        refine z_bipush C (49 : Int32) dX8_findTold_91 rfl rfl ?_
        refine z_idivK C dX8_findTold_93 (by decide) rfl ?_
        refine z_bipush C (24 : Int32) dX8_findTold_94 rfl rfl ?_
        refine z_isub C dX8_findTold_96 rfl ?_
        refine z_iconst C (1 : Int32) dX8_findTold_97 rfl rfl ?_
        refine z_ci (fun b => b) (fun _ => M6) (fun b hb => z_V (na := 3) (ci := 8) (r := (RX8, TX8, 34)) C [.int ((zrem s2.1 (49 : Int32)) - (24 : Int32)), .int ((s2.1 / (49 : Int32)) - (24 : Int32)), .int (1 : Int32)] rfl (mX8_fromOf Y ((zrem s2.1 (49 : Int32)) - (24 : Int32)) ((s2.1 / (49 : Int32)) - (24 : Int32)) (1 : Int32) M6 b hb) rfl rfl w936 w938 w51 w88 w939 hdX8_fromOf ⟨Nat.le_of_ble_eq_true rfl, Nat.le_of_ble_eq_true rfl⟩ (Nat.le_of_ble_eq_true rfl) rfl dX8_findTold_98) rfl (fun b8 => ?_)
        refine z_iastore C 2601 rfl dX8_findTold_101 rfl (fun M9 => ?_)
        refine z_iinc (v := (s2.1 + (1 : Int32))) C 1 (fun z => [(1, .int z), (0, .ref 100)]) dX8_findTold_102 rfl rfl (by decide) (fun _ => rfl) rfl (fun x10 => ?_)
        refine z_goto C dX8_findTold_105 rfl ?_
        exact z_perm [1, 0] rfl (hr1 (x10, M9))
  exact key b hF
set_option maxRecDepth 100000 in
set_option maxHeartbeats 4000000 in
theorem mX8_cellX (Y : zY) (x0 : Int32) (x1 : Int32) (M : zMem) (b : Int32) (hF : FX8_cellX x0 x1 M = some b) : zMt Y yX8_cellX cX8_cellX 3 (some .int) 1 24 [.ref 100, .int x0, .int x1] M (zQi Y b M) := by
  refine zMt_of (own := RX8) (by decide +kernel) rfl (Nat.le_of_ble_eq_true rfl) (fun X C => ?_)
  have key : zR Y X 3 (zFi Y X (fun b => b) (fun _ => M)) (FX8_cellX x0 x1 M) 0 [(0, .ref 100), (1, .int x0), (2, .int x1)] [] M := by
    unfold FX8_cellX
    refine z_aload_n C 0 dX8_cellX_0 rfl rfl rfl ?_
    refine z_get (v := .ref 107) C 15 zOK8 rfl (by decide) w803 rfl rfl dX8_cellX_1 rfl ?_
    refine z_iload_n C 1 dX8_cellX_4 rfl rfl rfl ?_
    refine z_iload_n C 2 dX8_cellX_5 rfl rfl rfl ?_
    refine z_ci (fun b => b) (fun _ => M) (fun b hb => z_S (na := 2) C [.int x0, .int x1] rfl (mX8_at Y x0 x1 M b hb) w964 w965 w88 w966 hdX8_at ⟨Nat.le_of_ble_eq_true rfl, Nat.le_of_ble_eq_true rfl⟩ (Nat.le_of_ble_eq_true rfl) rfl dX8_cellX_6) rfl (fun b3 => ?_)
    refine z_iaload C 2601 rfl dX8_cellX_9 rfl ?_
    refine z_i2l C dX8_cellX_10 rfl ?_
    refine z_ldc2 C w948 dX8_cellX_11 rfl ?_
    refine z_ladd C dX8_cellX_14 rfl ?_
    refine z_bipush C (16 : Int32) dX8_cellX_15 rfl rfl ?_
    refine z_ci (fun b => b) (fun _ => M) (fun b hb => z_S (na := 2) C [.long ((zrd M 107 b3).toInt64 + (8 : Int64)), .int (16 : Int32)] rfl (mX8_floored Y ((zrd M 107 b3).toInt64 + (8 : Int64)) (16 : Int32) M b hb) w949 w950 w88 w951 hdX8_floored ⟨Nat.le_of_ble_eq_true rfl, Nat.le_of_ble_eq_true rfl⟩ (Nat.le_of_ble_eq_true rfl) rfl dX8_cellX_17) rfl (fun b4 => ?_)
    exact z_iret C rfl rfl dX8_cellX_20
  exact key b hF
set_option maxRecDepth 100000 in
set_option maxHeartbeats 4000000 in
theorem mX8_cellY (Y : zY) (x0 : Int32) (x1 : Int32) (M : zMem) (b : Int32) (hF : FX8_cellY x0 x1 M = some b) : zMt Y yX8_cellY cX8_cellY 3 (some .int) 1 24 [.ref 100, .int x0, .int x1] M (zQi Y b M) := by
  refine zMt_of (own := RX8) (by decide +kernel) rfl (Nat.le_of_ble_eq_true rfl) (fun X C => ?_)
  have key : zR Y X 3 (zFi Y X (fun b => b) (fun _ => M)) (FX8_cellY x0 x1 M) 0 [(0, .ref 100), (1, .int x0), (2, .int x1)] [] M := by
    unfold FX8_cellY
    refine z_aload_n C 0 dX8_cellY_0 rfl rfl rfl ?_
    refine z_get (v := .ref 108) C 16 zOK8 rfl (by decide) w804 rfl rfl dX8_cellY_1 rfl ?_
    refine z_iload_n C 1 dX8_cellY_4 rfl rfl rfl ?_
    refine z_iload_n C 2 dX8_cellY_5 rfl rfl rfl ?_
    refine z_ci (fun b => b) (fun _ => M) (fun b hb => z_S (na := 2) C [.int x0, .int x1] rfl (mX8_at Y x0 x1 M b hb) w964 w965 w88 w966 hdX8_at ⟨Nat.le_of_ble_eq_true rfl, Nat.le_of_ble_eq_true rfl⟩ (Nat.le_of_ble_eq_true rfl) rfl dX8_cellY_6) rfl (fun b3 => ?_)
    refine z_iaload C 2601 rfl dX8_cellY_9 rfl ?_
    refine z_i2l C dX8_cellY_10 rfl ?_
    refine z_ldc2 C w948 dX8_cellY_11 rfl ?_
    refine z_ladd C dX8_cellY_14 rfl ?_
    refine z_bipush C (16 : Int32) dX8_cellY_15 rfl rfl ?_
    refine z_ci (fun b => b) (fun _ => M) (fun b hb => z_S (na := 2) C [.long ((zrd M 108 b3).toInt64 + (8 : Int64)), .int (16 : Int32)] rfl (mX8_floored Y ((zrd M 108 b3).toInt64 + (8 : Int64)) (16 : Int32) M b hb) w949 w950 w88 w951 hdX8_floored ⟨Nat.le_of_ble_eq_true rfl, Nat.le_of_ble_eq_true rfl⟩ (Nat.le_of_ble_eq_true rfl) rfl dX8_cellY_17) rfl (fun b4 => ?_)
    exact z_iret C rfl rfl dX8_cellY_20
  exact key b hF
set_option maxRecDepth 100000 in
set_option maxHeartbeats 4000000 in
theorem mX8_signOf (Y : zY) (y0 : Int64) (M : zMem) (b : Int32) (hF : FX8_signOf y0 = some b) : zMt Y yX8_signOf cX8_signOf 2 (some .int) 0 0 [.long y0] M (zQi Y b M) := by
  refine zMt_of (own := RX8) (by decide +kernel) rfl (Nat.le_of_ble_eq_true rfl) (fun X C => ?_)
  have key : zR Y X 2 (zFi Y X (fun b => b) (fun _ => M)) (FX8_signOf y0) 0 [(0, .long y0)] [] M := by
    unfold FX8_signOf
    refine z_lload_n C 0 dX8_signOf_0 rfl rfl rfl ?_
    refine z_lconst C (0 : Int64) dX8_signOf_1 rfl rfl ?_
    refine z_lcmp C dX8_signOf_2 rfl ?_
    refine z_ifle C dX8_signOf_3 rfl rfl ?_ ?_
    · refine z_lload_n C 0 dX8_signOf_10 rfl rfl rfl ?_
      refine z_lconst C (0 : Int64) dX8_signOf_11 rfl rfl ?_
      refine z_lcmp C dX8_signOf_12 rfl ?_
      refine z_ifge C dX8_signOf_13 rfl rfl ?_ ?_
      · refine z_iconst C (0 : Int32) dX8_signOf_20 rfl rfl ?_
        exact z_iret C rfl rfl dX8_signOf_21
      · refine z_iconst C (-1 : Int32) dX8_signOf_16 rfl rfl ?_
        refine z_goto C dX8_signOf_17 rfl ?_
        exact z_iret C rfl rfl dX8_signOf_21
    · refine z_iconst C (1 : Int32) dX8_signOf_6 rfl rfl ?_
      refine z_goto C dX8_signOf_7 rfl ?_
      exact z_iret C rfl rfl dX8_signOf_21
  exact key b hF
set_option maxRecDepth 100000 in
set_option maxHeartbeats 4000000 in
theorem mX8_parityOf (Y : zY) (x0 : Int32) (x1 : Int32) (M : zMem) (b : Int32) (hF : FX8_parityOf x0 x1 M = some b) : zMt Y yX8_parityOf cX8_parityOf 11 (some .int) 1 21 [.ref 100, .int x0, .int x1] M (zQi Y b M) := by
  refine zMt_of (own := RX8) (by decide +kernel) rfl (Nat.le_of_ble_eq_true rfl) (fun X C => ?_)
  have key : zR Y X 11 (zFi Y X (fun b => b) (fun _ => M)) (FX8_parityOf x0 x1 M) 0 [(0, .ref 100), (1, .int x0), (2, .int x1)] [] M := by
    unfold FX8_parityOf
    refine z_aload_n C 0 dX8_parityOf_0 rfl rfl rfl ?_
    refine z_get (v := .ref 107) C 15 zOK8 rfl (by decide) w803 rfl rfl dX8_parityOf_1 rfl ?_
    refine z_iload_n C 1 dX8_parityOf_4 rfl rfl rfl ?_
    refine z_iconst C (1 : Int32) dX8_parityOf_5 rfl rfl ?_
    refine z_iadd C dX8_parityOf_6 rfl ?_
    refine z_iload_n C 2 dX8_parityOf_7 rfl rfl rfl ?_
    refine z_ci (fun b => b) (fun _ => M) (fun b hb => z_S (na := 2) C [.int (x0 + (1 : Int32)), .int x1] rfl (mX8_at Y (x0 + (1 : Int32)) x1 M b hb) w964 w965 w88 w966 hdX8_at ⟨Nat.le_of_ble_eq_true rfl, Nat.le_of_ble_eq_true rfl⟩ (Nat.le_of_ble_eq_true rfl) rfl dX8_parityOf_8) rfl (fun b3 => ?_)
    refine z_iaload C 2601 rfl dX8_parityOf_11 rfl ?_
    refine z_aload_n C 0 dX8_parityOf_12 rfl rfl rfl ?_
    refine z_get (v := .ref 107) C 15 zOK8 rfl (by decide) w803 rfl rfl dX8_parityOf_13 rfl ?_
    refine z_iload_n C 1 dX8_parityOf_16 rfl rfl rfl ?_
    refine z_iconst C (1 : Int32) dX8_parityOf_17 rfl rfl ?_
    refine z_isub C dX8_parityOf_18 rfl ?_
    refine z_iload_n C 2 dX8_parityOf_19 rfl rfl rfl ?_
    refine z_ci (fun b => b) (fun _ => M) (fun b hb => z_S (na := 2) C [.int (x0 - (1 : Int32)), .int x1] rfl (mX8_at Y (x0 - (1 : Int32)) x1 M b hb) w964 w965 w88 w966 hdX8_at ⟨Nat.le_of_ble_eq_true rfl, Nat.le_of_ble_eq_true rfl⟩ (Nat.le_of_ble_eq_true rfl) rfl dX8_parityOf_20) rfl (fun b4 => ?_)
    refine z_iaload C 2601 rfl dX8_parityOf_23 rfl ?_
    refine z_isub C dX8_parityOf_24 rfl ?_
    refine z_i2l C dX8_parityOf_25 rfl ?_
    refine z_lstore_n C (fun z => [(3, .long z), (0, .ref 100), (1, .int x0), (2, .int x1)]) dX8_parityOf_26 rfl (by decide) (fun _ => rfl) rfl (fun y5 => ?_)
    refine z_aload_n C 1 dX8_parityOf_27 rfl rfl rfl ?_
    refine z_get (v := .ref 108) C 16 zOK8 rfl (by decide) w804 rfl rfl dX8_parityOf_28 rfl ?_
    refine z_iload_n C 2 dX8_parityOf_31 rfl rfl rfl ?_
    refine z_iconst C (1 : Int32) dX8_parityOf_32 rfl rfl ?_
    refine z_iadd C dX8_parityOf_33 rfl ?_
    refine z_iload_n C 3 dX8_parityOf_34 rfl rfl rfl ?_
    refine z_ci (fun b => b) (fun _ => M) (fun b hb => z_S (na := 2) C [.int (x0 + (1 : Int32)), .int x1] rfl (mX8_at Y (x0 + (1 : Int32)) x1 M b hb) w964 w965 w88 w966 hdX8_at ⟨Nat.le_of_ble_eq_true rfl, Nat.le_of_ble_eq_true rfl⟩ (Nat.le_of_ble_eq_true rfl) rfl dX8_parityOf_35) rfl (fun b6 => ?_)
    refine z_iaload C 2601 rfl dX8_parityOf_38 rfl ?_
    refine z_aload_n C 1 dX8_parityOf_39 rfl rfl rfl ?_
    refine z_get (v := .ref 108) C 16 zOK8 rfl (by decide) w804 rfl rfl dX8_parityOf_40 rfl ?_
    refine z_iload_n C 2 dX8_parityOf_43 rfl rfl rfl ?_
    refine z_iconst C (1 : Int32) dX8_parityOf_44 rfl rfl ?_
    refine z_isub C dX8_parityOf_45 rfl ?_
    refine z_iload_n C 3 dX8_parityOf_46 rfl rfl rfl ?_
    refine z_ci (fun b => b) (fun _ => M) (fun b hb => z_S (na := 2) C [.int (x0 - (1 : Int32)), .int x1] rfl (mX8_at Y (x0 - (1 : Int32)) x1 M b hb) w964 w965 w88 w966 hdX8_at ⟨Nat.le_of_ble_eq_true rfl, Nat.le_of_ble_eq_true rfl⟩ (Nat.le_of_ble_eq_true rfl) rfl dX8_parityOf_47) rfl (fun b7 => ?_)
    refine z_iaload C 2601 rfl dX8_parityOf_50 rfl ?_
    refine z_isub C dX8_parityOf_51 rfl ?_
    refine z_i2l C dX8_parityOf_52 rfl ?_
    refine z_lstore C (fun z => [(5, .long z), (3, .long y5), (0, .ref 100), (1, .int x0), (2, .int x1)]) dX8_parityOf_53 (by decide) (fun _ => rfl) rfl (fun y8 => ?_)
    refine z_aload_n C 2 dX8_parityOf_55 rfl rfl rfl ?_
    refine z_get (v := .ref 107) C 15 zOK8 rfl (by decide) w803 rfl rfl dX8_parityOf_56 rfl ?_
    refine z_iload_n C 3 dX8_parityOf_59 rfl rfl rfl ?_
    refine z_iload_n C 4 dX8_parityOf_60 rfl rfl rfl ?_
    refine z_iconst C (1 : Int32) dX8_parityOf_61 rfl rfl ?_
    refine z_iadd C dX8_parityOf_62 rfl ?_
    refine z_ci (fun b => b) (fun _ => M) (fun b hb => z_S (na := 2) C [.int x0, .int (x1 + (1 : Int32))] rfl (mX8_at Y x0 (x1 + (1 : Int32)) M b hb) w964 w965 w88 w966 hdX8_at ⟨Nat.le_of_ble_eq_true rfl, Nat.le_of_ble_eq_true rfl⟩ (Nat.le_of_ble_eq_true rfl) rfl dX8_parityOf_63) rfl (fun b9 => ?_)
    refine z_iaload C 2601 rfl dX8_parityOf_66 rfl ?_
    refine z_aload_n C 2 dX8_parityOf_67 rfl rfl rfl ?_
    refine z_get (v := .ref 107) C 15 zOK8 rfl (by decide) w803 rfl rfl dX8_parityOf_68 rfl ?_
    refine z_iload_n C 3 dX8_parityOf_71 rfl rfl rfl ?_
    refine z_iload_n C 4 dX8_parityOf_72 rfl rfl rfl ?_
    refine z_iconst C (1 : Int32) dX8_parityOf_73 rfl rfl ?_
    refine z_isub C dX8_parityOf_74 rfl ?_
    refine z_ci (fun b => b) (fun _ => M) (fun b hb => z_S (na := 2) C [.int x0, .int (x1 - (1 : Int32))] rfl (mX8_at Y x0 (x1 - (1 : Int32)) M b hb) w964 w965 w88 w966 hdX8_at ⟨Nat.le_of_ble_eq_true rfl, Nat.le_of_ble_eq_true rfl⟩ (Nat.le_of_ble_eq_true rfl) rfl dX8_parityOf_75) rfl (fun b10 => ?_)
    refine z_iaload C 2601 rfl dX8_parityOf_78 rfl ?_
    refine z_isub C dX8_parityOf_79 rfl ?_
    refine z_i2l C dX8_parityOf_80 rfl ?_
    refine z_lstore C (fun z => [(7, .long z), (5, .long y8), (3, .long y5), (0, .ref 100), (1, .int x0), (2, .int x1)]) dX8_parityOf_81 (by decide) (fun _ => rfl) rfl (fun y11 => ?_)
    refine z_aload_n C 3 dX8_parityOf_83 rfl rfl rfl ?_
    refine z_get (v := .ref 108) C 16 zOK8 rfl (by decide) w804 rfl rfl dX8_parityOf_84 rfl ?_
    refine z_iload_n C 4 dX8_parityOf_87 rfl rfl rfl ?_
    refine z_iload_n C 5 dX8_parityOf_88 rfl rfl rfl ?_
    refine z_iconst C (1 : Int32) dX8_parityOf_89 rfl rfl ?_
    refine z_iadd C dX8_parityOf_90 rfl ?_
    refine z_ci (fun b => b) (fun _ => M) (fun b hb => z_S (na := 2) C [.int x0, .int (x1 + (1 : Int32))] rfl (mX8_at Y x0 (x1 + (1 : Int32)) M b hb) w964 w965 w88 w966 hdX8_at ⟨Nat.le_of_ble_eq_true rfl, Nat.le_of_ble_eq_true rfl⟩ (Nat.le_of_ble_eq_true rfl) rfl dX8_parityOf_91) rfl (fun b12 => ?_)
    refine z_iaload C 2601 rfl dX8_parityOf_94 rfl ?_
    refine z_aload_n C 3 dX8_parityOf_95 rfl rfl rfl ?_
    refine z_get (v := .ref 108) C 16 zOK8 rfl (by decide) w804 rfl rfl dX8_parityOf_96 rfl ?_
    refine z_iload_n C 4 dX8_parityOf_99 rfl rfl rfl ?_
    refine z_iload_n C 5 dX8_parityOf_100 rfl rfl rfl ?_
    refine z_iconst C (1 : Int32) dX8_parityOf_101 rfl rfl ?_
    refine z_isub C dX8_parityOf_102 rfl ?_
    refine z_ci (fun b => b) (fun _ => M) (fun b hb => z_S (na := 2) C [.int x0, .int (x1 - (1 : Int32))] rfl (mX8_at Y x0 (x1 - (1 : Int32)) M b hb) w964 w965 w88 w966 hdX8_at ⟨Nat.le_of_ble_eq_true rfl, Nat.le_of_ble_eq_true rfl⟩ (Nat.le_of_ble_eq_true rfl) rfl dX8_parityOf_103) rfl (fun b13 => ?_)
    refine z_iaload C 2601 rfl dX8_parityOf_106 rfl ?_
    refine z_isub C dX8_parityOf_107 rfl ?_
    refine z_i2l C dX8_parityOf_108 rfl ?_
    refine z_lstore C (fun z => [(9, .long z), (7, .long y11), (5, .long y8), (3, .long y5), (0, .ref 100), (1, .int x0), (2, .int x1)]) dX8_parityOf_109 (by decide) (fun _ => rfl) rfl (fun y14 => ?_)
    refine z_lload_n C 3 dX8_parityOf_111 rfl rfl rfl ?_
    refine z_lload C 0 dX8_parityOf_112 rfl rfl ?_
    refine z_lmul C dX8_parityOf_114 rfl ?_
    refine z_lload C 2 dX8_parityOf_115 rfl rfl ?_
    refine z_lload C 1 dX8_parityOf_117 rfl rfl ?_
    refine z_lmul C dX8_parityOf_119 rfl ?_
    refine z_lsub C dX8_parityOf_120 rfl ?_
    refine z_ci (fun b => b) (fun _ => M) (fun b hb => z_S (na := 1) C [.long ((y5 * y14) - (y8 * y11))] rfl (mX8_signOf Y ((y5 * y14) - (y8 * y11)) M b hb) w997 w998 w88 w999 hdX8_signOf ⟨Nat.le_of_ble_eq_true rfl, Nat.le_of_ble_eq_true rfl⟩ (Nat.le_of_ble_eq_true rfl) rfl dX8_parityOf_121) rfl (fun b15 => ?_)
    exact z_iret C rfl rfl dX8_parityOf_124
  exact key b hF
set_option maxRecDepth 100000 in
set_option maxHeartbeats 4000000 in
theorem mX8_isPixel (Y : zY) (x0 : Int32) (x1 : Int32) (M : zMem) (b : Int32) (hF : FX8_isPixel x0 x1 = some b) : zMt Y yX8_isPixel cX8_isPixel 2 (some .boolean) 2 44 [.int x0, .int x1] M (zQi Y b M) := by
  refine zMt_of (own := RX8) (by decide +kernel) rfl (Nat.le_of_ble_eq_true rfl) (fun X C => ?_)
  have key : zR Y X 2 (zFi Y X (fun b => b) (fun _ => M)) (FX8_isPixel x0 x1) 0 [(0, .int x0), (1, .int x1)] [] M := by
    unfold FX8_isPixel
    refine z_iload_n C 0 dX8_isPixel_0 rfl rfl rfl ?_
    refine z_iload_n C 1 dX8_isPixel_1 rfl rfl rfl ?_
    refine z_bipush C (24 : Int32) dX8_isPixel_2 rfl rfl ?_
    refine z_ci (fun b => b) (fun _ => M) (fun b hb => z_S (na := 3) C [.int x0, .int x1, .int (24 : Int32)] rfl (mX8_isNear Y x0 x1 (24 : Int32) M b hb) w899 w900 w88 w901 hdX8_isNear ⟨Nat.le_of_ble_eq_true rfl, Nat.le_of_ble_eq_true rfl⟩ (Nat.le_of_ble_eq_true rfl) rfl dX8_isPixel_4) rfl (fun b3 => ?_)
    exact z_zret C rfl rfl dX8_isPixel_7
  exact key b hF
set_option maxRecDepth 100000 in
set_option maxHeartbeats 4000000 in
theorem mX8_pixel (Y : zY) (x0 : Int32) (x1 : Int32) (M : zMem) (b : Int32) (hF : FX8_pixel x0 x1 = some b) : zMt Y yX8_pixel cX8_pixel 2 (some .int) 0 0 [.int x0, .int x1] M (zQi Y b M) := by
  refine zMt_of (own := RX8) (by decide +kernel) rfl (Nat.le_of_ble_eq_true rfl) (fun X C => ?_)
  have key : zR Y X 2 (zFi Y X (fun b => b) (fun _ => M)) (FX8_pixel x0 x1) 0 [(0, .int x0), (1, .int x1)] [] M := by
    unfold FX8_pixel
    refine z_bipush C (49 : Int32) dX8_pixel_0 rfl rfl ?_
    refine z_iload_n C 1 dX8_pixel_2 rfl rfl rfl ?_
    refine z_bipush C (24 : Int32) dX8_pixel_3 rfl rfl ?_
    refine z_iadd C dX8_pixel_5 rfl ?_
    refine z_imul C dX8_pixel_6 rfl ?_
    refine z_iload_n C 0 dX8_pixel_7 rfl rfl rfl ?_
    refine z_iadd C dX8_pixel_8 rfl ?_
    refine z_bipush C (24 : Int32) dX8_pixel_9 rfl rfl ?_
    refine z_iadd C dX8_pixel_11 rfl ?_
    exact z_iret C rfl rfl dX8_pixel_12
  exact key b hF
set_option maxRecDepth 100000 in
set_option maxHeartbeats 4000000 in
theorem mX8_spread (Y : zY) (x0 : Int32) (M : zMem) (b : zMem) (hF : FX8_spread x0 M = some b) : zMt Y yX8_spread cX8_spread 9 none 3 65 [.ref 100, .int x0] M (zQv Y b) := by
  refine zMt_of (own := RX8) (by decide +kernel) rfl (Nat.le_of_ble_eq_true rfl) (fun X C => ?_)
  have key : zR Y X 9 (zFv Y X (fun b => b)) (FX8_spread x0 M) 0 [(0, .ref 100), (1, .int x0)] [] M := by
    unfold FX8_spread
    refine z_iconst C (1 : Int32) dX8_spread_0 rfl rfl ?_
    refine z_istoreP_n (lo' := [(2, .int (1 : Int32)), (0, .ref 100), (1, .int x0)]) C dX8_spread_1 rfl (by decide) rfl rfl ?_
    refine z_aload_n C 1 dX8_spread_2 rfl rfl rfl ?_
    refine z_get (v := .ref 111) C 19 zOK8 rfl (by decide) w807 rfl rfl dX8_spread_3 rfl ?_
    refine z_iconst C (0 : Int32) dX8_spread_6 rfl rfl ?_
    refine z_iload_n C 2 dX8_spread_7 rfl rfl rfl ?_
    refine z_iastore C 2401 rfl dX8_spread_8 rfl (fun M2 => ?_)
    refine z_aload_n C 1 dX8_spread_9 rfl rfl rfl ?_
    refine z_get (v := .ref 110) C 18 zOK8 rfl (by decide) w806 rfl rfl dX8_spread_10 rfl ?_
    refine z_iload_n C 2 dX8_spread_13 rfl rfl rfl ?_
    refine z_aload_n C 1 dX8_spread_14 rfl rfl rfl ?_
    refine z_get (v := .int (M2.1 100 22)) C 22 zOK8 rfl (by decide) w810 rfl rfl dX8_spread_15 rfl ?_
    refine z_iastore C 2401 rfl dX8_spread_18 rfl (fun M3 => ?_)
    refine z_iconst C (0 : Int32) dX8_spread_19 rfl rfl ?_
    refine z_istoreP_n (lo' := [(3, .int (0 : Int32)), (2, .int (1 : Int32)), (0, .ref 100), (1, .int x0)]) C dX8_spread_20 rfl (by decide) rfl rfl ?_
    refine z_loop (sM := fun s => s.2.2) (sl := fun s => [(0, .ref 100), (1, .int x0), (2, .int s.1), (3, .int s.2.1)]) [2, 3, 1, 0] rfl rfl (fun r4 hr4 s5 => ?_)
    unfold FX8_spread_L21
    refine z_iload_n C 3 dX8_spread_21 rfl rfl rfl ?_
    refine z_iload_n C 2 dX8_spread_22 rfl rfl rfl ?_
    refine z_icmpge C dX8_spread_23 rfl rfl ?_ ?_
    · refine z_aload_n C 0 dX8_spread_172 rfl rfl rfl ?_
      refine z_get (v := .ref 112) C 20 zOK8 rfl (by decide) w808 rfl rfl dX8_spread_173 rfl ?_
      refine z_aload_n C 0 dX8_spread_176 rfl rfl rfl ?_
      refine z_get (v := .int (s5.2.2.1 100 22)) C 22 zOK8 rfl (by decide) w810 rfl rfl dX8_spread_177 rfl ?_
      refine z_iload_n C 1 dX8_spread_180 rfl rfl rfl ?_
      refine z_iastore C 2401 rfl dX8_spread_181 rfl (fun M6 => ?_)
      refine z_aload_n C 0 dX8_spread_182 rfl rfl rfl ?_
      refine z_get (v := .ref 113) C 21 zOK8 rfl (by decide) w809 rfl rfl dX8_spread_183 rfl ?_
      refine z_aload_n C 0 dX8_spread_186 rfl rfl rfl ?_
      refine z_get (v := .int (M6.1 100 22)) C 22 zOK8 rfl (by decide) w810 rfl rfl dX8_spread_187 rfl ?_
      refine z_iload_n C 2 dX8_spread_190 rfl rfl rfl ?_
      refine z_iastore C 2401 rfl dX8_spread_191 rfl (fun M7 => ?_)
      refine z_aload_n C 0 dX8_spread_192 rfl rfl rfl ?_
      refine z_dup C dX8_spread_193 rfl rfl ?_
      refine z_get (v := .int (M7.1 100 22)) C 22 zOK8 rfl (by decide) w810 rfl rfl dX8_spread_194 rfl ?_
      refine z_iconst C (1 : Int32) dX8_spread_197 rfl rfl ?_
      refine z_iadd C dX8_spread_198 rfl ?_
      refine z_puti C 22 zOK8 rfl (by decide) w810 rfl rfl rfl rfl rfl dX8_spread_199 rfl (fun M8 => ?_)
      exact z_vret C rfl dX8_spread_202
    · refine z_aload_n C 0 dX8_spread_26 rfl rfl rfl ?_
      refine z_get (v := .ref 111) C 19 zOK8 rfl (by decide) w807 rfl rfl dX8_spread_27 rfl ?_
      refine z_iload_n C 3 dX8_spread_30 rfl rfl rfl ?_
      refine z_iaload C 2401 rfl dX8_spread_31 rfl ?_
      refine z_bipush C (49 : Int32) dX8_spread_32 rfl rfl ?_
      refine z_iremK C dX8_spread_34 (by decide) rfl ?_
      refine z_bipush C (24 : Int32) dX8_spread_35 rfl rfl ?_
      refine z_isub C dX8_spread_37 rfl ?_
      refine z_istore C (fun z => [(4, .int z), (0, .ref 100), (1, .int x0), (2, .int s5.1), (3, .int s5.2.1)]) dX8_spread_38 (by decide) (fun _ => rfl) rfl (fun x9 => ?_)
      refine z_aload_n C 1 dX8_spread_40 rfl rfl rfl ?_
      refine z_get (v := .ref 111) C 19 zOK8 rfl (by decide) w807 rfl rfl dX8_spread_41 rfl ?_
      refine z_iload_n C 4 dX8_spread_44 rfl rfl rfl ?_
      refine z_iaload C 2401 rfl dX8_spread_45 rfl ?_
      refine z_bipush C (49 : Int32) dX8_spread_46 rfl rfl ?_
      refine z_idivK C dX8_spread_48 (by decide) rfl ?_
      refine z_bipush C (24 : Int32) dX8_spread_49 rfl rfl ?_
      refine z_isub C dX8_spread_51 rfl ?_
      refine z_istore C (fun z => [(5, .int z), (4, .int x9), (0, .ref 100), (1, .int x0), (2, .int s5.1), (3, .int s5.2.1)]) dX8_spread_52 (by decide) (fun _ => rfl) rfl (fun x10 => ?_)
      refine z_iconst C (0 : Int32) dX8_spread_54 rfl rfl ?_
      refine z_istoreP (lo' := [(6, .int (0 : Int32)), (5, .int x10), (4, .int x9), (0, .ref 100), (1, .int x0), (2, .int s5.1), (3, .int s5.2.1)]) C dX8_spread_55 (by decide) rfl rfl ?_
      refine z_loop (sM := fun s => s.2.2) (sl := fun s => [(0, .ref 100), (1, .int x0), (2, .int s.1), (3, .int s5.2.1), (4, .int x9), (5, .int x10), (6, .int s.2.1)]) [3, 4, 5, 6, 2, 1, 0] rfl rfl (fun r11 hr11 s12 => ?_)
      unfold FX8_spread_L57
      refine z_iload C 6 dX8_spread_57 rfl rfl ?_
      refine z_bipush C (9 : Int32) dX8_spread_59 rfl rfl ?_
      refine z_icmpge C dX8_spread_61 rfl rfl ?_ ?_
      · refine z_iinc (v := (s5.2.1 + (1 : Int32))) C 3 (fun z => [(3, .int z), (0, .ref 100), (1, .int x0), (2, .int s12.1), (4, .int x9), (5, .int x10), (6, .int s12.2.1)]) dX8_spread_166 rfl rfl (by decide) (fun _ => rfl) rfl (fun x13 => ?_)
        refine z_goto C dX8_spread_169 rfl ?_
        exact z_perm [1, 2, 3, 0] rfl (hr4 (s12.1, x13, s12.2.2))
      · refine z_iload C 4 dX8_spread_64 rfl rfl ?_
        refine z_iload C 6 dX8_spread_66 rfl rfl ?_
        refine z_iconst C (3 : Int32) dX8_spread_68 rfl rfl ?_
        refine z_iremK C dX8_spread_69 (by decide) rfl ?_
        refine z_iadd C dX8_spread_70 rfl ?_
        refine z_iconst C (1 : Int32) dX8_spread_71 rfl rfl ?_
        refine z_isub C dX8_spread_72 rfl ?_
        refine z_istore C (fun z => [(7, .int z), (0, .ref 100), (1, .int x0), (2, .int s12.1), (3, .int s5.2.1), (4, .int x9), (5, .int x10), (6, .int s12.2.1)]) dX8_spread_73 (by decide) (fun _ => rfl) rfl (fun x14 => ?_)
        refine z_iload C 6 dX8_spread_75 rfl rfl ?_
        refine z_iload C 7 dX8_spread_77 rfl rfl ?_
        refine z_iconst C (3 : Int32) dX8_spread_79 rfl rfl ?_
        refine z_idivK C dX8_spread_80 (by decide) rfl ?_
        refine z_iadd C dX8_spread_81 rfl ?_
        refine z_iconst C (1 : Int32) dX8_spread_82 rfl rfl ?_
        refine z_isub C dX8_spread_83 rfl ?_
        refine z_istore C (fun z => [(8, .int z), (7, .int x14), (0, .ref 100), (1, .int x0), (2, .int s12.1), (3, .int s5.2.1), (4, .int x9), (5, .int x10), (6, .int s12.2.1)]) dX8_spread_84 (by decide) (fun _ => rfl) rfl (fun x15 => ?_)
        refine z_iload C 1 dX8_spread_86 rfl rfl ?_
        refine z_iload C 0 dX8_spread_88 rfl rfl ?_
        refine z_ci (fun b => b) (fun _ => s12.2.2) (fun b hb => z_S (na := 2) C [.int x14, .int x15] rfl (mX8_isPixel Y x14 x15 s12.2.2 b hb) w983 w984 w88 w985 hdX8_isPixel ⟨Nat.le_of_ble_eq_true rfl, Nat.le_of_ble_eq_true rfl⟩ (Nat.le_of_ble_eq_true rfl) rfl dX8_spread_90) rfl (fun b16 => ?_)
        refine z_ifeq C dX8_spread_93 rfl rfl ?_ ?_
        · refine z_iinc (v := (s12.2.1 + (1 : Int32))) C 8 (fun z => [(6, .int z), (8, .int x15), (7, .int x14), (0, .ref 100), (1, .int x0), (2, .int s12.1), (3, .int s5.2.1), (4, .int x9), (5, .int x10)]) dX8_spread_160 rfl rfl (by decide) (fun _ => rfl) rfl (fun x17 => ?_)
          refine z_goto C dX8_spread_163 rfl ?_
          exact z_perm [3, 4, 5, 6, 7, 8, 0] rfl (hr11 (s12.1, x17, s12.2.2))
        · refine z_aload_n C 2 dX8_spread_96 rfl rfl rfl ?_
          refine z_get (v := .ref 109) C 17 zOK8 rfl (by decide) w805 rfl rfl dX8_spread_97 rfl ?_
          refine z_iload C 1 dX8_spread_100 rfl rfl ?_
          refine z_iload C 0 dX8_spread_102 rfl rfl ?_
          refine z_ci (fun b => b) (fun _ => s12.2.2) (fun b hb => z_S (na := 2) C [.int x14, .int x15] rfl (mX8_pixel Y x14 x15 s12.2.2 b hb) w986 w987 w88 w988 hdX8_pixel ⟨Nat.le_of_ble_eq_true rfl, Nat.le_of_ble_eq_true rfl⟩ (Nat.le_of_ble_eq_true rfl) rfl dX8_spread_104) rfl (fun b18 => ?_)
          refine z_zaload C 2401 rfl dX8_spread_107 rfl ?_
          refine z_ifeq C dX8_spread_108 rfl rfl ?_ ?_
          · refine z_iinc (v := (s12.2.1 + (1 : Int32))) C 8 (fun z => [(6, .int z), (8, .int x15), (7, .int x14), (0, .ref 100), (1, .int x0), (2, .int s12.1), (3, .int s5.2.1), (4, .int x9), (5, .int x10)]) dX8_spread_160 rfl rfl (by decide) (fun _ => rfl) rfl (fun x19 => ?_)
            refine z_goto C dX8_spread_163 rfl ?_
            exact z_perm [3, 4, 5, 6, 7, 8, 0] rfl (hr11 (s12.1, x19, s12.2.2))
          · refine z_aload_n C 2 dX8_spread_111 rfl rfl rfl ?_
            refine z_get (v := .ref 110) C 18 zOK8 rfl (by decide) w806 rfl rfl dX8_spread_112 rfl ?_
            refine z_iload C 1 dX8_spread_115 rfl rfl ?_
            refine z_iload C 0 dX8_spread_117 rfl rfl ?_
            refine z_ci (fun b => b) (fun _ => s12.2.2) (fun b hb => z_S (na := 2) C [.int x14, .int x15] rfl (mX8_pixel Y x14 x15 s12.2.2 b hb) w986 w987 w88 w988 hdX8_pixel ⟨Nat.le_of_ble_eq_true rfl, Nat.le_of_ble_eq_true rfl⟩ (Nat.le_of_ble_eq_true rfl) rfl dX8_spread_119) rfl (fun b20 => ?_)
            refine z_iaload C 2401 rfl dX8_spread_122 rfl ?_
            refine z_bipush C (-9 : Int32) dX8_spread_123 rfl rfl ?_
            refine z_icmpne C dX8_spread_125 rfl rfl ?_ ?_
            · refine z_iinc (v := (s12.2.1 + (1 : Int32))) C 8 (fun z => [(6, .int z), (8, .int x15), (7, .int x14), (0, .ref 100), (1, .int x0), (2, .int s12.1), (3, .int s5.2.1), (4, .int x9), (5, .int x10)]) dX8_spread_160 rfl rfl (by decide) (fun _ => rfl) rfl (fun x21 => ?_)
              refine z_goto C dX8_spread_163 rfl ?_
              exact z_perm [3, 4, 5, 6, 7, 8, 0] rfl (hr11 (s12.1, x21, s12.2.2))
            · refine z_aload_n C 2 dX8_spread_128 rfl rfl rfl ?_
              refine z_get (v := .ref 110) C 18 zOK8 rfl (by decide) w806 rfl rfl dX8_spread_129 rfl ?_
              refine z_iload C 1 dX8_spread_132 rfl rfl ?_
              refine z_iload C 0 dX8_spread_134 rfl rfl ?_
              refine z_ci (fun b => b) (fun _ => s12.2.2) (fun b hb => z_S (na := 2) C [.int x14, .int x15] rfl (mX8_pixel Y x14 x15 s12.2.2 b hb) w986 w987 w88 w988 hdX8_pixel ⟨Nat.le_of_ble_eq_true rfl, Nat.le_of_ble_eq_true rfl⟩ (Nat.le_of_ble_eq_true rfl) rfl dX8_spread_136) rfl (fun b22 => ?_)
              refine z_aload_n C 2 dX8_spread_139 rfl rfl rfl ?_
              refine z_get (v := .int (s12.2.2.1 100 22)) C 22 zOK8 rfl (by decide) w810 rfl rfl dX8_spread_140 rfl ?_
              refine z_iastore C 2401 rfl dX8_spread_143 rfl (fun M23 => ?_)
              refine z_aload_n C 2 dX8_spread_144 rfl rfl rfl ?_
              refine z_get (v := .ref 111) C 19 zOK8 rfl (by decide) w807 rfl rfl dX8_spread_145 rfl ?_
              refine z_iload_n C 4 dX8_spread_148 rfl rfl rfl ?_
              refine z_iload C 1 dX8_spread_149 rfl rfl ?_
              refine z_iload C 0 dX8_spread_151 rfl rfl ?_
              refine z_ci (fun b => b) (fun _ => M23) (fun b hb => z_S (na := 2) C [.int x14, .int x15] rfl (mX8_pixel Y x14 x15 M23 b hb) w986 w987 w88 w988 hdX8_pixel ⟨Nat.le_of_ble_eq_true rfl, Nat.le_of_ble_eq_true rfl⟩ (Nat.le_of_ble_eq_true rfl) rfl dX8_spread_153) rfl (fun b24 => ?_)
              refine z_iastore C 2401 rfl dX8_spread_156 rfl (fun M25 => ?_)
              refine z_iinc (v := (s12.1 + (1 : Int32))) C 4 (fun z => [(2, .int z), (8, .int x15), (7, .int x14), (0, .ref 100), (1, .int x0), (3, .int s5.2.1), (4, .int x9), (5, .int x10), (6, .int s12.2.1)]) dX8_spread_157 rfl rfl (by decide) (fun _ => rfl) rfl (fun x26 => ?_)
              refine z_iinc (v := (s12.2.1 + (1 : Int32))) C 8 (fun z => [(6, .int z), (2, .int x26), (8, .int x15), (7, .int x14), (0, .ref 100), (1, .int x0), (3, .int s5.2.1), (4, .int x9), (5, .int x10)]) dX8_spread_160 rfl rfl (by decide) (fun _ => rfl) rfl (fun x27 => ?_)
              refine z_goto C dX8_spread_163 rfl ?_
              exact z_perm [4, 5, 1, 6, 7, 8, 0] rfl (hr11 (x26, x27, M25))
  exact key b hF
set_option maxRecDepth 100000 in
set_option maxHeartbeats 4000000 in
theorem mX8_findGroups (Y : zY) (M : zMem) (b : zMem) (hF : FX8_findGroups M = some b) : zMt Y yX8_findGroups cX8_findGroups 2 none 4 93 [.ref 100] M (zQv Y b) := by
  refine zMt_of (own := RX8) (by decide +kernel) rfl (Nat.le_of_ble_eq_true rfl) (fun X C => ?_)
  have key : zR Y X 2 (zFv Y X (fun b => b)) (FX8_findGroups M) 0 [(0, .ref 100)] [] M := by
    unfold FX8_findGroups
    refine z_aload_n C 0 dX8_findGroups_0 rfl rfl rfl ?_
    refine z_iconst C (0 : Int32) dX8_findGroups_1 rfl rfl ?_
    refine z_puti C 22 zOK8 rfl (by decide) w810 rfl rfl rfl rfl rfl dX8_findGroups_2 rfl (fun M1 => ?_)
    refine z_iconst C (0 : Int32) dX8_findGroups_5 rfl rfl ?_
    refine z_istoreP_n (lo' := [(1, .int (0 : Int32)), (0, .ref 100)]) C dX8_findGroups_6 rfl (by decide) rfl rfl ?_
    refine z_loop (sM := fun s => s.2) (sl := fun s => [(0, .ref 100), (1, .int s.1)]) [1, 0] rfl rfl (fun r2 hr2 s3 => ?_)
    unfold FX8_findGroups_L7
    refine z_iload_n C 1 dX8_findGroups_7 rfl rfl rfl ?_
    refine z_sipush C (2401 : Int32) dX8_findGroups_8 rfl rfl ?_
    refine z_icmpge C dX8_findGroups_11 rfl rfl ?_ ?_
    · refine z_iconst C (0 : Int32) dX8_findGroups_28 rfl rfl ?_
      refine z_istoreP_n (lo' := [(1, .int (0 : Int32)), (0, .ref 100)]) C dX8_findGroups_29 rfl (by decide) rfl rfl ?_
      refine z_loop (sM := fun s => s.2) (sl := fun s => [(0, .ref 100), (1, .int s.1)]) [1, 0] rfl rfl (fun r4 hr4 s5 => ?_)
      unfold FX8_findGroups_L30
      refine z_iload_n C 1 dX8_findGroups_30 rfl rfl rfl ?_
      refine z_sipush C (2401 : Int32) dX8_findGroups_31 rfl rfl ?_
      refine z_icmpge C dX8_findGroups_34 rfl rfl ?_ ?_
      · exact z_vret C rfl dX8_findGroups_68
      · refine z_aload_n C 0 dX8_findGroups_37 rfl rfl rfl ?_
        refine z_get (v := .ref 109) C 17 zOK8 rfl (by decide) w805 rfl rfl dX8_findGroups_38 rfl ?_
        refine z_iload_n C 1 dX8_findGroups_41 rfl rfl rfl ?_
        refine z_zaload C 2401 rfl dX8_findGroups_42 rfl ?_
        refine z_ifeq C dX8_findGroups_43 rfl rfl ?_ ?_
        · refine z_iinc (v := (s5.1 + (1 : Int32))) C 1 (fun z => [(1, .int z), (0, .ref 100)]) dX8_findGroups_62 rfl rfl (by decide) (fun _ => rfl) rfl (fun x6 => ?_)
          refine z_goto C dX8_findGroups_65 rfl ?_
          exact z_perm [1, 0] rfl (hr4 (x6, s5.2))
        · refine z_aload_n C 0 dX8_findGroups_46 rfl rfl rfl ?_
          refine z_get (v := .ref 110) C 18 zOK8 rfl (by decide) w806 rfl rfl dX8_findGroups_47 rfl ?_
          refine z_iload_n C 1 dX8_findGroups_50 rfl rfl rfl ?_
          refine z_iaload C 2401 rfl dX8_findGroups_51 rfl ?_
          refine z_bipush C (-9 : Int32) dX8_findGroups_52 rfl rfl ?_
          refine z_icmpne C dX8_findGroups_54 rfl rfl ?_ ?_
          · refine z_iinc (v := (s5.1 + (1 : Int32))) C 1 (fun z => [(1, .int z), (0, .ref 100)]) dX8_findGroups_62 rfl rfl (by decide) (fun _ => rfl) rfl (fun x7 => ?_)
            refine z_goto C dX8_findGroups_65 rfl ?_
            exact z_perm [1, 0] rfl (hr4 (x7, s5.2))
          · refine z_aload_n C 0 dX8_findGroups_57 rfl rfl rfl ?_
            refine z_iload_n C 1 dX8_findGroups_58 rfl rfl rfl ?_
            refine z_cv (fun b => b) (fun b hb => z_V (na := 1) (ci := 8) (r := (RX8, TX8, 34)) C [.int s5.1] rfl (mX8_spread Y s5.1 s5.2 b hb) rfl rfl w979 w981 w58 w88 w982 hdX8_spread ⟨Nat.le_of_ble_eq_true rfl, Nat.le_of_ble_eq_true rfl⟩ (Nat.le_of_ble_eq_true rfl) rfl dX8_findGroups_59) rfl (fun b8 => ?_)
            refine z_iinc (v := (s5.1 + (1 : Int32))) C 1 (fun z => [(1, .int z), (0, .ref 100)]) dX8_findGroups_62 rfl rfl (by decide) (fun _ => rfl) rfl (fun x9 => ?_)
            refine z_goto C dX8_findGroups_65 rfl ?_
            exact z_perm [1, 0] rfl (hr4 (x9, b8))
    · refine z_aload_n C 0 dX8_findGroups_14 rfl rfl rfl ?_
      refine z_get (v := .ref 110) C 18 zOK8 rfl (by decide) w806 rfl rfl dX8_findGroups_15 rfl ?_
      refine z_iload_n C 1 dX8_findGroups_18 rfl rfl rfl ?_
      refine z_bipush C (-9 : Int32) dX8_findGroups_19 rfl rfl ?_
      refine z_iastore C 2401 rfl dX8_findGroups_21 rfl (fun M10 => ?_)
      refine z_iinc (v := (s3.1 + (1 : Int32))) C 1 (fun z => [(1, .int z), (0, .ref 100)]) dX8_findGroups_22 rfl rfl (by decide) (fun _ => rfl) rfl (fun x11 => ?_)
      refine z_goto C dX8_findGroups_25 rfl ?_
      exact z_perm [1, 0] rfl (hr2 (x11, M10))
  exact key b hF
set_option maxRecDepth 100000 in
set_option maxHeartbeats 4000000 in
theorem mX8_findPictures (Y : zY) (x0 : Int32) (x1 : Int32) (M : zMem) (b : Int32 × zMem) (hF : FX8_findPictures x0 x1 M = some b) : zMt Y yX8_findPictures cX8_findPictures 5 (some .int) 3 77 [.ref 100, .int x0, .int x1] M (zQi Y b.1 b.2) := by
  refine zMt_of (own := RX8) (by decide +kernel) rfl (Nat.le_of_ble_eq_true rfl) (fun X C => ?_)
  have key : zR Y X 5 (zFi Y X (fun b => b.1) (fun b => b.2)) (FX8_findPictures x0 x1 M) 0 [(0, .ref 100), (1, .int x0), (2, .int x1)] [] M := by
    unfold FX8_findPictures
    refine z_aload_n C 0 dX8_findPictures_0 rfl rfl rfl ?_
    refine z_cv (fun b => b) (fun b hb => z_V (na := 0) (ci := 8) (r := (RX8, TX8, 34)) C [] rfl (mX8_findPlane Y M b hb) rfl rfl w960 w962 w54 w88 w963 hdX8_findPlane ⟨Nat.le_of_ble_eq_true rfl, Nat.le_of_ble_eq_true rfl⟩ (Nat.le_of_ble_eq_true rfl) rfl dX8_findPictures_1) rfl (fun b3 => ?_)
    refine z_iconst C (0 : Int32) dX8_findPictures_4 rfl rfl ?_
    refine z_istoreP_n (lo' := [(3, .int (0 : Int32)), (0, .ref 100), (1, .int x0), (2, .int x1)]) C dX8_findPictures_5 rfl (by decide) rfl rfl ?_
    refine z_iconst C (0 : Int32) dX8_findPictures_6 rfl rfl ?_
    refine z_istoreP (lo' := [(4, .int (0 : Int32)), (3, .int (0 : Int32)), (0, .ref 100), (1, .int x0), (2, .int x1)]) C dX8_findPictures_7 (by decide) rfl rfl ?_
    refine z_loop (sM := fun s => s.2.2) (sl := fun s => [(0, .ref 100), (1, .int x0), (2, .int x1), (3, .int s.1), (4, .int s.2.1)]) [2, 3, 4, 1, 0] rfl rfl (fun r4 hr4 s5 => ?_)
    unfold FX8_findPictures_L9
    refine z_iload C 4 dX8_findPictures_9 rfl rfl ?_
    refine z_sipush C (2401 : Int32) dX8_findPictures_11 rfl rfl ?_
    refine z_icmpge C dX8_findPictures_14 rfl rfl ?_ ?_
    · refine z_iload_n C 3 dX8_findPictures_101 rfl rfl rfl ?_
      exact z_iret C rfl rfl dX8_findPictures_102
    · refine z_aload_n C 0 dX8_findPictures_17 rfl rfl rfl ?_
      refine z_get (v := .ref 109) C 17 zOK8 rfl (by decide) w805 rfl rfl dX8_findPictures_18 rfl ?_
      refine z_iload C 4 dX8_findPictures_21 rfl rfl ?_
      refine z_aload_n C 0 dX8_findPictures_23 rfl rfl rfl ?_
      refine z_iload C 4 dX8_findPictures_24 rfl rfl ?_
      refine z_bipush C (49 : Int32) dX8_findPictures_26 rfl rfl ?_
      refine z_iremK C dX8_findPictures_28 (by decide) rfl ?_
      refine z_bipush C (24 : Int32) dX8_findPictures_29 rfl rfl ?_
      refine z_isub C dX8_findPictures_31 rfl ?_
      refine z_iload C 4 dX8_findPictures_32 rfl rfl ?_
      refine z_bipush C (49 : Int32) dX8_findPictures_34 rfl rfl ?_
      refine z_idivK C dX8_findPictures_36 (by decide) rfl ?_
      refine z_bipush C (24 : Int32) dX8_findPictures_37 rfl rfl ?_
      refine z_isub C dX8_findPictures_39 rfl ?_
      refine z_ci (fun b => b) (fun _ => s5.2.2) (fun b hb => z_V (na := 2) (ci := 8) (r := (RX8, TX8, 34)) C [.int ((zrem s5.2.1 (49 : Int32)) - (24 : Int32)), .int ((s5.2.1 / (49 : Int32)) - (24 : Int32))] rfl (mX8_cellX Y ((zrem s5.2.1 (49 : Int32)) - (24 : Int32)) ((s5.2.1 / (49 : Int32)) - (24 : Int32)) s5.2.2 b hb) rfl rfl w967 w969 w55 w88 w970 hdX8_cellX ⟨Nat.le_of_ble_eq_true rfl, Nat.le_of_ble_eq_true rfl⟩ (Nat.le_of_ble_eq_true rfl) rfl dX8_findPictures_40) rfl (fun b6 => ?_)
      refine z_iload_n C 1 dX8_findPictures_43 rfl rfl rfl ?_
      refine z_join (fun k8 => ∀ (x7 : Int32), zR Y X 5 (zFi Y X (fun b => b.1) (fun b => b.2)) (k8 x7) 76 [(0, .ref 100), (1, .int x0), (2, .int x1), (3, .int s5.1), (4, .int s5.2.1)] [.int x7, .int s5.2.1, .ref 109] s5.2.2) (fun x7 => ?_) (fun k8 hk8 => ?_)
      · refine z_zastore C 2401 rfl dX8_findPictures_76 rfl (fun M9 => ?_)
        refine z_iload_n C 3 dX8_findPictures_77 rfl rfl rfl ?_
        refine z_aload_n C 0 dX8_findPictures_78 rfl rfl rfl ?_
        refine z_get (v := .ref 109) C 17 zOK8 rfl (by decide) w805 rfl rfl dX8_findPictures_79 rfl ?_
        refine z_iload C 4 dX8_findPictures_82 rfl rfl ?_
        refine z_zaload C 2401 rfl dX8_findPictures_84 rfl ?_
        refine z_join (fun k11 => ∀ (x10 : Int32), zR Y X 5 (zFi Y X (fun b => b.1) (fun b => b.2)) (k11 x10) 93 [(0, .ref 100), (1, .int x0), (2, .int x1), (4, .int s5.2.1)] [.int x10, .int s5.1] M9) (fun x10 => ?_) (fun k11 hk11 => ?_)
        · refine z_iadd C dX8_findPictures_93 rfl ?_
          refine z_istore_n C (fun z => [(3, .int z), (0, .ref 100), (1, .int x0), (2, .int x1), (4, .int s5.2.1)]) dX8_findPictures_94 rfl (by decide) (fun _ => rfl) rfl (fun x12 => ?_)
          refine z_iinc (v := (s5.2.1 + (1 : Int32))) C 4 (fun z => [(4, .int z), (3, .int x12), (0, .ref 100), (1, .int x0), (2, .int x1)]) dX8_findPictures_95 rfl rfl (by decide) (fun _ => rfl) rfl (fun x13 => ?_)
          refine z_goto C dX8_findPictures_98 rfl ?_
          exact z_perm [2, 3, 4, 1, 0] rfl (hr4 (x12, x13, M9))
        · refine z_ifeq C dX8_findPictures_85 rfl rfl ?_ ?_
          · refine z_iconst C (0 : Int32) dX8_findPictures_92 rfl rfl ?_
            exact z_perm [0, 1, 2, 4] rfl (hk11 (0 : Int32))
          · refine z_iconst C (1 : Int32) dX8_findPictures_88 rfl rfl ?_
            refine z_goto C dX8_findPictures_89 rfl ?_
            exact z_perm [0, 1, 2, 4] rfl (hk11 (1 : Int32))
      · refine z_join (fun k15 => ∀ (u14 : Unit), zR Y X 5 (zFi Y X (fun b => b.1) (fun b => b.2)) (k15 u14) 75 [(0, .ref 100), (1, .int x0), (2, .int x1), (3, .int s5.1), (4, .int s5.2.1)] [.int s5.2.1, .ref 109] s5.2.2) (fun u14 => ?_) (fun k15 hk15 => ?_)
        · refine z_iconst C (0 : Int32) dX8_findPictures_75 rfl rfl ?_
          exact z_perm [0, 1, 2, 3, 4] rfl (hk8 (0 : Int32))
        · refine z_icmpne C dX8_findPictures_44 rfl rfl ?_ ?_
          · exact z_perm [0, 1, 2, 3, 4] rfl (hk15 ())
          · refine z_aload_n C 0 dX8_findPictures_47 rfl rfl rfl ?_
            refine z_iload C 4 dX8_findPictures_48 rfl rfl ?_
            refine z_bipush C (49 : Int32) dX8_findPictures_50 rfl rfl ?_
            refine z_iremK C dX8_findPictures_52 (by decide) rfl ?_
            refine z_bipush C (24 : Int32) dX8_findPictures_53 rfl rfl ?_
            refine z_isub C dX8_findPictures_55 rfl ?_
            refine z_iload C 4 dX8_findPictures_56 rfl rfl ?_
            refine z_bipush C (49 : Int32) dX8_findPictures_58 rfl rfl ?_
            refine z_idivK C dX8_findPictures_60 (by decide) rfl ?_
            refine z_bipush C (24 : Int32) dX8_findPictures_61 rfl rfl ?_
            refine z_isub C dX8_findPictures_63 rfl ?_
            refine z_ci (fun b => b) (fun _ => s5.2.2) (fun b hb => z_V (na := 2) (ci := 8) (r := (RX8, TX8, 34)) C [.int ((zrem s5.2.1 (49 : Int32)) - (24 : Int32)), .int ((s5.2.1 / (49 : Int32)) - (24 : Int32))] rfl (mX8_cellY Y ((zrem s5.2.1 (49 : Int32)) - (24 : Int32)) ((s5.2.1 / (49 : Int32)) - (24 : Int32)) s5.2.2 b hb) rfl rfl w971 w973 w56 w88 w974 hdX8_cellY ⟨Nat.le_of_ble_eq_true rfl, Nat.le_of_ble_eq_true rfl⟩ (Nat.le_of_ble_eq_true rfl) rfl dX8_findPictures_64) rfl (fun b16 => ?_)
            refine z_iload_n C 2 dX8_findPictures_67 rfl rfl rfl ?_
            refine z_icmpne C dX8_findPictures_68 rfl rfl ?_ ?_
            · exact z_perm [0, 1, 2, 3, 4] rfl (hk15 ())
            · refine z_iconst C (1 : Int32) dX8_findPictures_71 rfl rfl ?_
              refine z_goto C dX8_findPictures_72 rfl ?_
              exact z_perm [0, 1, 2, 3, 4] rfl (hk8 (1 : Int32))
  exact key b hF
set_option maxRecDepth 100000 in
set_option maxHeartbeats 4000000 in
theorem mX8_pictures (Y : zY) (x0 : Int32) (x1 : Int32) (x2 : Int32) (M : zMem) (b : Int32 × zMem) (hF : FX8_pictures x0 x1 x2 M = some b) : zMt Y yX8_pictures cX8_pictures 5 (some .int) 5 114 [.ref 100, .int x0, .int x1, .int x2] M (zQi Y b.1 b.2) := by
  refine zMt_of (own := RX8) (by decide +kernel) rfl (Nat.le_of_ble_eq_true rfl) (fun X C => ?_)
  have key : zR Y X 5 (zFi Y X (fun b => b.1) (fun b => b.2)) (FX8_pictures x0 x1 x2 M) 0 [(0, .ref 100), (1, .int x0), (2, .int x1), (3, .int x2)] [] M := by
    unfold FX8_pictures
    refine z_iload_n C 1 dX8_pictures_0 rfl rfl rfl ?_
    refine z_iload_n C 2 dX8_pictures_1 rfl rfl rfl ?_
    refine z_bipush C (99 : Int32) dX8_pictures_2 rfl rfl ?_
    refine z_ci (fun b => b) (fun _ => M) (fun b hb => z_S (na := 3) C [.int x0, .int x1, .int (99 : Int32)] rfl (mX8_isNear Y x0 x1 (99 : Int32) M b hb) w899 w900 w88 w901 hdX8_isNear ⟨Nat.le_of_ble_eq_true rfl, Nat.le_of_ble_eq_true rfl⟩ (Nat.le_of_ble_eq_true rfl) rfl dX8_pictures_4) rfl (fun b4 => ?_)
    refine z_ifeq C dX8_pictures_7 rfl rfl ?_ ?_
    · refine z_iconst C (-1 : Int32) dX8_pictures_19 rfl rfl ?_
      exact z_iret C rfl rfl dX8_pictures_20
    · refine z_iload_n C 3 dX8_pictures_10 rfl rfl rfl ?_
      refine z_iconst C (0 : Int32) dX8_pictures_11 rfl rfl ?_
      refine z_iconst C (1 : Int32) dX8_pictures_12 rfl rfl ?_
      refine z_ci (fun b => b) (fun _ => M) (fun b hb => z_S (na := 3) C [.int x2, .int (0 : Int32), .int (1 : Int32)] rfl (mX8_in Y x2 (0 : Int32) (1 : Int32) M b hb) w896 w897 w88 w898 hdX8_in ⟨Nat.le_of_ble_eq_true rfl, Nat.le_of_ble_eq_true rfl⟩ (Nat.le_of_ble_eq_true rfl) rfl dX8_pictures_13) rfl (fun b5 => ?_)
      refine z_ifne C dX8_pictures_16 rfl rfl ?_ ?_
      · refine z_aload_n C 0 dX8_pictures_21 rfl rfl rfl ?_
        refine z_iload_n C 1 dX8_pictures_22 rfl rfl rfl ?_
        refine z_iload_n C 2 dX8_pictures_23 rfl rfl rfl ?_
        refine z_ci (fun b => b.1) (fun b => b.2) (fun b hb => z_V (na := 2) (ci := 8) (r := (RX8, TX8, 34)) C [.int x0, .int x1] rfl (mX8_findPictures Y x0 x1 M b hb) rfl rfl w956 w958 w53 w88 w959 hdX8_findPictures ⟨Nat.le_of_ble_eq_true rfl, Nat.le_of_ble_eq_true rfl⟩ (Nat.le_of_ble_eq_true rfl) rfl dX8_pictures_24) rfl (fun b6 => ?_)
        refine z_istoreP (lo' := [(4, .int b6.1), (0, .ref 100), (1, .int x0), (2, .int x1), (3, .int x2)]) C dX8_pictures_27 (by decide) rfl rfl ?_
        refine z_aload_n C 1 dX8_pictures_29 rfl rfl rfl ?_
        refine z_cv (fun b => b) (fun b hb => z_V (na := 0) (ci := 8) (r := (RX8, TX8, 34)) C [] rfl (mX8_findGroups Y b6.2 b hb) rfl rfl w975 w977 w57 w88 w978 hdX8_findGroups ⟨Nat.le_of_ble_eq_true rfl, Nat.le_of_ble_eq_true rfl⟩ (Nat.le_of_ble_eq_true rfl) rfl dX8_pictures_30) rfl (fun b7 => ?_)
        refine z_iload_n C 4 dX8_pictures_33 rfl rfl rfl ?_
        refine z_ifne C dX8_pictures_34 rfl rfl ?_ ?_
        · refine z_aload_n C 1 dX8_pictures_42 rfl rfl rfl ?_
          refine z_get (v := .int (b7.1 100 22)) C 22 zOK8 rfl (by decide) w810 rfl rfl dX8_pictures_43 rfl ?_
          exact z_iret C rfl rfl dX8_pictures_46
        · refine z_iload C 0 dX8_pictures_37 rfl rfl ?_
          refine z_goto C dX8_pictures_39 rfl ?_
          exact z_iret C rfl rfl dX8_pictures_46
      · refine z_iconst C (-1 : Int32) dX8_pictures_19 rfl rfl ?_
        exact z_iret C rfl rfl dX8_pictures_20
  exact key b hF
set_option maxRecDepth 100000 in
set_option maxHeartbeats 4000000 in
theorem mX8_group (Y : zY) (x0 : Int32) (x1 : Int32) (x2 : Int32) (x3 : Int32) (M : zMem) (b : Int32 × zMem) (hF : FX8_group x0 x1 x2 x3 M = some b) : zMt Y yX8_group cX8_group 8 (some .int) 5 114 [.ref 100, .int x0, .int x1, .int x2, .int x3] M (zQi Y b.1 b.2) := by
  refine zMt_of (own := RX8) (by decide +kernel) rfl (Nat.le_of_ble_eq_true rfl) (fun X C => ?_)
  have key : zR Y X 8 (zFi Y X (fun b => b.1) (fun b => b.2)) (FX8_group x0 x1 x2 x3 M) 0 [(0, .ref 100), (1, .int x0), (2, .int x1), (3, .int x2), (4, .int x3)] [] M := by
    unfold FX8_group
    refine z_iload_n C 1 dX8_group_0 rfl rfl rfl ?_
    refine z_iload_n C 2 dX8_group_1 rfl rfl rfl ?_
    refine z_bipush C (99 : Int32) dX8_group_2 rfl rfl ?_
    refine z_ci (fun b => b) (fun _ => M) (fun b hb => z_S (na := 3) C [.int x0, .int x1, .int (99 : Int32)] rfl (mX8_isNear Y x0 x1 (99 : Int32) M b hb) w899 w900 w88 w901 hdX8_isNear ⟨Nat.le_of_ble_eq_true rfl, Nat.le_of_ble_eq_true rfl⟩ (Nat.le_of_ble_eq_true rfl) rfl dX8_group_4) rfl (fun b5 => ?_)
    refine z_ifeq C dX8_group_7 rfl rfl ?_ ?_
    · refine z_ldc C w913 dX8_group_24 rfl ?_
      exact z_iret C rfl rfl dX8_group_26
    · refine z_iload C 4 dX8_group_10 rfl rfl ?_
      refine z_iconst C (0 : Int32) dX8_group_12 rfl rfl ?_
      refine z_iconst C (3 : Int32) dX8_group_13 rfl rfl ?_
      refine z_ci (fun b => b) (fun _ => M) (fun b hb => z_S (na := 3) C [.int x3, .int (0 : Int32), .int (3 : Int32)] rfl (mX8_in Y x3 (0 : Int32) (3 : Int32) M b hb) w896 w897 w88 w898 hdX8_in ⟨Nat.le_of_ble_eq_true rfl, Nat.le_of_ble_eq_true rfl⟩ (Nat.le_of_ble_eq_true rfl) rfl dX8_group_14) rfl (fun b6 => ?_)
      refine z_ifeq C dX8_group_17 rfl rfl ?_ ?_
      · refine z_ldc C w913 dX8_group_24 rfl ?_
        exact z_iret C rfl rfl dX8_group_26
      · refine z_iload_n C 3 dX8_group_20 rfl rfl rfl ?_
        refine z_ifge C dX8_group_21 rfl rfl ?_ ?_
        · refine z_aload_n C 0 dX8_group_27 rfl rfl rfl ?_
          refine z_iload_n C 1 dX8_group_28 rfl rfl rfl ?_
          refine z_iload_n C 2 dX8_group_29 rfl rfl rfl ?_
          refine z_ci (fun b => b.1) (fun b => b.2) (fun b hb => z_V (na := 2) (ci := 8) (r := (RX8, TX8, 34)) C [.int x0, .int x1] rfl (mX8_findPictures Y x0 x1 M b hb) rfl rfl w956 w958 w53 w88 w959 hdX8_findPictures ⟨Nat.le_of_ble_eq_true rfl, Nat.le_of_ble_eq_true rfl⟩ (Nat.le_of_ble_eq_true rfl) rfl dX8_group_30) rfl (fun b7 => ?_)
          refine z_istoreP (lo' := [(5, .int b7.1), (0, .ref 100), (1, .int x0), (2, .int x1), (3, .int x2), (4, .int x3)]) C dX8_group_33 (by decide) rfl rfl ?_
          refine z_aload_n C 1 dX8_group_35 rfl rfl rfl ?_
          refine z_cv (fun b => b) (fun b hb => z_V (na := 0) (ci := 8) (r := (RX8, TX8, 34)) C [] rfl (mX8_findGroups Y b7.2 b hb) rfl rfl w975 w977 w57 w88 w978 hdX8_findGroups ⟨Nat.le_of_ble_eq_true rfl, Nat.le_of_ble_eq_true rfl⟩ (Nat.le_of_ble_eq_true rfl) rfl dX8_group_36) rfl (fun b8 => ?_)
          refine z_iload_n C 4 dX8_group_39 rfl rfl rfl ?_
          refine z_aload_n C 1 dX8_group_40 rfl rfl rfl ?_
          refine z_get (v := .int (b8.1 100 22)) C 22 zOK8 rfl (by decide) w810 rfl rfl dX8_group_41 rfl ?_
          refine z_icmpge C dX8_group_44 rfl rfl ?_ ?_
          · refine z_ldc C w913 dX8_group_52 rfl ?_
            exact z_iret C rfl rfl dX8_group_54
          · refine z_iload C 0 dX8_group_47 rfl rfl ?_
            refine z_ifne C dX8_group_49 rfl rfl ?_ ?_
            · refine z_aload_n C 1 dX8_group_55 rfl rfl rfl ?_
              refine z_get (v := .ref 112) C 20 zOK8 rfl (by decide) w808 rfl rfl dX8_group_56 rfl ?_
              refine z_iload_n C 4 dX8_group_59 rfl rfl rfl ?_
              refine z_iaload C 2401 rfl dX8_group_60 rfl ?_
              refine z_bipush C (49 : Int32) dX8_group_61 rfl rfl ?_
              refine z_iremK C dX8_group_63 (by decide) rfl ?_
              refine z_bipush C (24 : Int32) dX8_group_64 rfl rfl ?_
              refine z_isub C dX8_group_66 rfl ?_
              refine z_istore C (fun z => [(6, .int z), (5, .int b7.1), (0, .ref 100), (1, .int x0), (2, .int x1), (3, .int x2), (4, .int x3)]) dX8_group_67 (by decide) (fun _ => rfl) rfl (fun x9 => ?_)
              refine z_aload_n C 2 dX8_group_69 rfl rfl rfl ?_
              refine z_get (v := .ref 112) C 20 zOK8 rfl (by decide) w808 rfl rfl dX8_group_70 rfl ?_
              refine z_iload_n C 5 dX8_group_73 rfl rfl rfl ?_
              refine z_iaload C 2401 rfl dX8_group_74 rfl ?_
              refine z_bipush C (49 : Int32) dX8_group_75 rfl rfl ?_
              refine z_idivK C dX8_group_77 (by decide) rfl ?_
              refine z_bipush C (24 : Int32) dX8_group_78 rfl rfl ?_
              refine z_isub C dX8_group_80 rfl ?_
              refine z_istore C (fun z => [(7, .int z), (6, .int x9), (5, .int b7.1), (0, .ref 100), (1, .int x0), (2, .int x1), (3, .int x2), (4, .int x3)]) dX8_group_81 (by decide) (fun _ => rfl) rfl (fun x10 => ?_)
              refine z_iload C 7 dX8_group_83 rfl rfl ?_
              refine z_ifne C dX8_group_85 rfl rfl ?_ ?_
              · refine z_iload C 7 dX8_group_93 rfl rfl ?_
                refine z_iconst C (1 : Int32) dX8_group_95 rfl rfl ?_
                refine z_icmpne C dX8_group_96 rfl rfl ?_ ?_
                · refine z_iload C 7 dX8_group_104 rfl rfl ?_
                  refine z_iconst C (2 : Int32) dX8_group_106 rfl rfl ?_
                  refine z_icmpne C dX8_group_107 rfl rfl ?_ ?_
                  · refine z_aload_n C 3 dX8_group_119 rfl rfl rfl ?_
                    refine z_iload C 1 dX8_group_120 rfl rfl ?_
                    refine z_iload C 0 dX8_group_122 rfl rfl ?_
                    refine z_ci (fun b => b) (fun _ => b8) (fun b hb => z_V (na := 2) (ci := 8) (r := (RX8, TX8, 34)) C [.int x9, .int x10] rfl (mX8_parityOf Y x9 x10 b8 b hb) rfl rfl w993 w995 w59 w88 w996 hdX8_parityOf ⟨Nat.le_of_ble_eq_true rfl, Nat.le_of_ble_eq_true rfl⟩ (Nat.le_of_ble_eq_true rfl) rfl dX8_group_124) rfl (fun b11 => ?_)
                    exact z_iret C rfl rfl dX8_group_127
                  · refine z_aload_n C 3 dX8_group_110 rfl rfl rfl ?_
                    refine z_get (v := .ref 113) C 21 zOK8 rfl (by decide) w809 rfl rfl dX8_group_111 rfl ?_
                    refine z_iload_n C 6 dX8_group_114 rfl rfl rfl ?_
                    refine z_iaload C 2401 rfl dX8_group_115 rfl ?_
                    refine z_goto C dX8_group_116 rfl ?_
                    exact z_iret C rfl rfl dX8_group_127
                · refine z_iload C 0 dX8_group_99 rfl rfl ?_
                  refine z_goto C dX8_group_101 rfl ?_
                  exact z_iret C rfl rfl dX8_group_127
              · refine z_iload C 1 dX8_group_88 rfl rfl ?_
                refine z_goto C dX8_group_90 rfl ?_
                exact z_iret C rfl rfl dX8_group_127
            · refine z_ldc C w913 dX8_group_52 rfl ?_
              exact z_iret C rfl rfl dX8_group_54
        · refine z_ldc C w913 dX8_group_24 rfl ?_
          exact z_iret C rfl rfl dX8_group_26
  exact key b hF
set_option maxRecDepth 100000 in
set_option maxHeartbeats 4000000 in
theorem mX8_parity (Y : zY) (x0 : Int32) (x1 : Int32) (M : zMem) (b : Int32 × zMem) (hF : FX8_parity x0 x1 M = some b) : zMt Y yX8_parity cX8_parity 3 (some .int) 3 79 [.ref 100, .int x0, .int x1] M (zQi Y b.1 b.2) := by
  refine zMt_of (own := RX8) (by decide +kernel) rfl (Nat.le_of_ble_eq_true rfl) (fun X C => ?_)
  have key : zR Y X 3 (zFi Y X (fun b => b.1) (fun b => b.2)) (FX8_parity x0 x1 M) 0 [(0, .ref 100), (1, .int x0), (2, .int x1)] [] M := by
    unfold FX8_parity
    refine z_iload_n C 1 dX8_parity_0 rfl rfl rfl ?_
    refine z_iload_n C 2 dX8_parity_1 rfl rfl rfl ?_
    refine z_ci (fun b => b) (fun _ => M) (fun b hb => z_S (na := 2) C [.int x0, .int x1] rfl (mX8_isPixel Y x0 x1 M b hb) w983 w984 w88 w985 hdX8_isPixel ⟨Nat.le_of_ble_eq_true rfl, Nat.le_of_ble_eq_true rfl⟩ (Nat.le_of_ble_eq_true rfl) rfl dX8_parity_2) rfl (fun b3 => ?_)
    refine z_ifne C dX8_parity_5 rfl rfl ?_ ?_
    · refine z_aload_n C 0 dX8_parity_11 rfl rfl rfl ?_
      refine z_iload_n C 1 dX8_parity_12 rfl rfl rfl ?_
      refine z_iload_n C 2 dX8_parity_13 rfl rfl rfl ?_
      refine z_cv (fun b => b) (fun b hb => z_V (na := 2) (ci := 8) (r := (RX8, TX8, 34)) C [.int x0, .int x1] rfl (mX8_findAround Y x0 x1 M b hb) rfl rfl w1004 w1006 w60 w88 w1007 hdX8_findAround ⟨Nat.le_of_ble_eq_true rfl, Nat.le_of_ble_eq_true rfl⟩ (Nat.le_of_ble_eq_true rfl) rfl dX8_parity_14) rfl (fun b4 => ?_)
      refine z_aload_n C 0 dX8_parity_17 rfl rfl rfl ?_
      refine z_iload_n C 1 dX8_parity_18 rfl rfl rfl ?_
      refine z_iload_n C 2 dX8_parity_19 rfl rfl rfl ?_
      refine z_ci (fun b => b) (fun _ => b4) (fun b hb => z_V (na := 2) (ci := 8) (r := (RX8, TX8, 34)) C [.int x0, .int x1] rfl (mX8_parityOf Y x0 x1 b4 b hb) rfl rfl w993 w995 w59 w88 w996 hdX8_parityOf ⟨Nat.le_of_ble_eq_true rfl, Nat.le_of_ble_eq_true rfl⟩ (Nat.le_of_ble_eq_true rfl) rfl dX8_parity_20) rfl (fun b5 => ?_)
      exact z_iret C rfl rfl dX8_parity_23
    · refine z_ldc C w913 dX8_parity_8 rfl ?_
      exact z_iret C rfl rfl dX8_parity_10
  exact key b hF
set_option maxRecDepth 100000 in
set_option maxHeartbeats 4000000 in
theorem mX8_criticalNow (Y : zY) (x0 : Int32) (x1 : Int32) (M : zMem) (b : Int32) (hF : FX8_criticalNow x0 x1 M = some b) : zMt Y yX8_criticalNow cX8_criticalNow 5 (some .boolean) 2 51 [.ref 100, .int x0, .int x1] M (zQi Y b M) := by
  refine zMt_of (own := RX8) (by decide +kernel) rfl (Nat.le_of_ble_eq_true rfl) (fun X C => ?_)
  have key : zR Y X 5 (zFi Y X (fun b => b) (fun _ => M)) (FX8_criticalNow x0 x1 M) 0 [(0, .ref 100), (1, .int x0), (2, .int x1)] [] M := by
    unfold FX8_criticalNow
    refine z_aload_n C 0 dX8_criticalNow_0 rfl rfl rfl ?_
    refine z_iload_n C 1 dX8_criticalNow_1 rfl rfl rfl ?_
    refine z_iload_n C 2 dX8_criticalNow_2 rfl rfl rfl ?_
    refine z_ci (fun b => b) (fun _ => M) (fun b hb => z_V (na := 2) (ci := 8) (r := (RX8, TX8, 34)) C [.int x0, .int x1] rfl (mX8_parityOf Y x0 x1 M b hb) rfl rfl w993 w995 w59 w88 w996 hdX8_parityOf ⟨Nat.le_of_ble_eq_true rfl, Nat.le_of_ble_eq_true rfl⟩ (Nat.le_of_ble_eq_true rfl) rfl dX8_criticalNow_3) rfl (fun b3 => ?_)
    refine z_istoreP_n (lo' := [(3, .int b3), (0, .ref 100), (1, .int x0), (2, .int x1)]) C dX8_criticalNow_6 rfl (by decide) rfl rfl ?_
    refine z_iload_n C 2 dX8_criticalNow_7 rfl rfl rfl ?_
    refine z_bipush C (24 : Int32) dX8_criticalNow_8 rfl rfl ?_
    refine z_join (fun k5 => ∀ (x4 : Int32), zR Y X 5 (zFi Y X (fun b => b) (fun _ => M)) (k5 x4) 30 [(0, .ref 100), (1, .int x0), (2, .int x1), (3, .int b3)] [.int x4] M) (fun x4 => ?_) (fun k5 hk5 => ?_)
    · refine z_istoreP (lo' := [(4, .int x4), (0, .ref 100), (1, .int x0), (2, .int x1), (3, .int b3)]) C dX8_criticalNow_30 (by decide) rfl rfl ?_
      refine z_iload C 0 dX8_criticalNow_32 rfl rfl ?_
      refine z_join (fun k7 => ∀ (u6 : Unit), zR Y X 5 (zFi Y X (fun b => b) (fun _ => M)) (k7 u6) 55 [] [] M) (fun u6 => ?_) (fun k7 hk7 => ?_)
      · refine z_iconst C (1 : Int32) dX8_criticalNow_55 rfl rfl ?_
        refine z_goto C dX8_criticalNow_56 rfl ?_
        exact z_zretK C rfl rfl rfl dX8_criticalNow_60
      · refine z_ifne C dX8_criticalNow_34 rfl rfl ?_ ?_
        · exact z_perm [] rfl (hk7 ())
        · refine z_iload_n C 3 dX8_criticalNow_37 rfl rfl rfl ?_
          refine z_bipush C (24 : Int32) dX8_criticalNow_38 rfl rfl ?_
          refine z_icmpge C dX8_criticalNow_40 rfl rfl ?_ ?_
          · refine z_iconst C (0 : Int32) dX8_criticalNow_59 rfl rfl ?_
            exact z_zretK C rfl rfl rfl dX8_criticalNow_60
          · refine z_aload_n C 1 dX8_criticalNow_43 rfl rfl rfl ?_
            refine z_iload_n C 2 dX8_criticalNow_44 rfl rfl rfl ?_
            refine z_iload_n C 3 dX8_criticalNow_45 rfl rfl rfl ?_
            refine z_iconst C (1 : Int32) dX8_criticalNow_46 rfl rfl ?_
            refine z_iadd C dX8_criticalNow_47 rfl ?_
            refine z_ci (fun b => b) (fun _ => M) (fun b hb => z_V (na := 2) (ci := 8) (r := (RX8, TX8, 34)) C [.int x0, .int (x1 + (1 : Int32))] rfl (mX8_parityOf Y x0 (x1 + (1 : Int32)) M b hb) rfl rfl w993 w995 w59 w88 w996 hdX8_parityOf ⟨Nat.le_of_ble_eq_true rfl, Nat.le_of_ble_eq_true rfl⟩ (Nat.le_of_ble_eq_true rfl) rfl dX8_criticalNow_48) rfl (fun b8 => ?_)
            refine z_iload_n C 4 dX8_criticalNow_51 rfl rfl rfl ?_
            refine z_icmpeq C dX8_criticalNow_52 rfl rfl ?_ ?_
            · refine z_iconst C (0 : Int32) dX8_criticalNow_59 rfl rfl ?_
              exact z_zretK C rfl rfl rfl dX8_criticalNow_60
            · exact z_perm [] rfl (hk7 ())
    · refine z_join (fun k10 => ∀ (u9 : Unit), zR Y X 5 (zFi Y X (fun b => b) (fun _ => M)) (k10 u9) 29 [(0, .ref 100), (1, .int x0), (2, .int x1), (3, .int b3)] [] M) (fun u9 => ?_) (fun k10 hk10 => ?_)
      · refine z_iconst C (0 : Int32) dX8_criticalNow_29 rfl rfl ?_
        exact z_perm [0, 1, 2, 3] rfl (hk5 (0 : Int32))
      · refine z_icmpge C dX8_criticalNow_10 rfl rfl ?_ ?_
        · exact z_perm [1, 2, 3, 0] rfl (hk10 ())
        · refine z_aload_n C 1 dX8_criticalNow_13 rfl rfl rfl ?_
          refine z_iload_n C 2 dX8_criticalNow_14 rfl rfl rfl ?_
          refine z_iconst C (1 : Int32) dX8_criticalNow_15 rfl rfl ?_
          refine z_iadd C dX8_criticalNow_16 rfl ?_
          refine z_iload_n C 3 dX8_criticalNow_17 rfl rfl rfl ?_
          refine z_ci (fun b => b) (fun _ => M) (fun b hb => z_V (na := 2) (ci := 8) (r := (RX8, TX8, 34)) C [.int (x0 + (1 : Int32)), .int x1] rfl (mX8_parityOf Y (x0 + (1 : Int32)) x1 M b hb) rfl rfl w993 w995 w59 w88 w996 hdX8_parityOf ⟨Nat.le_of_ble_eq_true rfl, Nat.le_of_ble_eq_true rfl⟩ (Nat.le_of_ble_eq_true rfl) rfl dX8_criticalNow_18) rfl (fun b11 => ?_)
          refine z_iload_n C 0 dX8_criticalNow_21 rfl rfl rfl ?_
          refine z_icmpeq C dX8_criticalNow_22 rfl rfl ?_ ?_
          · exact z_perm [1, 2, 3, 0] rfl (hk10 ())
          · refine z_iconst C (1 : Int32) dX8_criticalNow_25 rfl rfl ?_
            refine z_goto C dX8_criticalNow_26 rfl ?_
            exact z_perm [1, 2, 3, 0] rfl (hk5 (1 : Int32))
  exact key b hF
set_option maxRecDepth 100000 in
set_option maxHeartbeats 4000000 in
theorem mX8_critical (Y : zY) (x0 : Int32) (x1 : Int32) (M : zMem) (b : Int32 × zMem) (hF : FX8_critical x0 x1 M = some b) : zMt Y yX8_critical cX8_critical 3 (some .int) 3 79 [.ref 100, .int x0, .int x1] M (zQi Y b.1 b.2) := by
  refine zMt_of (own := RX8) (by decide +kernel) rfl (Nat.le_of_ble_eq_true rfl) (fun X C => ?_)
  have key : zR Y X 3 (zFi Y X (fun b => b.1) (fun b => b.2)) (FX8_critical x0 x1 M) 0 [(0, .ref 100), (1, .int x0), (2, .int x1)] [] M := by
    unfold FX8_critical
    refine z_iload_n C 1 dX8_critical_0 rfl rfl rfl ?_
    refine z_iload_n C 2 dX8_critical_1 rfl rfl rfl ?_
    refine z_ci (fun b => b) (fun _ => M) (fun b hb => z_S (na := 2) C [.int x0, .int x1] rfl (mX8_isPixel Y x0 x1 M b hb) w983 w984 w88 w985 hdX8_isPixel ⟨Nat.le_of_ble_eq_true rfl, Nat.le_of_ble_eq_true rfl⟩ (Nat.le_of_ble_eq_true rfl) rfl dX8_critical_2) rfl (fun b3 => ?_)
    refine z_ifne C dX8_critical_5 rfl rfl ?_ ?_
    · refine z_aload_n C 0 dX8_critical_10 rfl rfl rfl ?_
      refine z_iload_n C 1 dX8_critical_11 rfl rfl rfl ?_
      refine z_iload_n C 2 dX8_critical_12 rfl rfl rfl ?_
      refine z_cv (fun b => b) (fun b hb => z_V (na := 2) (ci := 8) (r := (RX8, TX8, 34)) C [.int x0, .int x1] rfl (mX8_findAround Y x0 x1 M b hb) rfl rfl w1004 w1006 w60 w88 w1007 hdX8_findAround ⟨Nat.le_of_ble_eq_true rfl, Nat.le_of_ble_eq_true rfl⟩ (Nat.le_of_ble_eq_true rfl) rfl dX8_critical_13) rfl (fun b4 => ?_)
      refine z_aload_n C 0 dX8_critical_16 rfl rfl rfl ?_
      refine z_iload_n C 1 dX8_critical_17 rfl rfl rfl ?_
      refine z_iload_n C 2 dX8_critical_18 rfl rfl rfl ?_
      refine z_ci (fun b => b) (fun _ => b4) (fun b hb => z_V (na := 2) (ci := 8) (r := (RX8, TX8, 34)) C [.int x0, .int x1] rfl (mX8_criticalNow Y x0 x1 b4 b hb) rfl rfl w1012 w1014 w61 w88 w1015 hdX8_criticalNow ⟨Nat.le_of_ble_eq_true rfl, Nat.le_of_ble_eq_true rfl⟩ (Nat.le_of_ble_eq_true rfl) rfl dX8_critical_19) rfl (fun b5 => ?_)
      refine z_ifeq C dX8_critical_22 rfl rfl ?_ ?_
      · refine z_iconst C (0 : Int32) dX8_critical_29 rfl rfl ?_
        exact z_iret C rfl rfl dX8_critical_30
      · refine z_iconst C (1 : Int32) dX8_critical_25 rfl rfl ?_
        refine z_goto C dX8_critical_26 rfl ?_
        exact z_iret C rfl rfl dX8_critical_30
    · refine z_iconst C (-1 : Int32) dX8_critical_8 rfl rfl ?_
      exact z_iret C rfl rfl dX8_critical_9
  exact key b hF
set_option maxRecDepth 100000 in
set_option maxHeartbeats 4000000 in
theorem mX8_rings (Y : zY) (x0 : Int32) (M : zMem) (b : Int32 × zMem) (hF : FX8_rings x0 M = some b) : zMt Y yX8_rings cX8_rings 6 (some .int) 5 114 [.ref 100, .int x0] M (zQi Y b.1 b.2) := by
  refine zMt_of (own := RX8) (by decide +kernel) rfl (Nat.le_of_ble_eq_true rfl) (fun X C => ?_)
  have key : zR Y X 6 (zFi Y X (fun b => b.1) (fun b => b.2)) (FX8_rings x0 M) 0 [(0, .ref 100), (1, .int x0)] [] M := by
    unfold FX8_rings
    refine z_iload_n C 1 dX8_rings_0 rfl rfl rfl ?_
    refine z_iconst C (0 : Int32) dX8_rings_1 rfl rfl ?_
    refine z_iconst C (3 : Int32) dX8_rings_2 rfl rfl ?_
    refine z_ci (fun b => b) (fun _ => M) (fun b hb => z_S (na := 3) C [.int x0, .int (0 : Int32), .int (3 : Int32)] rfl (mX8_in Y x0 (0 : Int32) (3 : Int32) M b hb) w896 w897 w88 w898 hdX8_in ⟨Nat.le_of_ble_eq_true rfl, Nat.le_of_ble_eq_true rfl⟩ (Nat.le_of_ble_eq_true rfl) rfl dX8_rings_3) rfl (fun b2 => ?_)
    refine z_ifne C dX8_rings_6 rfl rfl ?_ ?_
    · refine z_aload_n C 0 dX8_rings_11 rfl rfl rfl ?_
      refine z_cv (fun b => b) (fun b hb => z_V (na := 0) (ci := 8) (r := (RX8, TX8, 34)) C [] rfl (mX8_findPlane Y M b hb) rfl rfl w960 w962 w54 w88 w963 hdX8_findPlane ⟨Nat.le_of_ble_eq_true rfl, Nat.le_of_ble_eq_true rfl⟩ (Nat.le_of_ble_eq_true rfl) rfl dX8_rings_12) rfl (fun b3 => ?_)
      refine z_iconst C (0 : Int32) dX8_rings_15 rfl rfl ?_
      refine z_istoreP_n (lo' := [(2, .int (0 : Int32)), (0, .ref 100), (1, .int x0)]) C dX8_rings_16 rfl (by decide) rfl rfl ?_
      refine z_iconst C (0 : Int32) dX8_rings_17 rfl rfl ?_
      refine z_istoreP_n (lo' := [(3, .int (0 : Int32)), (2, .int (0 : Int32)), (0, .ref 100), (1, .int x0)]) C dX8_rings_18 rfl (by decide) rfl rfl ?_
      refine z_loop (sM := fun s => s.2.2) (sl := fun s => [(0, .ref 100), (1, .int x0), (2, .int s.1), (3, .int s.2.1)]) [2, 3, 1, 0] rfl rfl (fun r4 hr4 s5 => ?_)
      unfold FX8_rings_L19
      refine z_iload_n C 3 dX8_rings_19 rfl rfl rfl ?_
      refine z_sipush C (2401 : Int32) dX8_rings_20 rfl rfl ?_
      refine z_icmpge C dX8_rings_23 rfl rfl ?_ ?_
      · refine z_iload_n C 1 dX8_rings_115 rfl rfl rfl ?_
        refine z_iconst C (1 : Int32) dX8_rings_116 rfl rfl ?_
        refine z_icmpeq C dX8_rings_117 rfl rfl ?_ ?_
        · refine z_aload_n C 0 dX8_rings_122 rfl rfl rfl ?_
          refine z_cv (fun b => b) (fun b hb => z_V (na := 0) (ci := 8) (r := (RX8, TX8, 34)) C [] rfl (mX8_findGroups Y s5.2.2 b hb) rfl rfl w975 w977 w57 w88 w978 hdX8_findGroups ⟨Nat.le_of_ble_eq_true rfl, Nat.le_of_ble_eq_true rfl⟩ (Nat.le_of_ble_eq_true rfl) rfl dX8_rings_123) rfl (fun b6 => ?_)
          refine z_aload_n C 0 dX8_rings_126 rfl rfl rfl ?_
          refine z_get (v := .int (b6.1 100 22)) C 22 zOK8 rfl (by decide) w810 rfl rfl dX8_rings_127 rfl ?_
          exact z_iret C rfl rfl dX8_rings_130
        · refine z_iload_n C 2 dX8_rings_120 rfl rfl rfl ?_
          exact z_iret C rfl rfl dX8_rings_121
      · refine z_iload_n C 3 dX8_rings_26 rfl rfl rfl ?_
        refine z_bipush C (49 : Int32) dX8_rings_27 rfl rfl ?_
        refine z_iremK C dX8_rings_29 (by decide) rfl ?_
        refine z_bipush C (24 : Int32) dX8_rings_30 rfl rfl ?_
        refine z_isub C dX8_rings_32 rfl ?_
        refine z_istore C (fun z => [(4, .int z), (0, .ref 100), (1, .int x0), (2, .int s5.1), (3, .int s5.2.1)]) dX8_rings_33 (by decide) (fun _ => rfl) rfl (fun x7 => ?_)
        refine z_iload_n C 4 dX8_rings_35 rfl rfl rfl ?_
        refine z_bipush C (49 : Int32) dX8_rings_36 rfl rfl ?_
        refine z_idivK C dX8_rings_38 (by decide) rfl ?_
        refine z_bipush C (24 : Int32) dX8_rings_39 rfl rfl ?_
        refine z_isub C dX8_rings_41 rfl ?_
        refine z_istore C (fun z => [(5, .int z), (4, .int x7), (0, .ref 100), (1, .int x0), (2, .int s5.1), (3, .int s5.2.1)]) dX8_rings_42 (by decide) (fun _ => rfl) rfl (fun x8 => ?_)
        refine z_aload_n C 2 dX8_rings_44 rfl rfl rfl ?_
        refine z_get (v := .ref 109) C 17 zOK8 rfl (by decide) w805 rfl rfl dX8_rings_45 rfl ?_
        refine z_iload_n C 5 dX8_rings_48 rfl rfl rfl ?_
        refine z_iload_n C 3 dX8_rings_49 rfl rfl rfl ?_
        refine z_iconst C (2 : Int32) dX8_rings_50 rfl rfl ?_
        refine z_join (fun k10 => ∀ (x9 : Int32), zR Y X 6 (zFi Y X (fun b => b.1) (fun b => b.2)) (k10 x9) 91 [(0, .ref 100), (1, .int x0), (2, .int s5.1), (3, .int s5.2.1)] [.int x9, .int s5.2.1, .ref 109] s5.2.2) (fun x9 => ?_) (fun k10 hk10 => ?_)
        · refine z_zastore C 2401 rfl dX8_rings_91 rfl (fun M11 => ?_)
          refine z_iload_n C 2 dX8_rings_92 rfl rfl rfl ?_
          refine z_aload_n C 0 dX8_rings_93 rfl rfl rfl ?_
          refine z_get (v := .ref 109) C 17 zOK8 rfl (by decide) w805 rfl rfl dX8_rings_94 rfl ?_
          refine z_iload_n C 3 dX8_rings_97 rfl rfl rfl ?_
          refine z_zaload C 2401 rfl dX8_rings_98 rfl ?_
          refine z_join (fun k13 => ∀ (x12 : Int32), zR Y X 6 (zFi Y X (fun b => b.1) (fun b => b.2)) (k13 x12) 107 [(0, .ref 100), (1, .int x0), (3, .int s5.2.1)] [.int x12, .int s5.1] M11) (fun x12 => ?_) (fun k13 hk13 => ?_)
          · refine z_iadd C dX8_rings_107 rfl ?_
            refine z_istore_n C (fun z => [(2, .int z), (0, .ref 100), (1, .int x0), (3, .int s5.2.1)]) dX8_rings_108 rfl (by decide) (fun _ => rfl) rfl (fun x14 => ?_)
            refine z_iinc (v := (s5.2.1 + (1 : Int32))) C 3 (fun z => [(3, .int z), (2, .int x14), (0, .ref 100), (1, .int x0)]) dX8_rings_109 rfl rfl (by decide) (fun _ => rfl) rfl (fun x15 => ?_)
            refine z_goto C dX8_rings_112 rfl ?_
            exact z_perm [2, 3, 1, 0] rfl (hr4 (x14, x15, M11))
          · refine z_ifeq C dX8_rings_99 rfl rfl ?_ ?_
            · refine z_iconst C (0 : Int32) dX8_rings_106 rfl rfl ?_
              exact z_perm [0, 1, 3] rfl (hk13 (0 : Int32))
            · refine z_iconst C (1 : Int32) dX8_rings_102 rfl rfl ?_
              refine z_goto C dX8_rings_103 rfl ?_
              exact z_perm [0, 1, 3] rfl (hk13 (1 : Int32))
        · refine z_icmpge C dX8_rings_51 rfl rfl ?_ ?_
          · refine z_aload_n C 2 dX8_rings_65 rfl rfl rfl ?_
            refine z_iload C 1 dX8_rings_66 rfl rfl ?_
            refine z_iload C 0 dX8_rings_68 rfl rfl ?_
            refine z_ci (fun b => b) (fun _ => s5.2.2) (fun b hb => z_V (na := 2) (ci := 8) (r := (RX8, TX8, 34)) C [.int x7, .int x8] rfl (mX8_parityOf Y x7 x8 s5.2.2 b hb) rfl rfl w993 w995 w59 w88 w996 hdX8_parityOf ⟨Nat.le_of_ble_eq_true rfl, Nat.le_of_ble_eq_true rfl⟩ (Nat.le_of_ble_eq_true rfl) rfl dX8_rings_70) rfl (fun b16 => ?_)
            refine z_iload_n C 3 dX8_rings_73 rfl rfl rfl ?_
            refine z_iconst C (2 : Int32) dX8_rings_74 rfl rfl ?_
            refine z_join (fun k18 => ∀ (x17 : Int32), zR Y X 6 (zFi Y X (fun b => b.1) (fun b => b.2)) (k18 x17) 83 [(0, .ref 100), (1, .int x0), (2, .int s5.1), (3, .int s5.2.1)] [.int x17, .int b16, .int s5.2.1, .ref 109] s5.2.2) (fun x17 => ?_) (fun k18 hk18 => ?_)
            · refine z_icmpne C dX8_rings_83 rfl rfl ?_ ?_
              · refine z_iconst C (0 : Int32) dX8_rings_90 rfl rfl ?_
                exact z_perm [0, 1, 2, 3] rfl (hk10 (0 : Int32))
              · refine z_iconst C (1 : Int32) dX8_rings_86 rfl rfl ?_
                refine z_goto C dX8_rings_87 rfl ?_
                exact z_perm [0, 1, 2, 3] rfl (hk10 (1 : Int32))
            · refine z_icmpne C dX8_rings_75 rfl rfl ?_ ?_
              · refine z_iconst C (-1 : Int32) dX8_rings_82 rfl rfl ?_
                exact z_perm [2, 3, 4, 5] rfl (hk18 (-1 : Int32))
              · refine z_iconst C (1 : Int32) dX8_rings_78 rfl rfl ?_
                refine z_goto C dX8_rings_79 rfl ?_
                exact z_perm [2, 3, 4, 5] rfl (hk18 (1 : Int32))
          · refine z_aload_n C 2 dX8_rings_54 rfl rfl rfl ?_
            refine z_iload C 1 dX8_rings_55 rfl rfl ?_
            refine z_iload C 0 dX8_rings_57 rfl rfl ?_
            refine z_ci (fun b => b) (fun _ => s5.2.2) (fun b hb => z_V (na := 2) (ci := 8) (r := (RX8, TX8, 34)) C [.int x7, .int x8] rfl (mX8_criticalNow Y x7 x8 s5.2.2 b hb) rfl rfl w1012 w1014 w61 w88 w1015 hdX8_criticalNow ⟨Nat.le_of_ble_eq_true rfl, Nat.le_of_ble_eq_true rfl⟩ (Nat.le_of_ble_eq_true rfl) rfl dX8_rings_59) rfl (fun b19 => ?_)
            refine z_goto C dX8_rings_62 rfl ?_
            exact z_perm [2, 3, 4, 5] rfl (hk10 b19)
    · refine z_iconst C (-1 : Int32) dX8_rings_9 rfl rfl ?_
      exact z_iret C rfl rfl dX8_rings_10
  exact key b hF
set_option maxRecDepth 100000 in
set_option maxHeartbeats 4000000 in
theorem mX8_brightest (Y : zY) (x0 : Int32) (M : zMem) (b : Int32 × zMem) (hF : FX8_brightest x0 M = some b) : zMt Y yX8_brightest cX8_brightest 8 (some .int) 3 77 [.ref 100, .int x0] M (zQi Y b.1 b.2) := by
  refine zMt_of (own := RX8) (by decide +kernel) rfl (Nat.le_of_ble_eq_true rfl) (fun X C => ?_)
  have key : zR Y X 8 (zFi Y X (fun b => b.1) (fun b => b.2)) (FX8_brightest x0 M) 0 [(0, .ref 100), (1, .int x0)] [] M := by
    unfold FX8_brightest
    refine z_iload_n C 1 dX8_brightest_0 rfl rfl rfl ?_
    refine z_iconst C (0 : Int32) dX8_brightest_1 rfl rfl ?_
    refine z_iconst C (2 : Int32) dX8_brightest_2 rfl rfl ?_
    refine z_ci (fun b => b) (fun _ => M) (fun b hb => z_S (na := 3) C [.int x0, .int (0 : Int32), .int (2 : Int32)] rfl (mX8_in Y x0 (0 : Int32) (2 : Int32) M b hb) w896 w897 w88 w898 hdX8_in ⟨Nat.le_of_ble_eq_true rfl, Nat.le_of_ble_eq_true rfl⟩ (Nat.le_of_ble_eq_true rfl) rfl dX8_brightest_3) rfl (fun b2 => ?_)
    refine z_ifne C dX8_brightest_6 rfl rfl ?_ ?_
    · refine z_aload_n C 0 dX8_brightest_12 rfl rfl rfl ?_
      refine z_cv (fun b => b) (fun b hb => z_V (na := 0) (ci := 8) (r := (RX8, TX8, 34)) C [] rfl (mX8_findPlane Y M b hb) rfl rfl w960 w962 w54 w88 w963 hdX8_findPlane ⟨Nat.le_of_ble_eq_true rfl, Nat.le_of_ble_eq_true rfl⟩ (Nat.le_of_ble_eq_true rfl) rfl dX8_brightest_13) rfl (fun b3 => ?_)
      refine z_iconst C (0 : Int32) dX8_brightest_16 rfl rfl ?_
      refine z_istoreP_n (lo' := [(2, .int (0 : Int32)), (0, .ref 100), (1, .int x0)]) C dX8_brightest_17 rfl (by decide) rfl rfl ?_
      refine z_loop (sM := fun s => s.2) (sl := fun s => [(0, .ref 100), (1, .int x0), (2, .int s.1)]) [1, 2, 0] rfl rfl (fun r4 hr4 s5 => ?_)
      unfold FX8_brightest_L18
      refine z_iload_n C 2 dX8_brightest_18 rfl rfl rfl ?_
      refine z_sipush C (2401 : Int32) dX8_brightest_19 rfl rfl ?_
      refine z_icmpge C dX8_brightest_22 rfl rfl ?_ ?_
      · refine z_iconst C (0 : Int32) dX8_brightest_39 rfl rfl ?_
        refine z_istoreP_n (lo' := [(2, .int (0 : Int32)), (0, .ref 100), (1, .int x0)]) C dX8_brightest_40 rfl (by decide) rfl rfl ?_
        refine z_iconst C (0 : Int32) dX8_brightest_41 rfl rfl ?_
        refine z_istoreP_n (lo' := [(3, .int (0 : Int32)), (2, .int (0 : Int32)), (0, .ref 100), (1, .int x0)]) C dX8_brightest_42 rfl (by decide) rfl rfl ?_
        refine z_iconst C (0 : Int32) dX8_brightest_43 rfl rfl ?_
        refine z_istoreP (lo' := [(4, .int (0 : Int32)), (3, .int (0 : Int32)), (2, .int (0 : Int32)), (0, .ref 100), (1, .int x0)]) C dX8_brightest_44 (by decide) rfl rfl ?_
        refine z_loop (sM := fun s => s.2.2.2) (sl := fun s => [(0, .ref 100), (1, .int x0), (2, .int s.1), (3, .int s.2.1), (4, .int s.2.2.1)]) [3, 4, 2, 1, 0] rfl rfl (fun r6 hr6 s7 => ?_)
        unfold FX8_brightest_L46
        refine z_iload C 4 dX8_brightest_46 rfl rfl ?_
        refine z_sipush C (2401 : Int32) dX8_brightest_48 rfl rfl ?_
        refine z_icmpge C dX8_brightest_51 rfl rfl ?_ ?_
        · refine z_iload_n C 1 dX8_brightest_251 rfl rfl rfl ?_
          refine z_ifne C dX8_brightest_252 rfl rfl ?_ ?_
          · refine z_iload_n C 1 dX8_brightest_259 rfl rfl rfl ?_
            refine z_iconst C (1 : Int32) dX8_brightest_260 rfl rfl ?_
            refine z_icmpne C dX8_brightest_261 rfl rfl ?_ ?_
            · refine z_aload_n C 0 dX8_brightest_285 rfl rfl rfl ?_
              refine z_iload_n C 2 dX8_brightest_286 rfl rfl rfl ?_
              refine z_bipush C (49 : Int32) dX8_brightest_287 rfl rfl ?_
              refine z_iremK C dX8_brightest_289 (by decide) rfl ?_
              refine z_bipush C (24 : Int32) dX8_brightest_290 rfl rfl ?_
              refine z_isub C dX8_brightest_292 rfl ?_
              refine z_iload_n C 2 dX8_brightest_293 rfl rfl rfl ?_
              refine z_bipush C (49 : Int32) dX8_brightest_294 rfl rfl ?_
              refine z_idivK C dX8_brightest_296 (by decide) rfl ?_
              refine z_bipush C (24 : Int32) dX8_brightest_297 rfl rfl ?_
              refine z_isub C dX8_brightest_299 rfl ?_
              refine z_ci (fun b => b) (fun _ => s7.2.2.2) (fun b hb => z_V (na := 2) (ci := 8) (r := (RX8, TX8, 34)) C [.int ((zrem s7.1 (49 : Int32)) - (24 : Int32)), .int ((s7.1 / (49 : Int32)) - (24 : Int32))] rfl (mX8_cellY Y ((zrem s7.1 (49 : Int32)) - (24 : Int32)) ((s7.1 / (49 : Int32)) - (24 : Int32)) s7.2.2.2 b hb) rfl rfl w971 w973 w56 w88 w974 hdX8_cellY ⟨Nat.le_of_ble_eq_true rfl, Nat.le_of_ble_eq_true rfl⟩ (Nat.le_of_ble_eq_true rfl) rfl dX8_brightest_300) rfl (fun b8 => ?_)
              exact z_iret C rfl rfl dX8_brightest_303
            · refine z_aload_n C 0 dX8_brightest_264 rfl rfl rfl ?_
              refine z_iload_n C 2 dX8_brightest_265 rfl rfl rfl ?_
              refine z_bipush C (49 : Int32) dX8_brightest_266 rfl rfl ?_
              refine z_iremK C dX8_brightest_268 (by decide) rfl ?_
              refine z_bipush C (24 : Int32) dX8_brightest_269 rfl rfl ?_
              refine z_isub C dX8_brightest_271 rfl ?_
              refine z_iload_n C 2 dX8_brightest_272 rfl rfl rfl ?_
              refine z_bipush C (49 : Int32) dX8_brightest_273 rfl rfl ?_
              refine z_idivK C dX8_brightest_275 (by decide) rfl ?_
              refine z_bipush C (24 : Int32) dX8_brightest_276 rfl rfl ?_
              refine z_isub C dX8_brightest_278 rfl ?_
              refine z_ci (fun b => b) (fun _ => s7.2.2.2) (fun b hb => z_V (na := 2) (ci := 8) (r := (RX8, TX8, 34)) C [.int ((zrem s7.1 (49 : Int32)) - (24 : Int32)), .int ((s7.1 / (49 : Int32)) - (24 : Int32))] rfl (mX8_cellX Y ((zrem s7.1 (49 : Int32)) - (24 : Int32)) ((s7.1 / (49 : Int32)) - (24 : Int32)) s7.2.2.2 b hb) rfl rfl w967 w969 w55 w88 w970 hdX8_cellX ⟨Nat.le_of_ble_eq_true rfl, Nat.le_of_ble_eq_true rfl⟩ (Nat.le_of_ble_eq_true rfl) rfl dX8_brightest_279) rfl (fun b9 => ?_)
              refine z_goto C dX8_brightest_282 rfl ?_
              exact z_iret C rfl rfl dX8_brightest_303
          · refine z_iload_n C 3 dX8_brightest_255 rfl rfl rfl ?_
            refine z_goto C dX8_brightest_256 rfl ?_
            exact z_iret C rfl rfl dX8_brightest_303
        · refine z_aload_n C 0 dX8_brightest_54 rfl rfl rfl ?_
          refine z_get (v := .ref 110) C 18 zOK8 rfl (by decide) w806 rfl rfl dX8_brightest_55 rfl ?_
          refine z_iload C 4 dX8_brightest_58 rfl rfl ?_
          refine z_iaload C 2401 rfl dX8_brightest_60 rfl ?_
          refine z_bipush C (-9 : Int32) dX8_brightest_61 rfl rfl ?_
          refine z_icmpne C dX8_brightest_63 rfl rfl ?_ ?_
          · refine z_iinc (v := (s7.2.2.1 + (1 : Int32))) C 4 (fun z => [(4, .int z), (0, .ref 100), (1, .int x0), (2, .int s7.1), (3, .int s7.2.1)]) dX8_brightest_245 rfl rfl (by decide) (fun _ => rfl) rfl (fun x10 => ?_)
            refine z_goto C dX8_brightest_248 rfl ?_
            exact z_perm [1, 2, 3, 4, 0] rfl (hr6 (s7.1, s7.2.1, x10, s7.2.2.2))
          · refine z_iconst C (0 : Int32) dX8_brightest_66 rfl rfl ?_
            refine z_istoreP (lo' := [(5, .int (0 : Int32)), (0, .ref 100), (1, .int x0), (2, .int s7.1), (3, .int s7.2.1), (4, .int s7.2.2.1)]) C dX8_brightest_67 (by decide) rfl rfl ?_
            refine z_iload C 5 dX8_brightest_69 rfl rfl ?_
            refine z_istoreP (lo' := [(6, .int s7.2.2.1), (5, .int (0 : Int32)), (0, .ref 100), (1, .int x0), (2, .int s7.1), (3, .int s7.2.1), (4, .int s7.2.2.1)]) C dX8_brightest_71 (by decide) rfl rfl ?_
            refine z_loop (sM := fun s => s.2.2) (sl := fun s => [(0, .ref 100), (1, .int x0), (2, .int s7.1), (3, .int s7.2.1), (4, .int s7.2.2.1), (5, .int s.1), (6, .int s.2.1)]) [2, 3, 4, 5, 6, 1, 0] rfl rfl (fun r11 hr11 s12 => ?_)
            unfold FX8_brightest_L73
            refine z_iload C 6 dX8_brightest_73 rfl rfl ?_
            refine z_sipush C (2401 : Int32) dX8_brightest_75 rfl rfl ?_
            refine z_icmpge C dX8_brightest_78 rfl rfl ?_ ?_
            · refine z_iload C 5 dX8_brightest_219 rfl rfl ?_
              refine z_iload_n C 3 dX8_brightest_221 rfl rfl rfl ?_
              refine z_join (fun k14 => ∀ (x13 : Int32), zR Y X 8 (zFi Y X (fun b => b.1) (fun b => b.2)) (k14 x13) 231 [(0, .ref 100), (1, .int x0), (3, .int s7.2.1), (4, .int s7.2.2.1), (5, .int s12.1)] [.int x13] s12.2.2) (fun x13 => ?_) (fun k14 hk14 => ?_)
              · refine z_istoreP_n (lo' := [(2, .int x13), (0, .ref 100), (1, .int x0), (3, .int s7.2.1), (4, .int s7.2.2.1), (5, .int s12.1)]) C dX8_brightest_231 rfl (by decide) rfl rfl ?_
                refine z_iload C 5 dX8_brightest_232 rfl rfl ?_
                refine z_iload_n C 3 dX8_brightest_234 rfl rfl rfl ?_
                refine z_join (fun k16 => ∀ (x15 : Int32), zR Y X 8 (zFi Y X (fun b => b.1) (fun b => b.2)) (k16 x15) 244 [(0, .ref 100), (1, .int x0), (2, .int x13), (4, .int s7.2.2.1)] [.int x15] s12.2.2) (fun x15 => ?_) (fun k16 hk16 => ?_)
                · refine z_istoreP_n (lo' := [(3, .int x15), (0, .ref 100), (1, .int x0), (2, .int x13), (4, .int s7.2.2.1)]) C dX8_brightest_244 rfl (by decide) rfl rfl ?_
                  refine z_iinc (v := (s7.2.2.1 + (1 : Int32))) C 4 (fun z => [(4, .int z), (3, .int x15), (0, .ref 100), (1, .int x0), (2, .int x13)]) dX8_brightest_245 rfl rfl (by decide) (fun _ => rfl) rfl (fun x17 => ?_)
                  refine z_goto C dX8_brightest_248 rfl ?_
                  exact z_perm [2, 3, 4, 1, 0] rfl (hr6 (x13, x15, x17, s12.2.2))
                · refine z_icmple C dX8_brightest_235 rfl rfl ?_ ?_
                  · refine z_iload_n C 3 dX8_brightest_243 rfl rfl rfl ?_
                    exact z_perm [1, 2, 0, 4] rfl (hk16 s7.2.1)
                  · refine z_iload C 5 dX8_brightest_238 rfl rfl ?_
                    refine z_goto C dX8_brightest_240 rfl ?_
                    exact z_perm [1, 2, 0, 4] rfl (hk16 s12.1)
              · refine z_icmple C dX8_brightest_222 rfl rfl ?_ ?_
                · refine z_iload_n C 2 dX8_brightest_230 rfl rfl rfl ?_
                  exact z_perm [0, 1, 3, 4, 5] rfl (hk14 s7.1)
                · refine z_iload C 4 dX8_brightest_225 rfl rfl ?_
                  refine z_goto C dX8_brightest_227 rfl ?_
                  exact z_perm [0, 1, 3, 4, 5] rfl (hk14 s7.2.2.1)
            · refine z_aload_n C 0 dX8_brightest_81 rfl rfl rfl ?_
              refine z_iload C 6 dX8_brightest_82 rfl rfl ?_
              refine z_bipush C (49 : Int32) dX8_brightest_84 rfl rfl ?_
              refine z_iremK C dX8_brightest_86 (by decide) rfl ?_
              refine z_bipush C (24 : Int32) dX8_brightest_87 rfl rfl ?_
              refine z_isub C dX8_brightest_89 rfl ?_
              refine z_iload C 6 dX8_brightest_90 rfl rfl ?_
              refine z_bipush C (49 : Int32) dX8_brightest_92 rfl rfl ?_
              refine z_idivK C dX8_brightest_94 (by decide) rfl ?_
              refine z_bipush C (24 : Int32) dX8_brightest_95 rfl rfl ?_
              refine z_isub C dX8_brightest_97 rfl ?_
              refine z_ci (fun b => b) (fun _ => s12.2.2) (fun b hb => z_V (na := 2) (ci := 8) (r := (RX8, TX8, 34)) C [.int ((zrem s12.2.1 (49 : Int32)) - (24 : Int32)), .int ((s12.2.1 / (49 : Int32)) - (24 : Int32))] rfl (mX8_cellX Y ((zrem s12.2.1 (49 : Int32)) - (24 : Int32)) ((s12.2.1 / (49 : Int32)) - (24 : Int32)) s12.2.2 b hb) rfl rfl w967 w969 w55 w88 w970 hdX8_cellX ⟨Nat.le_of_ble_eq_true rfl, Nat.le_of_ble_eq_true rfl⟩ (Nat.le_of_ble_eq_true rfl) rfl dX8_brightest_98) rfl (fun b18 => ?_)
              refine z_aload_n C 0 dX8_brightest_101 rfl rfl rfl ?_
              refine z_iload C 4 dX8_brightest_102 rfl rfl ?_
              refine z_bipush C (49 : Int32) dX8_brightest_104 rfl rfl ?_
              refine z_iremK C dX8_brightest_106 (by decide) rfl ?_
              refine z_bipush C (24 : Int32) dX8_brightest_107 rfl rfl ?_
              refine z_isub C dX8_brightest_109 rfl ?_
              refine z_iload C 4 dX8_brightest_110 rfl rfl ?_
              refine z_bipush C (49 : Int32) dX8_brightest_112 rfl rfl ?_
              refine z_idivK C dX8_brightest_114 (by decide) rfl ?_
              refine z_bipush C (24 : Int32) dX8_brightest_115 rfl rfl ?_
              refine z_isub C dX8_brightest_117 rfl ?_
              refine z_ci (fun b => b) (fun _ => s12.2.2) (fun b hb => z_V (na := 2) (ci := 8) (r := (RX8, TX8, 34)) C [.int ((zrem s7.2.2.1 (49 : Int32)) - (24 : Int32)), .int ((s7.2.2.1 / (49 : Int32)) - (24 : Int32))] rfl (mX8_cellX Y ((zrem s7.2.2.1 (49 : Int32)) - (24 : Int32)) ((s7.2.2.1 / (49 : Int32)) - (24 : Int32)) s12.2.2 b hb) rfl rfl w967 w969 w55 w88 w970 hdX8_cellX ⟨Nat.le_of_ble_eq_true rfl, Nat.le_of_ble_eq_true rfl⟩ (Nat.le_of_ble_eq_true rfl) rfl dX8_brightest_118) rfl (fun b19 => ?_)
              refine z_join (fun k21 => ∀ (x20 : Int32), zR Y X 8 (zFi Y X (fun b => b.1) (fun b => b.2)) (k21 x20) 172 [(0, .ref 100), (1, .int x0), (2, .int s7.1), (3, .int s7.2.1), (4, .int s7.2.2.1), (5, .int s12.1), (6, .int s12.2.1)] [.int x20] s12.2.2) (fun x20 => ?_) (fun k21 hk21 => ?_)
              · refine z_istoreP (lo' := [(7, .int x20), (0, .ref 100), (1, .int x0), (2, .int s7.1), (3, .int s7.2.1), (4, .int s7.2.2.1), (5, .int s12.1), (6, .int s12.2.1)]) C dX8_brightest_172 (by decide) rfl rfl ?_
                refine z_aload_n C 1 dX8_brightest_174 rfl rfl rfl ?_
                refine z_get (v := .ref 110) C 18 zOK8 rfl (by decide) w806 rfl rfl dX8_brightest_175 rfl ?_
                refine z_iload C 7 dX8_brightest_178 rfl rfl ?_
                refine z_iload C 0 dX8_brightest_180 rfl rfl ?_
                refine z_join (fun k23 => ∀ (x22 : Int32), zR Y X 8 (zFi Y X (fun b => b.1) (fun b => b.2)) (k23 x22) 197 [(0, .ref 100), (1, .int x0), (2, .int s7.1), (3, .int s7.2.1), (4, .int s7.2.2.1), (5, .int s12.1), (6, .int s12.2.1), (7, .int x20)] [.int x22, .int s12.2.1, .ref 110] s12.2.2) (fun x22 => ?_) (fun k23 hk23 => ?_)
                · refine z_iastore C 2401 rfl dX8_brightest_197 rfl (fun M24 => ?_)
                  refine z_iload C 5 dX8_brightest_198 rfl rfl ?_
                  refine z_iload C 7 dX8_brightest_200 rfl rfl ?_
                  refine z_join (fun k26 => ∀ (x25 : Int32), zR Y X 8 (zFi Y X (fun b => b.1) (fun b => b.2)) (k26 x25) 210 [(0, .ref 100), (1, .int x0), (2, .int s7.1), (3, .int s7.2.1), (4, .int s7.2.2.1), (6, .int s12.2.1)] [.int x25, .int s12.1] M24) (fun x25 => ?_) (fun k26 hk26 => ?_)
                  · refine z_iadd C dX8_brightest_210 rfl ?_
                    refine z_istore C (fun z => [(5, .int z), (0, .ref 100), (1, .int x0), (2, .int s7.1), (3, .int s7.2.1), (4, .int s7.2.2.1), (6, .int s12.2.1)]) dX8_brightest_211 (by decide) (fun _ => rfl) rfl (fun x27 => ?_)
                    refine z_iinc (v := (s12.2.1 + (1 : Int32))) C 6 (fun z => [(6, .int z), (5, .int x27), (0, .ref 100), (1, .int x0), (2, .int s7.1), (3, .int s7.2.1), (4, .int s7.2.2.1)]) dX8_brightest_213 rfl rfl (by decide) (fun _ => rfl) rfl (fun x28 => ?_)
                    refine z_goto C dX8_brightest_216 rfl ?_
                    exact z_perm [2, 3, 4, 5, 6, 1, 0] rfl (hr11 (x27, x28, M24))
                  · refine z_ifeq C dX8_brightest_202 rfl rfl ?_ ?_
                    · refine z_iconst C (0 : Int32) dX8_brightest_209 rfl rfl ?_
                      exact z_perm [0, 1, 2, 3, 4, 6] rfl (hk26 (0 : Int32))
                    · refine z_iconst C (1 : Int32) dX8_brightest_205 rfl rfl ?_
                      refine z_goto C dX8_brightest_206 rfl ?_
                      exact z_perm [0, 1, 2, 3, 4, 6] rfl (hk26 (1 : Int32))
                · refine z_ifeq C dX8_brightest_182 rfl rfl ?_ ?_
                  · refine z_aload_n C 1 dX8_brightest_190 rfl rfl rfl ?_
                    refine z_get (v := .ref 110) C 18 zOK8 rfl (by decide) w806 rfl rfl dX8_brightest_191 rfl ?_
                    refine z_iload C 7 dX8_brightest_194 rfl rfl ?_
                    refine z_iaload C 2401 rfl dX8_brightest_196 rfl ?_
                    exact z_perm [1, 2, 3, 4, 5, 6, 7, 0] rfl (hk23 (zrd s12.2.2 110 s12.2.1))
                  · refine z_iload C 5 dX8_brightest_185 rfl rfl ?_
                    refine z_goto C dX8_brightest_187 rfl ?_
                    exact z_perm [1, 2, 3, 4, 5, 6, 7, 0] rfl (hk23 s7.2.2.1)
              · refine z_join (fun k30 => ∀ (u29 : Unit), zR Y X 8 (zFi Y X (fun b => b.1) (fun b => b.2)) (k30 u29) 171 [(0, .ref 100), (1, .int x0), (2, .int s7.1), (3, .int s7.2.1), (4, .int s7.2.2.1), (5, .int s12.1), (6, .int s12.2.1)] [] s12.2.2) (fun u29 => ?_) (fun k30 hk30 => ?_)
                · refine z_iconst C (0 : Int32) dX8_brightest_171 rfl rfl ?_
                  exact z_perm [0, 1, 2, 3, 4, 5, 6] rfl (hk21 (0 : Int32))
                · refine z_icmpne C dX8_brightest_121 rfl rfl ?_ ?_
                  · exact z_perm [0, 1, 2, 3, 4, 5, 6] rfl (hk30 ())
                  · refine z_aload_n C 0 dX8_brightest_124 rfl rfl rfl ?_
                    refine z_iload C 6 dX8_brightest_125 rfl rfl ?_
                    refine z_bipush C (49 : Int32) dX8_brightest_127 rfl rfl ?_
                    refine z_iremK C dX8_brightest_129 (by decide) rfl ?_
                    refine z_bipush C (24 : Int32) dX8_brightest_130 rfl rfl ?_
                    refine z_isub C dX8_brightest_132 rfl ?_
                    refine z_iload C 6 dX8_brightest_133 rfl rfl ?_
                    refine z_bipush C (49 : Int32) dX8_brightest_135 rfl rfl ?_
                    refine z_idivK C dX8_brightest_137 (by decide) rfl ?_
                    refine z_bipush C (24 : Int32) dX8_brightest_138 rfl rfl ?_
                    refine z_isub C dX8_brightest_140 rfl ?_
                    refine z_ci (fun b => b) (fun _ => s12.2.2) (fun b hb => z_V (na := 2) (ci := 8) (r := (RX8, TX8, 34)) C [.int ((zrem s12.2.1 (49 : Int32)) - (24 : Int32)), .int ((s12.2.1 / (49 : Int32)) - (24 : Int32))] rfl (mX8_cellY Y ((zrem s12.2.1 (49 : Int32)) - (24 : Int32)) ((s12.2.1 / (49 : Int32)) - (24 : Int32)) s12.2.2 b hb) rfl rfl w971 w973 w56 w88 w974 hdX8_cellY ⟨Nat.le_of_ble_eq_true rfl, Nat.le_of_ble_eq_true rfl⟩ (Nat.le_of_ble_eq_true rfl) rfl dX8_brightest_141) rfl (fun b31 => ?_)
                    refine z_aload_n C 0 dX8_brightest_144 rfl rfl rfl ?_
                    refine z_iload C 4 dX8_brightest_145 rfl rfl ?_
                    refine z_bipush C (49 : Int32) dX8_brightest_147 rfl rfl ?_
                    refine z_iremK C dX8_brightest_149 (by decide) rfl ?_
                    refine z_bipush C (24 : Int32) dX8_brightest_150 rfl rfl ?_
                    refine z_isub C dX8_brightest_152 rfl ?_
                    refine z_iload C 4 dX8_brightest_153 rfl rfl ?_
                    refine z_bipush C (49 : Int32) dX8_brightest_155 rfl rfl ?_
                    refine z_idivK C dX8_brightest_157 (by decide) rfl ?_
                    refine z_bipush C (24 : Int32) dX8_brightest_158 rfl rfl ?_
                    refine z_isub C dX8_brightest_160 rfl ?_
                    refine z_ci (fun b => b) (fun _ => s12.2.2) (fun b hb => z_V (na := 2) (ci := 8) (r := (RX8, TX8, 34)) C [.int ((zrem s7.2.2.1 (49 : Int32)) - (24 : Int32)), .int ((s7.2.2.1 / (49 : Int32)) - (24 : Int32))] rfl (mX8_cellY Y ((zrem s7.2.2.1 (49 : Int32)) - (24 : Int32)) ((s7.2.2.1 / (49 : Int32)) - (24 : Int32)) s12.2.2 b hb) rfl rfl w971 w973 w56 w88 w974 hdX8_cellY ⟨Nat.le_of_ble_eq_true rfl, Nat.le_of_ble_eq_true rfl⟩ (Nat.le_of_ble_eq_true rfl) rfl dX8_brightest_161) rfl (fun b32 => ?_)
                    refine z_icmpne C dX8_brightest_164 rfl rfl ?_ ?_
                    · exact z_perm [0, 1, 2, 3, 4, 5, 6] rfl (hk30 ())
                    · refine z_iconst C (1 : Int32) dX8_brightest_167 rfl rfl ?_
                      refine z_goto C dX8_brightest_168 rfl ?_
                      exact z_perm [0, 1, 2, 3, 4, 5, 6] rfl (hk21 (1 : Int32))
      · refine z_aload_n C 0 dX8_brightest_25 rfl rfl rfl ?_
        refine z_get (v := .ref 110) C 18 zOK8 rfl (by decide) w806 rfl rfl dX8_brightest_26 rfl ?_
        refine z_iload_n C 2 dX8_brightest_29 rfl rfl rfl ?_
        refine z_bipush C (-9 : Int32) dX8_brightest_30 rfl rfl ?_
        refine z_iastore C 2401 rfl dX8_brightest_32 rfl (fun M33 => ?_)
        refine z_iinc (v := (s5.1 + (1 : Int32))) C 2 (fun z => [(2, .int z), (0, .ref 100), (1, .int x0)]) dX8_brightest_33 rfl rfl (by decide) (fun _ => rfl) rfl (fun x34 => ?_)
        refine z_goto C dX8_brightest_36 rfl ?_
        exact z_perm [1, 2, 0] rfl (hr4 (x34, M33))
    · refine z_ldc C w913 dX8_brightest_9 rfl ?_
      exact z_iret C rfl rfl dX8_brightest_11
  exact key b hF
set_option maxRecDepth 100000 in
set_option maxHeartbeats 4000000 in
theorem mX8_delay (Y : zY) (x0 : Int32) (x1 : Int32) (x2 : Int32) (x3 : Int32) (x4 : Int32) (x5 : Int32) (M : zMem) (b : Int64) (hF : FX8_delay x0 x1 x2 x3 x4 x5 M = some b) : zMt Y yX8_delay cX8_delay 11 (some .long) 3 65 [.ref 100, .int x0, .int x1, .int x2, .int x3, .int x4, .int x5] M (zQl Y b M) := by
  refine zMt_of (own := RX8) (by decide +kernel) rfl (Nat.le_of_ble_eq_true rfl) (fun X C => ?_)
  have key : zR Y X 11 (zFl Y X (fun b => b) (fun _ => M)) (FX8_delay x0 x1 x2 x3 x4 x5 M) 0 [(0, .ref 100), (1, .int x0), (2, .int x1), (3, .int x2), (4, .int x3), (5, .int x4), (6, .int x5)] [] M := by
    unfold FX8_delay
    refine z_iload_n C 1 dX8_delay_0 rfl rfl rfl ?_
    refine z_iload_n C 2 dX8_delay_1 rfl rfl rfl ?_
    refine z_ci (fun b => b) (fun _ => M) (fun b hb => z_S (na := 2) C [.int x0, .int x1] rfl (mX8_isPixel Y x0 x1 M b hb) w983 w984 w88 w985 hdX8_isPixel ⟨Nat.le_of_ble_eq_true rfl, Nat.le_of_ble_eq_true rfl⟩ (Nat.le_of_ble_eq_true rfl) rfl dX8_delay_2) rfl (fun b7 => ?_)
    refine z_join (fun k9 => ∀ (u8 : Unit), zR Y X 11 (zFl Y X (fun b => b) (fun _ => M)) (k9 u8) 30 [] [] M) (fun u8 => ?_) (fun k9 hk9 => ?_)
    · refine z_ldc2 C w1028 dX8_delay_30 rfl ?_
      exact z_lret C rfl rfl dX8_delay_33
    · refine z_ifeq C dX8_delay_5 rfl rfl ?_ ?_
      · exact z_perm [] rfl (hk9 ())
      · refine z_iload_n C 3 dX8_delay_8 rfl rfl rfl ?_
        refine z_iload C 4 dX8_delay_9 rfl rfl ?_
        refine z_ci (fun b => b) (fun _ => M) (fun b hb => z_S (na := 2) C [.int x2, .int x3] rfl (mX8_isPixel Y x2 x3 M b hb) w983 w984 w88 w985 hdX8_isPixel ⟨Nat.le_of_ble_eq_true rfl, Nat.le_of_ble_eq_true rfl⟩ (Nat.le_of_ble_eq_true rfl) rfl dX8_delay_11) rfl (fun b10 => ?_)
        refine z_ifeq C dX8_delay_14 rfl rfl ?_ ?_
        · exact z_perm [] rfl (hk9 ())
        · refine z_iload C 5 dX8_delay_17 rfl rfl ?_
          refine z_iload C 6 dX8_delay_19 rfl rfl ?_
          refine z_sipush C (2000 : Int32) dX8_delay_21 rfl rfl ?_
          refine z_ci (fun b => b) (fun _ => M) (fun b hb => z_S (na := 3) C [.int x4, .int x5, .int (2000 : Int32)] rfl (mX8_isNear Y x4 x5 (2000 : Int32) M b hb) w899 w900 w88 w901 hdX8_isNear ⟨Nat.le_of_ble_eq_true rfl, Nat.le_of_ble_eq_true rfl⟩ (Nat.le_of_ble_eq_true rfl) rfl dX8_delay_24) rfl (fun b11 => ?_)
          refine z_ifne C dX8_delay_27 rfl rfl ?_ ?_
          · refine z_lconst C (0 : Int64) dX8_delay_34 rfl rfl ?_
            refine z_lstore C (fun z => [(7, .long z), (0, .ref 100), (1, .int x0), (2, .int x1), (3, .int x2), (4, .int x3), (5, .int x4), (6, .int x5)]) dX8_delay_35 (by decide) (fun _ => rfl) rfl (fun y12 => ?_)
            refine z_iload_n C 4 dX8_delay_37 rfl rfl rfl ?_
            refine z_iload_n C 2 dX8_delay_38 rfl rfl rfl ?_
            refine z_join (fun k14 => ∀ (x13 : Int32), zR Y X 11 (zFl Y X (fun b => b) (fun _ => M)) (k14 x13) 47 [(0, .ref 100), (1, .int x0), (2, .int x1), (3, .int x2), (4, .int x3), (5, .int x4), (6, .int x5), (7, .long y12)] [.int x13] M) (fun x13 => ?_) (fun k14 hk14 => ?_)
            · refine z_istoreP (lo' := [(9, .int x13), (0, .ref 100), (1, .int x0), (2, .int x1), (3, .int x2), (4, .int x3), (5, .int x4), (6, .int x5), (7, .long y12)]) C dX8_delay_47 (by decide) rfl rfl ?_
              refine z_iload_n C 2 dX8_delay_49 rfl rfl rfl ?_
              refine z_istoreP (lo' := [(10, .int x0), (9, .int x13), (0, .ref 100), (1, .int x0), (2, .int x1), (3, .int x2), (4, .int x3), (5, .int x4), (6, .int x5), (7, .long y12)]) C dX8_delay_50 (by decide) rfl rfl ?_
              refine z_loop (sM := fun s => M) (sl := fun s => [(0, .ref 100), (2, .int x1), (3, .int x2), (4, .int x3), (5, .int x4), (6, .int x5), (7, .long s.1), (9, .int x13), (10, .int s.2)]) [2, 4, 5, 6, 7, 8, 9, 1, 0] rfl rfl (fun r15 hr15 s16 => ?_)
              unfold FX8_delay_L52
              refine z_iload C 8 dX8_delay_52 rfl rfl ?_
              refine z_iload_n C 2 dX8_delay_54 rfl rfl rfl ?_
              refine z_icmpeq C dX8_delay_55 rfl rfl ?_ ?_
              · refine z_iload C 3 dX8_delay_107 rfl rfl ?_
                refine z_iload_n C 1 dX8_delay_109 rfl rfl rfl ?_
                refine z_join (fun k18 => ∀ (x17 : Int32), zR Y X 11 (zFl Y X (fun b => b) (fun _ => M)) (k18 x17) 118 [(0, .ref 100), (2, .int x1), (3, .int x2), (4, .int x3), (6, .int x5), (7, .long s16.1)] [.int x17] M) (fun x17 => ?_) (fun k18 hk18 => ?_)
                · refine z_istoreP (lo' := [(9, .int x17), (0, .ref 100), (2, .int x1), (3, .int x2), (4, .int x3), (6, .int x5), (7, .long s16.1)]) C dX8_delay_118 (by decide) rfl rfl ?_
                  refine z_iload_n C 2 dX8_delay_120 rfl rfl rfl ?_
                  refine z_istoreP (lo' := [(10, .int x1), (9, .int x17), (0, .ref 100), (2, .int x1), (3, .int x2), (4, .int x3), (6, .int x5), (7, .long s16.1)]) C dX8_delay_121 (by decide) rfl rfl ?_
                  refine z_loop (sM := fun s => M) (sl := fun s => [(0, .ref 100), (3, .int x2), (4, .int x3), (6, .int x5), (7, .long s.1), (9, .int x17), (10, .int s.2)]) [2, 4, 5, 6, 7, 1, 0] rfl rfl (fun r19 hr19 s20 => ?_)
                  unfold FX8_delay_L123
                  refine z_iload C 6 dX8_delay_123 rfl rfl ?_
                  refine z_iload C 2 dX8_delay_125 rfl rfl ?_
                  refine z_icmpeq C dX8_delay_127 rfl rfl ?_ ?_
                  · refine z_lload C 4 dX8_delay_179 rfl rfl ?_
                    exact z_lret C rfl rfl dX8_delay_181
                  · refine z_lload C 4 dX8_delay_130 rfl rfl ?_
                    refine z_iload C 5 dX8_delay_132 rfl rfl ?_
                    refine z_i2l C dX8_delay_134 rfl ?_
                    refine z_aload_n C 0 dX8_delay_135 rfl rfl rfl ?_
                    refine z_iload_n C 1 dX8_delay_136 rfl rfl rfl ?_
                    refine z_iload C 6 dX8_delay_137 rfl rfl ?_
                    refine z_iconst C (1 : Int32) dX8_delay_139 rfl rfl ?_
                    refine z_ci (fun b => b) (fun _ => M) (fun b hb => z_V (na := 3) (ci := 8) (r := (RX8, TX8, 34)) C [.int x2, .int s20.2, .int (1 : Int32)] rfl (mX8_fromOf Y x2 s20.2 (1 : Int32) M b hb) rfl rfl w936 w938 w51 w88 w939 hdX8_fromOf ⟨Nat.le_of_ble_eq_true rfl, Nat.le_of_ble_eq_true rfl⟩ (Nat.le_of_ble_eq_true rfl) rfl dX8_delay_140) rfl (fun b21 => ?_)
                    refine z_i2l C dX8_delay_143 rfl ?_
                    refine z_aload_n C 0 dX8_delay_144 rfl rfl rfl ?_
                    refine z_iload_n C 1 dX8_delay_145 rfl rfl rfl ?_
                    refine z_iload C 6 dX8_delay_146 rfl rfl ?_
                    refine z_iload C 5 dX8_delay_148 rfl rfl ?_
                    refine z_iadd C dX8_delay_150 rfl ?_
                    refine z_iconst C (1 : Int32) dX8_delay_151 rfl rfl ?_
                    refine z_ci (fun b => b) (fun _ => M) (fun b hb => z_V (na := 3) (ci := 8) (r := (RX8, TX8, 34)) C [.int x2, .int (s20.2 + x17), .int (1 : Int32)] rfl (mX8_fromOf Y x2 (s20.2 + x17) (1 : Int32) M b hb) rfl rfl w936 w938 w51 w88 w939 hdX8_fromOf ⟨Nat.le_of_ble_eq_true rfl, Nat.le_of_ble_eq_true rfl⟩ (Nat.le_of_ble_eq_true rfl) rfl dX8_delay_152) rfl (fun b22 => ?_)
                    refine z_i2l C dX8_delay_155 rfl ?_
                    refine z_ladd C dX8_delay_156 rfl ?_
                    refine z_ldc2 C w1029 dX8_delay_157 rfl ?_
                    refine z_iload C 3 dX8_delay_160 rfl rfl ?_
                    refine z_i2l C dX8_delay_162 rfl ?_
                    refine z_lmul C dX8_delay_163 rfl ?_
                    refine z_lsub C dX8_delay_164 rfl ?_
                    refine z_lmul C dX8_delay_165 rfl ?_
                    refine z_ladd C dX8_delay_166 rfl ?_
                    refine z_lstore C (fun z => [(7, .long z), (0, .ref 100), (3, .int x2), (4, .int x3), (6, .int x5), (9, .int x17), (10, .int s20.2)]) dX8_delay_167 (by decide) (fun _ => rfl) rfl (fun y23 => ?_)
                    refine z_iload C 6 dX8_delay_169 rfl rfl ?_
                    refine z_iload C 5 dX8_delay_171 rfl rfl ?_
                    refine z_iadd C dX8_delay_173 rfl ?_
                    refine z_istore C (fun z => [(10, .int z), (7, .long y23), (0, .ref 100), (3, .int x2), (4, .int x3), (6, .int x5), (9, .int x17)]) dX8_delay_174 (by decide) (fun _ => rfl) rfl (fun x24 => ?_)
                    refine z_goto C dX8_delay_176 rfl ?_
                    exact z_perm [2, 3, 4, 5, 1, 6, 0] rfl (hr19 (y23, x24))
                · refine z_icmple C dX8_delay_110 rfl rfl ?_ ?_
                  · refine z_iconst C (-1 : Int32) dX8_delay_117 rfl rfl ?_
                    exact z_perm [0, 1, 2, 3, 5, 6] rfl (hk18 (-1 : Int32))
                  · refine z_iconst C (1 : Int32) dX8_delay_113 rfl rfl ?_
                    refine z_goto C dX8_delay_114 rfl ?_
                    exact z_perm [0, 1, 2, 3, 5, 6] rfl (hk18 (1 : Int32))
              · refine z_lload C 6 dX8_delay_58 rfl rfl ?_
                refine z_iload C 7 dX8_delay_60 rfl rfl ?_
                refine z_i2l C dX8_delay_62 rfl ?_
                refine z_aload_n C 0 dX8_delay_63 rfl rfl rfl ?_
                refine z_iload C 8 dX8_delay_64 rfl rfl ?_
                refine z_iload_n C 1 dX8_delay_66 rfl rfl rfl ?_
                refine z_iconst C (0 : Int32) dX8_delay_67 rfl rfl ?_
                refine z_ci (fun b => b) (fun _ => M) (fun b hb => z_V (na := 3) (ci := 8) (r := (RX8, TX8, 34)) C [.int s16.2, .int x1, .int (0 : Int32)] rfl (mX8_fromOf Y s16.2 x1 (0 : Int32) M b hb) rfl rfl w936 w938 w51 w88 w939 hdX8_fromOf ⟨Nat.le_of_ble_eq_true rfl, Nat.le_of_ble_eq_true rfl⟩ (Nat.le_of_ble_eq_true rfl) rfl dX8_delay_68) rfl (fun b25 => ?_)
                refine z_i2l C dX8_delay_71 rfl ?_
                refine z_aload_n C 0 dX8_delay_72 rfl rfl rfl ?_
                refine z_iload C 8 dX8_delay_73 rfl rfl ?_
                refine z_iload C 7 dX8_delay_75 rfl rfl ?_
                refine z_iadd C dX8_delay_77 rfl ?_
                refine z_iload_n C 1 dX8_delay_78 rfl rfl rfl ?_
                refine z_iconst C (0 : Int32) dX8_delay_79 rfl rfl ?_
                refine z_ci (fun b => b) (fun _ => M) (fun b hb => z_V (na := 3) (ci := 8) (r := (RX8, TX8, 34)) C [.int (s16.2 + x13), .int x1, .int (0 : Int32)] rfl (mX8_fromOf Y (s16.2 + x13) x1 (0 : Int32) M b hb) rfl rfl w936 w938 w51 w88 w939 hdX8_fromOf ⟨Nat.le_of_ble_eq_true rfl, Nat.le_of_ble_eq_true rfl⟩ (Nat.le_of_ble_eq_true rfl) rfl dX8_delay_80) rfl (fun b26 => ?_)
                refine z_i2l C dX8_delay_83 rfl ?_
                refine z_ladd C dX8_delay_84 rfl ?_
                refine z_ldc2 C w1029 dX8_delay_85 rfl ?_
                refine z_iload C 4 dX8_delay_88 rfl rfl ?_
                refine z_i2l C dX8_delay_90 rfl ?_
                refine z_lmul C dX8_delay_91 rfl ?_
                refine z_lsub C dX8_delay_92 rfl ?_
                refine z_lmul C dX8_delay_93 rfl ?_
                refine z_ladd C dX8_delay_94 rfl ?_
                refine z_lstore C (fun z => [(7, .long z), (0, .ref 100), (2, .int x1), (3, .int x2), (4, .int x3), (5, .int x4), (6, .int x5), (9, .int x13), (10, .int s16.2)]) dX8_delay_95 (by decide) (fun _ => rfl) rfl (fun y27 => ?_)
                refine z_iload C 8 dX8_delay_97 rfl rfl ?_
                refine z_iload C 7 dX8_delay_99 rfl rfl ?_
                refine z_iadd C dX8_delay_101 rfl ?_
                refine z_istore C (fun z => [(10, .int z), (7, .long y27), (0, .ref 100), (2, .int x1), (3, .int x2), (4, .int x3), (5, .int x4), (6, .int x5), (9, .int x13)]) dX8_delay_102 (by decide) (fun _ => rfl) rfl (fun x28 => ?_)
                refine z_goto C dX8_delay_104 rfl ?_
                exact z_perm [2, 3, 4, 5, 6, 7, 1, 8, 0] rfl (hr15 (y27, x28))
            · refine z_icmple C dX8_delay_39 rfl rfl ?_ ?_
              · refine z_iconst C (-1 : Int32) dX8_delay_46 rfl rfl ?_
                exact z_perm [1, 2, 3, 4, 5, 6, 7, 0] rfl (hk14 (-1 : Int32))
              · refine z_iconst C (1 : Int32) dX8_delay_42 rfl rfl ?_
                refine z_goto C dX8_delay_43 rfl ?_
                exact z_perm [1, 2, 3, 4, 5, 6, 7, 0] rfl (hk14 (1 : Int32))
          · exact z_perm [] rfl (hk9 ())
  exact key b hF
set_option maxRecDepth 100000 in
set_option maxHeartbeats 4000000 in
theorem mX8_stretch (Y : zY) (x0 : Int32) (M : zMem) (b : Int32 × zMem) (hF : FX8_stretch x0 M = some b) : zMt Y yX8_stretch cX8_stretch 14 (some .int) 3 77 [.ref 100, .int x0] M (zQi Y b.1 b.2) := by
  refine zMt_of (own := RX8) (by decide +kernel) rfl (Nat.le_of_ble_eq_true rfl) (fun X C => ?_)
  have key : zR Y X 14 (zFi Y X (fun b => b.1) (fun b => b.2)) (FX8_stretch x0 M) 0 [(0, .ref 100), (1, .int x0)] [] M := by
    unfold FX8_stretch
    refine z_iload_n C 1 dX8_stretch_0 rfl rfl rfl ?_
    refine z_iconst C (1 : Int32) dX8_stretch_1 rfl rfl ?_
    refine z_bipush C (24 : Int32) dX8_stretch_2 rfl rfl ?_
    refine z_ci (fun b => b) (fun _ => M) (fun b hb => z_S (na := 3) C [.int x0, .int (1 : Int32), .int (24 : Int32)] rfl (mX8_in Y x0 (1 : Int32) (24 : Int32) M b hb) w896 w897 w88 w898 hdX8_in ⟨Nat.le_of_ble_eq_true rfl, Nat.le_of_ble_eq_true rfl⟩ (Nat.le_of_ble_eq_true rfl) rfl dX8_stretch_4) rfl (fun b2 => ?_)
    refine z_ifne C dX8_stretch_7 rfl rfl ?_ ?_
    · refine z_aload_n C 0 dX8_stretch_13 rfl rfl rfl ?_
      refine z_cv (fun b => b) (fun b hb => z_V (na := 0) (ci := 8) (r := (RX8, TX8, 34)) C [] rfl (mX8_findPlane Y M b hb) rfl rfl w960 w962 w54 w88 w963 hdX8_findPlane ⟨Nat.le_of_ble_eq_true rfl, Nat.le_of_ble_eq_true rfl⟩ (Nat.le_of_ble_eq_true rfl) rfl dX8_stretch_14) rfl (fun b3 => ?_)
      refine z_lconst C (0 : Int64) dX8_stretch_17 rfl rfl ?_
      refine z_lstore_n C (fun z => [(2, .long z), (0, .ref 100), (1, .int x0)]) dX8_stretch_18 rfl (by decide) (fun _ => rfl) rfl (fun y4 => ?_)
      refine z_iload_n C 2 dX8_stretch_19 rfl rfl rfl ?_
      refine z_ineg C dX8_stretch_20 rfl ?_
      refine z_istore C (fun z => [(4, .int z), (2, .long y4), (0, .ref 100), (1, .int x0)]) dX8_stretch_21 (by decide) (fun _ => rfl) rfl (fun x5 => ?_)
      refine z_loop (sM := fun s => b3) (sl := fun s => [(0, .ref 100), (1, .int x0), (2, .long s.1), (4, .int s.2)]) [2, 3, 1, 0] rfl rfl (fun r6 hr6 s7 => ?_)
      unfold FX8_stretch_L23
      refine z_iload C 3 dX8_stretch_23 rfl rfl ?_
      refine z_iload_n C 1 dX8_stretch_25 rfl rfl rfl ?_
      refine z_icmpgt C dX8_stretch_26 rfl rfl ?_ ?_
      · refine z_lload_n C 2 dX8_stretch_244 rfl rfl rfl ?_
        refine z_sipush C (128 : Int32) dX8_stretch_245 rfl rfl ?_
        refine z_ci (fun b => b) (fun _ => b3) (fun b hb => z_S (na := 2) C [.long s7.1, .int (128 : Int32)] rfl (mX8_floored Y s7.1 (128 : Int32) b3 b hb) w949 w950 w88 w951 hdX8_floored ⟨Nat.le_of_ble_eq_true rfl, Nat.le_of_ble_eq_true rfl⟩ (Nat.le_of_ble_eq_true rfl) rfl dX8_stretch_248) rfl (fun b8 => ?_)
        exact z_iret C rfl rfl dX8_stretch_251
      · refine z_iload_n C 1 dX8_stretch_29 rfl rfl rfl ?_
        refine z_ineg C dX8_stretch_30 rfl ?_
        refine z_istore C (fun z => [(5, .int z), (0, .ref 100), (1, .int x0), (2, .long s7.1), (4, .int s7.2)]) dX8_stretch_31 (by decide) (fun _ => rfl) rfl (fun x9 => ?_)
        refine z_loop (sM := fun s => b3) (sl := fun s => [(0, .ref 100), (1, .int x0), (2, .long s.1), (4, .int s7.2), (5, .int s.2)]) [1, 2, 3, 4, 0] rfl rfl (fun r10 hr10 s11 => ?_)
        unfold FX8_stretch_L33
        refine z_iload C 4 dX8_stretch_33 rfl rfl ?_
        refine z_iload_n C 1 dX8_stretch_35 rfl rfl rfl ?_
        refine z_icmpgt C dX8_stretch_36 rfl rfl ?_ ?_
        · refine z_iinc (v := (s7.2 + (1 : Int32))) C 3 (fun z => [(4, .int z), (0, .ref 100), (1, .int x0), (2, .long s11.1), (5, .int s11.2)]) dX8_stretch_238 rfl rfl (by decide) (fun _ => rfl) rfl (fun x12 => ?_)
          refine z_goto C dX8_stretch_241 rfl ?_
          exact z_perm [1, 2, 3, 0] rfl (hr6 (s11.1, x12))
        · refine z_iload C 4 dX8_stretch_39 rfl rfl ?_
          refine z_iload_n C 1 dX8_stretch_41 rfl rfl rfl ?_
          refine z_join (fun k14 => ∀ (u13 : Unit), zR Y X 14 (zFi Y X (fun b => b.1) (fun b => b.2)) (k14 u13) 65 [(0, .ref 100), (1, .int x0), (2, .long s11.1), (4, .int s7.2), (5, .int s11.2)] [] b3) (fun u13 => ?_) (fun k14 hk14 => ?_)
          · refine z_aload_n C 0 dX8_stretch_65 rfl rfl rfl ?_
            refine z_get (v := .ref 107) C 15 zOK8 rfl (by decide) w803 rfl rfl dX8_stretch_66 rfl ?_
            refine z_iload C 4 dX8_stretch_69 rfl rfl ?_
            refine z_iconst C (1 : Int32) dX8_stretch_71 rfl rfl ?_
            refine z_iadd C dX8_stretch_72 rfl ?_
            refine z_iload C 3 dX8_stretch_73 rfl rfl ?_
            refine z_ci (fun b => b) (fun _ => b3) (fun b hb => z_S (na := 2) C [.int (s11.2 + (1 : Int32)), .int s7.2] rfl (mX8_at Y (s11.2 + (1 : Int32)) s7.2 b3 b hb) w964 w965 w88 w966 hdX8_at ⟨Nat.le_of_ble_eq_true rfl, Nat.le_of_ble_eq_true rfl⟩ (Nat.le_of_ble_eq_true rfl) rfl dX8_stretch_75) rfl (fun b15 => ?_)
            refine z_iaload C 2601 rfl dX8_stretch_78 rfl ?_
            refine z_aload_n C 0 dX8_stretch_79 rfl rfl rfl ?_
            refine z_get (v := .ref 107) C 15 zOK8 rfl (by decide) w803 rfl rfl dX8_stretch_80 rfl ?_
            refine z_iload C 4 dX8_stretch_83 rfl rfl ?_
            refine z_iconst C (1 : Int32) dX8_stretch_85 rfl rfl ?_
            refine z_isub C dX8_stretch_86 rfl ?_
            refine z_iload C 3 dX8_stretch_87 rfl rfl ?_
            refine z_ci (fun b => b) (fun _ => b3) (fun b hb => z_S (na := 2) C [.int (s11.2 - (1 : Int32)), .int s7.2] rfl (mX8_at Y (s11.2 - (1 : Int32)) s7.2 b3 b hb) w964 w965 w88 w966 hdX8_at ⟨Nat.le_of_ble_eq_true rfl, Nat.le_of_ble_eq_true rfl⟩ (Nat.le_of_ble_eq_true rfl) rfl dX8_stretch_89) rfl (fun b16 => ?_)
            refine z_iaload C 2601 rfl dX8_stretch_92 rfl ?_
            refine z_isub C dX8_stretch_93 rfl ?_
            refine z_i2l C dX8_stretch_94 rfl ?_
            refine z_lstore C (fun z => [(6, .long z), (0, .ref 100), (1, .int x0), (2, .long s11.1), (4, .int s7.2), (5, .int s11.2)]) dX8_stretch_95 (by decide) (fun _ => rfl) rfl (fun y17 => ?_)
            refine z_aload_n C 1 dX8_stretch_97 rfl rfl rfl ?_
            refine z_get (v := .ref 108) C 16 zOK8 rfl (by decide) w804 rfl rfl dX8_stretch_98 rfl ?_
            refine z_iload C 5 dX8_stretch_101 rfl rfl ?_
            refine z_iconst C (1 : Int32) dX8_stretch_103 rfl rfl ?_
            refine z_iadd C dX8_stretch_104 rfl ?_
            refine z_iload C 4 dX8_stretch_105 rfl rfl ?_
            refine z_ci (fun b => b) (fun _ => b3) (fun b hb => z_S (na := 2) C [.int (s11.2 + (1 : Int32)), .int s7.2] rfl (mX8_at Y (s11.2 + (1 : Int32)) s7.2 b3 b hb) w964 w965 w88 w966 hdX8_at ⟨Nat.le_of_ble_eq_true rfl, Nat.le_of_ble_eq_true rfl⟩ (Nat.le_of_ble_eq_true rfl) rfl dX8_stretch_107) rfl (fun b18 => ?_)
            refine z_iaload C 2601 rfl dX8_stretch_110 rfl ?_
            refine z_aload_n C 1 dX8_stretch_111 rfl rfl rfl ?_
            refine z_get (v := .ref 108) C 16 zOK8 rfl (by decide) w804 rfl rfl dX8_stretch_112 rfl ?_
            refine z_iload C 5 dX8_stretch_115 rfl rfl ?_
            refine z_iconst C (1 : Int32) dX8_stretch_117 rfl rfl ?_
            refine z_isub C dX8_stretch_118 rfl ?_
            refine z_iload C 4 dX8_stretch_119 rfl rfl ?_
            refine z_ci (fun b => b) (fun _ => b3) (fun b hb => z_S (na := 2) C [.int (s11.2 - (1 : Int32)), .int s7.2] rfl (mX8_at Y (s11.2 - (1 : Int32)) s7.2 b3 b hb) w964 w965 w88 w966 hdX8_at ⟨Nat.le_of_ble_eq_true rfl, Nat.le_of_ble_eq_true rfl⟩ (Nat.le_of_ble_eq_true rfl) rfl dX8_stretch_121) rfl (fun b19 => ?_)
            refine z_iaload C 2601 rfl dX8_stretch_124 rfl ?_
            refine z_isub C dX8_stretch_125 rfl ?_
            refine z_i2l C dX8_stretch_126 rfl ?_
            refine z_lstore C (fun z => [(8, .long z), (6, .long y17), (0, .ref 100), (1, .int x0), (2, .long s11.1), (4, .int s7.2), (5, .int s11.2)]) dX8_stretch_127 (by decide) (fun _ => rfl) rfl (fun y20 => ?_)
            refine z_aload_n C 2 dX8_stretch_129 rfl rfl rfl ?_
            refine z_get (v := .ref 107) C 15 zOK8 rfl (by decide) w803 rfl rfl dX8_stretch_130 rfl ?_
            refine z_iload C 6 dX8_stretch_133 rfl rfl ?_
            refine z_iload C 5 dX8_stretch_135 rfl rfl ?_
            refine z_iconst C (1 : Int32) dX8_stretch_137 rfl rfl ?_
            refine z_iadd C dX8_stretch_138 rfl ?_
            refine z_ci (fun b => b) (fun _ => b3) (fun b hb => z_S (na := 2) C [.int s11.2, .int (s7.2 + (1 : Int32))] rfl (mX8_at Y s11.2 (s7.2 + (1 : Int32)) b3 b hb) w964 w965 w88 w966 hdX8_at ⟨Nat.le_of_ble_eq_true rfl, Nat.le_of_ble_eq_true rfl⟩ (Nat.le_of_ble_eq_true rfl) rfl dX8_stretch_139) rfl (fun b21 => ?_)
            refine z_iaload C 2601 rfl dX8_stretch_142 rfl ?_
            refine z_aload_n C 2 dX8_stretch_143 rfl rfl rfl ?_
            refine z_get (v := .ref 107) C 15 zOK8 rfl (by decide) w803 rfl rfl dX8_stretch_144 rfl ?_
            refine z_iload C 6 dX8_stretch_147 rfl rfl ?_
            refine z_iload C 5 dX8_stretch_149 rfl rfl ?_
            refine z_iconst C (1 : Int32) dX8_stretch_151 rfl rfl ?_
            refine z_isub C dX8_stretch_152 rfl ?_
            refine z_ci (fun b => b) (fun _ => b3) (fun b hb => z_S (na := 2) C [.int s11.2, .int (s7.2 - (1 : Int32))] rfl (mX8_at Y s11.2 (s7.2 - (1 : Int32)) b3 b hb) w964 w965 w88 w966 hdX8_at ⟨Nat.le_of_ble_eq_true rfl, Nat.le_of_ble_eq_true rfl⟩ (Nat.le_of_ble_eq_true rfl) rfl dX8_stretch_153) rfl (fun b22 => ?_)
            refine z_iaload C 2601 rfl dX8_stretch_156 rfl ?_
            refine z_isub C dX8_stretch_157 rfl ?_
            refine z_i2l C dX8_stretch_158 rfl ?_
            refine z_lstore C (fun z => [(10, .long z), (8, .long y20), (6, .long y17), (0, .ref 100), (1, .int x0), (2, .long s11.1), (4, .int s7.2), (5, .int s11.2)]) dX8_stretch_159 (by decide) (fun _ => rfl) rfl (fun y23 => ?_)
            refine z_aload_n C 3 dX8_stretch_161 rfl rfl rfl ?_
            refine z_get (v := .ref 108) C 16 zOK8 rfl (by decide) w804 rfl rfl dX8_stretch_162 rfl ?_
            refine z_iload C 7 dX8_stretch_165 rfl rfl ?_
            refine z_iload C 6 dX8_stretch_167 rfl rfl ?_
            refine z_iconst C (1 : Int32) dX8_stretch_169 rfl rfl ?_
            refine z_iadd C dX8_stretch_170 rfl ?_
            refine z_ci (fun b => b) (fun _ => b3) (fun b hb => z_S (na := 2) C [.int s11.2, .int (s7.2 + (1 : Int32))] rfl (mX8_at Y s11.2 (s7.2 + (1 : Int32)) b3 b hb) w964 w965 w88 w966 hdX8_at ⟨Nat.le_of_ble_eq_true rfl, Nat.le_of_ble_eq_true rfl⟩ (Nat.le_of_ble_eq_true rfl) rfl dX8_stretch_171) rfl (fun b24 => ?_)
            refine z_iaload C 2601 rfl dX8_stretch_174 rfl ?_
            refine z_aload_n C 3 dX8_stretch_175 rfl rfl rfl ?_
            refine z_get (v := .ref 108) C 16 zOK8 rfl (by decide) w804 rfl rfl dX8_stretch_176 rfl ?_
            refine z_iload C 7 dX8_stretch_179 rfl rfl ?_
            refine z_iload C 6 dX8_stretch_181 rfl rfl ?_
            refine z_iconst C (1 : Int32) dX8_stretch_183 rfl rfl ?_
            refine z_isub C dX8_stretch_184 rfl ?_
            refine z_ci (fun b => b) (fun _ => b3) (fun b hb => z_S (na := 2) C [.int s11.2, .int (s7.2 - (1 : Int32))] rfl (mX8_at Y s11.2 (s7.2 - (1 : Int32)) b3 b hb) w964 w965 w88 w966 hdX8_at ⟨Nat.le_of_ble_eq_true rfl, Nat.le_of_ble_eq_true rfl⟩ (Nat.le_of_ble_eq_true rfl) rfl dX8_stretch_185) rfl (fun b25 => ?_)
            refine z_iaload C 2601 rfl dX8_stretch_188 rfl ?_
            refine z_isub C dX8_stretch_189 rfl ?_
            refine z_i2l C dX8_stretch_190 rfl ?_
            refine z_lstore C (fun z => [(12, .long z), (10, .long y23), (8, .long y20), (6, .long y17), (0, .ref 100), (1, .int x0), (2, .long s11.1), (4, .int s7.2), (5, .int s11.2)]) dX8_stretch_191 (by decide) (fun _ => rfl) rfl (fun y26 => ?_)
            refine z_lload_n C 6 dX8_stretch_193 rfl rfl rfl ?_
            refine z_ldc2 C w1029 dX8_stretch_194 rfl ?_
            refine z_lload C 2 dX8_stretch_197 rfl rfl ?_
            refine z_lload C 1 dX8_stretch_199 rfl rfl ?_
            refine z_ladd C dX8_stretch_201 rfl ?_
            refine z_lmul C dX8_stretch_202 rfl ?_
            refine z_iload C 8 dX8_stretch_203 rfl rfl ?_
            refine z_i2l C dX8_stretch_205 rfl ?_
            refine z_lmul C dX8_stretch_206 rfl ?_
            refine z_iload C 7 dX8_stretch_207 rfl rfl ?_
            refine z_i2l C dX8_stretch_209 rfl ?_
            refine z_lmul C dX8_stretch_210 rfl ?_
            refine z_lload C 3 dX8_stretch_211 rfl rfl ?_
            refine z_lload C 0 dX8_stretch_213 rfl rfl ?_
            refine z_lsub C dX8_stretch_215 rfl ?_
            refine z_iload C 8 dX8_stretch_216 rfl rfl ?_
            refine z_iload C 8 dX8_stretch_218 rfl rfl ?_
            refine z_imul C dX8_stretch_220 rfl ?_
            refine z_iload C 7 dX8_stretch_221 rfl rfl ?_
            refine z_iload C 7 dX8_stretch_223 rfl rfl ?_
            refine z_imul C dX8_stretch_225 rfl ?_
            refine z_isub C dX8_stretch_226 rfl ?_
            refine z_i2l C dX8_stretch_227 rfl ?_
            refine z_lmul C dX8_stretch_228 rfl ?_
            refine z_lsub C dX8_stretch_229 rfl ?_
            refine z_ladd C dX8_stretch_230 rfl ?_
            refine z_lstore_n C (fun z => [(2, .long z), (12, .long y26), (10, .long y23), (8, .long y20), (6, .long y17), (0, .ref 100), (1, .int x0), (4, .int s7.2), (5, .int s11.2)]) dX8_stretch_231 rfl (by decide) (fun _ => rfl) rfl (fun y27 => ?_)
            refine z_iinc (v := (s11.2 + (1 : Int32))) C 8 (fun z => [(5, .int z), (2, .long y27), (12, .long y26), (10, .long y23), (8, .long y20), (6, .long y17), (0, .ref 100), (1, .int x0), (4, .int s7.2)]) dX8_stretch_232 rfl rfl (by decide) (fun _ => rfl) rfl (fun x28 => ?_)
            refine z_goto C dX8_stretch_235 rfl ?_
            exact z_perm [6, 7, 1, 8, 0] rfl (hr10 (y27, x28))
          · refine z_icmpeq C dX8_stretch_42 rfl rfl ?_ ?_
            · exact z_perm [0, 1, 2, 3, 4] rfl (hk14 ())
            · refine z_iload C 4 dX8_stretch_45 rfl rfl ?_
              refine z_iload_n C 1 dX8_stretch_47 rfl rfl rfl ?_
              refine z_ineg C dX8_stretch_48 rfl ?_
              refine z_icmpeq C dX8_stretch_49 rfl rfl ?_ ?_
              · exact z_perm [0, 1, 2, 3, 4] rfl (hk14 ())
              · refine z_iload C 3 dX8_stretch_52 rfl rfl ?_
                refine z_iload_n C 1 dX8_stretch_54 rfl rfl rfl ?_
                refine z_icmpeq C dX8_stretch_55 rfl rfl ?_ ?_
                · exact z_perm [0, 1, 2, 3, 4] rfl (hk14 ())
                · refine z_iload C 3 dX8_stretch_58 rfl rfl ?_
                  refine z_iload_n C 1 dX8_stretch_60 rfl rfl rfl ?_
                  refine z_ineg C dX8_stretch_61 rfl ?_
                  refine z_icmpne C dX8_stretch_62 rfl rfl ?_ ?_
                  · refine z_iinc (v := (s11.2 + (1 : Int32))) C 4 (fun z => [(5, .int z), (0, .ref 100), (1, .int x0), (2, .long s11.1), (4, .int s7.2)]) dX8_stretch_232 rfl rfl (by decide) (fun _ => rfl) rfl (fun x29 => ?_)
                    refine z_goto C dX8_stretch_235 rfl ?_
                    exact z_perm [1, 2, 3, 4, 0] rfl (hr10 (s11.1, x29))
                  · exact z_perm [0, 1, 2, 3, 4] rfl (hk14 ())
    · refine z_ldc C w913 dX8_stretch_10 rfl ?_
      exact z_iret C rfl rfl dX8_stretch_12
  exact key b hF
set_option maxRecDepth 100000 in
set_option maxHeartbeats 4000000 in
theorem mX8_type (Y : zY) (y0 : Int64) (x1 : Int32) (M : zMem) (b : Int32 × zMem) (hF : FX8_type y0 x1 M = some b) : zMt Y yX8_type cX8_type 5 (some .int) 1 22 [.ref 100, .long y0, .int x1] M (zQi Y b.1 b.2) := by
  refine zMt_of (own := RX8) (by decide +kernel) rfl (Nat.le_of_ble_eq_true rfl) (fun X C => ?_)
  have key : zR Y X 5 (zFi Y X (fun b => b.1) (fun b => b.2)) (FX8_type y0 x1 M) 0 [(0, .ref 100), (1, .long y0), (3, .int x1)] [] M := by
    unfold FX8_type
    refine z_iload_n C 2 dX8_type_0 rfl rfl rfl ?_
    refine z_iconst C (1 : Int32) dX8_type_1 rfl rfl ?_
    refine z_bipush C (8 : Int32) dX8_type_2 rfl rfl ?_
    refine z_ci (fun b => b) (fun _ => M) (fun b hb => z_S (na := 3) C [.int x1, .int (1 : Int32), .int (8 : Int32)] rfl (mX8_in Y x1 (1 : Int32) (8 : Int32) M b hb) w896 w897 w88 w898 hdX8_in ⟨Nat.le_of_ble_eq_true rfl, Nat.le_of_ble_eq_true rfl⟩ (Nat.le_of_ble_eq_true rfl) rfl dX8_type_4) rfl (fun b3 => ?_)
    refine z_ifne C dX8_type_7 rfl rfl ?_ ?_
    · refine z_aload_n C 0 dX8_type_12 rfl rfl rfl ?_
      refine z_get (v := .int (M.1 100 5)) C 5 zOK8 rfl (by decide) w793 rfl rfl dX8_type_13 rfl ?_
      refine z_iload_n C 2 dX8_type_16 rfl rfl rfl ?_
      refine z_iadd C dX8_type_17 rfl ?_
      refine z_sipush C (200 : Int32) dX8_type_18 rfl rfl ?_
      refine z_icmple C dX8_type_21 rfl rfl ?_ ?_
      · refine z_iload_n C 2 dX8_type_27 rfl rfl rfl ?_
        refine z_iconst C (1 : Int32) dX8_type_28 rfl rfl ?_
        refine z_isub C dX8_type_29 rfl ?_
        refine z_istore C (fun z => [(4, .int z), (0, .ref 100), (1, .long y0), (3, .int x1)]) dX8_type_30 (by decide) (fun _ => rfl) rfl (fun x4 => ?_)
        refine z_loop (sM := fun s => s.2) (sl := fun s => [(0, .ref 100), (1, .long y0), (4, .int s.1)]) [1, 2, 0] rfl rfl (fun r5 hr5 s6 => ?_)
        unfold FX8_type_L32
        refine z_iload C 2 dX8_type_32 rfl rfl ?_
        refine z_iflt C dX8_type_34 rfl rfl ?_ ?_
        · refine z_aload_n C 0 dX8_type_75 rfl rfl rfl ?_
          refine z_get (v := .int (s6.2.1 100 5)) C 5 zOK8 rfl (by decide) w793 rfl rfl dX8_type_76 rfl ?_
          exact z_iret C rfl rfl dX8_type_79
        · refine z_aload_n C 0 dX8_type_37 rfl rfl rfl ?_
          refine z_get (v := .ref 102) C 4 zOK8 rfl (by decide) w792 rfl rfl dX8_type_38 rfl ?_
          refine z_aload_n C 0 dX8_type_41 rfl rfl rfl ?_
          refine z_get (v := .int (s6.2.1 100 5)) C 5 zOK8 rfl (by decide) w793 rfl rfl dX8_type_42 rfl ?_
          refine z_lload_n C 1 dX8_type_45 rfl rfl rfl ?_
          refine z_bipush C (8 : Int32) dX8_type_46 rfl rfl ?_
          refine z_iload C 2 dX8_type_48 rfl rfl ?_
          refine z_imul C dX8_type_50 rfl ?_
          refine z_lshr C dX8_type_51 rfl ?_
          refine z_ldc2 C w1038 dX8_type_52 rfl ?_
          refine z_land C dX8_type_55 rfl ?_
          refine z_l2i C dX8_type_56 rfl ?_
          refine z_i2b C dX8_type_57 rfl ?_
          refine z_bastore C 200 rfl dX8_type_58 rfl (fun M7 => ?_)
          refine z_aload_n C 0 dX8_type_59 rfl rfl rfl ?_
          refine z_dup C dX8_type_60 rfl rfl ?_
          refine z_get (v := .int (M7.1 100 5)) C 5 zOK8 rfl (by decide) w793 rfl rfl dX8_type_61 rfl ?_
          refine z_iconst C (1 : Int32) dX8_type_64 rfl rfl ?_
          refine z_iadd C dX8_type_65 rfl ?_
          refine z_puti C 5 zOK8 rfl (by decide) w793 rfl rfl rfl rfl rfl dX8_type_66 rfl (fun M8 => ?_)
          refine z_iinc (v := (s6.1 + (-1 : Int32))) C 2 (fun z => [(4, .int z), (0, .ref 100), (1, .long y0)]) dX8_type_69 rfl rfl (by decide) (fun _ => rfl) rfl (fun x9 => ?_)
          refine z_goto C dX8_type_72 rfl ?_
          exact z_perm [1, 2, 0] rfl (hr5 (x9, M8))
      · refine z_bipush C (-3 : Int32) dX8_type_24 rfl rfl ?_
        exact z_iret C rfl rfl dX8_type_26
    · refine z_iconst C (-1 : Int32) dX8_type_10 rfl rfl ?_
      exact z_iret C rfl rfl dX8_type_11
  exact key b hF
set_option maxRecDepth 100000 in
set_option maxHeartbeats 4000000 in
theorem mX8_clear (Y : zY) (M : zMem) (b : Int32 × zMem) (hF : FX8_clear M = some b) : zMt Y yX8_clear cX8_clear 2 (some .int) 0 0 [.ref 100] M (zQi Y b.1 b.2) := by
  refine zMt_of (own := RX8) (by decide +kernel) rfl (Nat.le_of_ble_eq_true rfl) (fun X C => ?_)
  have key : zR Y X 2 (zFi Y X (fun b => b.1) (fun b => b.2)) (FX8_clear M) 0 [(0, .ref 100)] [] M := by
    unfold FX8_clear
    refine z_aload_n C 0 dX8_clear_0 rfl rfl rfl ?_
    refine z_get (v := .int (M.1 100 5)) C 5 zOK8 rfl (by decide) w793 rfl rfl dX8_clear_1 rfl ?_
    refine z_istore_n C (fun z => [(1, .int z), (0, .ref 100)]) dX8_clear_4 rfl (by decide) (fun _ => rfl) rfl (fun x1 => ?_)
    refine z_aload_n C 1 dX8_clear_5 rfl rfl rfl ?_
    refine z_iconst C (0 : Int32) dX8_clear_6 rfl rfl ?_
    refine z_puti C 5 zOK8 rfl (by decide) w793 rfl rfl rfl rfl rfl dX8_clear_7 rfl (fun M2 => ?_)
    refine z_iload_n C 0 dX8_clear_10 rfl rfl rfl ?_
    exact z_iret C rfl rfl dX8_clear_11
  exact key b hF
set_option maxRecDepth 100000 in
set_option maxHeartbeats 4000000 in
theorem mX8_here (Y : zY) (M : zMem) (b : Int32) (hF : FX8_here M = some b) : zMt Y yX8_here cX8_here 1 (some .int) 0 0 [.ref 100] M (zQi Y b M) := by
  refine zMt_of (own := RX8) (by decide +kernel) rfl (Nat.le_of_ble_eq_true rfl) (fun X C => ?_)
  have key : zR Y X 1 (zFi Y X (fun b => b) (fun _ => M)) (FX8_here M) 0 [(0, .ref 100)] [] M := by
    unfold FX8_here
    refine z_aload_n C 0 dX8_here_0 rfl rfl rfl ?_
    refine z_get (v := .int (M.1 100 23)) C 23 zOK8 rfl (by decide) w811 rfl rfl dX8_here_1 rfl ?_
    refine z_aload_n C 0 dX8_here_4 rfl rfl rfl ?_
    refine z_get (v := .int (M.1 100 5)) C 5 zOK8 rfl (by decide) w793 rfl rfl dX8_here_5 rfl ?_
    refine z_icmpge C dX8_here_8 rfl rfl ?_ ?_
    · refine z_iconst C (-1 : Int32) dX8_here_23 rfl rfl ?_
      exact z_iret C rfl rfl dX8_here_24
    · refine z_aload_n C 0 dX8_here_11 rfl rfl rfl ?_
      refine z_get (v := .ref 102) C 4 zOK8 rfl (by decide) w792 rfl rfl dX8_here_12 rfl ?_
      refine z_aload_n C 0 dX8_here_15 rfl rfl rfl ?_
      refine z_get (v := .int (M.1 100 23)) C 23 zOK8 rfl (by decide) w811 rfl rfl dX8_here_16 rfl ?_
      refine z_baload C 200 rfl dX8_here_19 rfl ?_
      refine z_goto C dX8_here_20 rfl ?_
      exact z_iret C rfl rfl dX8_here_24
  exact key b hF
set_option maxRecDepth 100000 in
set_option maxHeartbeats 4000000 in
theorem mX8_isDigit (Y : zY) (M : zMem) (b : Int32) (hF : FX8_isDigit M = some b) : zMt Y yX8_isDigit cX8_isDigit 1 (some .boolean) 1 22 [.ref 100] M (zQi Y b M) := by
  refine zMt_of (own := RX8) (by decide +kernel) rfl (Nat.le_of_ble_eq_true rfl) (fun X C => ?_)
  have key : zR Y X 1 (zFi Y X (fun b => b) (fun _ => M)) (FX8_isDigit M) 0 [(0, .ref 100)] [] M := by
    unfold FX8_isDigit
    refine z_aload_n C 0 dX8_isDigit_0 rfl rfl rfl ?_
    refine z_ci (fun b => b) (fun _ => M) (fun b hb => z_V (na := 0) (ci := 8) (r := (RX8, TX8, 34)) C [] rfl (mX8_here Y M b hb) rfl rfl w1051 w1053 w63 w88 w1054 hdX8_here ⟨Nat.le_of_ble_eq_true rfl, Nat.le_of_ble_eq_true rfl⟩ (Nat.le_of_ble_eq_true rfl) rfl dX8_isDigit_1) rfl (fun b1 => ?_)
    refine z_bipush C (48 : Int32) dX8_isDigit_4 rfl rfl ?_
    refine z_bipush C (57 : Int32) dX8_isDigit_6 rfl rfl ?_
    refine z_ci (fun b => b) (fun _ => M) (fun b hb => z_S (na := 3) C [.int b1, .int (48 : Int32), .int (57 : Int32)] rfl (mX8_in Y b1 (48 : Int32) (57 : Int32) M b hb) w896 w897 w88 w898 hdX8_in ⟨Nat.le_of_ble_eq_true rfl, Nat.le_of_ble_eq_true rfl⟩ (Nat.le_of_ble_eq_true rfl) rfl dX8_isDigit_8) rfl (fun b2 => ?_)
    exact z_zret C rfl rfl dX8_isDigit_11
  exact key b hF
set_option maxRecDepth 100000 in
set_option maxHeartbeats 4000000 in
theorem mX8_sign (Y : zY) (x0 : Int32) (M : zMem) (b : zMem) (hF : FX8_sign x0 M = some b) : zMt Y yX8_sign cX8_sign 2 none 1 20 [.ref 100, .int x0] M (zQv Y b) := by
  refine zMt_of (own := RX8) (by decide +kernel) rfl (Nat.le_of_ble_eq_true rfl) (fun X C => ?_)
  have key : zR Y X 2 (zFv Y X (fun b => b)) (FX8_sign x0 M) 0 [(0, .ref 100), (1, .int x0)] [] M := by
    unfold FX8_sign
    refine z_aload_n C 0 dX8_sign_0 rfl rfl rfl ?_
    refine z_get (v := .int (M.1 100 24)) C 24 zOK8 rfl (by decide) w812 rfl rfl dX8_sign_1 rfl ?_
    refine z_bipush C (-9 : Int32) dX8_sign_4 rfl rfl ?_
    refine z_icmpne C dX8_sign_6 rfl rfl ?_ ?_
    · exact z_vret C rfl dX8_sign_40
    · refine z_aload_n C 0 dX8_sign_9 rfl rfl rfl ?_
      refine z_aload_n C 0 dX8_sign_10 rfl rfl rfl ?_
      refine z_ci (fun b => b) (fun _ => M) (fun b hb => z_V (na := 0) (ci := 8) (r := (RX8, TX8, 34)) C [] rfl (mX8_here Y M b hb) rfl rfl w1051 w1053 w63 w88 w1054 hdX8_here ⟨Nat.le_of_ble_eq_true rfl, Nat.le_of_ble_eq_true rfl⟩ (Nat.le_of_ble_eq_true rfl) rfl dX8_sign_11) rfl (fun b2 => ?_)
      refine z_iload_n C 1 dX8_sign_14 rfl rfl rfl ?_
      refine z_join (fun k4 => ∀ (x3 : Int32), zR Y X 2 (zFv Y X (fun b => b)) (k4 x3) 27 [(0, .ref 100)] [.int x3, .ref 100] M) (fun x3 => ?_) (fun k4 hk4 => ?_)
      · refine z_puti C 24 zOK8 rfl (by decide) w812 rfl rfl rfl rfl rfl dX8_sign_27 rfl (fun M5 => ?_)
        refine z_aload_n C 0 dX8_sign_30 rfl rfl rfl ?_
        refine z_dup C dX8_sign_31 rfl rfl ?_
        refine z_get (v := .int (M5.1 100 23)) C 23 zOK8 rfl (by decide) w811 rfl rfl dX8_sign_32 rfl ?_
        refine z_iconst C (1 : Int32) dX8_sign_35 rfl rfl ?_
        refine z_iadd C dX8_sign_36 rfl ?_
        refine z_puti C 23 zOK8 rfl (by decide) w811 rfl rfl rfl rfl rfl dX8_sign_37 rfl (fun M6 => ?_)
        exact z_vret C rfl dX8_sign_40
      · refine z_icmpne C dX8_sign_15 rfl rfl ?_ ?_
        · refine z_aload_n C 0 dX8_sign_23 rfl rfl rfl ?_
          refine z_get (v := .int (M.1 100 23)) C 23 zOK8 rfl (by decide) w811 rfl rfl dX8_sign_24 rfl ?_
          exact z_perm [0] rfl (hk4 (M.1 100 23))
        · refine z_bipush C (-9 : Int32) dX8_sign_18 rfl rfl ?_
          refine z_goto C dX8_sign_20 rfl ?_
          exact z_perm [0] rfl (hk4 (-9 : Int32))
  exact key b hF
set_option maxRecDepth 100000 in
set_option maxHeartbeats 4000000 in
theorem mX8_number (Y : zY) (x0 : Int32) (x1 : Int32) (M : zMem) (b : Int32 × zMem) (hF : FX8_number x0 x1 M = some b) : zMt Y yX8_number cX8_number 7 (some .int) 2 42 [.ref 100, .int x0, .int x1] M (zQi Y b.1 b.2) := by
  refine zMt_of (own := RX8) (by decide +kernel) rfl (Nat.le_of_ble_eq_true rfl) (fun X C => ?_)
  have key : zR Y X 7 (zFi Y X (fun b => b.1) (fun b => b.2)) (FX8_number x0 x1 M) 0 [(0, .ref 100), (1, .int x0), (2, .int x1)] [] M := by
    unfold FX8_number
    refine z_aload_n C 0 dX8_number_0 rfl rfl rfl ?_
    refine z_get (v := .int (M.1 100 24)) C 24 zOK8 rfl (by decide) w812 rfl rfl dX8_number_1 rfl ?_
    refine z_bipush C (-9 : Int32) dX8_number_4 rfl rfl ?_
    refine z_icmpeq C dX8_number_6 rfl rfl ?_ ?_
    · refine z_iload_n C 2 dX8_number_11 rfl rfl rfl ?_
      refine z_join (fun k4 => ∀ (x3 : Int32), zR Y X 7 (zFi Y X (fun b => b.1) (fun b => b.2)) (k4 x3) 29 [(0, .ref 100), (1, .int x0)] [.int x3] M) (fun x3 => ?_) (fun k4 hk4 => ?_)
      · refine z_istoreP_n (lo' := [(3, .int x3), (0, .ref 100), (1, .int x0)]) C dX8_number_29 rfl (by decide) rfl rfl ?_
        refine z_aload_n C 1 dX8_number_30 rfl rfl rfl ?_
        refine z_dup C dX8_number_31 rfl rfl ?_
        refine z_get (v := .int (M.1 100 23)) C 23 zOK8 rfl (by decide) w811 rfl rfl dX8_number_32 rfl ?_
        refine z_iload_n C 0 dX8_number_35 rfl rfl rfl ?_
        refine z_join (fun k6 => ∀ (x5 : Int32), zR Y X 7 (zFi Y X (fun b => b.1) (fun b => b.2)) (k6 x5) 44 [(0, .ref 100), (1, .int x0), (3, .int x3)] [.int x5, .int (M.1 100 23), .ref 100] M) (fun x5 => ?_) (fun k6 hk6 => ?_)
        · refine z_iadd C dX8_number_44 rfl ?_
          refine z_puti C 23 zOK8 rfl (by decide) w811 rfl rfl rfl rfl rfl dX8_number_45 rfl (fun M7 => ?_)
          refine z_aload_n C 0 dX8_number_48 rfl rfl rfl ?_
          refine z_ci (fun b => b) (fun _ => M7) (fun b hb => z_V (na := 0) (ci := 8) (r := (RX8, TX8, 34)) C [] rfl (mX8_isDigit Y M7 b hb) rfl rfl w1059 w1061 w65 w88 w1062 hdX8_isDigit ⟨Nat.le_of_ble_eq_true rfl, Nat.le_of_ble_eq_true rfl⟩ (Nat.le_of_ble_eq_true rfl) rfl dX8_number_49) rfl (fun b8 => ?_)
          refine z_join (fun k10 => ∀ (u9 : Unit), zR Y X 7 (zFi Y X (fun b => b.1) (fun b => b.2)) (k10 u9) 68 [(0, .ref 100)] [] M7) (fun u9 => ?_) (fun k10 hk10 => ?_)
          · refine z_aload_n C 0 dX8_number_68 rfl rfl rfl ?_
            refine z_aload_n C 0 dX8_number_69 rfl rfl rfl ?_
            refine z_get (v := .int (M7.1 100 23)) C 23 zOK8 rfl (by decide) w811 rfl rfl dX8_number_70 rfl ?_
            refine z_puti C 24 zOK8 rfl (by decide) w812 rfl rfl rfl rfl rfl dX8_number_73 rfl (fun M11 => ?_)
            refine z_iconst C (0 : Int32) dX8_number_76 rfl rfl ?_
            exact z_iret C rfl rfl dX8_number_77
          · refine z_ifeq C dX8_number_52 rfl rfl ?_ ?_
            · exact z_perm [0] rfl (hk10 ())
            · refine z_iload_n C 2 dX8_number_55 rfl rfl rfl ?_
              refine z_join (fun k13 => ∀ (u12 : Unit), zR Y X 7 (zFi Y X (fun b => b.1) (fun b => b.2)) (k13 u12) 78 [(0, .ref 100), (1, .int x0), (3, .int x3)] [] M7) (fun u12 => ?_) (fun k13 hk13 => ?_)
              · refine z_aload_n C 0 dX8_number_78 rfl rfl rfl ?_
                refine z_ci (fun b => b) (fun _ => M7) (fun b hb => z_V (na := 0) (ci := 8) (r := (RX8, TX8, 34)) C [] rfl (mX8_here Y M7 b hb) rfl rfl w1051 w1053 w63 w88 w1054 hdX8_here ⟨Nat.le_of_ble_eq_true rfl, Nat.le_of_ble_eq_true rfl⟩ (Nat.le_of_ble_eq_true rfl) rfl dX8_number_79) rfl (fun b14 => ?_)
                refine z_bipush C (48 : Int32) dX8_number_82 rfl rfl ?_
                refine z_join (fun k16 => ∀ (x15 : Int32), zR Y X 7 (zFi Y X (fun b => b.1) (fun b => b.2)) (k16 x15) 92 [(0, .ref 100), (1, .int x0), (3, .int x3)] [.int x15] M7) (fun x15 => ?_) (fun k16 hk16 => ?_)
                · refine z_istoreP (lo' := [(4, .int x15), (0, .ref 100), (1, .int x0), (3, .int x3)]) C dX8_number_92 (by decide) rfl rfl ?_
                  refine z_iconst C (0 : Int32) dX8_number_94 rfl rfl ?_
                  refine z_istoreP (lo' := [(5, .int (0 : Int32)), (4, .int x15), (0, .ref 100), (1, .int x0), (3, .int x3)]) C dX8_number_95 (by decide) rfl rfl ?_
                  refine z_iconst C (1 : Int32) dX8_number_97 rfl rfl ?_
                  refine z_istoreP (lo' := [(6, .int (1 : Int32)), (5, .int (0 : Int32)), (4, .int x15), (0, .ref 100), (1, .int x0), (3, .int x3)]) C dX8_number_98 (by decide) rfl rfl ?_
                  refine z_loop (sM := fun s => s.2.2) (sl := fun s => [(0, .ref 100), (1, .int x0), (3, .int x3), (4, .int x15), (5, .int s.1), (6, .int s.2.1)]) [3, 4, 5, 2, 1, 0] rfl rfl (fun r17 hr17 s18 => ?_)
                  unfold FX8_number_L100
                  refine z_iload C 5 dX8_number_100 rfl rfl ?_
                  refine z_ifeq C dX8_number_102 rfl rfl ?_ ?_
                  · refine z_iload_n C 2 dX8_number_180 rfl rfl rfl ?_
                    refine z_ifeq C dX8_number_181 rfl rfl ?_ ?_
                    · refine z_iload C 4 dX8_number_190 rfl rfl ?_
                      exact z_iret C rfl rfl dX8_number_192
                    · refine z_iload C 4 dX8_number_184 rfl rfl ?_
                      refine z_ineg C dX8_number_186 rfl ?_
                      refine z_goto C dX8_number_187 rfl ?_
                      exact z_iret C rfl rfl dX8_number_192
                  · refine z_bipush C (10 : Int32) dX8_number_105 rfl rfl ?_
                    refine z_iload C 4 dX8_number_107 rfl rfl ?_
                    refine z_imul C dX8_number_109 rfl ?_
                    refine z_aload_n C 0 dX8_number_110 rfl rfl rfl ?_
                    refine z_ci (fun b => b) (fun _ => s18.2.2) (fun b hb => z_V (na := 0) (ci := 8) (r := (RX8, TX8, 34)) C [] rfl (mX8_here Y s18.2.2 b hb) rfl rfl w1051 w1053 w63 w88 w1054 hdX8_here ⟨Nat.le_of_ble_eq_true rfl, Nat.le_of_ble_eq_true rfl⟩ (Nat.le_of_ble_eq_true rfl) rfl dX8_number_111) rfl (fun b19 => ?_)
                    refine z_iadd C dX8_number_114 rfl ?_
                    refine z_bipush C (48 : Int32) dX8_number_115 rfl rfl ?_
                    refine z_isub C dX8_number_117 rfl ?_
                    refine z_istore C (fun z => [(5, .int z), (0, .ref 100), (1, .int x0), (3, .int x3), (4, .int x15), (6, .int s18.2.1)]) dX8_number_118 (by decide) (fun _ => rfl) rfl (fun x20 => ?_)
                    refine z_aload_n C 1 dX8_number_120 rfl rfl rfl ?_
                    refine z_iload C 0 dX8_number_121 rfl rfl ?_
                    refine z_iload_n C 2 dX8_number_123 rfl rfl rfl ?_
                    refine z_join (fun k22 => ∀ (x21 : Int32), zR Y X 7 (zFi Y X (fun b => b.1) (fun b => b.2)) (k22 x21) 136 [(0, .ref 100), (1, .int x0), (3, .int x3), (4, .int x15), (5, .int x20)] [.int x21, .ref 100] s18.2.2) (fun x21 => ?_) (fun k22 hk22 => ?_)
                    · refine z_puti C 24 zOK8 rfl (by decide) w812 rfl rfl rfl rfl rfl dX8_number_136 rfl (fun M23 => ?_)
                      refine z_aload_n C 0 dX8_number_139 rfl rfl rfl ?_
                      refine z_dup C dX8_number_140 rfl rfl ?_
                      refine z_get (v := .int (M23.1 100 23)) C 23 zOK8 rfl (by decide) w811 rfl rfl dX8_number_141 rfl ?_
                      refine z_iconst C (1 : Int32) dX8_number_144 rfl rfl ?_
                      refine z_iadd C dX8_number_145 rfl ?_
                      refine z_puti C 23 zOK8 rfl (by decide) w811 rfl rfl rfl rfl rfl dX8_number_146 rfl (fun M24 => ?_)
                      refine z_aload_n C 0 dX8_number_149 rfl rfl rfl ?_
                      refine z_get (v := .int (M24.1 100 24)) C 24 zOK8 rfl (by decide) w812 rfl rfl dX8_number_150 rfl ?_
                      refine z_bipush C (-9 : Int32) dX8_number_153 rfl rfl ?_
                      refine z_join (fun k26 => ∀ (x25 : Int32), zR Y X 7 (zFi Y X (fun b => b.1) (fun b => b.2)) (k26 x25) 175 [(0, .ref 100), (1, .int x0), (3, .int x3), (4, .int x15), (5, .int x20)] [.int x25] M24) (fun x25 => ?_) (fun k26 hk26 => ?_)
                      · refine z_istoreP (lo' := [(6, .int x25), (0, .ref 100), (1, .int x0), (3, .int x3), (4, .int x15), (5, .int x20)]) C dX8_number_175 (by decide) rfl rfl ?_
                        refine z_goto C dX8_number_177 rfl ?_
                        exact z_perm [1, 2, 3, 4, 5, 0] rfl (hr17 (x20, x25, M24))
                      · refine z_join (fun k28 => ∀ (u27 : Unit), zR Y X 7 (zFi Y X (fun b => b.1) (fun b => b.2)) (k28 u27) 174 [(0, .ref 100), (1, .int x0), (3, .int x3), (4, .int x15), (5, .int x20)] [] M24) (fun u27 => ?_) (fun k28 hk28 => ?_)
                        · refine z_iconst C (0 : Int32) dX8_number_174 rfl rfl ?_
                          exact z_perm [0, 1, 2, 3, 4] rfl (hk26 (0 : Int32))
                        · refine z_icmpne C dX8_number_155 rfl rfl ?_ ?_
                          · exact z_perm [0, 1, 2, 3, 4] rfl (hk28 ())
                          · refine z_iload C 3 dX8_number_158 rfl rfl ?_
                            refine z_ifne C dX8_number_160 rfl rfl ?_ ?_
                            · exact z_perm [0, 1, 2, 3, 4] rfl (hk28 ())
                            · refine z_aload_n C 0 dX8_number_163 rfl rfl rfl ?_
                              refine z_ci (fun b => b) (fun _ => M24) (fun b hb => z_V (na := 0) (ci := 8) (r := (RX8, TX8, 34)) C [] rfl (mX8_isDigit Y M24 b hb) rfl rfl w1059 w1061 w65 w88 w1062 hdX8_isDigit ⟨Nat.le_of_ble_eq_true rfl, Nat.le_of_ble_eq_true rfl⟩ (Nat.le_of_ble_eq_true rfl) rfl dX8_number_164) rfl (fun b29 => ?_)
                              refine z_ifeq C dX8_number_167 rfl rfl ?_ ?_
                              · exact z_perm [0, 1, 2, 3, 4] rfl (hk28 ())
                              · refine z_iconst C (1 : Int32) dX8_number_170 rfl rfl ?_
                                refine z_goto C dX8_number_171 rfl ?_
                                exact z_perm [0, 1, 2, 3, 4] rfl (hk26 (1 : Int32))
                    · refine z_icmple C dX8_number_124 rfl rfl ?_ ?_
                      · refine z_bipush C (-9 : Int32) dX8_number_134 rfl rfl ?_
                        exact z_perm [1, 2, 3, 4, 0] rfl (hk22 (-9 : Int32))
                      · refine z_aload_n C 1 dX8_number_127 rfl rfl rfl ?_
                        refine z_get (v := .int (s18.2.2.1 100 23)) C 23 zOK8 rfl (by decide) w811 rfl rfl dX8_number_128 rfl ?_
                        refine z_goto C dX8_number_131 rfl ?_
                        exact z_perm [1, 2, 3, 4, 0] rfl (hk22 (s18.2.2.1 100 23))
                · refine z_icmpne C dX8_number_84 rfl rfl ?_ ?_
                  · refine z_iconst C (0 : Int32) dX8_number_91 rfl rfl ?_
                    exact z_perm [0, 1, 2] rfl (hk16 (0 : Int32))
                  · refine z_iconst C (1 : Int32) dX8_number_87 rfl rfl ?_
                    refine z_goto C dX8_number_88 rfl ?_
                    exact z_perm [0, 1, 2] rfl (hk16 (1 : Int32))
              · refine z_ifeq C dX8_number_56 rfl rfl ?_ ?_
                · exact z_perm [0, 1, 2] rfl (hk13 ())
                · refine z_aload_n C 0 dX8_number_59 rfl rfl rfl ?_
                  refine z_ci (fun b => b) (fun _ => M7) (fun b hb => z_V (na := 0) (ci := 8) (r := (RX8, TX8, 34)) C [] rfl (mX8_here Y M7 b hb) rfl rfl w1051 w1053 w63 w88 w1054 hdX8_here ⟨Nat.le_of_ble_eq_true rfl, Nat.le_of_ble_eq_true rfl⟩ (Nat.le_of_ble_eq_true rfl) rfl dX8_number_60) rfl (fun b30 => ?_)
                  refine z_bipush C (48 : Int32) dX8_number_63 rfl rfl ?_
                  refine z_icmpne C dX8_number_65 rfl rfl ?_ ?_
                  · exact z_perm [0, 1, 2] rfl (hk13 ())
                  · exact z_perm [0] rfl (hk10 ())
        · refine z_ifeq C dX8_number_36 rfl rfl ?_ ?_
          · refine z_iconst C (0 : Int32) dX8_number_43 rfl rfl ?_
            exact z_perm [1, 2, 0] rfl (hk6 (0 : Int32))
          · refine z_iconst C (1 : Int32) dX8_number_39 rfl rfl ?_
            refine z_goto C dX8_number_40 rfl ?_
            exact z_perm [1, 2, 0] rfl (hk6 (1 : Int32))
      · refine z_join (fun k32 => ∀ (u31 : Unit), zR Y X 7 (zFi Y X (fun b => b.1) (fun b => b.2)) (k32 u31) 28 [(0, .ref 100), (1, .int x0)] [] M) (fun u31 => ?_) (fun k32 hk32 => ?_)
        · refine z_iconst C (0 : Int32) dX8_number_28 rfl rfl ?_
          exact z_perm [0, 1] rfl (hk4 (0 : Int32))
        · refine z_ifeq C dX8_number_12 rfl rfl ?_ ?_
          · exact z_perm [0, 1] rfl (hk32 ())
          · refine z_aload_n C 0 dX8_number_15 rfl rfl rfl ?_
            refine z_ci (fun b => b) (fun _ => M) (fun b hb => z_V (na := 0) (ci := 8) (r := (RX8, TX8, 34)) C [] rfl (mX8_here Y M b hb) rfl rfl w1051 w1053 w63 w88 w1054 hdX8_here ⟨Nat.le_of_ble_eq_true rfl, Nat.le_of_ble_eq_true rfl⟩ (Nat.le_of_ble_eq_true rfl) rfl dX8_number_16) rfl (fun b33 => ?_)
            refine z_bipush C (45 : Int32) dX8_number_19 rfl rfl ?_
            refine z_icmpne C dX8_number_21 rfl rfl ?_ ?_
            · exact z_perm [0, 1] rfl (hk32 ())
            · refine z_iconst C (1 : Int32) dX8_number_24 rfl rfl ?_
              refine z_goto C dX8_number_25 rfl ?_
              exact z_perm [0, 1] rfl (hk4 (1 : Int32))
    · refine z_iconst C (0 : Int32) dX8_number_9 rfl rfl ?_
      exact z_iret C rfl rfl dX8_number_10
  exact key b hF
set_option maxRecDepth 100000 in
set_option maxHeartbeats 4000000 in
theorem mX8_item (Y : zY) (x0 : Int32) (M : zMem) (b : zMem) (hF : FX8_item x0 M = some b) : zMt Y yX8_item cX8_item 4 none 3 68 [.ref 100, .int x0] M (zQv Y b) := by
  refine zMt_of (own := RX8) (by decide +kernel) rfl (Nat.le_of_ble_eq_true rfl) (fun X C => ?_)
  have key : zR Y X 4 (zFv Y X (fun b => b)) (FX8_item x0 M) 0 [(0, .ref 100), (1, .int x0)] [] M := by
    unfold FX8_item
    refine z_bipush C (48 : Int32) dX8_item_0 rfl rfl ?_
    refine z_bipush C (6 : Int32) dX8_item_2 rfl rfl ?_
    refine z_iload_n C 1 dX8_item_4 rfl rfl rfl ?_
    refine z_imul C dX8_item_5 rfl ?_
    refine z_iadd C dX8_item_6 rfl ?_
    refine z_istore_n C (fun z => [(2, .int z), (0, .ref 100), (1, .int x0)]) dX8_item_7 rfl (by decide) (fun _ => rfl) rfl (fun x2 => ?_)
    refine z_aload_n C 1 dX8_item_8 rfl rfl rfl ?_
    refine z_ci (fun b => b) (fun _ => M) (fun b hb => z_V (na := 0) (ci := 8) (r := (RX8, TX8, 34)) C [] rfl (mX8_here Y M b hb) rfl rfl w1051 w1053 w63 w88 w1054 hdX8_here ⟨Nat.le_of_ble_eq_true rfl, Nat.le_of_ble_eq_true rfl⟩ (Nat.le_of_ble_eq_true rfl) rfl dX8_item_9) rfl (fun b3 => ?_)
    refine z_istoreP_n (lo' := [(3, .int b3), (2, .int x2), (0, .ref 100), (1, .int x0)]) C dX8_item_12 rfl (by decide) rfl rfl ?_
    refine z_iload_n C 3 dX8_item_13 rfl rfl rfl ?_
    refine z_bipush C (8 : Int32) dX8_item_14 rfl rfl ?_
    refine z_join (fun k5 => ∀ (u4 : Unit), zR Y X 4 (zFv Y X (fun b => b)) (k5 u4) 37 [(0, .ref 100)] [] M) (fun u4 => ?_) (fun k5 hk5 => ?_)
    · refine z_aload_n C 0 dX8_item_37 rfl rfl rfl ?_
      refine z_aload_n C 0 dX8_item_38 rfl rfl rfl ?_
      refine z_get (v := .int (M.1 100 23)) C 23 zOK8 rfl (by decide) w811 rfl rfl dX8_item_39 rfl ?_
      refine z_puti C 24 zOK8 rfl (by decide) w812 rfl rfl rfl rfl rfl dX8_item_42 rfl (fun M6 => ?_)
      exact z_vret C rfl dX8_item_45
    · refine z_icmpeq C dX8_item_16 rfl rfl ?_ ?_
      · exact z_perm [2] rfl (hk5 ())
      · refine z_iload_n C 0 dX8_item_19 rfl rfl rfl ?_
        refine z_bipush C (112 : Int32) dX8_item_20 rfl rfl ?_
        refine z_join (fun k8 => ∀ (u7 : Unit), zR Y X 4 (zFv Y X (fun b => b)) (k8 u7) 46 [(0, .ref 100), (2, .int x2), (3, .int b3)] [] M) (fun u7 => ?_) (fun k8 hk8 => ?_)
        · refine z_aload_n C 0 dX8_item_46 rfl rfl rfl ?_
          refine z_dup C dX8_item_47 rfl rfl ?_
          refine z_get (v := .int (M.1 100 23)) C 23 zOK8 rfl (by decide) w811 rfl rfl dX8_item_48 rfl ?_
          refine z_iconst C (1 : Int32) dX8_item_51 rfl rfl ?_
          refine z_iadd C dX8_item_52 rfl ?_
          refine z_puti C 23 zOK8 rfl (by decide) w811 rfl rfl rfl rfl rfl dX8_item_53 rfl (fun M9 => ?_)
          refine z_aload_n C 0 dX8_item_56 rfl rfl rfl ?_
          refine z_get (v := .ref 101) C 0 zOK8 rfl (by decide) w788 rfl rfl dX8_item_57 rfl ?_
          refine z_iload_n C 1 dX8_item_60 rfl rfl rfl ?_
          refine z_iload_n C 2 dX8_item_61 rfl rfl rfl ?_
          refine z_bipush C (112 : Int32) dX8_item_62 rfl rfl ?_
          refine z_join (fun k11 => ∀ (x10 : Int32), zR Y X 4 (zFv Y X (fun b => b)) (k11 x10) 82 [(0, .ref 100), (2, .int x2), (3, .int b3)] [.int x10, .int x2, .ref 101] M9) (fun x10 => ?_) (fun k11 hk11 => ?_)
          · refine z_iastore C 96 rfl dX8_item_82 rfl (fun M12 => ?_)
            refine z_aload_n C 0 dX8_item_83 rfl rfl rfl ?_
            refine z_get (v := .ref 101) C 0 zOK8 rfl (by decide) w788 rfl rfl dX8_item_84 rfl ?_
            refine z_iload_n C 1 dX8_item_87 rfl rfl rfl ?_
            refine z_iconst C (1 : Int32) dX8_item_88 rfl rfl ?_
            refine z_iadd C dX8_item_89 rfl ?_
            refine z_aload_n C 0 dX8_item_90 rfl rfl rfl ?_
            refine z_bipush C (40 : Int32) dX8_item_91 rfl rfl ?_
            refine z_iconst C (1 : Int32) dX8_item_93 rfl rfl ?_
            refine z_ci (fun b => b.1) (fun b => b.2) (fun b hb => z_V (na := 2) (ci := 8) (r := (RX8, TX8, 34)) C [.int (40 : Int32), .int (1 : Int32)] rfl (mX8_number Y (40 : Int32) (1 : Int32) M12 b hb) rfl rfl w1055 w1057 w64 w88 w1058 hdX8_number ⟨Nat.le_of_ble_eq_true rfl, Nat.le_of_ble_eq_true rfl⟩ (Nat.le_of_ble_eq_true rfl) rfl dX8_item_94) rfl (fun b13 => ?_)
            refine z_iastore C 96 rfl dX8_item_97 rfl (fun M14 => ?_)
            refine z_aload_n C 0 dX8_item_98 rfl rfl rfl ?_
            refine z_bipush C (44 : Int32) dX8_item_99 rfl rfl ?_
            refine z_cv (fun b => b) (fun b hb => z_V (na := 1) (ci := 8) (r := (RX8, TX8, 34)) C [.int (44 : Int32)] rfl (mX8_sign Y (44 : Int32) M14 b hb) rfl rfl w1063 w1065 w66 w88 w1066 hdX8_sign ⟨Nat.le_of_ble_eq_true rfl, Nat.le_of_ble_eq_true rfl⟩ (Nat.le_of_ble_eq_true rfl) rfl dX8_item_101) rfl (fun b15 => ?_)
            refine z_aload_n C 0 dX8_item_104 rfl rfl rfl ?_
            refine z_get (v := .ref 101) C 0 zOK8 rfl (by decide) w788 rfl rfl dX8_item_105 rfl ?_
            refine z_iload_n C 1 dX8_item_108 rfl rfl rfl ?_
            refine z_iconst C (2 : Int32) dX8_item_109 rfl rfl ?_
            refine z_iadd C dX8_item_110 rfl ?_
            refine z_aload_n C 0 dX8_item_111 rfl rfl rfl ?_
            refine z_bipush C (40 : Int32) dX8_item_112 rfl rfl ?_
            refine z_iconst C (1 : Int32) dX8_item_114 rfl rfl ?_
            refine z_ci (fun b => b.1) (fun b => b.2) (fun b hb => z_V (na := 2) (ci := 8) (r := (RX8, TX8, 34)) C [.int (40 : Int32), .int (1 : Int32)] rfl (mX8_number Y (40 : Int32) (1 : Int32) b15 b hb) rfl rfl w1055 w1057 w64 w88 w1058 hdX8_number ⟨Nat.le_of_ble_eq_true rfl, Nat.le_of_ble_eq_true rfl⟩ (Nat.le_of_ble_eq_true rfl) rfl dX8_item_115) rfl (fun b16 => ?_)
            refine z_iastore C 96 rfl dX8_item_118 rfl (fun M17 => ?_)
            refine z_aload_n C 0 dX8_item_119 rfl rfl rfl ?_
            refine z_bipush C (119 : Int32) dX8_item_120 rfl rfl ?_
            refine z_cv (fun b => b) (fun b hb => z_V (na := 1) (ci := 8) (r := (RX8, TX8, 34)) C [.int (119 : Int32)] rfl (mX8_sign Y (119 : Int32) M17 b hb) rfl rfl w1063 w1065 w66 w88 w1066 hdX8_sign ⟨Nat.le_of_ble_eq_true rfl, Nat.le_of_ble_eq_true rfl⟩ (Nat.le_of_ble_eq_true rfl) rfl dX8_item_122) rfl (fun b18 => ?_)
            refine z_aload_n C 0 dX8_item_125 rfl rfl rfl ?_
            refine z_get (v := .ref 101) C 0 zOK8 rfl (by decide) w788 rfl rfl dX8_item_126 rfl ?_
            refine z_iload_n C 1 dX8_item_129 rfl rfl rfl ?_
            refine z_iconst C (3 : Int32) dX8_item_130 rfl rfl ?_
            refine z_iadd C dX8_item_131 rfl ?_
            refine z_aload_n C 0 dX8_item_132 rfl rfl rfl ?_
            refine z_sipush C (400 : Int32) dX8_item_133 rfl rfl ?_
            refine z_iconst C (0 : Int32) dX8_item_136 rfl rfl ?_
            refine z_ci (fun b => b.1) (fun b => b.2) (fun b hb => z_V (na := 2) (ci := 8) (r := (RX8, TX8, 34)) C [.int (400 : Int32), .int (0 : Int32)] rfl (mX8_number Y (400 : Int32) (0 : Int32) b18 b hb) rfl rfl w1055 w1057 w64 w88 w1058 hdX8_number ⟨Nat.le_of_ble_eq_true rfl, Nat.le_of_ble_eq_true rfl⟩ (Nat.le_of_ble_eq_true rfl) rfl dX8_item_137) rfl (fun b19 => ?_)
            refine z_iastore C 96 rfl dX8_item_140 rfl (fun M20 => ?_)
            refine z_aload_n C 0 dX8_item_141 rfl rfl rfl ?_
            refine z_get (v := .ref 101) C 0 zOK8 rfl (by decide) w788 rfl rfl dX8_item_142 rfl ?_
            refine z_iload_n C 1 dX8_item_145 rfl rfl rfl ?_
            refine z_iconst C (4 : Int32) dX8_item_146 rfl rfl ?_
            refine z_iadd C dX8_item_147 rfl ?_
            refine z_iconst C (0 : Int32) dX8_item_148 rfl rfl ?_
            refine z_iastore C 96 rfl dX8_item_149 rfl (fun M21 => ?_)
            refine z_aload_n C 0 dX8_item_150 rfl rfl rfl ?_
            refine z_get (v := .ref 101) C 0 zOK8 rfl (by decide) w788 rfl rfl dX8_item_151 rfl ?_
            refine z_iload_n C 1 dX8_item_154 rfl rfl rfl ?_
            refine z_iconst C (5 : Int32) dX8_item_155 rfl rfl ?_
            refine z_iadd C dX8_item_156 rfl ?_
            refine z_bipush C (90 : Int32) dX8_item_157 rfl rfl ?_
            refine z_iastore C 96 rfl dX8_item_159 rfl (fun M22 => ?_)
            refine z_iload_n C 2 dX8_item_160 rfl rfl rfl ?_
            refine z_bipush C (112 : Int32) dX8_item_161 rfl rfl ?_
            refine z_join (fun k24 => ∀ (M23 : zMem), zR Y X 4 (zFv Y X (fun b => b)) (k24 M23) 188 [(0, .ref 100), (2, .int x2), (3, .int b3)] [] M23) (fun M23 => ?_) (fun k24 hk24 => ?_)
            · refine z_iload_n C 2 dX8_item_188 rfl rfl rfl ?_
              refine z_bipush C (99 : Int32) dX8_item_189 rfl rfl ?_
              refine z_join (fun k26 => ∀ (M25 : zMem), zR Y X 4 (zFv Y X (fun b => b)) (k26 M25) 215 [(0, .ref 100)] [] M25) (fun M25 => ?_) (fun k26 hk26 => ?_)
              · refine z_aload_n C 0 dX8_item_215 rfl rfl rfl ?_
                refine z_bipush C (59 : Int32) dX8_item_216 rfl rfl ?_
                refine z_cv (fun b => b) (fun b hb => z_V (na := 1) (ci := 8) (r := (RX8, TX8, 34)) C [.int (59 : Int32)] rfl (mX8_sign Y (59 : Int32) M25 b hb) rfl rfl w1063 w1065 w66 w88 w1066 hdX8_sign ⟨Nat.le_of_ble_eq_true rfl, Nat.le_of_ble_eq_true rfl⟩ (Nat.le_of_ble_eq_true rfl) rfl dX8_item_218) rfl (fun b27 => ?_)
                exact z_vret C rfl dX8_item_221
              · refine z_icmpne C dX8_item_191 rfl rfl ?_ ?_
                · exact z_perm [0] rfl (hk26 M23)
                · refine z_aload_n C 0 dX8_item_194 rfl rfl rfl ?_
                  refine z_bipush C (101 : Int32) dX8_item_195 rfl rfl ?_
                  refine z_cv (fun b => b) (fun b hb => z_V (na := 1) (ci := 8) (r := (RX8, TX8, 34)) C [.int (101 : Int32)] rfl (mX8_sign Y (101 : Int32) M23 b hb) rfl rfl w1063 w1065 w66 w88 w1066 hdX8_sign ⟨Nat.le_of_ble_eq_true rfl, Nat.le_of_ble_eq_true rfl⟩ (Nat.le_of_ble_eq_true rfl) rfl dX8_item_197) rfl (fun b28 => ?_)
                  refine z_aload_n C 0 dX8_item_200 rfl rfl rfl ?_
                  refine z_get (v := .ref 101) C 0 zOK8 rfl (by decide) w788 rfl rfl dX8_item_201 rfl ?_
                  refine z_iload_n C 1 dX8_item_204 rfl rfl rfl ?_
                  refine z_iconst C (5 : Int32) dX8_item_205 rfl rfl ?_
                  refine z_iadd C dX8_item_206 rfl ?_
                  refine z_aload_n C 0 dX8_item_207 rfl rfl rfl ?_
                  refine z_bipush C (90 : Int32) dX8_item_208 rfl rfl ?_
                  refine z_iconst C (0 : Int32) dX8_item_210 rfl rfl ?_
                  refine z_ci (fun b => b.1) (fun b => b.2) (fun b hb => z_V (na := 2) (ci := 8) (r := (RX8, TX8, 34)) C [.int (90 : Int32), .int (0 : Int32)] rfl (mX8_number Y (90 : Int32) (0 : Int32) b28 b hb) rfl rfl w1055 w1057 w64 w88 w1058 hdX8_number ⟨Nat.le_of_ble_eq_true rfl, Nat.le_of_ble_eq_true rfl⟩ (Nat.le_of_ble_eq_true rfl) rfl dX8_item_211) rfl (fun b29 => ?_)
                  refine z_iastore C 96 rfl dX8_item_214 rfl (fun M30 => ?_)
                  exact z_perm [0] rfl (hk26 M30)
            · refine z_icmpeq C dX8_item_163 rfl rfl ?_ ?_
              · exact z_perm [0, 1, 2] rfl (hk24 M22)
              · refine z_aload_n C 0 dX8_item_166 rfl rfl rfl ?_
                refine z_bipush C (111 : Int32) dX8_item_167 rfl rfl ?_
                refine z_cv (fun b => b) (fun b hb => z_V (na := 1) (ci := 8) (r := (RX8, TX8, 34)) C [.int (111 : Int32)] rfl (mX8_sign Y (111 : Int32) M22 b hb) rfl rfl w1063 w1065 w66 w88 w1066 hdX8_sign ⟨Nat.le_of_ble_eq_true rfl, Nat.le_of_ble_eq_true rfl⟩ (Nat.le_of_ble_eq_true rfl) rfl dX8_item_169) rfl (fun b31 => ?_)
                refine z_aload_n C 0 dX8_item_172 rfl rfl rfl ?_
                refine z_get (v := .ref 101) C 0 zOK8 rfl (by decide) w788 rfl rfl dX8_item_173 rfl ?_
                refine z_iload_n C 1 dX8_item_176 rfl rfl rfl ?_
                refine z_iconst C (4 : Int32) dX8_item_177 rfl rfl ?_
                refine z_iadd C dX8_item_178 rfl ?_
                refine z_aload_n C 0 dX8_item_179 rfl rfl rfl ?_
                refine z_sipush C (900 : Int32) dX8_item_180 rfl rfl ?_
                refine z_iconst C (0 : Int32) dX8_item_183 rfl rfl ?_
                refine z_ci (fun b => b.1) (fun b => b.2) (fun b hb => z_V (na := 2) (ci := 8) (r := (RX8, TX8, 34)) C [.int (900 : Int32), .int (0 : Int32)] rfl (mX8_number Y (900 : Int32) (0 : Int32) b31 b hb) rfl rfl w1055 w1057 w64 w88 w1058 hdX8_number ⟨Nat.le_of_ble_eq_true rfl, Nat.le_of_ble_eq_true rfl⟩ (Nat.le_of_ble_eq_true rfl) rfl dX8_item_184) rfl (fun b32 => ?_)
                refine z_iastore C 96 rfl dX8_item_187 rfl (fun M33 => ?_)
                exact z_perm [0, 1, 2] rfl (hk24 M33)
          · refine z_icmpne C dX8_item_64 rfl rfl ?_ ?_
            · refine z_iload_n C 2 dX8_item_71 rfl rfl rfl ?_
              refine z_bipush C (115 : Int32) dX8_item_72 rfl rfl ?_
              refine z_icmpne C dX8_item_74 rfl rfl ?_ ?_
              · refine z_iconst C (2 : Int32) dX8_item_81 rfl rfl ?_
                exact z_perm [0, 1, 2] rfl (hk11 (2 : Int32))
              · refine z_iconst C (1 : Int32) dX8_item_77 rfl rfl ?_
                refine z_goto C dX8_item_78 rfl ?_
                exact z_perm [0, 1, 2] rfl (hk11 (1 : Int32))
            · refine z_iconst C (0 : Int32) dX8_item_67 rfl rfl ?_
              refine z_goto C dX8_item_68 rfl ?_
              exact z_perm [0, 1, 2] rfl (hk11 (0 : Int32))
        · refine z_icmpeq C dX8_item_22 rfl rfl ?_ ?_
          · exact z_perm [2, 1, 0] rfl (hk8 ())
          · refine z_iload_n C 0 dX8_item_25 rfl rfl rfl ?_
            refine z_bipush C (115 : Int32) dX8_item_26 rfl rfl ?_
            refine z_icmpeq C dX8_item_28 rfl rfl ?_ ?_
            · exact z_perm [2, 1, 0] rfl (hk8 ())
            · refine z_iload_n C 0 dX8_item_31 rfl rfl rfl ?_
              refine z_bipush C (99 : Int32) dX8_item_32 rfl rfl ?_
              refine z_icmpeq C dX8_item_34 rfl rfl ?_ ?_
              · exact z_perm [2, 1, 0] rfl (hk8 ())
              · exact z_perm [2] rfl (hk5 ())
  exact key b hF
set_option maxRecDepth 100000 in
set_option maxHeartbeats 4000000 in
theorem mX8_read (Y : zY) (M : zMem) (b : Int32 × zMem) (hF : FX8_read M = some b) : zMt Y yX8_read cX8_read 3 (some .int) 4 91 [.ref 100] M (zQi Y b.1 b.2) := by
  refine zMt_of (own := RX8) (by decide +kernel) rfl (Nat.le_of_ble_eq_true rfl) (fun X C => ?_)
  have key : zR Y X 3 (zFi Y X (fun b => b.1) (fun b => b.2)) (FX8_read M) 0 [(0, .ref 100)] [] M := by
    unfold FX8_read
    refine z_aload_n C 0 dX8_read_0 rfl rfl rfl ?_
    refine z_iconst C (0 : Int32) dX8_read_1 rfl rfl ?_
    refine z_puti C 23 zOK8 rfl (by decide) w811 rfl rfl rfl rfl rfl dX8_read_2 rfl (fun M1 => ?_)
    refine z_aload_n C 0 dX8_read_5 rfl rfl rfl ?_
    refine z_bipush C (-9 : Int32) dX8_read_6 rfl rfl ?_
    refine z_puti C 24 zOK8 rfl (by decide) w812 rfl rfl rfl rfl rfl dX8_read_8 rfl (fun M2 => ?_)
    refine z_iconst C (0 : Int32) dX8_read_11 rfl rfl ?_
    refine z_istoreP_n (lo' := [(1, .int (0 : Int32)), (0, .ref 100)]) C dX8_read_12 rfl (by decide) rfl rfl ?_
    refine z_loop (sM := fun s => s.2) (sl := fun s => [(0, .ref 100), (1, .int s.1)]) [1, 0] rfl rfl (fun r3 hr3 s4 => ?_)
    unfold FX8_read_L13
    refine z_aload_n C 0 dX8_read_13 rfl rfl rfl ?_
    refine z_get (v := .int (s4.2.1 100 24)) C 24 zOK8 rfl (by decide) w812 rfl rfl dX8_read_14 rfl ?_
    refine z_bipush C (-9 : Int32) dX8_read_17 rfl rfl ?_
    refine z_join (fun k6 => ∀ (u5 : Unit), zR Y X 3 (zFi Y X (fun b => b.1) (fun b => b.2)) (k6 u5) 44 [(0, .ref 100), (1, .int s4.1)] [] s4.2) (fun u5 => ?_) (fun k6 hk6 => ?_)
    · refine z_aload_n C 0 dX8_read_44 rfl rfl rfl ?_
      refine z_get (v := .int (s4.2.1 100 24)) C 24 zOK8 rfl (by decide) w812 rfl rfl dX8_read_45 rfl ?_
      refine z_bipush C (-9 : Int32) dX8_read_48 rfl rfl ?_
      refine z_icmpeq C dX8_read_50 rfl rfl ?_ ?_
      · refine z_iconst C (0 : Int32) dX8_read_61 rfl rfl ?_
        refine z_istoreP_n (lo' := [(2, .int (0 : Int32)), (0, .ref 100), (1, .int s4.1)]) C dX8_read_62 rfl (by decide) rfl rfl ?_
        refine z_loop (sM := fun s => s.2) (sl := fun s => [(0, .ref 100), (1, .int s4.1), (2, .int s.1)]) [1, 2, 0] rfl rfl (fun r7 hr7 s8 => ?_)
        unfold FX8_read_L63
        refine z_iload_n C 2 dX8_read_63 rfl rfl rfl ?_
        refine z_bipush C (48 : Int32) dX8_read_64 rfl rfl ?_
        refine z_icmpge C dX8_read_66 rfl rfl ?_ ?_
        · refine z_aload_n C 0 dX8_read_90 rfl rfl rfl ?_
          refine z_iload_n C 1 dX8_read_91 rfl rfl rfl ?_
          refine z_puti C 1 zOK8 rfl (by decide) w789 rfl rfl rfl rfl rfl dX8_read_92 rfl (fun M9 => ?_)
          refine z_aload_n C 0 dX8_read_95 rfl rfl rfl ?_
          refine z_iconst C (0 : Int32) dX8_read_96 rfl rfl ?_
          refine z_puti C 5 zOK8 rfl (by decide) w793 rfl rfl rfl rfl rfl dX8_read_97 rfl (fun M10 => ?_)
          refine z_iload_n C 1 dX8_read_100 rfl rfl rfl ?_
          exact z_iret C rfl rfl dX8_read_101
        · refine z_aload_n C 0 dX8_read_69 rfl rfl rfl ?_
          refine z_get (v := .ref 101) C 0 zOK8 rfl (by decide) w788 rfl rfl dX8_read_70 rfl ?_
          refine z_iload_n C 2 dX8_read_73 rfl rfl rfl ?_
          refine z_aload_n C 0 dX8_read_74 rfl rfl rfl ?_
          refine z_get (v := .ref 101) C 0 zOK8 rfl (by decide) w788 rfl rfl dX8_read_75 rfl ?_
          refine z_bipush C (48 : Int32) dX8_read_78 rfl rfl ?_
          refine z_iload_n C 2 dX8_read_80 rfl rfl rfl ?_
          refine z_iadd C dX8_read_81 rfl ?_
          refine z_iaload C 96 rfl dX8_read_82 rfl ?_
          refine z_iastore C 96 rfl dX8_read_83 rfl (fun M11 => ?_)
          refine z_iinc (v := (s8.1 + (1 : Int32))) C 2 (fun z => [(2, .int z), (0, .ref 100), (1, .int s4.1)]) dX8_read_84 rfl rfl (by decide) (fun _ => rfl) rfl (fun x12 => ?_)
          refine z_goto C dX8_read_87 rfl ?_
          exact z_perm [1, 2, 0] rfl (hr7 (x12, M11))
      · refine z_bipush C (-10 : Int32) dX8_read_53 rfl rfl ?_
        refine z_aload_n C 0 dX8_read_55 rfl rfl rfl ?_
        refine z_get (v := .int (s4.2.1 100 24)) C 24 zOK8 rfl (by decide) w812 rfl rfl dX8_read_56 rfl ?_
        refine z_isub C dX8_read_59 rfl ?_
        exact z_iret C rfl rfl dX8_read_60
    · refine z_icmpne C dX8_read_19 rfl rfl ?_ ?_
      · exact z_perm [0, 1] rfl (hk6 ())
      · refine z_aload_n C 0 dX8_read_22 rfl rfl rfl ?_
        refine z_get (v := .int (s4.2.1 100 23)) C 23 zOK8 rfl (by decide) w811 rfl rfl dX8_read_23 rfl ?_
        refine z_aload_n C 0 dX8_read_26 rfl rfl rfl ?_
        refine z_get (v := .int (s4.2.1 100 5)) C 5 zOK8 rfl (by decide) w793 rfl rfl dX8_read_27 rfl ?_
        refine z_icmpge C dX8_read_30 rfl rfl ?_ ?_
        · exact z_perm [0, 1] rfl (hk6 ())
        · refine z_aload_n C 0 dX8_read_33 rfl rfl rfl ?_
          refine z_iload_n C 1 dX8_read_34 rfl rfl rfl ?_
          refine z_cv (fun b => b) (fun b hb => z_V (na := 1) (ci := 8) (r := (RX8, TX8, 34)) C [.int s4.1] rfl (mX8_item Y s4.1 s4.2 b hb) rfl rfl w1047 w1049 w62 w88 w1050 hdX8_item ⟨Nat.le_of_ble_eq_true rfl, Nat.le_of_ble_eq_true rfl⟩ (Nat.le_of_ble_eq_true rfl) rfl dX8_read_35) rfl (fun b13 => ?_)
          refine z_iinc (v := (s4.1 + (1 : Int32))) C 1 (fun z => [(1, .int z), (0, .ref 100)]) dX8_read_38 rfl rfl (by decide) (fun _ => rfl) rfl (fun x14 => ?_)
          refine z_goto C dX8_read_41 rfl ?_
          exact z_perm [1, 0] rfl (hr3 (x14, b13))
  exact key b hF
