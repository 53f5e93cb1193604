set_option maxRecDepth 100000 in
set_option maxHeartbeats 4000000 in
theorem mX8_pair (Y : zY) (x0 : Int32) (x1 : Int32) (x2 : Int32) (x3 : Int32) (M : zMem) (b : Int32 × zMem) (hF : FX8_pair x0 x1 x2 x3 M = some b) : zMt Y yX8_pair cX8_pair 5 (some .int) 2 44 [.ref 100, .int x0, .int x1, .int x2, .int x3] M (zQi Y b.1 b.2) := by
  refine zMt_of (own := RX8) (by decide +kernel) rfl (Nat.le_of_ble_eq_true rfl) (fun X C => ?_)
  have key : zR Y X 5 (zFi Y X (fun b => b.1) (fun b => b.2)) (FX8_pair x0 x1 x2 x3 M) 0 [(0, .ref 100), (1, .int x0), (2, .int x1), (3, .int x2), (4, .int x3)] [] M := by
    unfold FX8_pair
    refine z_iload_n C 1 dX8_pair_0 rfl rfl rfl ?_
    refine z_iload_n C 2 dX8_pair_1 rfl rfl rfl ?_
    refine z_bipush C (30 : Int32) dX8_pair_2 rfl rfl ?_
    refine z_ci (fun b => b) (fun _ => M) (fun b hb => z_S (na := 3) C [.int x0, .int x1, .int (30 : Int32)] rfl (mX8_isNear Y x0 x1 (30 : Int32) M b hb) w899 w900 w88 w901 hdX8_isNear ⟨Nat.le_of_ble_eq_true rfl, Nat.le_of_ble_eq_true rfl⟩ (Nat.le_of_ble_eq_true rfl) rfl dX8_pair_4) rfl (fun b5 => ?_)
    refine z_ifeq C dX8_pair_7 rfl rfl ?_ ?_
    · refine z_iconst C (-1 : Int32) dX8_pair_21 rfl rfl ?_
      exact z_iret C rfl rfl dX8_pair_22
    · refine z_iload_n C 3 dX8_pair_10 rfl rfl rfl ?_
      refine z_iload C 4 dX8_pair_11 rfl rfl ?_
      refine z_bipush C (30 : Int32) dX8_pair_13 rfl rfl ?_
      refine z_ci (fun b => b) (fun _ => M) (fun b hb => z_S (na := 3) C [.int x2, .int x3, .int (30 : Int32)] rfl (mX8_isNear Y x2 x3 (30 : Int32) M b hb) w899 w900 w88 w901 hdX8_isNear ⟨Nat.le_of_ble_eq_true rfl, Nat.le_of_ble_eq_true rfl⟩ (Nat.le_of_ble_eq_true rfl) rfl dX8_pair_15) rfl (fun b6 => ?_)
      refine z_ifne C dX8_pair_18 rfl rfl ?_ ?_
      · refine z_aload_n C 0 dX8_pair_23 rfl rfl rfl ?_
        refine z_get (v := .int (M.1 100 6)) C 6 zOK8 rfl (by decide) w794 rfl rfl dX8_pair_24 rfl ?_
        refine z_bipush C (10 : Int32) dX8_pair_27 rfl rfl ?_
        refine z_icmpne C dX8_pair_29 rfl rfl ?_ ?_
        · refine z_aload_n C 0 dX8_pair_35 rfl rfl rfl ?_
          refine z_get (v := .ref 103) C 7 zOK8 rfl (by decide) w795 rfl rfl dX8_pair_36 rfl ?_
          refine z_iconst C (4 : Int32) dX8_pair_39 rfl rfl ?_
          refine z_aload_n C 0 dX8_pair_40 rfl rfl rfl ?_
          refine z_get (v := .int (M.1 100 6)) C 6 zOK8 rfl (by decide) w794 rfl rfl dX8_pair_41 rfl ?_
          refine z_imul C dX8_pair_44 rfl ?_
          refine z_iload_n C 1 dX8_pair_45 rfl rfl rfl ?_
          refine z_iastore C 40 rfl dX8_pair_46 rfl (fun M7 => ?_)
          refine z_aload_n C 0 dX8_pair_47 rfl rfl rfl ?_
          refine z_get (v := .ref 103) C 7 zOK8 rfl (by decide) w795 rfl rfl dX8_pair_48 rfl ?_
          refine z_iconst C (4 : Int32) dX8_pair_51 rfl rfl ?_
          refine z_aload_n C 0 dX8_pair_52 rfl rfl rfl ?_
          refine z_get (v := .int (M7.1 100 6)) C 6 zOK8 rfl (by decide) w794 rfl rfl dX8_pair_53 rfl ?_
          refine z_imul C dX8_pair_56 rfl ?_
          refine z_iconst C (1 : Int32) dX8_pair_57 rfl rfl ?_
          refine z_iadd C dX8_pair_58 rfl ?_
          refine z_iload_n C 2 dX8_pair_59 rfl rfl rfl ?_
          refine z_iastore C 40 rfl dX8_pair_60 rfl (fun M8 => ?_)
          refine z_aload_n C 0 dX8_pair_61 rfl rfl rfl ?_
          refine z_get (v := .ref 103) C 7 zOK8 rfl (by decide) w795 rfl rfl dX8_pair_62 rfl ?_
          refine z_iconst C (4 : Int32) dX8_pair_65 rfl rfl ?_
          refine z_aload_n C 0 dX8_pair_66 rfl rfl rfl ?_
          refine z_get (v := .int (M8.1 100 6)) C 6 zOK8 rfl (by decide) w794 rfl rfl dX8_pair_67 rfl ?_
          refine z_imul C dX8_pair_70 rfl ?_
          refine z_iconst C (2 : Int32) dX8_pair_71 rfl rfl ?_
          refine z_iadd C dX8_pair_72 rfl ?_
          refine z_iload_n C 3 dX8_pair_73 rfl rfl rfl ?_
          refine z_iastore C 40 rfl dX8_pair_74 rfl (fun M9 => ?_)
          refine z_aload_n C 0 dX8_pair_75 rfl rfl rfl ?_
          refine z_get (v := .ref 103) C 7 zOK8 rfl (by decide) w795 rfl rfl dX8_pair_76 rfl ?_
          refine z_iconst C (4 : Int32) dX8_pair_79 rfl rfl ?_
          refine z_aload_n C 0 dX8_pair_80 rfl rfl rfl ?_
          refine z_get (v := .int (M9.1 100 6)) C 6 zOK8 rfl (by decide) w794 rfl rfl dX8_pair_81 rfl ?_
          refine z_imul C dX8_pair_84 rfl ?_
          refine z_iconst C (3 : Int32) dX8_pair_85 rfl rfl ?_
          refine z_iadd C dX8_pair_86 rfl ?_
          refine z_iload C 4 dX8_pair_87 rfl rfl ?_
          refine z_iastore C 40 rfl dX8_pair_89 rfl (fun M10 => ?_)
          refine z_aload_n C 0 dX8_pair_90 rfl rfl rfl ?_
          refine z_dup C dX8_pair_91 rfl rfl ?_
          refine z_get (v := .int (M10.1 100 6)) C 6 zOK8 rfl (by decide) w794 rfl rfl dX8_pair_92 rfl ?_
          refine z_iconst C (1 : Int32) dX8_pair_95 rfl rfl ?_
          refine z_iadd C dX8_pair_96 rfl ?_
          refine z_puti C 6 zOK8 rfl (by decide) w794 rfl rfl rfl rfl rfl dX8_pair_97 rfl (fun M11 => ?_)
          refine z_aload_n C 0 dX8_pair_100 rfl rfl rfl ?_
          refine z_get (v := .int (M11.1 100 6)) C 6 zOK8 rfl (by decide) w794 rfl rfl dX8_pair_101 rfl ?_
          exact z_iret C rfl rfl dX8_pair_104
        · refine z_bipush C (-3 : Int32) dX8_pair_32 rfl rfl ?_
          exact z_iret C rfl rfl dX8_pair_34
      · refine z_iconst C (-1 : Int32) dX8_pair_21 rfl rfl ?_
        exact z_iret C rfl rfl dX8_pair_22
  exact key b hF
set_option maxRecDepth 100000 in
set_option maxHeartbeats 4000000 in
theorem mX8_wipe (Y : zY) (M : zMem) (b : Int32 × zMem) (hF : FX8_wipe M = some b) : zMt Y yX8_wipe cX8_wipe 2 (some .int) 0 0 [.ref 100] M (zQi Y b.1 b.2) := by
  refine zMt_of (own := RX8) (by decide +kernel) rfl (Nat.le_of_ble_eq_true rfl) (fun X C => ?_)
  have key : zR Y X 2 (zFi Y X (fun b => b.1) (fun b => b.2)) (FX8_wipe M) 0 [(0, .ref 100)] [] M := by
    unfold FX8_wipe
    refine z_aload_n C 0 dX8_wipe_0 rfl rfl rfl ?_
    refine z_get (v := .int (M.1 100 6)) C 6 zOK8 rfl (by decide) w794 rfl rfl dX8_wipe_1 rfl ?_
    refine z_istore_n C (fun z => [(1, .int z), (0, .ref 100)]) dX8_wipe_4 rfl (by decide) (fun _ => rfl) rfl (fun x1 => ?_)
    refine z_aload_n C 1 dX8_wipe_5 rfl rfl rfl ?_
    refine z_iconst C (0 : Int32) dX8_wipe_6 rfl rfl ?_
    refine z_puti C 6 zOK8 rfl (by decide) w794 rfl rfl rfl rfl rfl dX8_wipe_7 rfl (fun M2 => ?_)
    refine z_iload_n C 0 dX8_wipe_10 rfl rfl rfl ?_
    exact z_iret C rfl rfl dX8_wipe_11
  exact key b hF
set_option maxRecDepth 100000 in
set_option maxHeartbeats 4000000 in
theorem mX8_tolerance (Y : zY) (x0 : Int32) (x1 : Int32) (M : zMem) (b : Int32 × zMem) (hF : FX8_tolerance x0 x1 M = some b) : zMt Y yX8_tolerance cX8_tolerance 4 (some .int) 1 22 [.ref 100, .int x0, .int x1] M (zQi Y b.1 b.2) := by
  refine zMt_of (own := RX8) (by decide +kernel) rfl (Nat.le_of_ble_eq_true rfl) (fun X C => ?_)
  have key : zR Y X 4 (zFi Y X (fun b => b.1) (fun b => b.2)) (FX8_tolerance x0 x1 M) 0 [(0, .ref 100), (1, .int x0), (2, .int x1)] [] M := by
    unfold FX8_tolerance
    refine z_iload_n C 1 dX8_tolerance_0 rfl rfl rfl ?_
    refine z_iconst C (0 : Int32) dX8_tolerance_1 rfl rfl ?_
    refine z_iconst C (1 : Int32) dX8_tolerance_2 rfl rfl ?_
    refine z_ci (fun b => b) (fun _ => M) (fun b hb => z_S (na := 3) C [.int x0, .int (0 : Int32), .int (1 : Int32)] rfl (mX8_in Y x0 (0 : Int32) (1 : Int32) M b hb) w896 w897 w88 w898 hdX8_in ⟨Nat.le_of_ble_eq_true rfl, Nat.le_of_ble_eq_true rfl⟩ (Nat.le_of_ble_eq_true rfl) rfl dX8_tolerance_3) rfl (fun b3 => ?_)
    refine z_ifeq C dX8_tolerance_6 rfl rfl ?_ ?_
    · refine z_iconst C (-1 : Int32) dX8_tolerance_28 rfl rfl ?_
      exact z_iret C rfl rfl dX8_tolerance_29
    · refine z_iload_n C 2 dX8_tolerance_9 rfl rfl rfl ?_
      refine z_iconst C (0 : Int32) dX8_tolerance_10 rfl rfl ?_
      refine z_iload_n C 1 dX8_tolerance_11 rfl rfl rfl ?_
      refine z_join (fun k5 => ∀ (x4 : Int32), zR Y X 4 (zFi Y X (fun b => b.1) (fun b => b.2)) (k5 x4) 22 [(0, .ref 100), (1, .int x0), (2, .int x1)] [.int x4, .int (0 : Int32), .int x1] M) (fun x4 => ?_) (fun k5 hk5 => ?_)
      · refine z_ci (fun b => b) (fun _ => M) (fun b hb => z_S (na := 3) C [.int x1, .int (0 : Int32), .int x4] rfl (mX8_in Y x1 (0 : Int32) x4 M b hb) w896 w897 w88 w898 hdX8_in ⟨Nat.le_of_ble_eq_true rfl, Nat.le_of_ble_eq_true rfl⟩ (Nat.le_of_ble_eq_true rfl) rfl dX8_tolerance_22) rfl (fun b6 => ?_)
        refine z_ifne C dX8_tolerance_25 rfl rfl ?_ ?_
        · refine z_iload_n C 1 dX8_tolerance_30 rfl rfl rfl ?_
          refine z_join (fun k8 => ∀ (x7 : Int32), zR Y X 4 (zFi Y X (fun b => b.1) (fun b => b.2)) (k8 x7) 45 [(0, .ref 100), (1, .int x0), (2, .int x1)] [.int x7] M) (fun x7 => ?_) (fun k8 hk8 => ?_)
          · refine z_istoreP_n (lo' := [(3, .int x7), (0, .ref 100), (1, .int x0), (2, .int x1)]) C dX8_tolerance_45 rfl (by decide) rfl rfl ?_
            refine z_aload_n C 1 dX8_tolerance_46 rfl rfl rfl ?_
            refine z_iload_n C 2 dX8_tolerance_47 rfl rfl rfl ?_
            refine z_join (fun k10 => ∀ (x9 : Int32), zR Y X 4 (zFi Y X (fun b => b.1) (fun b => b.2)) (k10 x9) 59 [(0, .ref 100), (1, .int x0), (2, .int x1), (3, .int x7)] [.int x9, .ref 100] M) (fun x9 => ?_) (fun k10 hk10 => ?_)
            · refine z_puti C 8 zOK8 rfl (by decide) w796 rfl rfl rfl rfl rfl dX8_tolerance_59 rfl (fun M11 => ?_)
              refine z_aload_n C 0 dX8_tolerance_62 rfl rfl rfl ?_
              refine z_iload_n C 1 dX8_tolerance_63 rfl rfl rfl ?_
              refine z_iconst C (1 : Int32) dX8_tolerance_64 rfl rfl ?_
              refine z_join (fun k13 => ∀ (x12 : Int32), zR Y X 4 (zFi Y X (fun b => b.1) (fun b => b.2)) (k13 x12) 76 [(3, .int x7)] [.int x12, .ref 100] M11) (fun x12 => ?_) (fun k13 hk13 => ?_)
              · refine z_puti C 9 zOK8 rfl (by decide) w797 rfl rfl rfl rfl rfl dX8_tolerance_76 rfl (fun M14 => ?_)
                refine z_iload_n C 0 dX8_tolerance_79 rfl rfl rfl ?_
                exact z_iret C rfl rfl dX8_tolerance_80
              · refine z_icmpne C dX8_tolerance_65 rfl rfl ?_ ?_
                · refine z_aload_n C 0 dX8_tolerance_72 rfl rfl rfl ?_
                  refine z_get (v := .int (M11.1 100 9)) C 9 zOK8 rfl (by decide) w797 rfl rfl dX8_tolerance_73 rfl ?_
                  exact z_perm [3] rfl (hk13 (M11.1 100 9))
                · refine z_iload_n C 2 dX8_tolerance_68 rfl rfl rfl ?_
                  refine z_goto C dX8_tolerance_69 rfl ?_
                  exact z_perm [3] rfl (hk13 x1)
            · refine z_ifne C dX8_tolerance_48 rfl rfl ?_ ?_
              · refine z_aload_n C 1 dX8_tolerance_55 rfl rfl rfl ?_
                refine z_get (v := .int (M.1 100 8)) C 8 zOK8 rfl (by decide) w796 rfl rfl dX8_tolerance_56 rfl ?_
                exact z_perm [1, 2, 3, 0] rfl (hk10 (M.1 100 8))
              · refine z_iload_n C 3 dX8_tolerance_51 rfl rfl rfl ?_
                refine z_goto C dX8_tolerance_52 rfl ?_
                exact z_perm [1, 2, 3, 0] rfl (hk10 x1)
          · refine z_ifne C dX8_tolerance_31 rfl rfl ?_ ?_
            · refine z_aload_n C 0 dX8_tolerance_41 rfl rfl rfl ?_
              refine z_get (v := .int (M.1 100 9)) C 9 zOK8 rfl (by decide) w797 rfl rfl dX8_tolerance_42 rfl ?_
              exact z_perm [0, 1, 2] rfl (hk8 (M.1 100 9))
            · refine z_aload_n C 0 dX8_tolerance_34 rfl rfl rfl ?_
              refine z_get (v := .int (M.1 100 8)) C 8 zOK8 rfl (by decide) w796 rfl rfl dX8_tolerance_35 rfl ?_
              refine z_goto C dX8_tolerance_38 rfl ?_
              exact z_perm [0, 1, 2] rfl (hk8 (M.1 100 8))
        · refine z_iconst C (-1 : Int32) dX8_tolerance_28 rfl rfl ?_
          exact z_iret C rfl rfl dX8_tolerance_29
      · refine z_ifne C dX8_tolerance_12 rfl rfl ?_ ?_
        · refine z_bipush C (99 : Int32) dX8_tolerance_20 rfl rfl ?_
          exact z_perm [0, 1, 2] rfl (hk5 (99 : Int32))
        · refine z_bipush C (64 : Int32) dX8_tolerance_15 rfl rfl ?_
          refine z_goto C dX8_tolerance_17 rfl ?_
          exact z_perm [0, 1, 2] rfl (hk5 (64 : Int32))
  exact key b hF
set_option maxRecDepth 100000 in
set_option maxHeartbeats 4000000 in
theorem mX8_modelsOf (Y : zY) (x0 : Int32) (x1 : Int32) (M : zMem) (b : Int32) (hF : FX8_modelsOf x0 x1 = some b) : zMt Y yX8_modelsOf cX8_modelsOf 4 (some .int) 0 0 [.int x0, .int x1] M (zQi Y b M) := by
  refine zMt_of (own := RX8) (by decide +kernel) rfl (Nat.le_of_ble_eq_true rfl) (fun X C => ?_)
  have key : zR Y X 4 (zFi Y X (fun b => b) (fun _ => M)) (FX8_modelsOf x0 x1) 0 [(0, .int x0), (1, .int x1)] [] M := by
    unfold FX8_modelsOf
    refine z_iconst C (1 : Int32) dX8_modelsOf_0 rfl rfl ?_
    refine z_istoreP_n (lo' := [(2, .int (1 : Int32)), (0, .int x0), (1, .int x1)]) C dX8_modelsOf_1 rfl (by decide) rfl rfl ?_
    refine z_iconst C (0 : Int32) dX8_modelsOf_2 rfl rfl ?_
    refine z_istoreP_n (lo' := [(3, .int (0 : Int32)), (2, .int (1 : Int32)), (0, .int x0), (1, .int x1)]) C dX8_modelsOf_3 rfl (by decide) rfl rfl ?_
    refine z_loop (sM := fun s => M) (sl := fun s => [(0, .int x0), (1, .int x1), (2, .int s.1), (3, .int s.2)]) [2, 3, 1, 0] rfl rfl (fun r3 hr3 s4 => ?_)
    unfold FX8_modelsOf_L4
    refine z_iload_n C 3 dX8_modelsOf_4 rfl rfl rfl ?_
    refine z_iload_n C 0 dX8_modelsOf_5 rfl rfl rfl ?_
    refine z_icmpge C dX8_modelsOf_6 rfl rfl ?_ ?_
    · refine z_iload_n C 2 dX8_modelsOf_21 rfl rfl rfl ?_
      exact z_iret C rfl rfl dX8_modelsOf_22
    · refine z_iload_n C 2 dX8_modelsOf_9 rfl rfl rfl ?_
      refine z_iload_n C 1 dX8_modelsOf_10 rfl rfl rfl ?_
      refine z_iconst C (1 : Int32) dX8_modelsOf_11 rfl rfl ?_
      refine z_iadd C dX8_modelsOf_12 rfl ?_
      refine z_imul C dX8_modelsOf_13 rfl ?_
      refine z_istore_n C (fun z => [(2, .int z), (0, .int x0), (1, .int x1), (3, .int s4.2)]) dX8_modelsOf_14 rfl (by decide) (fun _ => rfl) rfl (fun x5 => ?_)
      refine z_iinc (v := (s4.2 + (1 : Int32))) C 3 (fun z => [(3, .int z), (2, .int x5), (0, .int x0), (1, .int x1)]) dX8_modelsOf_15 rfl rfl (by decide) (fun _ => rfl) rfl (fun x6 => ?_)
      refine z_goto C dX8_modelsOf_18 rfl ?_
      exact z_perm [2, 3, 1, 0] rfl (hr3 (x5, x6))
  exact key b hF
set_option maxRecDepth 100000 in
set_option maxHeartbeats 4000000 in
theorem mX8_keepWeights (Y : zY) (M : zMem) (b : zMem) (hF : FX8_keepWeights M = some b) : zMt Y yX8_keepWeights cX8_keepWeights 1 none 0 0 [.ref 100] M (zQv Y b) := by
  refine zMt_of (own := RX8) (by decide +kernel) rfl (Nat.le_of_ble_eq_true rfl) (fun X C => ?_)
  have key : zR Y X 1 (zFv Y X (fun b => b)) (FX8_keepWeights M) 0 [(0, .ref 100)] [] M := by
    unfold FX8_keepWeights
    refine z_aload_n C 0 dX8_keepWeights_0 rfl rfl rfl ?_
    refine z_aload_n C 0 dX8_keepWeights_1 rfl rfl rfl ?_
    refine z_get (v := .ref 101) C 0 zOK8 rfl (by decide) w788 rfl rfl dX8_keepWeights_2 rfl ?_
    refine z_iconst C (3 : Int32) dX8_keepWeights_5 rfl rfl ?_
    refine z_iaload C 96 rfl dX8_keepWeights_6 rfl ?_
    refine z_puti C 25 zOK8 rfl (by decide) w813 rfl rfl rfl rfl rfl dX8_keepWeights_7 rfl (fun M1 => ?_)
    refine z_aload_n C 0 dX8_keepWeights_10 rfl rfl rfl ?_
    refine z_aload_n C 0 dX8_keepWeights_11 rfl rfl rfl ?_
    refine z_get (v := .ref 101) C 0 zOK8 rfl (by decide) w788 rfl rfl dX8_keepWeights_12 rfl ?_
    refine z_bipush C (9 : Int32) dX8_keepWeights_15 rfl rfl ?_
    refine z_iaload C 96 rfl dX8_keepWeights_17 rfl ?_
    refine z_puti C 26 zOK8 rfl (by decide) w814 rfl rfl rfl rfl rfl dX8_keepWeights_18 rfl (fun M2 => ?_)
    refine z_aload_n C 0 dX8_keepWeights_21 rfl rfl rfl ?_
    refine z_aload_n C 0 dX8_keepWeights_22 rfl rfl rfl ?_
    refine z_get (v := .ref 101) C 0 zOK8 rfl (by decide) w788 rfl rfl dX8_keepWeights_23 rfl ?_
    refine z_bipush C (15 : Int32) dX8_keepWeights_26 rfl rfl ?_
    refine z_iaload C 96 rfl dX8_keepWeights_28 rfl ?_
    refine z_puti C 27 zOK8 rfl (by decide) w815 rfl rfl rfl rfl rfl dX8_keepWeights_29 rfl (fun M3 => ?_)
    exact z_vret C rfl dX8_keepWeights_32
  exact key b hF
set_option maxRecDepth 100000 in
set_option maxHeartbeats 4000000 in
theorem mX8_giveBack (Y : zY) (M : zMem) (b : zMem) (hF : FX8_giveBack M = some b) : zMt Y yX8_giveBack cX8_giveBack 1 none 0 0 [.ref 100] M (zQv Y b) := by
  refine zMt_of (own := RX8) (by decide +kernel) rfl (Nat.le_of_ble_eq_true rfl) (fun X C => ?_)
  have key : zR Y X 1 (zFv Y X (fun b => b)) (FX8_giveBack M) 0 [(0, .ref 100)] [] M := by
    unfold FX8_giveBack
    refine z_aload_n C 0 dX8_giveBack_0 rfl rfl rfl ?_
    refine z_get (v := .ref 101) C 0 zOK8 rfl (by decide) w788 rfl rfl dX8_giveBack_1 rfl ?_
    refine z_iconst C (3 : Int32) dX8_giveBack_4 rfl rfl ?_
    refine z_aload_n C 0 dX8_giveBack_5 rfl rfl rfl ?_
    refine z_get (v := .int (M.1 100 25)) C 25 zOK8 rfl (by decide) w813 rfl rfl dX8_giveBack_6 rfl ?_
    refine z_iastore C 96 rfl dX8_giveBack_9 rfl (fun M1 => ?_)
    refine z_aload_n C 0 dX8_giveBack_10 rfl rfl rfl ?_
    refine z_get (v := .ref 101) C 0 zOK8 rfl (by decide) w788 rfl rfl dX8_giveBack_11 rfl ?_
    refine z_bipush C (9 : Int32) dX8_giveBack_14 rfl rfl ?_
    refine z_aload_n C 0 dX8_giveBack_16 rfl rfl rfl ?_
    refine z_get (v := .int (M1.1 100 26)) C 26 zOK8 rfl (by decide) w814 rfl rfl dX8_giveBack_17 rfl ?_
    refine z_iastore C 96 rfl dX8_giveBack_20 rfl (fun M2 => ?_)
    refine z_aload_n C 0 dX8_giveBack_21 rfl rfl rfl ?_
    refine z_get (v := .ref 101) C 0 zOK8 rfl (by decide) w788 rfl rfl dX8_giveBack_22 rfl ?_
    refine z_bipush C (15 : Int32) dX8_giveBack_25 rfl rfl ?_
    refine z_aload_n C 0 dX8_giveBack_27 rfl rfl rfl ?_
    refine z_get (v := .int (M2.1 100 27)) C 27 zOK8 rfl (by decide) w815 rfl rfl dX8_giveBack_28 rfl ?_
    refine z_iastore C 96 rfl dX8_giveBack_31 rfl (fun M3 => ?_)
    exact z_vret C rfl dX8_giveBack_32
  exact key b hF
set_option maxRecDepth 100000 in
set_option maxHeartbeats 4000000 in
theorem mX8_digit (Y : zY) (x0 : Int32) (x1 : Int32) (x2 : Int32) (M : zMem) (b : Int32) (hF : FX8_digit x0 x1 x2 = some b) : zMt Y yX8_digit cX8_digit 5 (some .int) 0 0 [.int x0, .int x1, .int x2] M (zQi Y b M) := by
  refine zMt_of (own := RX8) (by decide +kernel) rfl (Nat.le_of_ble_eq_true rfl) (fun X C => ?_)
  have key : zR Y X 5 (zFi Y X (fun b => b) (fun _ => M)) (FX8_digit x0 x1 x2) 0 [(0, .int x0), (1, .int x1), (2, .int x2)] [] M := by
    unfold FX8_digit
    refine z_iload_n C 1 dX8_digit_0 rfl rfl rfl ?_
    refine z_istoreP_n (lo' := [(3, .int x1), (0, .int x0), (1, .int x1), (2, .int x2)]) C dX8_digit_1 rfl (by decide) rfl rfl ?_
    refine z_iconst C (0 : Int32) dX8_digit_2 rfl rfl ?_
    refine z_istoreP (lo' := [(4, .int (0 : Int32)), (3, .int x1), (0, .int x0), (1, .int x1), (2, .int x2)]) C dX8_digit_3 (by decide) rfl rfl ?_
    refine z_loop (sM := fun s => M) (sl := fun s => [(0, .int x0), (2, .int x2), (3, .int s.1), (4, .int s.2)]) [2, 4, 1, 0] rfl rfl (fun r4 hr4 s5 => ?_)
    unfold FX8_digit_L5
    refine z_iload C 3 dX8_digit_5 rfl rfl ?_
    refine z_iload_n C 1 dX8_digit_7 rfl rfl rfl ?_
    refine z_icmpge C dX8_digit_8 rfl rfl ?_ ?_
    · refine z_iload_n C 2 dX8_digit_23 rfl rfl rfl ?_
      refine z_iload_n C 0 dX8_digit_24 rfl rfl rfl ?_
      refine z_iconst C (1 : Int32) dX8_digit_25 rfl rfl ?_
      refine z_iadd C dX8_digit_26 rfl ?_
      refine z_irem C dX8_digit_27 rfl ?_
      exact z_iret C rfl rfl dX8_digit_28
    · refine z_iload_n C 2 dX8_digit_11 rfl rfl rfl ?_
      refine z_iload_n C 0 dX8_digit_12 rfl rfl rfl ?_
      refine z_iconst C (1 : Int32) dX8_digit_13 rfl rfl ?_
      refine z_iadd C dX8_digit_14 rfl ?_
      refine z_idiv C dX8_digit_15 rfl ?_
      refine z_istore_n C (fun z => [(3, .int z), (0, .int x0), (2, .int x2), (4, .int s5.2)]) dX8_digit_16 rfl (by decide) (fun _ => rfl) rfl (fun x6 => ?_)
      refine z_iinc (v := (s5.2 + (1 : Int32))) C 3 (fun z => [(4, .int z), (3, .int x6), (0, .int x0), (2, .int x2)]) dX8_digit_17 rfl rfl (by decide) (fun _ => rfl) rfl (fun x7 => ?_)
      refine z_goto C dX8_digit_20 rfl ?_
      exact z_perm [2, 3, 1, 0] rfl (hr4 (x6, x7))
  exact key b hF
set_option maxRecDepth 100000 in
set_option maxHeartbeats 4000000 in
theorem mX8_weigh (Y : zY) (x0 : Int32) (x1 : Int32) (x2 : Int32) (M : zMem) (b : zMem) (hF : FX8_weigh x0 x1 x2 M = some b) : zMt Y yX8_weigh cX8_weigh 5 none 1 24 [.ref 100, .int x0, .int x1, .int x2] M (zQv Y b) := by
  refine zMt_of (own := RX8) (by decide +kernel) rfl (Nat.le_of_ble_eq_true rfl) (fun X C => ?_)
  have key : zR Y X 5 (zFv Y X (fun b => b)) (FX8_weigh x0 x1 x2 M) 0 [(0, .ref 100), (1, .int x0), (2, .int x1), (3, .int x2)] [] M := by
    unfold FX8_weigh
    refine z_iconst C (0 : Int32) dX8_weigh_0 rfl rfl ?_
    refine z_istoreP (lo' := [(4, .int (0 : Int32)), (0, .ref 100), (1, .int x0), (2, .int x1), (3, .int x2)]) C dX8_weigh_1 (by decide) rfl rfl ?_
    refine z_loop (sM := fun s => s.2) (sl := fun s => [(0, .ref 100), (1, .int x0), (2, .int x1), (3, .int x2), (4, .int s.1)]) [1, 2, 3, 4, 0] rfl rfl (fun r4 hr4 s5 => ?_)
    unfold FX8_weigh_L3
    refine z_iload C 4 dX8_weigh_3 rfl rfl ?_
    refine z_iload_n C 1 dX8_weigh_5 rfl rfl rfl ?_
    refine z_icmpge C dX8_weigh_6 rfl rfl ?_ ?_
    · exact z_vret C rfl dX8_weigh_34
    · refine z_aload_n C 0 dX8_weigh_9 rfl rfl rfl ?_
      refine z_get (v := .ref 101) C 0 zOK8 rfl (by decide) w788 rfl rfl dX8_weigh_10 rfl ?_
      refine z_bipush C (6 : Int32) dX8_weigh_13 rfl rfl ?_
      refine z_iload C 4 dX8_weigh_15 rfl rfl ?_
      refine z_imul C dX8_weigh_17 rfl ?_
      refine z_iconst C (3 : Int32) dX8_weigh_18 rfl rfl ?_
      refine z_iadd C dX8_weigh_19 rfl ?_
      refine z_iload_n C 2 dX8_weigh_20 rfl rfl rfl ?_
      refine z_iload_n C 3 dX8_weigh_21 rfl rfl rfl ?_
      refine z_iload C 4 dX8_weigh_22 rfl rfl ?_
      refine z_ci (fun b => b) (fun _ => s5.2) (fun b hb => z_S (na := 3) C [.int x1, .int x2, .int s5.1] rfl (mX8_digit Y x1 x2 s5.1 s5.2 b hb) w1098 w1099 w88 w1100 hdX8_digit ⟨Nat.le_of_ble_eq_true rfl, Nat.le_of_ble_eq_true rfl⟩ (Nat.le_of_ble_eq_true rfl) rfl dX8_weigh_24) rfl (fun b6 => ?_)
      refine z_iastore C 96 rfl dX8_weigh_27 rfl (fun M7 => ?_)
      refine z_iinc (v := (s5.1 + (1 : Int32))) C 4 (fun z => [(4, .int z), (0, .ref 100), (1, .int x0), (2, .int x1), (3, .int x2)]) dX8_weigh_28 rfl rfl (by decide) (fun _ => rfl) rfl (fun x8 => ?_)
      refine z_goto C dX8_weigh_31 rfl ?_
      exact z_perm [1, 2, 3, 4, 0] rfl (hr4 (x8, M7))
  exact key b hF
set_option maxRecDepth 100000 in
set_option maxHeartbeats 4000000 in
theorem mX8_isWithin (Y : zY) (x0 : Int32) (x1 : Int32) (M : zMem) (b : Int32) (hF : FX8_isWithin x0 x1 M = some b) : zMt Y yX8_isWithin cX8_isWithin 4 (some .boolean) 2 55 [.ref 100, .int x0, .int x1] M (zQi Y b M) := by
  refine zMt_of (own := RX8) (by decide +kernel) rfl (Nat.le_of_ble_eq_true rfl) (fun X C => ?_)
  have key : zR Y X 4 (zFi Y X (fun b => b) (fun _ => M)) (FX8_isWithin x0 x1 M) 0 [(0, .ref 100), (1, .int x0), (2, .int x1)] [] M := by
    unfold FX8_isWithin
    refine z_aload_n C 0 dX8_isWithin_0 rfl rfl rfl ?_
    refine z_aload_n C 0 dX8_isWithin_1 rfl rfl rfl ?_
    refine z_get (v := .ref 103) C 7 zOK8 rfl (by decide) w795 rfl rfl dX8_isWithin_2 rfl ?_
    refine z_iconst C (4 : Int32) dX8_isWithin_5 rfl rfl ?_
    refine z_iload_n C 1 dX8_isWithin_6 rfl rfl rfl ?_
    refine z_imul C dX8_isWithin_7 rfl ?_
    refine z_iaload C 40 rfl dX8_isWithin_8 rfl ?_
    refine z_aload_n C 0 dX8_isWithin_9 rfl rfl rfl ?_
    refine z_get (v := .ref 103) C 7 zOK8 rfl (by decide) w795 rfl rfl dX8_isWithin_10 rfl ?_
    refine z_iconst C (4 : Int32) dX8_isWithin_13 rfl rfl ?_
    refine z_iload_n C 1 dX8_isWithin_14 rfl rfl rfl ?_
    refine z_imul C dX8_isWithin_15 rfl ?_
    refine z_iconst C (1 : Int32) dX8_isWithin_16 rfl rfl ?_
    refine z_iadd C dX8_isWithin_17 rfl ?_
    refine z_iaload C 40 rfl dX8_isWithin_18 rfl ?_
    refine z_iload_n C 2 dX8_isWithin_19 rfl rfl rfl ?_
    refine z_ci (fun b => b) (fun _ => M) (fun b hb => z_V (na := 3) (ci := 8) (r := (RX8, TX8, 34)) C [.int (zrd M 103 ((4 : Int32) * x0)), .int (zrd M 103 (((4 : Int32) * x0) + (1 : Int32))), .int x1] rfl (mX8_fromOf Y (zrd M 103 ((4 : Int32) * x0)) (zrd M 103 (((4 : Int32) * x0) + (1 : Int32))) x1 M b hb) rfl rfl w936 w938 w51 w88 w939 hdX8_fromOf ⟨Nat.le_of_ble_eq_true rfl, Nat.le_of_ble_eq_true rfl⟩ (Nat.le_of_ble_eq_true rfl) rfl dX8_isWithin_20) rfl (fun b3 => ?_)
    refine z_aload_n C 0 dX8_isWithin_23 rfl rfl rfl ?_
    refine z_aload_n C 0 dX8_isWithin_24 rfl rfl rfl ?_
    refine z_get (v := .ref 103) C 7 zOK8 rfl (by decide) w795 rfl rfl dX8_isWithin_25 rfl ?_
    refine z_iconst C (4 : Int32) dX8_isWithin_28 rfl rfl ?_
    refine z_iload_n C 1 dX8_isWithin_29 rfl rfl rfl ?_
    refine z_imul C dX8_isWithin_30 rfl ?_
    refine z_iconst C (2 : Int32) dX8_isWithin_31 rfl rfl ?_
    refine z_iadd C dX8_isWithin_32 rfl ?_
    refine z_iaload C 40 rfl dX8_isWithin_33 rfl ?_
    refine z_aload_n C 0 dX8_isWithin_34 rfl rfl rfl ?_
    refine z_get (v := .ref 103) C 7 zOK8 rfl (by decide) w795 rfl rfl dX8_isWithin_35 rfl ?_
    refine z_iconst C (4 : Int32) dX8_isWithin_38 rfl rfl ?_
    refine z_iload_n C 1 dX8_isWithin_39 rfl rfl rfl ?_
    refine z_imul C dX8_isWithin_40 rfl ?_
    refine z_iconst C (3 : Int32) dX8_isWithin_41 rfl rfl ?_
    refine z_iadd C dX8_isWithin_42 rfl ?_
    refine z_iaload C 40 rfl dX8_isWithin_43 rfl ?_
    refine z_iload_n C 2 dX8_isWithin_44 rfl rfl rfl ?_
    refine z_ci (fun b => b) (fun _ => M) (fun b hb => z_V (na := 3) (ci := 8) (r := (RX8, TX8, 34)) C [.int (zrd M 103 (((4 : Int32) * x0) + (2 : Int32))), .int (zrd M 103 (((4 : Int32) * x0) + (3 : Int32))), .int x1] rfl (mX8_fromOf Y (zrd M 103 (((4 : Int32) * x0) + (2 : Int32))) (zrd M 103 (((4 : Int32) * x0) + (3 : Int32))) x1 M b hb) rfl rfl w936 w938 w51 w88 w939 hdX8_fromOf ⟨Nat.le_of_ble_eq_true rfl, Nat.le_of_ble_eq_true rfl⟩ (Nat.le_of_ble_eq_true rfl) rfl dX8_isWithin_45) rfl (fun b4 => ?_)
    refine z_isub C dX8_isWithin_48 rfl ?_
    refine z_istore_n C (fun z => [(3, .int z), (0, .ref 100), (1, .int x0), (2, .int x1)]) dX8_isWithin_49 rfl (by decide) (fun _ => rfl) rfl (fun x5 => ?_)
    refine z_iload_n C 0 dX8_isWithin_50 rfl rfl rfl ?_
    refine z_aload_n C 1 dX8_isWithin_51 rfl rfl rfl ?_
    refine z_get (v := .int (M.1 100 8)) C 8 zOK8 rfl (by decide) w796 rfl rfl dX8_isWithin_52 rfl ?_
    refine z_icmpgt C dX8_isWithin_55 rfl rfl ?_ ?_
    · refine z_iconst C (0 : Int32) dX8_isWithin_71 rfl rfl ?_
      exact z_zretK C rfl rfl rfl dX8_isWithin_72
    · refine z_iload_n C 0 dX8_isWithin_58 rfl rfl rfl ?_
      refine z_ineg C dX8_isWithin_59 rfl ?_
      refine z_aload_n C 1 dX8_isWithin_60 rfl rfl rfl ?_
      refine z_get (v := .int (M.1 100 8)) C 8 zOK8 rfl (by decide) w796 rfl rfl dX8_isWithin_61 rfl ?_
      refine z_icmpgt C dX8_isWithin_64 rfl rfl ?_ ?_
      · refine z_iconst C (0 : Int32) dX8_isWithin_71 rfl rfl ?_
        exact z_zretK C rfl rfl rfl dX8_isWithin_72
      · refine z_iconst C (1 : Int32) dX8_isWithin_67 rfl rfl ?_
        refine z_goto C dX8_isWithin_68 rfl ?_
        exact z_zretK C rfl rfl rfl dX8_isWithin_72
  exact key b hF
set_option maxRecDepth 100000 in
set_option maxHeartbeats 4000000 in
theorem mX8_doesFit (Y : zY) (M : zMem) (b : Int32) (hF : FX8_doesFit M = some b) : zMt Y yX8_doesFit cX8_doesFit 3 (some .boolean) 3 78 [.ref 100] M (zQi Y b M) := by
  refine zMt_of (own := RX8) (by decide +kernel) rfl (Nat.le_of_ble_eq_true rfl) (fun X C => ?_)
  have key : zR Y X 3 (zFi Y X (fun b => b) (fun _ => M)) (FX8_doesFit M) 0 [(0, .ref 100)] [] M := by
    unfold FX8_doesFit
    refine z_iconst C (1 : Int32) dX8_doesFit_0 rfl rfl ?_
    refine z_istoreP_n (lo' := [(1, .int (1 : Int32)), (0, .ref 100)]) C dX8_doesFit_1 rfl (by decide) rfl rfl ?_
    refine z_iconst C (0 : Int32) dX8_doesFit_2 rfl rfl ?_
    refine z_istoreP_n (lo' := [(2, .int (0 : Int32)), (1, .int (1 : Int32)), (0, .ref 100)]) C dX8_doesFit_3 rfl (by decide) rfl rfl ?_
    refine z_loop (sM := fun s => M) (sl := fun s => [(0, .ref 100), (1, .int s.1), (2, .int s.2)]) [2, 1, 0] rfl rfl (fun r1 hr1 s2 => ?_)
    unfold FX8_doesFit_L4
    refine z_iload_n C 2 dX8_doesFit_4 rfl rfl rfl ?_
    refine z_aload_n C 0 dX8_doesFit_5 rfl rfl rfl ?_
    refine z_get (v := .int (M.1 100 6)) C 6 zOK8 rfl (by decide) w794 rfl rfl dX8_doesFit_6 rfl ?_
    refine z_icmpge C dX8_doesFit_9 rfl rfl ?_ ?_
    · refine z_iload_n C 1 dX8_doesFit_46 rfl rfl rfl ?_
      exact z_zret C rfl rfl dX8_doesFit_47
    · refine z_iload_n C 1 dX8_doesFit_12 rfl rfl rfl ?_
      refine z_ifeq C dX8_doesFit_13 rfl rfl ?_ ?_
      · refine z_iload_n C 1 dX8_doesFit_46 rfl rfl rfl ?_
        exact z_zret C rfl rfl dX8_doesFit_47
      · refine z_aload_n C 0 dX8_doesFit_16 rfl rfl rfl ?_
        refine z_iload_n C 2 dX8_doesFit_17 rfl rfl rfl ?_
        refine z_iconst C (0 : Int32) dX8_doesFit_18 rfl rfl ?_
        refine z_ci (fun b => b) (fun _ => M) (fun b hb => z_V (na := 2) (ci := 8) (r := (RX8, TX8, 34)) C [.int s2.2, .int (0 : Int32)] rfl (mX8_isWithin Y s2.2 (0 : Int32) M b hb) rfl rfl w1105 w1107 w71 w88 w1108 hdX8_isWithin ⟨Nat.le_of_ble_eq_true rfl, Nat.le_of_ble_eq_true rfl⟩ (Nat.le_of_ble_eq_true rfl) rfl dX8_doesFit_19) rfl (fun b3 => ?_)
        refine z_join (fun k5 => ∀ (x4 : Int32), zR Y X 3 (zFi Y X (fun b => b) (fun _ => M)) (k5 x4) 39 [(0, .ref 100), (2, .int s2.2)] [.int x4] M) (fun x4 => ?_) (fun k5 hk5 => ?_)
        · refine z_istoreP_n (lo' := [(1, .int x4), (0, .ref 100), (2, .int s2.2)]) C dX8_doesFit_39 rfl (by decide) rfl rfl ?_
          refine z_iinc (v := (s2.2 + (1 : Int32))) C 2 (fun z => [(2, .int z), (1, .int x4), (0, .ref 100)]) dX8_doesFit_40 rfl rfl (by decide) (fun _ => rfl) rfl (fun x6 => ?_)
          refine z_goto C dX8_doesFit_43 rfl ?_
          exact z_perm [2, 1, 0] rfl (hr1 (x4, x6))
        · refine z_join (fun k8 => ∀ (u7 : Unit), zR Y X 3 (zFi Y X (fun b => b) (fun _ => M)) (k8 u7) 38 [(0, .ref 100), (2, .int s2.2)] [] M) (fun u7 => ?_) (fun k8 hk8 => ?_)
          · refine z_iconst C (0 : Int32) dX8_doesFit_38 rfl rfl ?_
            exact z_perm [0, 1] rfl (hk5 (0 : Int32))
          · refine z_ifeq C dX8_doesFit_22 rfl rfl ?_ ?_
            · exact z_perm [0, 2] rfl (hk8 ())
            · refine z_aload_n C 0 dX8_doesFit_25 rfl rfl rfl ?_
              refine z_iload_n C 2 dX8_doesFit_26 rfl rfl rfl ?_
              refine z_iconst C (1 : Int32) dX8_doesFit_27 rfl rfl ?_
              refine z_ci (fun b => b) (fun _ => M) (fun b hb => z_V (na := 2) (ci := 8) (r := (RX8, TX8, 34)) C [.int s2.2, .int (1 : Int32)] rfl (mX8_isWithin Y s2.2 (1 : Int32) M b hb) rfl rfl w1105 w1107 w71 w88 w1108 hdX8_isWithin ⟨Nat.le_of_ble_eq_true rfl, Nat.le_of_ble_eq_true rfl⟩ (Nat.le_of_ble_eq_true rfl) rfl dX8_doesFit_28) rfl (fun b9 => ?_)
              refine z_ifeq C dX8_doesFit_31 rfl rfl ?_ ?_
              · exact z_perm [0, 2] rfl (hk8 ())
              · refine z_iconst C (1 : Int32) dX8_doesFit_34 rfl rfl ?_
                refine z_goto C dX8_doesFit_35 rfl ?_
                exact z_perm [0, 2] rfl (hk5 (1 : Int32))
  exact key b hF
set_option maxRecDepth 100000 in
set_option maxHeartbeats 4000000 in
theorem mX8_isTry (Y : zY) (x0 : Int32) (x1 : Int32) (M : zMem) (b : Int32) (hF : FX8_isTry x0 x1 M = some b) : zMt Y yX8_isTry cX8_isTry 3 (some .boolean) 1 22 [.ref 100, .int x0, .int x1] M (zQi Y b M) := by
  refine zMt_of (own := RX8) (by decide +kernel) rfl (Nat.le_of_ble_eq_true rfl) (fun X C => ?_)
  have key : zR Y X 3 (zFi Y X (fun b => b) (fun _ => M)) (FX8_isTry x0 x1 M) 0 [(0, .ref 100), (1, .int x0), (2, .int x1)] [] M := by
    unfold FX8_isTry
    refine z_iload_n C 1 dX8_isTry_0 rfl rfl rfl ?_
    refine z_iconst C (1 : Int32) dX8_isTry_1 rfl rfl ?_
    refine z_iconst C (3 : Int32) dX8_isTry_2 rfl rfl ?_
    refine z_ci (fun b => b) (fun _ => M) (fun b hb => z_S (na := 3) C [.int x0, .int (1 : Int32), .int (3 : Int32)] rfl (mX8_in Y x0 (1 : Int32) (3 : Int32) M b hb) w896 w897 w88 w898 hdX8_in ⟨Nat.le_of_ble_eq_true rfl, Nat.le_of_ble_eq_true rfl⟩ (Nat.le_of_ble_eq_true rfl) rfl dX8_isTry_3) rfl (fun b3 => ?_)
    refine z_ifeq C dX8_isTry_6 rfl rfl ?_ ?_
    · refine z_iconst C (0 : Int32) dX8_isTry_31 rfl rfl ?_
      exact z_zretK C rfl rfl rfl dX8_isTry_32
    · refine z_iload_n C 1 dX8_isTry_9 rfl rfl rfl ?_
      refine z_aload_n C 0 dX8_isTry_10 rfl rfl rfl ?_
      refine z_get (v := .int (M.1 100 1)) C 1 zOK8 rfl (by decide) w789 rfl rfl dX8_isTry_11 rfl ?_
      refine z_icmpgt C dX8_isTry_14 rfl rfl ?_ ?_
      · refine z_iconst C (0 : Int32) dX8_isTry_31 rfl rfl ?_
        exact z_zretK C rfl rfl rfl dX8_isTry_32
      · refine z_iload_n C 2 dX8_isTry_17 rfl rfl rfl ?_
        refine z_iconst C (1 : Int32) dX8_isTry_18 rfl rfl ?_
        refine z_bipush C (15 : Int32) dX8_isTry_19 rfl rfl ?_
        refine z_ci (fun b => b) (fun _ => M) (fun b hb => z_S (na := 3) C [.int x1, .int (1 : Int32), .int (15 : Int32)] rfl (mX8_in Y x1 (1 : Int32) (15 : Int32) M b hb) w896 w897 w88 w898 hdX8_in ⟨Nat.le_of_ble_eq_true rfl, Nat.le_of_ble_eq_true rfl⟩ (Nat.le_of_ble_eq_true rfl) rfl dX8_isTry_21) rfl (fun b4 => ?_)
        refine z_ifeq C dX8_isTry_24 rfl rfl ?_ ?_
        · refine z_iconst C (0 : Int32) dX8_isTry_31 rfl rfl ?_
          exact z_zretK C rfl rfl rfl dX8_isTry_32
        · refine z_iconst C (1 : Int32) dX8_isTry_27 rfl rfl ?_
          refine z_goto C dX8_isTry_28 rfl ?_
          exact z_zretK C rfl rfl rfl dX8_isTry_32
  exact key b hF
set_option maxRecDepth 100000 in
set_option maxHeartbeats 4000000 in
theorem mX8_fits (Y : zY) (x0 : Int32) (x1 : Int32) (x2 : Int32) (M : zMem) (b : Int32 × zMem) (hF : FX8_fits x0 x1 x2 M = some b) : zMt Y yX8_fits cX8_fits 5 (some .int) 4 100 [.ref 100, .int x0, .int x1, .int x2] M (zQi Y b.1 b.2) := by
  refine zMt_of (own := RX8) (by decide +kernel) rfl (Nat.le_of_ble_eq_true rfl) (fun X C => ?_)
  have key : zR Y X 5 (zFi Y X (fun b => b.1) (fun b => b.2)) (FX8_fits x0 x1 x2 M) 0 [(0, .ref 100), (1, .int x0), (2, .int x1), (3, .int x2)] [] M := by
    unfold FX8_fits
    refine z_aload_n C 0 dX8_fits_0 rfl rfl rfl ?_
    refine z_iload_n C 1 dX8_fits_1 rfl rfl rfl ?_
    refine z_iload_n C 2 dX8_fits_2 rfl rfl rfl ?_
    refine z_ci (fun b => b) (fun _ => M) (fun b hb => z_V (na := 2) (ci := 8) (r := (RX8, TX8, 34)) C [.int x0, .int x1] rfl (mX8_isTry Y x0 x1 M b hb) rfl rfl w1083 w1085 w67 w88 w1086 hdX8_isTry ⟨Nat.le_of_ble_eq_true rfl, Nat.le_of_ble_eq_true rfl⟩ (Nat.le_of_ble_eq_true rfl) rfl dX8_fits_3) rfl (fun b4 => ?_)
    refine z_ifeq C dX8_fits_6 rfl rfl ?_ ?_
    · refine z_iconst C (-1 : Int32) dX8_fits_24 rfl rfl ?_
      exact z_iret C rfl rfl dX8_fits_25
    · refine z_iload_n C 3 dX8_fits_9 rfl rfl rfl ?_
      refine z_iconst C (0 : Int32) dX8_fits_10 rfl rfl ?_
      refine z_iload_n C 1 dX8_fits_11 rfl rfl rfl ?_
      refine z_iload_n C 2 dX8_fits_12 rfl rfl rfl ?_
      refine z_ci (fun b => b) (fun _ => M) (fun b hb => z_S (na := 2) C [.int x0, .int x1] rfl (mX8_modelsOf Y x0 x1 M b hb) w1087 w1088 w88 w1089 hdX8_modelsOf ⟨Nat.le_of_ble_eq_true rfl, Nat.le_of_ble_eq_true rfl⟩ (Nat.le_of_ble_eq_true rfl) rfl dX8_fits_13) rfl (fun b5 => ?_)
      refine z_iconst C (1 : Int32) dX8_fits_16 rfl rfl ?_
      refine z_isub C dX8_fits_17 rfl ?_
      refine z_ci (fun b => b) (fun _ => M) (fun b hb => z_S (na := 3) C [.int x2, .int (0 : Int32), .int (b5 - (1 : Int32))] rfl (mX8_in Y x2 (0 : Int32) (b5 - (1 : Int32)) M b hb) w896 w897 w88 w898 hdX8_in ⟨Nat.le_of_ble_eq_true rfl, Nat.le_of_ble_eq_true rfl⟩ (Nat.le_of_ble_eq_true rfl) rfl dX8_fits_18) rfl (fun b6 => ?_)
      refine z_ifne C dX8_fits_21 rfl rfl ?_ ?_
      · refine z_aload_n C 0 dX8_fits_26 rfl rfl rfl ?_
        refine z_cv (fun b => b) (fun b hb => z_V (na := 0) (ci := 8) (r := (RX8, TX8, 34)) C [] rfl (mX8_keepWeights Y M b hb) rfl rfl w1090 w1092 w68 w88 w1093 hdX8_keepWeights ⟨Nat.le_of_ble_eq_true rfl, Nat.le_of_ble_eq_true rfl⟩ (Nat.le_of_ble_eq_true rfl) rfl dX8_fits_27) rfl (fun b7 => ?_)
        refine z_aload_n C 0 dX8_fits_30 rfl rfl rfl ?_
        refine z_iload_n C 1 dX8_fits_31 rfl rfl rfl ?_
        refine z_iload_n C 2 dX8_fits_32 rfl rfl rfl ?_
        refine z_iload_n C 3 dX8_fits_33 rfl rfl rfl ?_
        refine z_cv (fun b => b) (fun b hb => z_V (na := 3) (ci := 8) (r := (RX8, TX8, 34)) C [.int x0, .int x1, .int x2] rfl (mX8_weigh Y x0 x1 x2 b7 b hb) rfl rfl w1094 w1096 w69 w88 w1097 hdX8_weigh ⟨Nat.le_of_ble_eq_true rfl, Nat.le_of_ble_eq_true rfl⟩ (Nat.le_of_ble_eq_true rfl) rfl dX8_fits_34) rfl (fun b8 => ?_)
        refine z_aload_n C 0 dX8_fits_37 rfl rfl rfl ?_
        refine z_ci (fun b => b) (fun _ => b8) (fun b hb => z_V (na := 0) (ci := 8) (r := (RX8, TX8, 34)) C [] rfl (mX8_doesFit Y b8 b hb) rfl rfl w1101 w1103 w70 w88 w1104 hdX8_doesFit ⟨Nat.le_of_ble_eq_true rfl, Nat.le_of_ble_eq_true rfl⟩ (Nat.le_of_ble_eq_true rfl) rfl dX8_fits_38) rfl (fun b9 => ?_)
        refine z_istoreP (lo' := [(4, .int b9), (0, .ref 100), (1, .int x0), (2, .int x1), (3, .int x2)]) C dX8_fits_41 (by decide) rfl rfl ?_
        refine z_aload_n C 1 dX8_fits_43 rfl rfl rfl ?_
        refine z_cv (fun b => b) (fun b hb => z_V (na := 0) (ci := 8) (r := (RX8, TX8, 34)) C [] rfl (mX8_giveBack Y b8 b hb) rfl rfl w1109 w1111 w72 w88 w1112 hdX8_giveBack ⟨Nat.le_of_ble_eq_true rfl, Nat.le_of_ble_eq_true rfl⟩ (Nat.le_of_ble_eq_true rfl) rfl dX8_fits_44) rfl (fun b10 => ?_)
        refine z_iload C 0 dX8_fits_47 rfl rfl ?_
        refine z_ifeq C dX8_fits_49 rfl rfl ?_ ?_
        · refine z_iconst C (0 : Int32) dX8_fits_56 rfl rfl ?_
          exact z_iret C rfl rfl dX8_fits_57
        · refine z_iconst C (1 : Int32) dX8_fits_52 rfl rfl ?_
          refine z_goto C dX8_fits_53 rfl ?_
          exact z_iret C rfl rfl dX8_fits_57
      · refine z_iconst C (-1 : Int32) dX8_fits_24 rfl rfl ?_
        exact z_iret C rfl rfl dX8_fits_25
  exact key b hF
set_option maxRecDepth 100000 in
set_option maxHeartbeats 4000000 in
theorem mX8_findFitting (Y : zY) (x0 : Int32) (x1 : Int32) (M : zMem) (b : Int32 × zMem) (hF : FX8_findFitting x0 x1 M = some b) : zMt Y yX8_findFitting cX8_findFitting 7 (some .int) 4 100 [.ref 100, .int x0, .int x1] M (zQi Y b.1 b.2) := by
  refine zMt_of (own := RX8) (by decide +kernel) rfl (Nat.le_of_ble_eq_true rfl) (fun X C => ?_)
  have key : zR Y X 7 (zFi Y X (fun b => b.1) (fun b => b.2)) (FX8_findFitting x0 x1 M) 0 [(0, .ref 100), (1, .int x0), (2, .int x1)] [] M := by
    unfold FX8_findFitting
    refine z_aload_n C 0 dX8_findFitting_0 rfl rfl rfl ?_
    refine z_cv (fun b => b) (fun b hb => z_V (na := 0) (ci := 8) (r := (RX8, TX8, 34)) C [] rfl (mX8_keepWeights Y M b hb) rfl rfl w1090 w1092 w68 w88 w1093 hdX8_keepWeights ⟨Nat.le_of_ble_eq_true rfl, Nat.le_of_ble_eq_true rfl⟩ (Nat.le_of_ble_eq_true rfl) rfl dX8_findFitting_1) rfl (fun b3 => ?_)
    refine z_iconst C (0 : Int32) dX8_findFitting_4 rfl rfl ?_
    refine z_istoreP_n (lo' := [(3, .int (0 : Int32)), (0, .ref 100), (1, .int x0), (2, .int x1)]) C dX8_findFitting_5 rfl (by decide) rfl rfl ?_
    refine z_iload_n C 2 dX8_findFitting_6 rfl rfl rfl ?_
    refine z_iload_n C 3 dX8_findFitting_7 rfl rfl rfl ?_
    refine z_ci (fun b => b) (fun _ => b3) (fun b hb => z_S (na := 2) C [.int x0, .int x1] rfl (mX8_modelsOf Y x0 x1 b3 b hb) w1087 w1088 w88 w1089 hdX8_modelsOf ⟨Nat.le_of_ble_eq_true rfl, Nat.le_of_ble_eq_true rfl⟩ (Nat.le_of_ble_eq_true rfl) rfl dX8_findFitting_8) rfl (fun b4 => ?_)
    refine z_istoreP (lo' := [(4, .int b4), (3, .int (0 : Int32)), (0, .ref 100), (1, .int x0), (2, .int x1)]) C dX8_findFitting_11 (by decide) rfl rfl ?_
    refine z_iconst C (0 : Int32) dX8_findFitting_13 rfl rfl ?_
    refine z_istoreP (lo' := [(5, .int (0 : Int32)), (4, .int b4), (3, .int (0 : Int32)), (0, .ref 100), (1, .int x0), (2, .int x1)]) C dX8_findFitting_14 (by decide) rfl rfl ?_
    refine z_loop (sM := fun s => s.2.2) (sl := fun s => [(0, .ref 100), (1, .int x0), (2, .int x1), (3, .int s.1), (4, .int b4), (5, .int s.2.1)]) [3, 4, 5, 2, 1, 0] rfl rfl (fun r5 hr5 s6 => ?_)
    unfold FX8_findFitting_L16
    refine z_iload C 5 dX8_findFitting_16 rfl rfl ?_
    refine z_iload C 4 dX8_findFitting_18 rfl rfl ?_
    refine z_icmpge C dX8_findFitting_20 rfl rfl ?_ ?_
    · refine z_aload_n C 0 dX8_findFitting_135 rfl rfl rfl ?_
      refine z_cv (fun b => b) (fun b hb => z_V (na := 0) (ci := 8) (r := (RX8, TX8, 34)) C [] rfl (mX8_giveBack Y s6.2.2 b hb) rfl rfl w1109 w1111 w72 w88 w1112 hdX8_giveBack ⟨Nat.le_of_ble_eq_true rfl, Nat.le_of_ble_eq_true rfl⟩ (Nat.le_of_ble_eq_true rfl) rfl dX8_findFitting_136) rfl (fun b7 => ?_)
      refine z_iload_n C 3 dX8_findFitting_139 rfl rfl rfl ?_
      exact z_iret C rfl rfl dX8_findFitting_140
    · refine z_aload_n C 0 dX8_findFitting_23 rfl rfl rfl ?_
      refine z_iload_n C 1 dX8_findFitting_24 rfl rfl rfl ?_
      refine z_iload_n C 2 dX8_findFitting_25 rfl rfl rfl ?_
      refine z_iload C 5 dX8_findFitting_26 rfl rfl ?_
      refine z_cv (fun b => b) (fun b hb => z_V (na := 3) (ci := 8) (r := (RX8, TX8, 34)) C [.int x0, .int x1, .int s6.2.1] rfl (mX8_weigh Y x0 x1 s6.2.1 s6.2.2 b hb) rfl rfl w1094 w1096 w69 w88 w1097 hdX8_weigh ⟨Nat.le_of_ble_eq_true rfl, Nat.le_of_ble_eq_true rfl⟩ (Nat.le_of_ble_eq_true rfl) rfl dX8_findFitting_28) rfl (fun b8 => ?_)
      refine z_aload_n C 0 dX8_findFitting_31 rfl rfl rfl ?_
      refine z_ci (fun b => b) (fun _ => b8) (fun b hb => z_V (na := 0) (ci := 8) (r := (RX8, TX8, 34)) C [] rfl (mX8_doesFit Y b8 b hb) rfl rfl w1101 w1103 w70 w88 w1104 hdX8_doesFit ⟨Nat.le_of_ble_eq_true rfl, Nat.le_of_ble_eq_true rfl⟩ (Nat.le_of_ble_eq_true rfl) rfl dX8_findFitting_32) rfl (fun b9 => ?_)
      refine z_ifeq C dX8_findFitting_35 rfl rfl ?_ ?_
      · refine z_iinc (v := (s6.2.1 + (1 : Int32))) C 5 (fun z => [(5, .int z), (0, .ref 100), (1, .int x0), (2, .int x1), (3, .int s6.1), (4, .int b4)]) dX8_findFitting_129 rfl rfl (by decide) (fun _ => rfl) rfl (fun x10 => ?_)
        refine z_goto C dX8_findFitting_132 rfl ?_
        exact z_perm [1, 2, 3, 4, 5, 0] rfl (hr5 (s6.1, x10, b8))
      · refine z_aload_n C 0 dX8_findFitting_38 rfl rfl rfl ?_
        refine z_get (v := .ref 114) C 28 zOK8 rfl (by decide) w816 rfl rfl dX8_findFitting_39 rfl ?_
        refine z_iload_n C 3 dX8_findFitting_42 rfl rfl rfl ?_
        refine z_iload C 5 dX8_findFitting_43 rfl rfl ?_
        refine z_iastore C 4096 rfl dX8_findFitting_45 rfl (fun M11 => ?_)
        refine z_iconst C (0 : Int32) dX8_findFitting_46 rfl rfl ?_
        refine z_istoreP (lo' := [(6, .int (0 : Int32)), (0, .ref 100), (1, .int x0), (2, .int x1), (3, .int s6.1), (4, .int b4), (5, .int s6.2.1)]) C dX8_findFitting_47 (by decide) rfl rfl ?_
        refine z_loop (sM := fun s => s.2) (sl := fun s => [(0, .ref 100), (1, .int x0), (2, .int x1), (3, .int s6.1), (4, .int b4), (5, .int s6.2.1), (6, .int s.1)]) [1, 2, 3, 4, 5, 6, 0] rfl rfl (fun r12 hr12 s13 => ?_)
        unfold FX8_findFitting_L49
        refine z_iload C 6 dX8_findFitting_49 rfl rfl ?_
        refine z_aload_n C 0 dX8_findFitting_51 rfl rfl rfl ?_
        refine z_get (v := .int (s13.2.1 100 10)) C 10 zOK8 rfl (by decide) w798 rfl rfl dX8_findFitting_52 rfl ?_
        refine z_icmpge C dX8_findFitting_55 rfl rfl ?_ ?_
        · refine z_iinc (v := (s6.1 + (1 : Int32))) C 3 (fun z => [(3, .int z), (0, .ref 100), (1, .int x0), (2, .int x1), (4, .int b4), (5, .int s6.2.1), (6, .int s13.1)]) dX8_findFitting_126 rfl rfl (by decide) (fun _ => rfl) rfl (fun x14 => ?_)
          refine z_iinc (v := (s6.2.1 + (1 : Int32))) C 5 (fun z => [(5, .int z), (3, .int x14), (0, .ref 100), (1, .int x0), (2, .int x1), (4, .int b4), (6, .int s13.1)]) dX8_findFitting_129 rfl rfl (by decide) (fun _ => rfl) rfl (fun x15 => ?_)
          refine z_goto C dX8_findFitting_132 rfl ?_
          exact z_perm [2, 3, 4, 1, 5, 0] rfl (hr5 (x14, x15, s13.2))
        · refine z_aload_n C 0 dX8_findFitting_58 rfl rfl rfl ?_
          refine z_get (v := .ref 115) C 29 zOK8 rfl (by decide) w817 rfl rfl dX8_findFitting_59 rfl ?_
          refine z_bipush C (8 : Int32) dX8_findFitting_62 rfl rfl ?_
          refine z_iload_n C 3 dX8_findFitting_64 rfl rfl rfl ?_
          refine z_imul C dX8_findFitting_65 rfl ?_
          refine z_iload C 6 dX8_findFitting_66 rfl rfl ?_
          refine z_iadd C dX8_findFitting_68 rfl ?_
          refine z_aload_n C 0 dX8_findFitting_69 rfl rfl rfl ?_
          refine z_aload_n C 0 dX8_findFitting_70 rfl rfl rfl ?_
          refine z_get (v := .ref 104) C 11 zOK8 rfl (by decide) w799 rfl rfl dX8_findFitting_71 rfl ?_
          refine z_iload C 6 dX8_findFitting_74 rfl rfl ?_
          refine z_iaload C 8 rfl dX8_findFitting_76 rfl ?_
          refine z_aload_n C 0 dX8_findFitting_77 rfl rfl rfl ?_
          refine z_get (v := .ref 105) C 12 zOK8 rfl (by decide) w800 rfl rfl dX8_findFitting_78 rfl ?_
          refine z_iload C 6 dX8_findFitting_81 rfl rfl ?_
          refine z_iaload C 8 rfl dX8_findFitting_83 rfl ?_
          refine z_iconst C (0 : Int32) dX8_findFitting_84 rfl rfl ?_
          refine z_ci (fun b => b) (fun _ => s13.2) (fun b hb => z_V (na := 3) (ci := 8) (r := (RX8, TX8, 34)) C [.int (zrd s13.2 104 s13.1), .int (zrd s13.2 105 s13.1), .int (0 : Int32)] rfl (mX8_cellOf Y (zrd s13.2 104 s13.1) (zrd s13.2 105 s13.1) (0 : Int32) s13.2 b hb) rfl rfl w944 w946 w52 w88 w947 hdX8_cellOf ⟨Nat.le_of_ble_eq_true rfl, Nat.le_of_ble_eq_true rfl⟩ (Nat.le_of_ble_eq_true rfl) rfl dX8_findFitting_85) rfl (fun b16 => ?_)
          refine z_iastore C 32768 rfl dX8_findFitting_88 rfl (fun M17 => ?_)
          refine z_aload_n C 0 dX8_findFitting_89 rfl rfl rfl ?_
          refine z_get (v := .ref 116) C 30 zOK8 rfl (by decide) w818 rfl rfl dX8_findFitting_90 rfl ?_
          refine z_bipush C (8 : Int32) dX8_findFitting_93 rfl rfl ?_
          refine z_iload_n C 3 dX8_findFitting_95 rfl rfl rfl ?_
          refine z_imul C dX8_findFitting_96 rfl ?_
          refine z_iload C 6 dX8_findFitting_97 rfl rfl ?_
          refine z_iadd C dX8_findFitting_99 rfl ?_
          refine z_aload_n C 0 dX8_findFitting_100 rfl rfl rfl ?_
          refine z_aload_n C 0 dX8_findFitting_101 rfl rfl rfl ?_
          refine z_get (v := .ref 104) C 11 zOK8 rfl (by decide) w799 rfl rfl dX8_findFitting_102 rfl ?_
          refine z_iload C 6 dX8_findFitting_105 rfl rfl ?_
          refine z_iaload C 8 rfl dX8_findFitting_107 rfl ?_
          refine z_aload_n C 0 dX8_findFitting_108 rfl rfl rfl ?_
          refine z_get (v := .ref 105) C 12 zOK8 rfl (by decide) w800 rfl rfl dX8_findFitting_109 rfl ?_
          refine z_iload C 6 dX8_findFitting_112 rfl rfl ?_
          refine z_iaload C 8 rfl dX8_findFitting_114 rfl ?_
          refine z_iconst C (1 : Int32) dX8_findFitting_115 rfl rfl ?_
          refine z_ci (fun b => b) (fun _ => M17) (fun b hb => z_V (na := 3) (ci := 8) (r := (RX8, TX8, 34)) C [.int (zrd M17 104 s13.1), .int (zrd M17 105 s13.1), .int (1 : Int32)] rfl (mX8_cellOf Y (zrd M17 104 s13.1) (zrd M17 105 s13.1) (1 : Int32) M17 b hb) rfl rfl w944 w946 w52 w88 w947 hdX8_cellOf ⟨Nat.le_of_ble_eq_true rfl, Nat.le_of_ble_eq_true rfl⟩ (Nat.le_of_ble_eq_true rfl) rfl dX8_findFitting_116) rfl (fun b18 => ?_)
          refine z_iastore C 32768 rfl dX8_findFitting_119 rfl (fun M19 => ?_)
          refine z_iinc (v := (s13.1 + (1 : Int32))) C 6 (fun z => [(6, .int z), (0, .ref 100), (1, .int x0), (2, .int x1), (3, .int s6.1), (4, .int b4), (5, .int s6.2.1)]) dX8_findFitting_120 rfl rfl (by decide) (fun _ => rfl) rfl (fun x20 => ?_)
          refine z_goto C dX8_findFitting_123 rfl ?_
          exact z_perm [1, 2, 3, 4, 5, 6, 0] rfl (hr12 (x20, M19))
  exact key b hF
set_option maxRecDepth 100000 in
set_option maxHeartbeats 4000000 in
theorem mX8_isAlike (Y : zY) (x0 : Int32) (x1 : Int32) (x2 : Int32) (x3 : Int32) (M : zMem) (b : Int32) (hF : FX8_isAlike x0 x1 x2 x3 M = some b) : zMt Y yX8_isAlike cX8_isAlike 7 (some .boolean) 0 0 [.ref 100, .int x0, .int x1, .int x2, .int x3] M (zQi Y b M) := by
  refine zMt_of (own := RX8) (by decide +kernel) rfl (Nat.le_of_ble_eq_true rfl) (fun X C => ?_)
  have key : zR Y X 7 (zFi Y X (fun b => b) (fun _ => M)) (FX8_isAlike x0 x1 x2 x3 M) 0 [(0, .ref 100), (1, .int x0), (2, .int x1), (3, .int x2), (4, .int x3)] [] M := by
    unfold FX8_isAlike
    refine z_iconst C (1 : Int32) dX8_isAlike_0 rfl rfl ?_
    refine z_istoreP (lo' := [(5, .int (1 : Int32)), (0, .ref 100), (1, .int x0), (2, .int x1), (3, .int x2), (4, .int x3)]) C dX8_isAlike_1 (by decide) rfl rfl ?_
    refine z_iload_n C 4 dX8_isAlike_3 rfl rfl rfl ?_
    refine z_istoreP (lo' := [(6, .int x2), (5, .int (1 : Int32)), (0, .ref 100), (1, .int x0), (2, .int x1), (3, .int x2), (4, .int x3)]) C dX8_isAlike_4 (by decide) rfl rfl ?_
    refine z_loop (sM := fun s => M) (sl := fun s => [(0, .ref 100), (1, .int x0), (2, .int x1), (4, .int x3), (5, .int s.1), (6, .int s.2)]) [2, 3, 4, 6, 1, 0] rfl rfl (fun r5 hr5 s6 => ?_)
    unfold FX8_isAlike_L6
    refine z_iload C 5 dX8_isAlike_6 rfl rfl ?_
    refine z_iload C 3 dX8_isAlike_8 rfl rfl ?_
    refine z_icmpge C dX8_isAlike_10 rfl rfl ?_ ?_
    · refine z_iload C 4 dX8_isAlike_85 rfl rfl ?_
      exact z_zret C rfl rfl dX8_isAlike_87
    · refine z_iload C 4 dX8_isAlike_13 rfl rfl ?_
      refine z_ifeq C dX8_isAlike_15 rfl rfl ?_ ?_
      · refine z_iload C 4 dX8_isAlike_85 rfl rfl ?_
        exact z_zret C rfl rfl dX8_isAlike_87
      · refine z_aload_n C 0 dX8_isAlike_18 rfl rfl rfl ?_
        refine z_get (v := .ref 115) C 29 zOK8 rfl (by decide) w817 rfl rfl dX8_isAlike_19 rfl ?_
        refine z_bipush C (8 : Int32) dX8_isAlike_22 rfl rfl ?_
        refine z_iload_n C 1 dX8_isAlike_24 rfl rfl rfl ?_
        refine z_imul C dX8_isAlike_25 rfl ?_
        refine z_iload C 5 dX8_isAlike_26 rfl rfl ?_
        refine z_iadd C dX8_isAlike_28 rfl ?_
        refine z_iaload C 32768 rfl dX8_isAlike_29 rfl ?_
        refine z_aload_n C 0 dX8_isAlike_30 rfl rfl rfl ?_
        refine z_get (v := .ref 115) C 29 zOK8 rfl (by decide) w817 rfl rfl dX8_isAlike_31 rfl ?_
        refine z_bipush C (8 : Int32) dX8_isAlike_34 rfl rfl ?_
        refine z_iload_n C 2 dX8_isAlike_36 rfl rfl rfl ?_
        refine z_imul C dX8_isAlike_37 rfl ?_
        refine z_iload C 5 dX8_isAlike_38 rfl rfl ?_
        refine z_iadd C dX8_isAlike_40 rfl ?_
        refine z_iaload C 32768 rfl dX8_isAlike_41 rfl ?_
        refine z_join (fun k8 => ∀ (x7 : Int32), zR Y X 7 (zFi Y X (fun b => b) (fun _ => M)) (k8 x7) 77 [(0, .ref 100), (1, .int x0), (2, .int x1), (4, .int x3), (6, .int s6.2)] [.int x7] M) (fun x7 => ?_) (fun k8 hk8 => ?_)
        · refine z_istoreP (lo' := [(5, .int x7), (0, .ref 100), (1, .int x0), (2, .int x1), (4, .int x3), (6, .int s6.2)]) C dX8_isAlike_77 (by decide) rfl rfl ?_
          refine z_iinc (v := (s6.2 + (1 : Int32))) C 5 (fun z => [(6, .int z), (5, .int x7), (0, .ref 100), (1, .int x0), (2, .int x1), (4, .int x3)]) dX8_isAlike_79 rfl rfl (by decide) (fun _ => rfl) rfl (fun x9 => ?_)
          refine z_goto C dX8_isAlike_82 rfl ?_
          exact z_perm [2, 3, 4, 5, 1, 0] rfl (hr5 (x7, x9))
        · refine z_join (fun k11 => ∀ (u10 : Unit), zR Y X 7 (zFi Y X (fun b => b) (fun _ => M)) (k11 u10) 76 [(0, .ref 100), (1, .int x0), (2, .int x1), (4, .int x3), (6, .int s6.2)] [] M) (fun u10 => ?_) (fun k11 hk11 => ?_)
          · refine z_iconst C (0 : Int32) dX8_isAlike_76 rfl rfl ?_
            exact z_perm [0, 1, 2, 3, 4] rfl (hk8 (0 : Int32))
          · refine z_icmpne C dX8_isAlike_42 rfl rfl ?_ ?_
            · exact z_perm [0, 1, 2, 3, 5] rfl (hk11 ())
            · refine z_aload_n C 0 dX8_isAlike_45 rfl rfl rfl ?_
              refine z_get (v := .ref 116) C 30 zOK8 rfl (by decide) w818 rfl rfl dX8_isAlike_46 rfl ?_
              refine z_bipush C (8 : Int32) dX8_isAlike_49 rfl rfl ?_
              refine z_iload_n C 1 dX8_isAlike_51 rfl rfl rfl ?_
              refine z_imul C dX8_isAlike_52 rfl ?_
              refine z_iload C 5 dX8_isAlike_53 rfl rfl ?_
              refine z_iadd C dX8_isAlike_55 rfl ?_
              refine z_iaload C 32768 rfl dX8_isAlike_56 rfl ?_
              refine z_aload_n C 0 dX8_isAlike_57 rfl rfl rfl ?_
              refine z_get (v := .ref 116) C 30 zOK8 rfl (by decide) w818 rfl rfl dX8_isAlike_58 rfl ?_
              refine z_bipush C (8 : Int32) dX8_isAlike_61 rfl rfl ?_
              refine z_iload_n C 2 dX8_isAlike_63 rfl rfl rfl ?_
              refine z_imul C dX8_isAlike_64 rfl ?_
              refine z_iload C 5 dX8_isAlike_65 rfl rfl ?_
              refine z_iadd C dX8_isAlike_67 rfl ?_
              refine z_iaload C 32768 rfl dX8_isAlike_68 rfl ?_
              refine z_icmpne C dX8_isAlike_69 rfl rfl ?_ ?_
              · exact z_perm [0, 1, 2, 3, 5] rfl (hk11 ())
              · refine z_iconst C (1 : Int32) dX8_isAlike_72 rfl rfl ?_
                refine z_goto C dX8_isAlike_73 rfl ?_
                exact z_perm [0, 1, 2, 3, 5] rfl (hk8 (1 : Int32))
  exact key b hF
set_option maxRecDepth 100000 in
set_option maxHeartbeats 4000000 in
theorem mX8_heap (Y : zY) (x0 : Int32) (x1 : Int32) (x2 : Int32) (M : zMem) (b : Int32 × zMem) (hF : FX8_heap x0 x1 x2 M = some b) : zMt Y yX8_heap cX8_heap 8 (some .int) 1 26 [.ref 100, .int x0, .int x1, .int x2] M (zQi Y b.1 b.2) := by
  refine zMt_of (own := RX8) (by decide +kernel) rfl (Nat.le_of_ble_eq_true rfl) (fun X C => ?_)
  have key : zR Y X 8 (zFi Y X (fun b => b.1) (fun b => b.2)) (FX8_heap x0 x1 x2 M) 0 [(0, .ref 100), (1, .int x0), (2, .int x1), (3, .int x2)] [] M := by
    unfold FX8_heap
    refine z_iconst C (0 : Int32) dX8_heap_0 rfl rfl ?_
    refine z_istoreP (lo' := [(4, .int (0 : Int32)), (0, .ref 100), (1, .int x0), (2, .int x1), (3, .int x2)]) C dX8_heap_1 (by decide) rfl rfl ?_
    refine z_loop (sM := fun s => s.2) (sl := fun s => [(0, .ref 100), (1, .int x0), (2, .int x1), (3, .int x2), (4, .int s.1)]) [1, 2, 3, 4, 0] rfl rfl (fun r4 hr4 s5 => ?_)
    unfold FX8_heap_L3
    refine z_iload C 4 dX8_heap_3 rfl rfl ?_
    refine z_sipush C (8192 : Int32) dX8_heap_5 rfl rfl ?_
    refine z_icmpge C dX8_heap_8 rfl rfl ?_ ?_
    · refine z_aload_n C 0 dX8_heap_26 rfl rfl rfl ?_
      refine z_iconst C (0 : Int32) dX8_heap_27 rfl rfl ?_
      refine z_puti C 33 zOK8 rfl (by decide) w821 rfl rfl rfl rfl rfl dX8_heap_28 rfl (fun M6 => ?_)
      refine z_iconst C (0 : Int32) dX8_heap_31 rfl rfl ?_
      refine z_istoreP (lo' := [(4, .int (0 : Int32)), (0, .ref 100), (1, .int x0), (2, .int x1), (3, .int x2)]) C dX8_heap_32 (by decide) rfl rfl ?_
      refine z_iconst C (0 : Int32) dX8_heap_34 rfl rfl ?_
      refine z_istoreP (lo' := [(5, .int (0 : Int32)), (4, .int (0 : Int32)), (0, .ref 100), (1, .int x0), (2, .int x1), (3, .int x2)]) C dX8_heap_35 (by decide) rfl rfl ?_
      refine z_loop (sM := fun s => s.2.2) (sl := fun s => [(0, .ref 100), (1, .int x0), (2, .int x1), (3, .int x2), (4, .int s.1), (5, .int s.2.1)]) [2, 3, 4, 5, 1, 0] rfl rfl (fun r7 hr7 s8 => ?_)
      unfold FX8_heap_L37
      refine z_iload C 5 dX8_heap_37 rfl rfl ?_
      refine z_iload_n C 1 dX8_heap_39 rfl rfl rfl ?_
      refine z_icmpge C dX8_heap_40 rfl rfl ?_ ?_
      · refine z_iload C 4 dX8_heap_253 rfl rfl ?_
        exact z_iret C rfl rfl dX8_heap_255
      · refine z_iconst C (0 : Int32) dX8_heap_43 rfl rfl ?_
        refine z_istoreP (lo' := [(6, .int (0 : Int32)), (0, .ref 100), (1, .int x0), (2, .int x1), (3, .int x2), (4, .int s8.1), (5, .int s8.2.1)]) C dX8_heap_44 (by decide) rfl rfl ?_
        refine z_iload_n C 3 dX8_heap_46 rfl rfl rfl ?_
        refine z_istoreP (lo' := [(7, .int x1), (6, .int (0 : Int32)), (0, .ref 100), (1, .int x0), (2, .int x1), (3, .int x2), (4, .int s8.1), (5, .int s8.2.1)]) C dX8_heap_47 (by decide) rfl rfl ?_
        refine z_loop (sM := fun s => s8.2.2) (sl := fun s => [(0, .ref 100), (1, .int x0), (2, .int x1), (3, .int x2), (4, .int s8.1), (5, .int s8.2.1), (6, .int s.1), (7, .int s.2)]) [2, 3, 4, 5, 6, 7, 1, 0] rfl rfl (fun r9 hr9 s10 => ?_)
        unfold FX8_heap_L49
        refine z_iload C 7 dX8_heap_49 rfl rfl ?_
        refine z_iload_n C 3 dX8_heap_51 rfl rfl rfl ?_
        refine z_icmpge C dX8_heap_52 rfl rfl ?_ ?_
        · refine z_iload C 6 dX8_heap_99 rfl rfl ?_
          refine z_iload C 6 dX8_heap_101 rfl rfl ?_
          refine z_bipush C (15 : Int32) dX8_heap_103 rfl rfl ?_
          refine z_ishr C dX8_heap_105 rfl ?_
          refine z_ixor C dX8_heap_106 rfl ?_
          refine z_sipush C (8191 : Int32) dX8_heap_107 rfl rfl ?_
          refine z_iand C dX8_heap_110 rfl ?_
          refine z_istore C (fun z => [(7, .int z), (0, .ref 100), (1, .int x0), (2, .int x1), (3, .int x2), (4, .int s8.1), (5, .int s8.2.1), (6, .int s10.1)]) dX8_heap_111 (by decide) (fun _ => rfl) rfl (fun x11 => ?_)
          refine z_loop (sM := fun s => s8.2.2) (sl := fun s => [(0, .ref 100), (1, .int x0), (2, .int x1), (3, .int x2), (4, .int s8.1), (5, .int s8.2.1), (7, .int s)]) [1, 2, 3, 4, 5, 6, 0] rfl rfl (fun r12 hr12 s13 => ?_)
          unfold FX8_heap_L113
          refine z_aload_n C 0 dX8_heap_113 rfl rfl rfl ?_
          refine z_get (v := .ref 117) C 31 zOK8 rfl (by decide) w819 rfl rfl dX8_heap_114 rfl ?_
          refine z_iload C 6 dX8_heap_117 rfl rfl ?_
          refine z_iaload C 8192 rfl dX8_heap_119 rfl ?_
          refine z_bipush C (-9 : Int32) dX8_heap_120 rfl rfl ?_
          refine z_join (fun k15 => ∀ (u14 : Unit), zR Y X 8 (zFi Y X (fun b => b.1) (fun b => b.2)) (k15 u14) 156 [(0, .ref 100), (1, .int x0), (2, .int x1), (3, .int x2), (4, .int s8.1), (5, .int s8.2.1), (7, .int s13)] [] s8.2.2) (fun u14 => ?_) (fun k15 hk15 => ?_)
          · refine z_aload_n C 0 dX8_heap_156 rfl rfl rfl ?_
            refine z_get (v := .ref 117) C 31 zOK8 rfl (by decide) w819 rfl rfl dX8_heap_157 rfl ?_
            refine z_iload C 6 dX8_heap_160 rfl rfl ?_
            refine z_iaload C 8192 rfl dX8_heap_162 rfl ?_
            refine z_bipush C (-9 : Int32) dX8_heap_163 rfl rfl ?_
            refine z_join (fun k17 => ∀ (M16 : zMem), zR Y X 8 (zFi Y X (fun b => b.1) (fun b => b.2)) (k17 M16) 195 [(0, .ref 100), (1, .int x0), (2, .int x1), (3, .int x2), (4, .int s8.1), (5, .int s8.2.1), (7, .int s13)] [] M16) (fun M16 => ?_) (fun k17 hk17 => ?_)
            · refine z_aload_n C 0 dX8_heap_195 rfl rfl rfl ?_
              refine z_get (v := .ref 118) C 32 zOK8 rfl (by decide) w820 rfl rfl dX8_heap_196 rfl ?_
              refine z_aload_n C 0 dX8_heap_199 rfl rfl rfl ?_
              refine z_get (v := .ref 117) C 31 zOK8 rfl (by decide) w819 rfl rfl dX8_heap_200 rfl ?_
              refine z_iload C 6 dX8_heap_203 rfl rfl ?_
              refine z_iaload C 8192 rfl dX8_heap_205 rfl ?_
              refine z_dup2 C dX8_heap_206 rfl rfl rfl ?_
              refine z_iaload C 4096 rfl dX8_heap_207 rfl ?_
              refine z_iconst C (1 : Int32) dX8_heap_208 rfl rfl ?_
              refine z_iadd C dX8_heap_209 rfl ?_
              refine z_iastore C 4096 rfl dX8_heap_210 rfl (fun M18 => ?_)
              refine z_aload_n C 0 dX8_heap_211 rfl rfl rfl ?_
              refine z_get (v := .ref 118) C 32 zOK8 rfl (by decide) w820 rfl rfl dX8_heap_212 rfl ?_
              refine z_aload_n C 0 dX8_heap_215 rfl rfl rfl ?_
              refine z_get (v := .ref 117) C 31 zOK8 rfl (by decide) w819 rfl rfl dX8_heap_216 rfl ?_
              refine z_iload C 6 dX8_heap_219 rfl rfl ?_
              refine z_iaload C 8192 rfl dX8_heap_221 rfl ?_
              refine z_iaload C 4096 rfl dX8_heap_222 rfl ?_
              refine z_iload C 4 dX8_heap_223 rfl rfl ?_
              refine z_join (fun k20 => ∀ (x19 : Int32), zR Y X 8 (zFi Y X (fun b => b.1) (fun b => b.2)) (k20 x19) 245 [(0, .ref 100), (1, .int x0), (2, .int x1), (3, .int x2), (5, .int s8.2.1)] [.int x19] M18) (fun x19 => ?_) (fun k20 hk20 => ?_)
              · refine z_istoreP (lo' := [(4, .int x19), (0, .ref 100), (1, .int x0), (2, .int x1), (3, .int x2), (5, .int s8.2.1)]) C dX8_heap_245 (by decide) rfl rfl ?_
                refine z_iinc (v := (s8.2.1 + (1 : Int32))) C 5 (fun z => [(5, .int z), (4, .int x19), (0, .ref 100), (1, .int x0), (2, .int x1), (3, .int x2)]) dX8_heap_247 rfl rfl (by decide) (fun _ => rfl) rfl (fun x21 => ?_)
                refine z_goto C dX8_heap_250 rfl ?_
                exact z_perm [2, 3, 4, 5, 1, 0] rfl (hr7 (x19, x21, M18))
              · refine z_icmple C dX8_heap_225 rfl rfl ?_ ?_
                · refine z_iload C 4 dX8_heap_243 rfl rfl ?_
                  exact z_perm [0, 1, 2, 3, 5] rfl (hk20 s8.1)
                · refine z_aload_n C 0 dX8_heap_228 rfl rfl rfl ?_
                  refine z_get (v := .ref 118) C 32 zOK8 rfl (by decide) w820 rfl rfl dX8_heap_229 rfl ?_
                  refine z_aload_n C 0 dX8_heap_232 rfl rfl rfl ?_
                  refine z_get (v := .ref 117) C 31 zOK8 rfl (by decide) w819 rfl rfl dX8_heap_233 rfl ?_
                  refine z_iload C 6 dX8_heap_236 rfl rfl ?_
                  refine z_iaload C 8192 rfl dX8_heap_238 rfl ?_
                  refine z_iaload C 4096 rfl dX8_heap_239 rfl ?_
                  refine z_goto C dX8_heap_240 rfl ?_
                  exact z_perm [0, 1, 2, 3, 5] rfl (hk20 (zrd M18 118 (zrd M18 117 s13)))
            · refine z_icmpne C dX8_heap_165 rfl rfl ?_ ?_
              · exact z_perm [0, 1, 2, 3, 4, 5, 6] rfl (hk17 s8.2.2)
              · refine z_aload_n C 0 dX8_heap_168 rfl rfl rfl ?_
                refine z_get (v := .ref 117) C 31 zOK8 rfl (by decide) w819 rfl rfl dX8_heap_169 rfl ?_
                refine z_iload C 6 dX8_heap_172 rfl rfl ?_
                refine z_iload C 5 dX8_heap_174 rfl rfl ?_
                refine z_iastore C 8192 rfl dX8_heap_176 rfl (fun M22 => ?_)
                refine z_aload_n C 0 dX8_heap_177 rfl rfl rfl ?_
                refine z_get (v := .ref 118) C 32 zOK8 rfl (by decide) w820 rfl rfl dX8_heap_178 rfl ?_
                refine z_iload C 5 dX8_heap_181 rfl rfl ?_
                refine z_iconst C (0 : Int32) dX8_heap_183 rfl rfl ?_
                refine z_iastore C 4096 rfl dX8_heap_184 rfl (fun M23 => ?_)
                refine z_aload_n C 0 dX8_heap_185 rfl rfl rfl ?_
                refine z_dup C dX8_heap_186 rfl rfl ?_
                refine z_get (v := .int (M23.1 100 33)) C 33 zOK8 rfl (by decide) w821 rfl rfl dX8_heap_187 rfl ?_
                refine z_iconst C (1 : Int32) dX8_heap_190 rfl rfl ?_
                refine z_iadd C dX8_heap_191 rfl ?_
                refine z_puti C 33 zOK8 rfl (by decide) w821 rfl rfl rfl rfl rfl dX8_heap_192 rfl (fun M24 => ?_)
                exact z_perm [0, 1, 2, 3, 4, 5, 6] rfl (hk17 M24)
          · refine z_icmpeq C dX8_heap_122 rfl rfl ?_ ?_
            · exact z_perm [0, 1, 2, 3, 4, 5, 6] rfl (hk15 ())
            · refine z_aload_n C 0 dX8_heap_125 rfl rfl rfl ?_
              refine z_aload_n C 0 dX8_heap_126 rfl rfl rfl ?_
              refine z_get (v := .ref 117) C 31 zOK8 rfl (by decide) w819 rfl rfl dX8_heap_127 rfl ?_
              refine z_iload C 6 dX8_heap_130 rfl rfl ?_
              refine z_iaload C 8192 rfl dX8_heap_132 rfl ?_
              refine z_iload C 5 dX8_heap_133 rfl rfl ?_
              refine z_iload_n C 2 dX8_heap_135 rfl rfl rfl ?_
              refine z_iload_n C 3 dX8_heap_136 rfl rfl rfl ?_
              refine z_ci (fun b => b) (fun _ => s8.2.2) (fun b hb => z_V (na := 4) (ci := 8) (r := (RX8, TX8, 34)) C [.int (zrd s8.2.2 117 s13), .int s8.2.1, .int x1, .int x2] rfl (mX8_isAlike Y (zrd s8.2.2 117 s13) s8.2.1 x1 x2 s8.2.2 b hb) rfl rfl w1125 w1127 w75 w88 w1128 hdX8_isAlike ⟨Nat.le_of_ble_eq_true rfl, Nat.le_of_ble_eq_true rfl⟩ (Nat.le_of_ble_eq_true rfl) rfl dX8_heap_137) rfl (fun b25 => ?_)
              refine z_ifne C dX8_heap_140 rfl rfl ?_ ?_
              · exact z_perm [0, 1, 2, 3, 4, 5, 6] rfl (hk15 ())
              · refine z_iload C 6 dX8_heap_143 rfl rfl ?_
                refine z_iconst C (1 : Int32) dX8_heap_145 rfl rfl ?_
                refine z_iadd C dX8_heap_146 rfl ?_
                refine z_sipush C (8191 : Int32) dX8_heap_147 rfl rfl ?_
                refine z_iand C dX8_heap_150 rfl ?_
                refine z_istore C (fun z => [(7, .int z), (0, .ref 100), (1, .int x0), (2, .int x1), (3, .int x2), (4, .int s8.1), (5, .int s8.2.1)]) dX8_heap_151 (by decide) (fun _ => rfl) rfl (fun x26 => ?_)
                refine z_goto C dX8_heap_153 rfl ?_
                exact z_perm [1, 2, 3, 4, 5, 6, 0] rfl (hr12 x26)
        · refine z_iload C 6 dX8_heap_55 rfl rfl ?_
          refine z_bipush C (31 : Int32) dX8_heap_57 rfl rfl ?_
          refine z_imul C dX8_heap_59 rfl ?_
          refine z_aload_n C 0 dX8_heap_60 rfl rfl rfl ?_
          refine z_get (v := .ref 115) C 29 zOK8 rfl (by decide) w817 rfl rfl dX8_heap_61 rfl ?_
          refine z_bipush C (8 : Int32) dX8_heap_64 rfl rfl ?_
          refine z_iload C 5 dX8_heap_66 rfl rfl ?_
          refine z_imul C dX8_heap_68 rfl ?_
          refine z_iload C 7 dX8_heap_69 rfl rfl ?_
          refine z_iadd C dX8_heap_71 rfl ?_
          refine z_iaload C 32768 rfl dX8_heap_72 rfl ?_
          refine z_iadd C dX8_heap_73 rfl ?_
          refine z_bipush C (31 : Int32) dX8_heap_74 rfl rfl ?_
          refine z_imul C dX8_heap_76 rfl ?_
          refine z_aload_n C 0 dX8_heap_77 rfl rfl rfl ?_
          refine z_get (v := .ref 116) C 30 zOK8 rfl (by decide) w818 rfl rfl dX8_heap_78 rfl ?_
          refine z_bipush C (8 : Int32) dX8_heap_81 rfl rfl ?_
          refine z_iload C 5 dX8_heap_83 rfl rfl ?_
          refine z_imul C dX8_heap_85 rfl ?_
          refine z_iload C 7 dX8_heap_86 rfl rfl ?_
          refine z_iadd C dX8_heap_88 rfl ?_
          refine z_iaload C 32768 rfl dX8_heap_89 rfl ?_
          refine z_iadd C dX8_heap_90 rfl ?_
          refine z_istore C (fun z => [(6, .int z), (0, .ref 100), (1, .int x0), (2, .int x1), (3, .int x2), (4, .int s8.1), (5, .int s8.2.1), (7, .int s10.2)]) dX8_heap_91 (by decide) (fun _ => rfl) rfl (fun x27 => ?_)
          refine z_iinc (v := (s10.2 + (1 : Int32))) C 7 (fun z => [(7, .int z), (6, .int x27), (0, .ref 100), (1, .int x0), (2, .int x1), (3, .int x2), (4, .int s8.1), (5, .int s8.2.1)]) dX8_heap_93 rfl rfl (by decide) (fun _ => rfl) rfl (fun x28 => ?_)
          refine z_goto C dX8_heap_96 rfl ?_
          exact z_perm [2, 3, 4, 5, 6, 7, 1, 0] rfl (hr9 (x27, x28))
    · refine z_aload_n C 0 dX8_heap_11 rfl rfl rfl ?_
      refine z_get (v := .ref 117) C 31 zOK8 rfl (by decide) w819 rfl rfl dX8_heap_12 rfl ?_
      refine z_iload C 4 dX8_heap_15 rfl rfl ?_
      refine z_bipush C (-9 : Int32) dX8_heap_17 rfl rfl ?_
      refine z_iastore C 8192 rfl dX8_heap_19 rfl (fun M29 => ?_)
      refine z_iinc (v := (s5.1 + (1 : Int32))) C 4 (fun z => [(4, .int z), (0, .ref 100), (1, .int x0), (2, .int x1), (3, .int x2)]) dX8_heap_20 rfl rfl (by decide) (fun _ => rfl) rfl (fun x30 => ?_)
      refine z_goto C dX8_heap_23 rfl ?_
      exact z_perm [1, 2, 3, 4, 0] rfl (hr4 (x30, M29))
  exact key b hF
set_option maxRecDepth 100000 in
set_option maxHeartbeats 4000000 in
theorem mX8_models (Y : zY) (x0 : Int32) (x1 : Int32) (x2 : Int32) (M : zMem) (b : Int32 × zMem) (hF : FX8_models x0 x1 x2 M = some b) : zMt Y yX8_models cX8_models 9 (some .int) 5 126 [.ref 100, .int x0, .int x1, .int x2] M (zQi Y b.1 b.2) := by
  refine zMt_of (own := RX8) (by decide +kernel) rfl (Nat.le_of_ble_eq_true rfl) (fun X C => ?_)
  have key : zR Y X 9 (zFi Y X (fun b => b.1) (fun b => b.2)) (FX8_models x0 x1 x2 M) 0 [(0, .ref 100), (1, .int x0), (2, .int x1), (3, .int x2)] [] M := by
    unfold FX8_models
    refine z_aload_n C 0 dX8_models_0 rfl rfl rfl ?_
    refine z_iload_n C 1 dX8_models_1 rfl rfl rfl ?_
    refine z_iload_n C 2 dX8_models_2 rfl rfl rfl ?_
    refine z_ci (fun b => b) (fun _ => M) (fun b hb => z_V (na := 2) (ci := 8) (r := (RX8, TX8, 34)) C [.int x0, .int x1] rfl (mX8_isTry Y x0 x1 M b hb) rfl rfl w1083 w1085 w67 w88 w1086 hdX8_isTry ⟨Nat.le_of_ble_eq_true rfl, Nat.le_of_ble_eq_true rfl⟩ (Nat.le_of_ble_eq_true rfl) rfl dX8_models_3) rfl (fun b4 => ?_)
    refine z_ifeq C dX8_models_6 rfl rfl ?_ ?_
    · refine z_iconst C (-1 : Int32) dX8_models_18 rfl rfl ?_
      exact z_iret C rfl rfl dX8_models_19
    · refine z_iload_n C 3 dX8_models_9 rfl rfl rfl ?_
      refine z_iconst C (0 : Int32) dX8_models_10 rfl rfl ?_
      refine z_iconst C (3 : Int32) dX8_models_11 rfl rfl ?_
      refine z_ci (fun b => b) (fun _ => M) (fun b hb => z_S (na := 3) C [.int x2, .int (0 : Int32), .int (3 : Int32)] rfl (mX8_in Y x2 (0 : Int32) (3 : Int32) M b hb) w896 w897 w88 w898 hdX8_in ⟨Nat.le_of_ble_eq_true rfl, Nat.le_of_ble_eq_true rfl⟩ (Nat.le_of_ble_eq_true rfl) rfl dX8_models_12) rfl (fun b5 => ?_)
      refine z_ifne C dX8_models_15 rfl rfl ?_ ?_
      · refine z_aload_n C 0 dX8_models_20 rfl rfl rfl ?_
        refine z_iload_n C 1 dX8_models_21 rfl rfl rfl ?_
        refine z_iload_n C 2 dX8_models_22 rfl rfl rfl ?_
        refine z_ci (fun b => b.1) (fun b => b.2) (fun b hb => z_V (na := 2) (ci := 8) (r := (RX8, TX8, 34)) C [.int x0, .int x1] rfl (mX8_findFitting Y x0 x1 M b hb) rfl rfl w1117 w1119 w73 w88 w1120 hdX8_findFitting ⟨Nat.le_of_ble_eq_true rfl, Nat.le_of_ble_eq_true rfl⟩ (Nat.le_of_ble_eq_true rfl) rfl dX8_models_23) rfl (fun b6 => ?_)
        refine z_istoreP (lo' := [(4, .int b6.1), (0, .ref 100), (1, .int x0), (2, .int x1), (3, .int x2)]) C dX8_models_26 (by decide) rfl rfl ?_
        refine z_iload_n C 4 dX8_models_28 rfl rfl rfl ?_
        refine z_ifne C dX8_models_29 rfl rfl ?_ ?_
        · refine z_bipush C (-9 : Int32) dX8_models_35 rfl rfl ?_
          refine z_istoreP (lo' := [(5, .int (-9 : Int32)), (4, .int b6.1), (0, .ref 100), (1, .int x0), (2, .int x1), (3, .int x2)]) C dX8_models_37 (by decide) rfl rfl ?_
          refine z_bipush C (-9 : Int32) dX8_models_39 rfl rfl ?_
          refine z_istoreP (lo' := [(6, .int (-9 : Int32)), (5, .int (-9 : Int32)), (4, .int b6.1), (0, .ref 100), (1, .int x0), (2, .int x1), (3, .int x2)]) C dX8_models_41 (by decide) rfl rfl ?_
          refine z_iload_n C 6 dX8_models_43 rfl rfl rfl ?_
          refine z_iconst C (1 : Int32) dX8_models_44 rfl rfl ?_
          refine z_icmpne C dX8_models_45 rfl rfl ?_ ?_
          · refine z_iload_n C 6 dX8_models_158 rfl rfl rfl ?_
            refine z_iconst C (2 : Int32) dX8_models_159 rfl rfl ?_
            refine z_icmpne C dX8_models_160 rfl rfl ?_ ?_
            · refine z_iconst C (0 : Int32) dX8_models_181 rfl rfl ?_
              refine z_istoreP (lo' := [(7, .int (0 : Int32)), (6, .int (-9 : Int32)), (5, .int (-9 : Int32)), (4, .int b6.1), (0, .ref 100), (1, .int x0), (2, .int x1), (3, .int x2)]) C dX8_models_182 (by decide) rfl rfl ?_
              refine z_loop (sM := fun s => s.2.2.2) (sl := fun s => [(0, .ref 100), (4, .int b6.1), (5, .int s.1), (6, .int s.2.1), (7, .int s.2.2.1)]) [4, 3, 2, 1, 0] rfl rfl (fun r7 hr7 s8 => ?_)
              unfold FX8_models_L184
              refine z_iload C 4 dX8_models_184 rfl rfl ?_
              refine z_aload_n C 0 dX8_models_186 rfl rfl rfl ?_
              refine z_get (v := .int (s8.2.2.2.1 100 10)) C 10 zOK8 rfl (by decide) w798 rfl rfl dX8_models_187 rfl ?_
              refine z_icmpge C dX8_models_190 rfl rfl ?_ ?_
              · refine z_iload C 2 dX8_models_264 rfl rfl ?_
                exact z_iret C rfl rfl dX8_models_266
              · refine z_iload C 1 dX8_models_193 rfl rfl ?_
                refine z_ifle C dX8_models_195 rfl rfl ?_ ?_
                · refine z_iload C 2 dX8_models_264 rfl rfl ?_
                  exact z_iret C rfl rfl dX8_models_266
                · refine z_aload_n C 0 dX8_models_198 rfl rfl rfl ?_
                  refine z_iload C 1 dX8_models_199 rfl rfl ?_
                  refine z_iload C 4 dX8_models_201 rfl rfl ?_
                  refine z_iload C 4 dX8_models_203 rfl rfl ?_
                  refine z_iconst C (1 : Int32) dX8_models_205 rfl rfl ?_
                  refine z_iadd C dX8_models_206 rfl ?_
                  refine z_ci (fun b => b.1) (fun b => b.2) (fun b hb => z_V (na := 3) (ci := 8) (r := (RX8, TX8, 34)) C [.int b6.1, .int s8.2.2.1, .int (s8.2.2.1 + (1 : Int32))] rfl (mX8_heap Y b6.1 s8.2.2.1 (s8.2.2.1 + (1 : Int32)) s8.2.2.2 b hb) rfl rfl w1121 w1123 w74 w88 w1124 hdX8_heap ⟨Nat.le_of_ble_eq_true rfl, Nat.le_of_ble_eq_true rfl⟩ (Nat.le_of_ble_eq_true rfl) rfl dX8_models_207) rfl (fun b9 => ?_)
                  refine z_istoreP (lo' := [(8, .int b9.1), (0, .ref 100), (4, .int b6.1), (5, .int s8.1), (6, .int s8.2.1), (7, .int s8.2.2.1)]) C dX8_models_210 (by decide) rfl rfl ?_
                  refine z_iload C 3 dX8_models_212 rfl rfl ?_
                  refine z_bipush C (-9 : Int32) dX8_models_214 rfl rfl ?_
                  refine z_join (fun k11 => ∀ (x10 : Int32), zR Y X 9 (zFi Y X (fun b => b.1) (fun b => b.2)) (k11 x10) 233 [(0, .ref 100), (4, .int b6.1), (6, .int s8.2.1), (7, .int s8.2.2.1), (8, .int b9.1)] [.int x10] b9.2) (fun x10 => ?_) (fun k11 hk11 => ?_)
                  · refine z_istoreP (lo' := [(5, .int x10), (0, .ref 100), (4, .int b6.1), (6, .int s8.2.1), (7, .int s8.2.2.1), (8, .int b9.1)]) C dX8_models_233 (by decide) rfl rfl ?_
                    refine z_iload C 3 dX8_models_235 rfl rfl ?_
                    refine z_bipush C (-9 : Int32) dX8_models_237 rfl rfl ?_
                    refine z_join (fun k13 => ∀ (x12 : Int32), zR Y X 9 (zFi Y X (fun b => b.1) (fun b => b.2)) (k13 x12) 256 [(0, .ref 100), (4, .int b6.1), (5, .int x10), (7, .int s8.2.2.1)] [.int x12] b9.2) (fun x12 => ?_) (fun k13 hk13 => ?_)
                    · refine z_istoreP (lo' := [(6, .int x12), (0, .ref 100), (4, .int b6.1), (5, .int x10), (7, .int s8.2.2.1)]) C dX8_models_256 (by decide) rfl rfl ?_
                      refine z_iinc (v := (s8.2.2.1 + (1 : Int32))) C 4 (fun z => [(7, .int z), (6, .int x12), (0, .ref 100), (4, .int b6.1), (5, .int x10)]) dX8_models_258 rfl rfl (by decide) (fun _ => rfl) rfl (fun x14 => ?_)
                      refine z_goto C dX8_models_261 rfl ?_
                      exact z_perm [2, 3, 4, 1, 0] rfl (hr7 (x10, x12, x14, b9.2))
                    · refine z_join (fun k16 => ∀ (u15 : Unit), zR Y X 9 (zFi Y X (fun b => b.1) (fun b => b.2)) (k16 u15) 249 [(0, .ref 100), (4, .int b6.1), (5, .int x10), (7, .int s8.2.2.1), (8, .int b9.1)] [] b9.2) (fun u15 => ?_) (fun k16 hk16 => ?_)
                      · refine z_iload C 4 dX8_models_249 rfl rfl ?_
                        refine z_goto C dX8_models_251 rfl ?_
                        exact z_perm [0, 1, 2, 3] rfl (hk13 b9.1)
                      · refine z_icmpeq C dX8_models_239 rfl rfl ?_ ?_
                        · exact z_perm [1, 2, 0, 4, 5] rfl (hk16 ())
                        · refine z_iload C 5 dX8_models_242 rfl rfl ?_
                          refine z_iload C 3 dX8_models_244 rfl rfl ?_
                          refine z_icmpge C dX8_models_246 rfl rfl ?_ ?_
                          · refine z_iload C 3 dX8_models_254 rfl rfl ?_
                            exact z_perm [1, 2, 0, 4] rfl (hk13 s8.2.1)
                          · exact z_perm [1, 2, 0, 4, 5] rfl (hk16 ())
                  · refine z_join (fun k18 => ∀ (u17 : Unit), zR Y X 9 (zFi Y X (fun b => b.1) (fun b => b.2)) (k18 u17) 226 [(0, .ref 100), (4, .int b6.1), (6, .int s8.2.1), (7, .int s8.2.2.1), (8, .int b9.1)] [] b9.2) (fun u17 => ?_) (fun k18 hk18 => ?_)
                    · refine z_iload C 3 dX8_models_226 rfl rfl ?_
                      refine z_goto C dX8_models_228 rfl ?_
                      exact z_perm [0, 1, 2, 3, 4] rfl (hk11 s8.2.2.1)
                    · refine z_icmpeq C dX8_models_216 rfl rfl ?_ ?_
                      · exact z_perm [1, 2, 4, 5, 0] rfl (hk18 ())
                      · refine z_iload C 0 dX8_models_219 rfl rfl ?_
                        refine z_iload C 4 dX8_models_221 rfl rfl ?_
                        refine z_icmpge C dX8_models_223 rfl rfl ?_ ?_
                        · refine z_iload C 3 dX8_models_231 rfl rfl ?_
                          exact z_perm [1, 2, 4, 5, 0] rfl (hk11 s8.1)
                        · exact z_perm [1, 2, 4, 5, 0] rfl (hk18 ())
            · refine z_aload_n C 3 dX8_models_163 rfl rfl rfl ?_
              refine z_iload C 2 dX8_models_164 rfl rfl ?_
              refine z_iconst C (0 : Int32) dX8_models_166 rfl rfl ?_
              refine z_aload_n C 3 dX8_models_167 rfl rfl rfl ?_
              refine z_get (v := .int (b6.2.1 100 10)) C 10 zOK8 rfl (by decide) w798 rfl rfl dX8_models_168 rfl ?_
              refine z_ci (fun b => b.1) (fun b => b.2) (fun b hb => z_V (na := 3) (ci := 8) (r := (RX8, TX8, 34)) C [.int b6.1, .int (0 : Int32), .int (b6.2.1 100 10)] rfl (mX8_heap Y b6.1 (0 : Int32) (b6.2.1 100 10) b6.2 b hb) rfl rfl w1121 w1123 w74 w88 w1124 hdX8_heap ⟨Nat.le_of_ble_eq_true rfl, Nat.le_of_ble_eq_true rfl⟩ (Nat.le_of_ble_eq_true rfl) rfl dX8_models_171) rfl (fun b19 => ?_)
              refine z_istoreP (lo' := [(7, .int b19.1), (6, .int (-9 : Int32)), (5, .int (-9 : Int32)), (4, .int b6.1), (0, .ref 100), (1, .int x0), (2, .int x1), (3, .int x2)]) C dX8_models_174 (by decide) rfl rfl ?_
              refine z_aload_n C 4 dX8_models_176 rfl rfl rfl ?_
              refine z_get (v := .int (b19.2.1 100 33)) C 33 zOK8 rfl (by decide) w821 rfl rfl dX8_models_177 rfl ?_
              exact z_iret C rfl rfl dX8_models_180
          · refine z_iconst C (0 : Int32) dX8_models_48 rfl rfl ?_
            refine z_istoreP (lo' := [(7, .int (0 : Int32)), (6, .int (-9 : Int32)), (5, .int (-9 : Int32)), (4, .int b6.1), (0, .ref 100), (1, .int x0), (2, .int x1), (3, .int x2)]) C dX8_models_49 (by decide) rfl rfl ?_
            refine z_loop (sM := fun s => b6.2) (sl := fun s => [(0, .ref 100), (2, .int x1), (4, .int b6.1), (5, .int s.1), (6, .int s.2.1), (7, .int s.2.2)]) [4, 6, 3, 2, 1, 0] rfl rfl (fun r20 hr20 s21 => ?_)
            unfold FX8_models_L51
            refine z_iload C 5 dX8_models_51 rfl rfl ?_
            refine z_iload C 2 dX8_models_53 rfl rfl ?_
            refine z_icmpge C dX8_models_55 rfl rfl ?_ ?_
            · refine z_iload C 3 dX8_models_155 rfl rfl ?_
              exact z_iret C rfl rfl dX8_models_157
            · refine z_iload_n C 1 dX8_models_58 rfl rfl rfl ?_
              refine z_aload_n C 0 dX8_models_59 rfl rfl rfl ?_
              refine z_get (v := .ref 114) C 28 zOK8 rfl (by decide) w816 rfl rfl dX8_models_60 rfl ?_
              refine z_iload C 5 dX8_models_63 rfl rfl ?_
              refine z_iaload C 4096 rfl dX8_models_65 rfl ?_
              refine z_iconst C (0 : Int32) dX8_models_66 rfl rfl ?_
              refine z_ci (fun b => b) (fun _ => b6.2) (fun b hb => z_S (na := 3) C [.int x1, .int (zrd b6.2 114 s21.2.2), .int (0 : Int32)] rfl (mX8_digit Y x1 (zrd b6.2 114 s21.2.2) (0 : Int32) b6.2 b hb) w1098 w1099 w88 w1100 hdX8_digit ⟨Nat.le_of_ble_eq_true rfl, Nat.le_of_ble_eq_true rfl⟩ (Nat.le_of_ble_eq_true rfl) rfl dX8_models_67) rfl (fun b22 => ?_)
              refine z_iload_n C 1 dX8_models_70 rfl rfl rfl ?_
              refine z_aload_n C 0 dX8_models_71 rfl rfl rfl ?_
              refine z_get (v := .ref 114) C 28 zOK8 rfl (by decide) w816 rfl rfl dX8_models_72 rfl ?_
              refine z_iload C 5 dX8_models_75 rfl rfl ?_
              refine z_iaload C 4096 rfl dX8_models_77 rfl ?_
              refine z_iconst C (1 : Int32) dX8_models_78 rfl rfl ?_
              refine z_ci (fun b => b) (fun _ => b6.2) (fun b hb => z_S (na := 3) C [.int x1, .int (zrd b6.2 114 s21.2.2), .int (1 : Int32)] rfl (mX8_digit Y x1 (zrd b6.2 114 s21.2.2) (1 : Int32) b6.2 b hb) w1098 w1099 w88 w1100 hdX8_digit ⟨Nat.le_of_ble_eq_true rfl, Nat.le_of_ble_eq_true rfl⟩ (Nat.le_of_ble_eq_true rfl) rfl dX8_models_79) rfl (fun b23 => ?_)
              refine z_iadd C dX8_models_82 rfl ?_
              refine z_iload_n C 1 dX8_models_83 rfl rfl rfl ?_
              refine z_aload_n C 0 dX8_models_84 rfl rfl rfl ?_
              refine z_get (v := .ref 114) C 28 zOK8 rfl (by decide) w816 rfl rfl dX8_models_85 rfl ?_
              refine z_iload C 5 dX8_models_88 rfl rfl ?_
              refine z_iaload C 4096 rfl dX8_models_90 rfl ?_
              refine z_iconst C (2 : Int32) dX8_models_91 rfl rfl ?_
              refine z_ci (fun b => b) (fun _ => b6.2) (fun b hb => z_S (na := 3) C [.int x1, .int (zrd b6.2 114 s21.2.2), .int (2 : Int32)] rfl (mX8_digit Y x1 (zrd b6.2 114 s21.2.2) (2 : Int32) b6.2 b hb) w1098 w1099 w88 w1100 hdX8_digit ⟨Nat.le_of_ble_eq_true rfl, Nat.le_of_ble_eq_true rfl⟩ (Nat.le_of_ble_eq_true rfl) rfl dX8_models_92) rfl (fun b24 => ?_)
              refine z_iadd C dX8_models_95 rfl ?_
              refine z_istore C (fun z => [(8, .int z), (0, .ref 100), (2, .int x1), (4, .int b6.1), (5, .int s21.1), (6, .int s21.2.1), (7, .int s21.2.2)]) dX8_models_96 (by decide) (fun _ => rfl) rfl (fun x25 => ?_)
              refine z_iload C 4 dX8_models_98 rfl rfl ?_
              refine z_bipush C (-9 : Int32) dX8_models_100 rfl rfl ?_
              refine z_join (fun k27 => ∀ (x26 : Int32), zR Y X 9 (zFi Y X (fun b => b.1) (fun b => b.2)) (k27 x26) 124 [(0, .ref 100), (2, .int x1), (4, .int b6.1), (6, .int s21.2.1), (7, .int s21.2.2), (8, .int x25)] [.int x26] b6.2) (fun x26 => ?_) (fun k27 hk27 => ?_)
              · refine z_istoreP (lo' := [(5, .int x26), (0, .ref 100), (2, .int x1), (4, .int b6.1), (6, .int s21.2.1), (7, .int s21.2.2), (8, .int x25)]) C dX8_models_124 (by decide) rfl rfl ?_
                refine z_iload C 4 dX8_models_126 rfl rfl ?_
                refine z_bipush C (-9 : Int32) dX8_models_128 rfl rfl ?_
                refine z_join (fun k29 => ∀ (x28 : Int32), zR Y X 9 (zFi Y X (fun b => b.1) (fun b => b.2)) (k29 x28) 147 [(0, .ref 100), (2, .int x1), (4, .int b6.1), (5, .int x26), (7, .int s21.2.2)] [.int x28] b6.2) (fun x28 => ?_) (fun k29 hk29 => ?_)
                · refine z_istoreP (lo' := [(6, .int x28), (0, .ref 100), (2, .int x1), (4, .int b6.1), (5, .int x26), (7, .int s21.2.2)]) C dX8_models_147 (by decide) rfl rfl ?_
                  refine z_iinc (v := (s21.2.2 + (1 : Int32))) C 5 (fun z => [(7, .int z), (6, .int x28), (0, .ref 100), (2, .int x1), (4, .int b6.1), (5, .int x26)]) dX8_models_149 rfl rfl (by decide) (fun _ => rfl) rfl (fun x30 => ?_)
                  refine z_goto C dX8_models_152 rfl ?_
                  exact z_perm [2, 3, 4, 5, 1, 0] rfl (hr20 (x26, x28, x30))
                · refine z_join (fun k32 => ∀ (u31 : Unit), zR Y X 9 (zFi Y X (fun b => b.1) (fun b => b.2)) (k32 u31) 140 [(0, .ref 100), (2, .int x1), (4, .int b6.1), (5, .int x26), (7, .int s21.2.2), (8, .int x25)] [] b6.2) (fun u31 => ?_) (fun k32 hk32 => ?_)
                  · refine z_iload C 5 dX8_models_140 rfl rfl ?_
                    refine z_goto C dX8_models_142 rfl ?_
                    exact z_perm [0, 1, 2, 3, 4] rfl (hk29 x25)
                  · refine z_icmpeq C dX8_models_130 rfl rfl ?_ ?_
                    · exact z_perm [1, 2, 3, 0, 5, 6] rfl (hk32 ())
                    · refine z_iload C 6 dX8_models_133 rfl rfl ?_
                      refine z_iload C 4 dX8_models_135 rfl rfl ?_
                      refine z_icmpge C dX8_models_137 rfl rfl ?_ ?_
                      · refine z_iload C 4 dX8_models_145 rfl rfl ?_
                        exact z_perm [1, 2, 3, 0, 5] rfl (hk29 s21.2.1)
                      · exact z_perm [1, 2, 3, 0, 5, 6] rfl (hk32 ())
              · refine z_join (fun k34 => ∀ (u33 : Unit), zR Y X 9 (zFi Y X (fun b => b.1) (fun b => b.2)) (k34 u33) 112 [(0, .ref 100), (2, .int x1), (4, .int b6.1), (6, .int s21.2.1), (7, .int s21.2.2), (8, .int x25)] [] b6.2) (fun u33 => ?_) (fun k34 hk34 => ?_)
                · refine z_aload_n C 0 dX8_models_112 rfl rfl rfl ?_
                  refine z_get (v := .ref 114) C 28 zOK8 rfl (by decide) w816 rfl rfl dX8_models_113 rfl ?_
                  refine z_iload C 4 dX8_models_116 rfl rfl ?_
                  refine z_iaload C 4096 rfl dX8_models_118 rfl ?_
                  refine z_goto C dX8_models_119 rfl ?_
                  exact z_perm [0, 1, 2, 3, 4, 5] rfl (hk27 (zrd b6.2 114 s21.2.2))
                · refine z_icmpeq C dX8_models_102 rfl rfl ?_ ?_
                  · exact z_perm [1, 2, 3, 5, 6, 0] rfl (hk34 ())
                  · refine z_iload C 0 dX8_models_105 rfl rfl ?_
                    refine z_iload C 5 dX8_models_107 rfl rfl ?_
                    refine z_icmpge C dX8_models_109 rfl rfl ?_ ?_
                    · refine z_iload C 4 dX8_models_122 rfl rfl ?_
                      exact z_perm [1, 2, 3, 5, 6, 0] rfl (hk27 s21.1)
                    · exact z_perm [1, 2, 3, 5, 6, 0] rfl (hk34 ())
        · refine z_iload C 0 dX8_models_32 rfl rfl ?_
          exact z_iret C rfl rfl dX8_models_34
      · refine z_iconst C (-1 : Int32) dX8_models_18 rfl rfl ?_
        exact z_iret C rfl rfl dX8_models_19
  exact key b hF
set_option maxRecDepth 100000 in
set_option maxHeartbeats 4000000 in
theorem mX8_sure (Y : zY) (x0 : Int32) (x1 : Int32) (x2 : Int32) (M : zMem) (b : Int32 × zMem) (hF : FX8_sure x0 x1 x2 M = some b) : zMt Y yX8_sure cX8_sure 7 (some .int) 5 126 [.ref 100, .int x0, .int x1, .int x2] M (zQi Y b.1 b.2) := by
  refine zMt_of (own := RX8) (by decide +kernel) rfl (Nat.le_of_ble_eq_true rfl) (fun X C => ?_)
  have key : zR Y X 7 (zFi Y X (fun b => b.1) (fun b => b.2)) (FX8_sure x0 x1 x2 M) 0 [(0, .ref 100), (1, .int x0), (2, .int x1), (3, .int x2)] [] M := by
    unfold FX8_sure
    refine z_aload_n C 0 dX8_sure_0 rfl rfl rfl ?_
    refine z_iload_n C 1 dX8_sure_1 rfl rfl rfl ?_
    refine z_iload_n C 2 dX8_sure_2 rfl rfl rfl ?_
    refine z_ci (fun b => b) (fun _ => M) (fun b hb => z_V (na := 2) (ci := 8) (r := (RX8, TX8, 34)) C [.int x0, .int x1] rfl (mX8_isTry Y x0 x1 M b hb) rfl rfl w1083 w1085 w67 w88 w1086 hdX8_isTry ⟨Nat.le_of_ble_eq_true rfl, Nat.le_of_ble_eq_true rfl⟩ (Nat.le_of_ble_eq_true rfl) rfl dX8_sure_3) rfl (fun b4 => ?_)
    refine z_ifeq C dX8_sure_6 rfl rfl ?_ ?_
    · refine z_iconst C (-1 : Int32) dX8_sure_20 rfl rfl ?_
      exact z_iret C rfl rfl dX8_sure_21
    · refine z_iload_n C 3 dX8_sure_9 rfl rfl rfl ?_
      refine z_iconst C (0 : Int32) dX8_sure_10 rfl rfl ?_
      refine z_iload_n C 1 dX8_sure_11 rfl rfl rfl ?_
      refine z_iconst C (1 : Int32) dX8_sure_12 rfl rfl ?_
      refine z_isub C dX8_sure_13 rfl ?_
      refine z_ci (fun b => b) (fun _ => M) (fun b hb => z_S (na := 3) C [.int x2, .int (0 : Int32), .int (x0 - (1 : Int32))] rfl (mX8_in Y x2 (0 : Int32) (x0 - (1 : Int32)) M b hb) w896 w897 w88 w898 hdX8_in ⟨Nat.le_of_ble_eq_true rfl, Nat.le_of_ble_eq_true rfl⟩ (Nat.le_of_ble_eq_true rfl) rfl dX8_sure_14) rfl (fun b5 => ?_)
      refine z_ifne C dX8_sure_17 rfl rfl ?_ ?_
      · refine z_aload_n C 0 dX8_sure_22 rfl rfl rfl ?_
        refine z_iload_n C 1 dX8_sure_23 rfl rfl rfl ?_
        refine z_iload_n C 2 dX8_sure_24 rfl rfl rfl ?_
        refine z_ci (fun b => b.1) (fun b => b.2) (fun b hb => z_V (na := 2) (ci := 8) (r := (RX8, TX8, 34)) C [.int x0, .int x1] rfl (mX8_findFitting Y x0 x1 M b hb) rfl rfl w1117 w1119 w73 w88 w1120 hdX8_findFitting ⟨Nat.le_of_ble_eq_true rfl, Nat.le_of_ble_eq_true rfl⟩ (Nat.le_of_ble_eq_true rfl) rfl dX8_sure_25) rfl (fun b6 => ?_)
        refine z_istoreP (lo' := [(4, .int b6.1), (0, .ref 100), (1, .int x0), (2, .int x1), (3, .int x2)]) C dX8_sure_28 (by decide) rfl rfl ?_
        refine z_iload C 0 dX8_sure_30 rfl rfl ?_
        refine z_join (fun k8 => ∀ (x7 : Int32), zR Y X 7 (zFi Y X (fun b => b.1) (fun b => b.2)) (k8 x7) 51 [(0, .ref 100), (2, .int x1), (3, .int x2), (4, .int b6.1)] [.int x7] b6.2) (fun x7 => ?_) (fun k8 hk8 => ?_)
        · refine z_istoreP (lo' := [(5, .int x7), (0, .ref 100), (2, .int x1), (3, .int x2), (4, .int b6.1)]) C dX8_sure_51 (by decide) rfl rfl ?_
          refine z_iconst C (1 : Int32) dX8_sure_53 rfl rfl ?_
          refine z_istoreP (lo' := [(6, .int (1 : Int32)), (5, .int x7), (0, .ref 100), (2, .int x1), (3, .int x2), (4, .int b6.1)]) C dX8_sure_54 (by decide) rfl rfl ?_
          refine z_loop (sM := fun s => b6.2) (sl := fun s => [(0, .ref 100), (2, .int x1), (3, .int x2), (4, .int b6.1), (5, .int s.1), (6, .int s.2)]) [2, 3, 4, 5, 1, 0] rfl rfl (fun r9 hr9 s10 => ?_)
          unfold FX8_sure_L56
          refine z_iload C 5 dX8_sure_56 rfl rfl ?_
          refine z_iload C 3 dX8_sure_58 rfl rfl ?_
          refine z_icmpge C dX8_sure_60 rfl rfl ?_ ?_
          · refine z_iload C 4 dX8_sure_95 rfl rfl ?_
            exact z_iret C rfl rfl dX8_sure_97
          · refine z_iload_n C 1 dX8_sure_63 rfl rfl rfl ?_
            refine z_aload_n C 0 dX8_sure_64 rfl rfl rfl ?_
            refine z_get (v := .ref 114) C 28 zOK8 rfl (by decide) w816 rfl rfl dX8_sure_65 rfl ?_
            refine z_iload C 5 dX8_sure_68 rfl rfl ?_
            refine z_iaload C 4096 rfl dX8_sure_70 rfl ?_
            refine z_iload_n C 2 dX8_sure_71 rfl rfl rfl ?_
            refine z_ci (fun b => b) (fun _ => b6.2) (fun b hb => z_S (na := 3) C [.int x1, .int (zrd b6.2 114 s10.2), .int x2] rfl (mX8_digit Y x1 (zrd b6.2 114 s10.2) x2 b6.2 b hb) w1098 w1099 w88 w1100 hdX8_digit ⟨Nat.le_of_ble_eq_true rfl, Nat.le_of_ble_eq_true rfl⟩ (Nat.le_of_ble_eq_true rfl) rfl dX8_sure_72) rfl (fun b11 => ?_)
            refine z_iload C 4 dX8_sure_75 rfl rfl ?_
            refine z_join (fun k13 => ∀ (x12 : Int32), zR Y X 7 (zFi Y X (fun b => b.1) (fun b => b.2)) (k13 x12) 87 [(0, .ref 100), (2, .int x1), (3, .int x2), (4, .int b6.1), (6, .int s10.2)] [.int x12] b6.2) (fun x12 => ?_) (fun k13 hk13 => ?_)
            · refine z_istoreP (lo' := [(5, .int x12), (0, .ref 100), (2, .int x1), (3, .int x2), (4, .int b6.1), (6, .int s10.2)]) C dX8_sure_87 (by decide) rfl rfl ?_
              refine z_iinc (v := (s10.2 + (1 : Int32))) C 5 (fun z => [(6, .int z), (5, .int x12), (0, .ref 100), (2, .int x1), (3, .int x2), (4, .int b6.1)]) dX8_sure_89 rfl rfl (by decide) (fun _ => rfl) rfl (fun x14 => ?_)
              refine z_goto C dX8_sure_92 rfl ?_
              exact z_perm [2, 3, 4, 5, 1, 0] rfl (hr9 (x12, x14))
            · refine z_icmpne C dX8_sure_77 rfl rfl ?_ ?_
              · refine z_bipush C (-9 : Int32) dX8_sure_85 rfl rfl ?_
                exact z_perm [0, 1, 2, 3, 5] rfl (hk13 (-9 : Int32))
              · refine z_iload C 4 dX8_sure_80 rfl rfl ?_
                refine z_goto C dX8_sure_82 rfl ?_
                exact z_perm [0, 1, 2, 3, 5] rfl (hk13 s10.1)
        · refine z_ifne C dX8_sure_32 rfl rfl ?_ ?_
          · refine z_iload_n C 3 dX8_sure_40 rfl rfl rfl ?_
            refine z_aload_n C 1 dX8_sure_41 rfl rfl rfl ?_
            refine z_get (v := .ref 114) C 28 zOK8 rfl (by decide) w816 rfl rfl dX8_sure_42 rfl ?_
            refine z_iconst C (0 : Int32) dX8_sure_45 rfl rfl ?_
            refine z_iaload C 4096 rfl dX8_sure_46 rfl ?_
            refine z_iload_n C 4 dX8_sure_47 rfl rfl rfl ?_
            refine z_ci (fun b => b) (fun _ => b6.2) (fun b hb => z_S (na := 3) C [.int x1, .int (zrd b6.2 114 (0 : Int32)), .int x2] rfl (mX8_digit Y x1 (zrd b6.2 114 (0 : Int32)) x2 b6.2 b hb) w1098 w1099 w88 w1100 hdX8_digit ⟨Nat.le_of_ble_eq_true rfl, Nat.le_of_ble_eq_true rfl⟩ (Nat.le_of_ble_eq_true rfl) rfl dX8_sure_48) rfl (fun b15 => ?_)
            exact z_perm [1, 3, 4, 0] rfl (hk8 b15)
          · refine z_bipush C (-9 : Int32) dX8_sure_35 rfl rfl ?_
            refine z_goto C dX8_sure_37 rfl ?_
            exact z_perm [1, 3, 4, 0] rfl (hk8 (-9 : Int32))
      · refine z_iconst C (-1 : Int32) dX8_sure_20 rfl rfl ?_
        exact z_iret C rfl rfl dX8_sure_21
  exact key b hF
set_option maxRecDepth 100000 in
set_option maxHeartbeats 4000000 in
theorem mX8_spot (Y : zY) (x0 : Int32) (x1 : Int32) (M : zMem) (b : Int32 × zMem) (hF : FX8_spot x0 x1 M = some b) : zMt Y yX8_spot cX8_spot 3 (some .int) 2 44 [.ref 100, .int x0, .int x1] M (zQi Y b.1 b.2) := by
  refine zMt_of (own := RX8) (by decide +kernel) rfl (Nat.le_of_ble_eq_true rfl) (fun X C => ?_)
  have key : zR Y X 3 (zFi Y X (fun b => b.1) (fun b => b.2)) (FX8_spot x0 x1 M) 0 [(0, .ref 100), (1, .int x0), (2, .int x1)] [] M := by
    unfold FX8_spot
    refine z_iload_n C 1 dX8_spot_0 rfl rfl rfl ?_
    refine z_iload_n C 2 dX8_spot_1 rfl rfl rfl ?_
    refine z_bipush C (30 : Int32) dX8_spot_2 rfl rfl ?_
    refine z_ci (fun b => b) (fun _ => M) (fun b hb => z_S (na := 3) C [.int x0, .int x1, .int (30 : Int32)] rfl (mX8_isNear Y x0 x1 (30 : Int32) M b hb) w899 w900 w88 w901 hdX8_isNear ⟨Nat.le_of_ble_eq_true rfl, Nat.le_of_ble_eq_true rfl⟩ (Nat.le_of_ble_eq_true rfl) rfl dX8_spot_4) rfl (fun b3 => ?_)
    refine z_ifne C dX8_spot_7 rfl rfl ?_ ?_
    · refine z_aload_n C 0 dX8_spot_12 rfl rfl rfl ?_
      refine z_get (v := .int (M.1 100 10)) C 10 zOK8 rfl (by decide) w798 rfl rfl dX8_spot_13 rfl ?_
      refine z_bipush C (8 : Int32) dX8_spot_16 rfl rfl ?_
      refine z_icmpne C dX8_spot_18 rfl rfl ?_ ?_
      · refine z_aload_n C 0 dX8_spot_24 rfl rfl rfl ?_
        refine z_get (v := .ref 104) C 11 zOK8 rfl (by decide) w799 rfl rfl dX8_spot_25 rfl ?_
        refine z_aload_n C 0 dX8_spot_28 rfl rfl rfl ?_
        refine z_get (v := .int (M.1 100 10)) C 10 zOK8 rfl (by decide) w798 rfl rfl dX8_spot_29 rfl ?_
        refine z_iload_n C 1 dX8_spot_32 rfl rfl rfl ?_
        refine z_iastore C 8 rfl dX8_spot_33 rfl (fun M4 => ?_)
        refine z_aload_n C 0 dX8_spot_34 rfl rfl rfl ?_
        refine z_get (v := .ref 105) C 12 zOK8 rfl (by decide) w800 rfl rfl dX8_spot_35 rfl ?_
        refine z_aload_n C 0 dX8_spot_38 rfl rfl rfl ?_
        refine z_get (v := .int (M4.1 100 10)) C 10 zOK8 rfl (by decide) w798 rfl rfl dX8_spot_39 rfl ?_
        refine z_iload_n C 2 dX8_spot_42 rfl rfl rfl ?_
        refine z_iastore C 8 rfl dX8_spot_43 rfl (fun M5 => ?_)
        refine z_aload_n C 0 dX8_spot_44 rfl rfl rfl ?_
        refine z_dup C dX8_spot_45 rfl rfl ?_
        refine z_get (v := .int (M5.1 100 10)) C 10 zOK8 rfl (by decide) w798 rfl rfl dX8_spot_46 rfl ?_
        refine z_iconst C (1 : Int32) dX8_spot_49 rfl rfl ?_
        refine z_iadd C dX8_spot_50 rfl ?_
        refine z_puti C 10 zOK8 rfl (by decide) w798 rfl rfl rfl rfl rfl dX8_spot_51 rfl (fun M6 => ?_)
        refine z_aload_n C 0 dX8_spot_54 rfl rfl rfl ?_
        refine z_get (v := .int (M6.1 100 10)) C 10 zOK8 rfl (by decide) w798 rfl rfl dX8_spot_55 rfl ?_
        exact z_iret C rfl rfl dX8_spot_58
      · refine z_bipush C (-3 : Int32) dX8_spot_21 rfl rfl ?_
        exact z_iret C rfl rfl dX8_spot_23
    · refine z_iconst C (-1 : Int32) dX8_spot_10 rfl rfl ?_
      exact z_iret C rfl rfl dX8_spot_11
  exact key b hF
set_option maxRecDepth 100000 in
set_option maxHeartbeats 4000000 in
theorem mX8_forget (Y : zY) (M : zMem) (b : Int32 × zMem) (hF : FX8_forget M = some b) : zMt Y yX8_forget cX8_forget 2 (some .int) 0 0 [.ref 100] M (zQi Y b.1 b.2) := by
  refine zMt_of (own := RX8) (by decide +kernel) rfl (Nat.le_of_ble_eq_true rfl) (fun X C => ?_)
  have key : zR Y X 2 (zFi Y X (fun b => b.1) (fun b => b.2)) (FX8_forget M) 0 [(0, .ref 100)] [] M := by
    unfold FX8_forget
    refine z_aload_n C 0 dX8_forget_0 rfl rfl rfl ?_
    refine z_get (v := .int (M.1 100 10)) C 10 zOK8 rfl (by decide) w798 rfl rfl dX8_forget_1 rfl ?_
    refine z_istore_n C (fun z => [(1, .int z), (0, .ref 100)]) dX8_forget_4 rfl (by decide) (fun _ => rfl) rfl (fun x1 => ?_)
    refine z_aload_n C 1 dX8_forget_5 rfl rfl rfl ?_
    refine z_iconst C (0 : Int32) dX8_forget_6 rfl rfl ?_
    refine z_puti C 10 zOK8 rfl (by decide) w798 rfl rfl rfl rfl rfl dX8_forget_7 rfl (fun M2 => ?_)
    refine z_iload_n C 0 dX8_forget_10 rfl rfl rfl ?_
    exact z_iret C rfl rfl dX8_forget_11
  exact key b hF
set_option maxRecDepth 100000 in
set_option maxHeartbeats 4000000 in
theorem mX8_bright (Y : zY) (x0 : Int32) (x1 : Int32) (x2 : Int32) (M : zMem) (b : Int32 × zMem) (hF : FX8_bright x0 x1 x2 M = some b) : zMt Y yX8_bright cX8_bright 5 (some .int) 3 65 [.ref 100, .int x0, .int x1, .int x2] M (zQi Y b.1 b.2) := by
  refine zMt_of (own := RX8) (by decide +kernel) rfl (Nat.le_of_ble_eq_true rfl) (fun X C => ?_)
  have key : zR Y X 5 (zFi Y X (fun b => b.1) (fun b => b.2)) (FX8_bright x0 x1 x2 M) 0 [(0, .ref 100), (1, .int x0), (2, .int x1), (3, .int x2)] [] M := by
    unfold FX8_bright
    refine z_iload_n C 1 dX8_bright_0 rfl rfl rfl ?_
    refine z_iload_n C 2 dX8_bright_1 rfl rfl rfl ?_
    refine z_ci (fun b => b) (fun _ => M) (fun b hb => z_S (na := 2) C [.int x0, .int x1] rfl (mX8_isPixel Y x0 x1 M b hb) w983 w984 w88 w985 hdX8_isPixel ⟨Nat.le_of_ble_eq_true rfl, Nat.le_of_ble_eq_true rfl⟩ (Nat.le_of_ble_eq_true rfl) rfl dX8_bright_2) rfl (fun b4 => ?_)
    refine z_ifeq C dX8_bright_5 rfl rfl ?_ ?_
    · refine z_bipush C (-2 : Int32) dX8_bright_24 rfl rfl ?_
      exact z_iret C rfl rfl dX8_bright_26
    · refine z_iload_n C 3 dX8_bright_8 rfl rfl rfl ?_
      refine z_bipush C (-9 : Int32) dX8_bright_9 rfl rfl ?_
      refine z_join (fun k6 => ∀ (u5 : Unit), zR Y X 5 (zFi Y X (fun b => b.1) (fun b => b.2)) (k6 u5) 27 [(0, .ref 100), (1, .int x0), (2, .int x1), (3, .int x2)] [] M) (fun u5 => ?_) (fun k6 hk6 => ?_)
      · refine z_aload_n C 0 dX8_bright_27 rfl rfl rfl ?_
        refine z_get (v := .ref 106) C 13 zOK8 rfl (by decide) w801 rfl rfl dX8_bright_28 rfl ?_
        refine z_iload_n C 1 dX8_bright_31 rfl rfl rfl ?_
        refine z_iload_n C 2 dX8_bright_32 rfl rfl rfl ?_
        refine z_ci (fun b => b) (fun _ => M) (fun b hb => z_S (na := 2) C [.int x0, .int x1] rfl (mX8_pixel Y x0 x1 M b hb) w986 w987 w88 w988 hdX8_pixel ⟨Nat.le_of_ble_eq_true rfl, Nat.le_of_ble_eq_true rfl⟩ (Nat.le_of_ble_eq_true rfl) rfl dX8_bright_33) rfl (fun b7 => ?_)
        refine z_iaload C 2401 rfl dX8_bright_36 rfl ?_
        refine z_istore C (fun z => [(4, .int z), (0, .ref 100), (1, .int x0), (2, .int x1), (3, .int x2)]) dX8_bright_37 (by decide) (fun _ => rfl) rfl (fun x8 => ?_)
        refine z_aload_n C 1 dX8_bright_39 rfl rfl rfl ?_
        refine z_get (v := .ref 106) C 13 zOK8 rfl (by decide) w801 rfl rfl dX8_bright_40 rfl ?_
        refine z_iload_n C 2 dX8_bright_43 rfl rfl rfl ?_
        refine z_iload_n C 3 dX8_bright_44 rfl rfl rfl ?_
        refine z_ci (fun b => b) (fun _ => M) (fun b hb => z_S (na := 2) C [.int x0, .int x1] rfl (mX8_pixel Y x0 x1 M b hb) w986 w987 w88 w988 hdX8_pixel ⟨Nat.le_of_ble_eq_true rfl, Nat.le_of_ble_eq_true rfl⟩ (Nat.le_of_ble_eq_true rfl) rfl dX8_bright_45) rfl (fun b9 => ?_)
        refine z_iload_n C 4 dX8_bright_48 rfl rfl rfl ?_
        refine z_iastore C 2401 rfl dX8_bright_49 rfl (fun M10 => ?_)
        refine z_iload C 0 dX8_bright_50 rfl rfl ?_
        exact z_iret C rfl rfl dX8_bright_52
      · refine z_icmpeq C dX8_bright_11 rfl rfl ?_ ?_
        · exact z_perm [0, 1, 2, 3] rfl (hk6 ())
        · refine z_iload_n C 3 dX8_bright_14 rfl rfl rfl ?_
          refine z_iconst C (0 : Int32) dX8_bright_15 rfl rfl ?_
          refine z_bipush C (99 : Int32) dX8_bright_16 rfl rfl ?_
          refine z_ci (fun b => b) (fun _ => M) (fun b hb => z_S (na := 3) C [.int x2, .int (0 : Int32), .int (99 : Int32)] rfl (mX8_in Y x2 (0 : Int32) (99 : Int32) M b hb) w896 w897 w88 w898 hdX8_in ⟨Nat.le_of_ble_eq_true rfl, Nat.le_of_ble_eq_true rfl⟩ (Nat.le_of_ble_eq_true rfl) rfl dX8_bright_18) rfl (fun b11 => ?_)
          refine z_ifne C dX8_bright_21 rfl rfl ?_ ?_
          · exact z_perm [0, 1, 2, 3] rfl (hk6 ())
          · refine z_bipush C (-2 : Int32) dX8_bright_24 rfl rfl ?_
            exact z_iret C rfl rfl dX8_bright_26
  exact key b hF
set_option maxRecDepth 100000 in
set_option maxHeartbeats 4000000 in
theorem mX8_farOf (Y : zY) (x0 : Int32) (x1 : Int32) (M : zMem) (b : Int32) (hF : FX8_farOf x0 x1 M = some b) : zMt Y yX8_farOf cX8_farOf 6 (some .int) 2 46 [.ref 100, .int x0, .int x1] M (zQi Y b M) := by
  refine zMt_of (own := RX8) (by decide +kernel) rfl (Nat.le_of_ble_eq_true rfl) (fun X C => ?_)
  have key : zR Y X 6 (zFi Y X (fun b => b) (fun _ => M)) (FX8_farOf x0 x1 M) 0 [(0, .ref 100), (1, .int x0), (2, .int x1)] [] M := by
    unfold FX8_farOf
    refine z_iconst C (0 : Int32) dX8_farOf_0 rfl rfl ?_
    refine z_istoreP_n (lo' := [(3, .int (0 : Int32)), (0, .ref 100), (1, .int x0), (2, .int x1)]) C dX8_farOf_1 rfl (by decide) rfl rfl ?_
    refine z_iconst C (0 : Int32) dX8_farOf_2 rfl rfl ?_
    refine z_istoreP (lo' := [(4, .int (0 : Int32)), (3, .int (0 : Int32)), (0, .ref 100), (1, .int x0), (2, .int x1)]) C dX8_farOf_3 (by decide) rfl rfl ?_
    refine z_iconst C (0 : Int32) dX8_farOf_5 rfl rfl ?_
    refine z_istoreP (lo' := [(5, .int (0 : Int32)), (4, .int (0 : Int32)), (3, .int (0 : Int32)), (0, .ref 100), (1, .int x0), (2, .int x1)]) C dX8_farOf_6 (by decide) rfl rfl ?_
    refine z_loop (sM := fun s => M) (sl := fun s => [(0, .ref 100), (1, .int x0), (2, .int x1), (3, .int s.1), (4, .int s.2.1), (5, .int s.2.2)]) [3, 4, 5, 2, 1, 0] rfl rfl (fun r3 hr3 s4 => ?_)
    unfold FX8_farOf_L8
    refine z_iload C 5 dX8_farOf_8 rfl rfl ?_
    refine z_sipush C (2401 : Int32) dX8_farOf_10 rfl rfl ?_
    refine z_icmpge C dX8_farOf_13 rfl rfl ?_ ?_
    · refine z_iload C 4 dX8_farOf_95 rfl rfl ?_
      refine z_ifne C dX8_farOf_97 rfl rfl ?_ ?_
      · refine z_iload_n C 3 dX8_farOf_105 rfl rfl rfl ?_
        refine z_iload C 4 dX8_farOf_106 rfl rfl ?_
        refine z_idiv C dX8_farOf_108 rfl ?_
        exact z_iret C rfl rfl dX8_farOf_109
      · refine z_bipush C (-9 : Int32) dX8_farOf_100 rfl rfl ?_
        refine z_goto C dX8_farOf_102 rfl ?_
        exact z_iret C rfl rfl dX8_farOf_109
    · refine z_aload_n C 0 dX8_farOf_16 rfl rfl rfl ?_
      refine z_get (v := .ref 106) C 13 zOK8 rfl (by decide) w801 rfl rfl dX8_farOf_17 rfl ?_
      refine z_iload C 5 dX8_farOf_20 rfl rfl ?_
      refine z_iaload C 2401 rfl dX8_farOf_22 rfl ?_
      refine z_bipush C (-9 : Int32) dX8_farOf_23 rfl rfl ?_
      refine z_icmpeq C dX8_farOf_25 rfl rfl ?_ ?_
      · refine z_iinc (v := (s4.2.2 + (1 : Int32))) C 5 (fun z => [(5, .int z), (0, .ref 100), (1, .int x0), (2, .int x1), (3, .int s4.1), (4, .int s4.2.1)]) dX8_farOf_89 rfl rfl (by decide) (fun _ => rfl) rfl (fun x5 => ?_)
        refine z_goto C dX8_farOf_92 rfl ?_
        exact z_perm [1, 2, 3, 4, 5, 0] rfl (hr3 (s4.1, s4.2.1, x5))
      · refine z_aload_n C 0 dX8_farOf_28 rfl rfl rfl ?_
        refine z_iload C 5 dX8_farOf_29 rfl rfl ?_
        refine z_bipush C (49 : Int32) dX8_farOf_31 rfl rfl ?_
        refine z_iremK C dX8_farOf_33 (by decide) rfl ?_
        refine z_bipush C (24 : Int32) dX8_farOf_34 rfl rfl ?_
        refine z_isub C dX8_farOf_36 rfl ?_
        refine z_iload C 5 dX8_farOf_37 rfl rfl ?_
        refine z_bipush C (49 : Int32) dX8_farOf_39 rfl rfl ?_
        refine z_idivK C dX8_farOf_41 (by decide) rfl ?_
        refine z_bipush C (24 : Int32) dX8_farOf_42 rfl rfl ?_
        refine z_isub C dX8_farOf_44 rfl ?_
        refine z_ci (fun b => b) (fun _ => M) (fun b hb => z_V (na := 2) (ci := 8) (r := (RX8, TX8, 34)) C [.int ((zrem s4.2.2 (49 : Int32)) - (24 : Int32)), .int ((s4.2.2 / (49 : Int32)) - (24 : Int32))] rfl (mX8_cellX Y ((zrem s4.2.2 (49 : Int32)) - (24 : Int32)) ((s4.2.2 / (49 : Int32)) - (24 : Int32)) M b hb) rfl rfl w967 w969 w55 w88 w970 hdX8_cellX ⟨Nat.le_of_ble_eq_true rfl, Nat.le_of_ble_eq_true rfl⟩ (Nat.le_of_ble_eq_true rfl) rfl dX8_farOf_45) rfl (fun b6 => ?_)
        refine z_iload_n C 1 dX8_farOf_48 rfl rfl rfl ?_
        refine z_icmpne C dX8_farOf_49 rfl rfl ?_ ?_
        · refine z_iinc (v := (s4.2.2 + (1 : Int32))) C 5 (fun z => [(5, .int z), (0, .ref 100), (1, .int x0), (2, .int x1), (3, .int s4.1), (4, .int s4.2.1)]) dX8_farOf_89 rfl rfl (by decide) (fun _ => rfl) rfl (fun x7 => ?_)
          refine z_goto C dX8_farOf_92 rfl ?_
          exact z_perm [1, 2, 3, 4, 5, 0] rfl (hr3 (s4.1, s4.2.1, x7))
        · refine z_aload_n C 0 dX8_farOf_52 rfl rfl rfl ?_
          refine z_iload C 5 dX8_farOf_53 rfl rfl ?_
          refine z_bipush C (49 : Int32) dX8_farOf_55 rfl rfl ?_
          refine z_iremK C dX8_farOf_57 (by decide) rfl ?_
          refine z_bipush C (24 : Int32) dX8_farOf_58 rfl rfl ?_
          refine z_isub C dX8_farOf_60 rfl ?_
          refine z_iload C 5 dX8_farOf_61 rfl rfl ?_
          refine z_bipush C (49 : Int32) dX8_farOf_63 rfl rfl ?_
          refine z_idivK C dX8_farOf_65 (by decide) rfl ?_
          refine z_bipush C (24 : Int32) dX8_farOf_66 rfl rfl ?_
          refine z_isub C dX8_farOf_68 rfl ?_
          refine z_ci (fun b => b) (fun _ => M) (fun b hb => z_V (na := 2) (ci := 8) (r := (RX8, TX8, 34)) C [.int ((zrem s4.2.2 (49 : Int32)) - (24 : Int32)), .int ((s4.2.2 / (49 : Int32)) - (24 : Int32))] rfl (mX8_cellY Y ((zrem s4.2.2 (49 : Int32)) - (24 : Int32)) ((s4.2.2 / (49 : Int32)) - (24 : Int32)) M b hb) rfl rfl w971 w973 w56 w88 w974 hdX8_cellY ⟨Nat.le_of_ble_eq_true rfl, Nat.le_of_ble_eq_true rfl⟩ (Nat.le_of_ble_eq_true rfl) rfl dX8_farOf_69) rfl (fun b8 => ?_)
          refine z_iload_n C 2 dX8_farOf_72 rfl rfl rfl ?_
          refine z_icmpne C dX8_farOf_73 rfl rfl ?_ ?_
          · refine z_iinc (v := (s4.2.2 + (1 : Int32))) C 5 (fun z => [(5, .int z), (0, .ref 100), (1, .int x0), (2, .int x1), (3, .int s4.1), (4, .int s4.2.1)]) dX8_farOf_89 rfl rfl (by decide) (fun _ => rfl) rfl (fun x9 => ?_)
            refine z_goto C dX8_farOf_92 rfl ?_
            exact z_perm [1, 2, 3, 4, 5, 0] rfl (hr3 (s4.1, s4.2.1, x9))
          · refine z_iload_n C 3 dX8_farOf_76 rfl rfl rfl ?_
            refine z_aload_n C 0 dX8_farOf_77 rfl rfl rfl ?_
            refine z_get (v := .ref 106) C 13 zOK8 rfl (by decide) w801 rfl rfl dX8_farOf_78 rfl ?_
            refine z_iload C 5 dX8_farOf_81 rfl rfl ?_
            refine z_iaload C 2401 rfl dX8_farOf_83 rfl ?_
            refine z_iadd C dX8_farOf_84 rfl ?_
            refine z_istore_n C (fun z => [(3, .int z), (0, .ref 100), (1, .int x0), (2, .int x1), (4, .int s4.2.1), (5, .int s4.2.2)]) dX8_farOf_85 rfl (by decide) (fun _ => rfl) rfl (fun x10 => ?_)
            refine z_iinc (v := (s4.2.1 + (1 : Int32))) C 4 (fun z => [(4, .int z), (3, .int x10), (0, .ref 100), (1, .int x0), (2, .int x1), (5, .int s4.2.2)]) dX8_farOf_86 rfl rfl (by decide) (fun _ => rfl) rfl (fun x11 => ?_)
            refine z_iinc (v := (s4.2.2 + (1 : Int32))) C 5 (fun z => [(5, .int z), (4, .int x11), (3, .int x10), (0, .ref 100), (1, .int x0), (2, .int x1)]) dX8_farOf_89 rfl rfl (by decide) (fun _ => rfl) rfl (fun x12 => ?_)
            refine z_goto C dX8_farOf_92 rfl ?_
            exact z_perm [3, 4, 5, 2, 1, 0] rfl (hr3 (x10, x11, x12))
  exact key b hF
set_option maxRecDepth 100000 in
set_option maxHeartbeats 4000000 in
theorem mX8_far (Y : zY) (x0 : Int32) (x1 : Int32) (M : zMem) (b : Int32 × zMem) (hF : FX8_far x0 x1 M = some b) : zMt Y yX8_far cX8_far 3 (some .int) 3 76 [.ref 100, .int x0, .int x1] M (zQi Y b.1 b.2) := by
  refine zMt_of (own := RX8) (by decide +kernel) rfl (Nat.le_of_ble_eq_true rfl) (fun X C => ?_)
  have key : zR Y X 3 (zFi Y X (fun b => b.1) (fun b => b.2)) (FX8_far x0 x1 M) 0 [(0, .ref 100), (1, .int x0), (2, .int x1)] [] M := by
    unfold FX8_far
    refine z_iload_n C 1 dX8_far_0 rfl rfl rfl ?_
    refine z_iload_n C 2 dX8_far_1 rfl rfl rfl ?_
    refine z_bipush C (99 : Int32) dX8_far_2 rfl rfl ?_
    refine z_ci (fun b => b) (fun _ => M) (fun b hb => z_S (na := 3) C [.int x0, .int x1, .int (99 : Int32)] rfl (mX8_isNear Y x0 x1 (99 : Int32) M b hb) w899 w900 w88 w901 hdX8_isNear ⟨Nat.le_of_ble_eq_true rfl, Nat.le_of_ble_eq_true rfl⟩ (Nat.le_of_ble_eq_true rfl) rfl dX8_far_4) rfl (fun b3 => ?_)
    refine z_ifne C dX8_far_7 rfl rfl ?_ ?_
    · refine z_aload_n C 0 dX8_far_12 rfl rfl rfl ?_
      refine z_cv (fun b => b) (fun b hb => z_V (na := 0) (ci := 8) (r := (RX8, TX8, 34)) C [] rfl (mX8_findTold Y M b hb) rfl rfl w1149 w1151 w76 w88 w1152 hdX8_findTold ⟨Nat.le_of_ble_eq_true rfl, Nat.le_of_ble_eq_true rfl⟩ (Nat.le_of_ble_eq_true rfl) rfl dX8_far_13) rfl (fun b4 => ?_)
      refine z_aload_n C 0 dX8_far_16 rfl rfl rfl ?_
      refine z_iload_n C 1 dX8_far_17 rfl rfl rfl ?_
      refine z_iload_n C 2 dX8_far_18 rfl rfl rfl ?_
      refine z_ci (fun b => b) (fun _ => b4) (fun b hb => z_V (na := 2) (ci := 8) (r := (RX8, TX8, 34)) C [.int x0, .int x1] rfl (mX8_farOf Y x0 x1 b4 b hb) rfl rfl w1153 w1155 w77 w88 w1156 hdX8_farOf ⟨Nat.le_of_ble_eq_true rfl, Nat.le_of_ble_eq_true rfl⟩ (Nat.le_of_ble_eq_true rfl) rfl dX8_far_19) rfl (fun b5 => ?_)
      exact z_iret C rfl rfl dX8_far_22
    · refine z_iconst C (-1 : Int32) dX8_far_10 rfl rfl ?_
      exact z_iret C rfl rfl dX8_far_11
  exact key b hF
set_option maxRecDepth 100000 in
set_option maxHeartbeats 4000000 in
theorem mX8_contradicts (Y : zY) (M : zMem) (b : Int32 × zMem) (hF : FX8_contradicts M = some b) : zMt Y yX8_contradicts cX8_contradicts 6 (some .int) 3 76 [.ref 100] M (zQi Y b.1 b.2) := by
  refine zMt_of (own := RX8) (by decide +kernel) rfl (Nat.le_of_ble_eq_true rfl) (fun X C => ?_)
  have key : zR Y X 6 (zFi Y X (fun b => b.1) (fun b => b.2)) (FX8_contradicts M) 0 [(0, .ref 100)] [] M := by
    unfold FX8_contradicts
    refine z_aload_n C 0 dX8_contradicts_0 rfl rfl rfl ?_
    refine z_cv (fun b => b) (fun b hb => z_V (na := 0) (ci := 8) (r := (RX8, TX8, 34)) C [] rfl (mX8_findTold Y M b hb) rfl rfl w1149 w1151 w76 w88 w1152 hdX8_findTold ⟨Nat.le_of_ble_eq_true rfl, Nat.le_of_ble_eq_true rfl⟩ (Nat.le_of_ble_eq_true rfl) rfl dX8_contradicts_1) rfl (fun b1 => ?_)
    refine z_iconst C (0 : Int32) dX8_contradicts_4 rfl rfl ?_
    refine z_istoreP_n (lo' := [(1, .int (0 : Int32)), (0, .ref 100)]) C dX8_contradicts_5 rfl (by decide) rfl rfl ?_
    refine z_loop (sM := fun s => s.2) (sl := fun s => [(0, .ref 100), (1, .int s.1)]) [1, 0] rfl rfl (fun r2 hr2 s3 => ?_)
    unfold FX8_contradicts_L6
    refine z_iload_n C 1 dX8_contradicts_6 rfl rfl rfl ?_
    refine z_sipush C (2401 : Int32) dX8_contradicts_7 rfl rfl ?_
    refine z_icmpge C dX8_contradicts_10 rfl rfl ?_ ?_
    · refine z_iconst C (0 : Int32) dX8_contradicts_27 rfl rfl ?_
      refine z_istoreP_n (lo' := [(1, .int (0 : Int32)), (0, .ref 100)]) C dX8_contradicts_28 rfl (by decide) rfl rfl ?_
      refine z_iconst C (0 : Int32) dX8_contradicts_29 rfl rfl ?_
      refine z_istoreP_n (lo' := [(2, .int (0 : Int32)), (1, .int (0 : Int32)), (0, .ref 100)]) C dX8_contradicts_30 rfl (by decide) rfl rfl ?_
      refine z_loop (sM := fun s => s.2.2) (sl := fun s => [(0, .ref 100), (1, .int s.1), (2, .int s.2.1)]) [2, 1, 0] rfl rfl (fun r4 hr4 s5 => ?_)
      unfold FX8_contradicts_L31
      refine z_iload_n C 2 dX8_contradicts_31 rfl rfl rfl ?_
      refine z_sipush C (2401 : Int32) dX8_contradicts_32 rfl rfl ?_
      refine z_icmpge C dX8_contradicts_35 rfl rfl ?_ ?_
      · refine z_iload_n C 1 dX8_contradicts_268 rfl rfl rfl ?_
        exact z_iret C rfl rfl dX8_contradicts_269
      · refine z_aload_n C 0 dX8_contradicts_38 rfl rfl rfl ?_
        refine z_get (v := .ref 106) C 13 zOK8 rfl (by decide) w801 rfl rfl dX8_contradicts_39 rfl ?_
        refine z_iload_n C 2 dX8_contradicts_42 rfl rfl rfl ?_
        refine z_iaload C 2401 rfl dX8_contradicts_43 rfl ?_
        refine z_bipush C (-9 : Int32) dX8_contradicts_44 rfl rfl ?_
        refine z_icmpeq C dX8_contradicts_46 rfl rfl ?_ ?_
        · refine z_iinc (v := (s5.2.1 + (1 : Int32))) C 2 (fun z => [(2, .int z), (0, .ref 100), (1, .int s5.1)]) dX8_contradicts_262 rfl rfl (by decide) (fun _ => rfl) rfl (fun x6 => ?_)
          refine z_goto C dX8_contradicts_265 rfl ?_
          exact z_perm [1, 2, 0] rfl (hr4 (s5.1, x6, s5.2.2))
        · refine z_aload_n C 0 dX8_contradicts_49 rfl rfl rfl ?_
          refine z_get (v := .ref 110) C 18 zOK8 rfl (by decide) w806 rfl rfl dX8_contradicts_50 rfl ?_
          refine z_iload_n C 2 dX8_contradicts_53 rfl rfl rfl ?_
          refine z_iaload C 2401 rfl dX8_contradicts_54 rfl ?_
          refine z_bipush C (-9 : Int32) dX8_contradicts_55 rfl rfl ?_
          refine z_icmpne C dX8_contradicts_57 rfl rfl ?_ ?_
          · refine z_iinc (v := (s5.2.1 + (1 : Int32))) C 2 (fun z => [(2, .int z), (0, .ref 100), (1, .int s5.1)]) dX8_contradicts_262 rfl rfl (by decide) (fun _ => rfl) rfl (fun x7 => ?_)
            refine z_goto C dX8_contradicts_265 rfl ?_
            exact z_perm [1, 2, 0] rfl (hr4 (s5.1, x7, s5.2.2))
          · refine z_aload_n C 0 dX8_contradicts_60 rfl rfl rfl ?_
            refine z_get (v := .ref 106) C 13 zOK8 rfl (by decide) w801 rfl rfl dX8_contradicts_61 rfl ?_
            refine z_iload_n C 2 dX8_contradicts_64 rfl rfl rfl ?_
            refine z_iaload C 2401 rfl dX8_contradicts_65 rfl ?_
            refine z_istore_n C (fun z => [(3, .int z), (0, .ref 100), (1, .int s5.1), (2, .int s5.2.1)]) dX8_contradicts_66 rfl (by decide) (fun _ => rfl) rfl (fun x8 => ?_)
            refine z_aload_n C 1 dX8_contradicts_67 rfl rfl rfl ?_
            refine z_get (v := .ref 106) C 13 zOK8 rfl (by decide) w801 rfl rfl dX8_contradicts_68 rfl ?_
            refine z_iload_n C 3 dX8_contradicts_71 rfl rfl rfl ?_
            refine z_iaload C 2401 rfl dX8_contradicts_72 rfl ?_
            refine z_istore C (fun z => [(4, .int z), (3, .int x8), (0, .ref 100), (1, .int s5.1), (2, .int s5.2.1)]) dX8_contradicts_73 (by decide) (fun _ => rfl) rfl (fun x9 => ?_)
            refine z_iload_n C 4 dX8_contradicts_75 rfl rfl rfl ?_
            refine z_istoreP (lo' := [(5, .int s5.2.1), (4, .int x9), (3, .int x8), (0, .ref 100), (1, .int s5.1), (2, .int s5.2.1)]) C dX8_contradicts_76 (by decide) rfl rfl ?_
            refine z_loop (sM := fun s => s.2.2.2) (sl := fun s => [(0, .ref 100), (1, .int s5.1), (2, .int s5.2.1), (3, .int s.1), (4, .int s.2.1), (5, .int s.2.2.1)]) [3, 4, 5, 2, 1, 0] rfl rfl (fun r10 hr10 s11 => ?_)
            unfold FX8_contradicts_L78
            refine z_iload C 5 dX8_contradicts_78 rfl rfl ?_
            refine z_sipush C (2401 : Int32) dX8_contradicts_80 rfl rfl ?_
            refine z_icmpge C dX8_contradicts_83 rfl rfl ?_ ?_
            · refine z_iload_n C 1 dX8_contradicts_243 rfl rfl rfl ?_
              refine z_iload C 4 dX8_contradicts_244 rfl rfl ?_
              refine z_iload_n C 3 dX8_contradicts_246 rfl rfl rfl ?_
              refine z_isub C dX8_contradicts_247 rfl ?_
              refine z_aload_n C 0 dX8_contradicts_248 rfl rfl rfl ?_
              refine z_get (v := .int (s11.2.2.2.1 100 9)) C 9 zOK8 rfl (by decide) w797 rfl rfl dX8_contradicts_249 rfl ?_
              refine z_join (fun k13 => ∀ (x12 : Int32), zR Y X 6 (zFi Y X (fun b => b.1) (fun b => b.2)) (k13 x12) 260 [(0, .ref 100), (2, .int s5.2.1)] [.int x12, .int s5.1] s11.2.2.2) (fun x12 => ?_) (fun k13 hk13 => ?_)
              · refine z_iadd C dX8_contradicts_260 rfl ?_
                refine z_istore_n C (fun z => [(1, .int z), (0, .ref 100), (2, .int s5.2.1)]) dX8_contradicts_261 rfl (by decide) (fun _ => rfl) rfl (fun x14 => ?_)
                refine z_iinc (v := (s5.2.1 + (1 : Int32))) C 2 (fun z => [(2, .int z), (1, .int x14), (0, .ref 100)]) dX8_contradicts_262 rfl rfl (by decide) (fun _ => rfl) rfl (fun x15 => ?_)
                refine z_goto C dX8_contradicts_265 rfl ?_
                exact z_perm [2, 1, 0] rfl (hr4 (x14, x15, s11.2.2.2))
              · refine z_icmple C dX8_contradicts_252 rfl rfl ?_ ?_
                · refine z_iconst C (0 : Int32) dX8_contradicts_259 rfl rfl ?_
                  exact z_perm [0, 2] rfl (hk13 (0 : Int32))
                · refine z_iconst C (1 : Int32) dX8_contradicts_255 rfl rfl ?_
                  refine z_goto C dX8_contradicts_256 rfl ?_
                  exact z_perm [0, 2] rfl (hk13 (1 : Int32))
            · refine z_aload_n C 0 dX8_contradicts_86 rfl rfl rfl ?_
              refine z_get (v := .ref 106) C 13 zOK8 rfl (by decide) w801 rfl rfl dX8_contradicts_87 rfl ?_
              refine z_iload C 5 dX8_contradicts_90 rfl rfl ?_
              refine z_iaload C 2401 rfl dX8_contradicts_92 rfl ?_
              refine z_bipush C (-9 : Int32) dX8_contradicts_93 rfl rfl ?_
              refine z_icmpeq C dX8_contradicts_95 rfl rfl ?_ ?_
              · refine z_iinc (v := (s11.2.2.1 + (1 : Int32))) C 5 (fun z => [(5, .int z), (0, .ref 100), (1, .int s5.1), (2, .int s5.2.1), (3, .int s11.1), (4, .int s11.2.1)]) dX8_contradicts_237 rfl rfl (by decide) (fun _ => rfl) rfl (fun x16 => ?_)
                refine z_goto C dX8_contradicts_240 rfl ?_
                exact z_perm [1, 2, 3, 4, 5, 0] rfl (hr10 (s11.1, s11.2.1, x16, s11.2.2.2))
              · refine z_aload_n C 0 dX8_contradicts_98 rfl rfl rfl ?_
                refine z_iload C 5 dX8_contradicts_99 rfl rfl ?_
                refine z_bipush C (49 : Int32) dX8_contradicts_101 rfl rfl ?_
                refine z_iremK C dX8_contradicts_103 (by decide) rfl ?_
                refine z_bipush C (24 : Int32) dX8_contradicts_104 rfl rfl ?_
                refine z_isub C dX8_contradicts_106 rfl ?_
                refine z_iload C 5 dX8_contradicts_107 rfl rfl ?_
                refine z_bipush C (49 : Int32) dX8_contradicts_109 rfl rfl ?_
                refine z_idivK C dX8_contradicts_111 (by decide) rfl ?_
                refine z_bipush C (24 : Int32) dX8_contradicts_112 rfl rfl ?_
                refine z_isub C dX8_contradicts_114 rfl ?_
                refine z_ci (fun b => b) (fun _ => s11.2.2.2) (fun b hb => z_V (na := 2) (ci := 8) (r := (RX8, TX8, 34)) C [.int ((zrem s11.2.2.1 (49 : Int32)) - (24 : Int32)), .int ((s11.2.2.1 / (49 : Int32)) - (24 : Int32))] rfl (mX8_cellX Y ((zrem s11.2.2.1 (49 : Int32)) - (24 : Int32)) ((s11.2.2.1 / (49 : Int32)) - (24 : Int32)) s11.2.2.2 b hb) rfl rfl w967 w969 w55 w88 w970 hdX8_cellX ⟨Nat.le_of_ble_eq_true rfl, Nat.le_of_ble_eq_true rfl⟩ (Nat.le_of_ble_eq_true rfl) rfl dX8_contradicts_115) rfl (fun b17 => ?_)
                refine z_aload_n C 0 dX8_contradicts_118 rfl rfl rfl ?_
                refine z_iload_n C 2 dX8_contradicts_119 rfl rfl rfl ?_
                refine z_bipush C (49 : Int32) dX8_contradicts_120 rfl rfl ?_
                refine z_iremK C dX8_contradicts_122 (by decide) rfl ?_
                refine z_bipush C (24 : Int32) dX8_contradicts_123 rfl rfl ?_
                refine z_isub C dX8_contradicts_125 rfl ?_
                refine z_iload_n C 2 dX8_contradicts_126 rfl rfl rfl ?_
                refine z_bipush C (49 : Int32) dX8_contradicts_127 rfl rfl ?_
                refine z_idivK C dX8_contradicts_129 (by decide) rfl ?_
                refine z_bipush C (24 : Int32) dX8_contradicts_130 rfl rfl ?_
                refine z_isub C dX8_contradicts_132 rfl ?_
                refine z_ci (fun b => b) (fun _ => s11.2.2.2) (fun b hb => z_V (na := 2) (ci := 8) (r := (RX8, TX8, 34)) C [.int ((zrem s5.2.1 (49 : Int32)) - (24 : Int32)), .int ((s5.2.1 / (49 : Int32)) - (24 : Int32))] rfl (mX8_cellX Y ((zrem s5.2.1 (49 : Int32)) - (24 : Int32)) ((s5.2.1 / (49 : Int32)) - (24 : Int32)) s11.2.2.2 b hb) rfl rfl w967 w969 w55 w88 w970 hdX8_cellX ⟨Nat.le_of_ble_eq_true rfl, Nat.le_of_ble_eq_true rfl⟩ (Nat.le_of_ble_eq_true rfl) rfl dX8_contradicts_133) rfl (fun b18 => ?_)
                refine z_icmpne C dX8_contradicts_136 rfl rfl ?_ ?_
                · refine z_iinc (v := (s11.2.2.1 + (1 : Int32))) C 5 (fun z => [(5, .int z), (0, .ref 100), (1, .int s5.1), (2, .int s5.2.1), (3, .int s11.1), (4, .int s11.2.1)]) dX8_contradicts_237 rfl rfl (by decide) (fun _ => rfl) rfl (fun x19 => ?_)
                  refine z_goto C dX8_contradicts_240 rfl ?_
                  exact z_perm [1, 2, 3, 4, 5, 0] rfl (hr10 (s11.1, s11.2.1, x19, s11.2.2.2))
                · refine z_aload_n C 0 dX8_contradicts_139 rfl rfl rfl ?_
                  refine z_iload C 5 dX8_contradicts_140 rfl rfl ?_
                  refine z_bipush C (49 : Int32) dX8_contradicts_142 rfl rfl ?_
                  refine z_iremK C dX8_contradicts_144 (by decide) rfl ?_
                  refine z_bipush C (24 : Int32) dX8_contradicts_145 rfl rfl ?_
                  refine z_isub C dX8_contradicts_147 rfl ?_
                  refine z_iload C 5 dX8_contradicts_148 rfl rfl ?_
                  refine z_bipush C (49 : Int32) dX8_contradicts_150 rfl rfl ?_
                  refine z_idivK C dX8_contradicts_152 (by decide) rfl ?_
                  refine z_bipush C (24 : Int32) dX8_contradicts_153 rfl rfl ?_
                  refine z_isub C dX8_contradicts_155 rfl ?_
                  refine z_ci (fun b => b) (fun _ => s11.2.2.2) (fun b hb => z_V (na := 2) (ci := 8) (r := (RX8, TX8, 34)) C [.int ((zrem s11.2.2.1 (49 : Int32)) - (24 : Int32)), .int ((s11.2.2.1 / (49 : Int32)) - (24 : Int32))] rfl (mX8_cellY Y ((zrem s11.2.2.1 (49 : Int32)) - (24 : Int32)) ((s11.2.2.1 / (49 : Int32)) - (24 : Int32)) s11.2.2.2 b hb) rfl rfl w971 w973 w56 w88 w974 hdX8_cellY ⟨Nat.le_of_ble_eq_true rfl, Nat.le_of_ble_eq_true rfl⟩ (Nat.le_of_ble_eq_true rfl) rfl dX8_contradicts_156) rfl (fun b20 => ?_)
                  refine z_aload_n C 0 dX8_contradicts_159 rfl rfl rfl ?_
                  refine z_iload_n C 2 dX8_contradicts_160 rfl rfl rfl ?_
                  refine z_bipush C (49 : Int32) dX8_contradicts_161 rfl rfl ?_
                  refine z_iremK C dX8_contradicts_163 (by decide) rfl ?_
                  refine z_bipush C (24 : Int32) dX8_contradicts_164 rfl rfl ?_
                  refine z_isub C dX8_contradicts_166 rfl ?_
                  refine z_iload_n C 2 dX8_contradicts_167 rfl rfl rfl ?_
                  refine z_bipush C (49 : Int32) dX8_contradicts_168 rfl rfl ?_
                  refine z_idivK C dX8_contradicts_170 (by decide) rfl ?_
                  refine z_bipush C (24 : Int32) dX8_contradicts_171 rfl rfl ?_
                  refine z_isub C dX8_contradicts_173 rfl ?_
                  refine z_ci (fun b => b) (fun _ => s11.2.2.2) (fun b hb => z_V (na := 2) (ci := 8) (r := (RX8, TX8, 34)) C [.int ((zrem s5.2.1 (49 : Int32)) - (24 : Int32)), .int ((s5.2.1 / (49 : Int32)) - (24 : Int32))] rfl (mX8_cellY Y ((zrem s5.2.1 (49 : Int32)) - (24 : Int32)) ((s5.2.1 / (49 : Int32)) - (24 : Int32)) s11.2.2.2 b hb) rfl rfl w971 w973 w56 w88 w974 hdX8_cellY ⟨Nat.le_of_ble_eq_true rfl, Nat.le_of_ble_eq_true rfl⟩ (Nat.le_of_ble_eq_true rfl) rfl dX8_contradicts_174) rfl (fun b21 => ?_)
                  refine z_icmpne C dX8_contradicts_177 rfl rfl ?_ ?_
                  · refine z_iinc (v := (s11.2.2.1 + (1 : Int32))) C 5 (fun z => [(5, .int z), (0, .ref 100), (1, .int s5.1), (2, .int s5.2.1), (3, .int s11.1), (4, .int s11.2.1)]) dX8_contradicts_237 rfl rfl (by decide) (fun _ => rfl) rfl (fun x22 => ?_)
                    refine z_goto C dX8_contradicts_240 rfl ?_
                    exact z_perm [1, 2, 3, 4, 5, 0] rfl (hr10 (s11.1, s11.2.1, x22, s11.2.2.2))
                  · refine z_aload_n C 0 dX8_contradicts_180 rfl rfl rfl ?_
                    refine z_get (v := .ref 110) C 18 zOK8 rfl (by decide) w806 rfl rfl dX8_contradicts_181 rfl ?_
                    refine z_iload C 5 dX8_contradicts_184 rfl rfl ?_
                    refine z_iload_n C 2 dX8_contradicts_186 rfl rfl rfl ?_
                    refine z_iastore C 2401 rfl dX8_contradicts_187 rfl (fun M23 => ?_)
                    refine z_aload_n C 0 dX8_contradicts_188 rfl rfl rfl ?_
                    refine z_get (v := .ref 106) C 13 zOK8 rfl (by decide) w801 rfl rfl dX8_contradicts_189 rfl ?_
                    refine z_iload C 5 dX8_contradicts_192 rfl rfl ?_
                    refine z_iaload C 2401 rfl dX8_contradicts_194 rfl ?_
                    refine z_iload_n C 3 dX8_contradicts_195 rfl rfl rfl ?_
                    refine z_join (fun k25 => ∀ (x24 : Int32), zR Y X 6 (zFi Y X (fun b => b.1) (fun b => b.2)) (k25 x24) 210 [(0, .ref 100), (1, .int s5.1), (2, .int s5.2.1), (4, .int s11.2.1), (5, .int s11.2.2.1)] [.int x24] M23) (fun x24 => ?_) (fun k25 hk25 => ?_)
                    · refine z_istoreP_n (lo' := [(3, .int x24), (0, .ref 100), (1, .int s5.1), (2, .int s5.2.1), (4, .int s11.2.1), (5, .int s11.2.2.1)]) C dX8_contradicts_210 rfl (by decide) rfl rfl ?_
                      refine z_aload_n C 1 dX8_contradicts_211 rfl rfl rfl ?_
                      refine z_get (v := .ref 106) C 13 zOK8 rfl (by decide) w801 rfl rfl dX8_contradicts_212 rfl ?_
                      refine z_iload C 5 dX8_contradicts_215 rfl rfl ?_
                      refine z_iaload C 2401 rfl dX8_contradicts_217 rfl ?_
                      refine z_iload C 4 dX8_contradicts_218 rfl rfl ?_
                      refine z_join (fun k27 => ∀ (x26 : Int32), zR Y X 6 (zFi Y X (fun b => b.1) (fun b => b.2)) (k27 x26) 235 [(0, .ref 100), (1, .int s5.1), (2, .int s5.2.1), (3, .int x24), (5, .int s11.2.2.1)] [.int x26] M23) (fun x26 => ?_) (fun k27 hk27 => ?_)
                      · refine z_istoreP (lo' := [(4, .int x26), (0, .ref 100), (1, .int s5.1), (2, .int s5.2.1), (3, .int x24), (5, .int s11.2.2.1)]) C dX8_contradicts_235 (by decide) rfl rfl ?_
                        refine z_iinc (v := (s11.2.2.1 + (1 : Int32))) C 5 (fun z => [(5, .int z), (4, .int x26), (0, .ref 100), (1, .int s5.1), (2, .int s5.2.1), (3, .int x24)]) dX8_contradicts_237 rfl rfl (by decide) (fun _ => rfl) rfl (fun x28 => ?_)
                        refine z_goto C dX8_contradicts_240 rfl ?_
                        exact z_perm [2, 3, 4, 5, 1, 0] rfl (hr10 (x24, x26, x28, M23))
                      · refine z_icmple C dX8_contradicts_220 rfl rfl ?_ ?_
                        · refine z_iload C 4 dX8_contradicts_233 rfl rfl ?_
                          exact z_perm [1, 2, 3, 0, 5] rfl (hk27 s11.2.1)
                        · refine z_aload_n C 1 dX8_contradicts_223 rfl rfl rfl ?_
                          refine z_get (v := .ref 106) C 13 zOK8 rfl (by decide) w801 rfl rfl dX8_contradicts_224 rfl ?_
                          refine z_iload C 5 dX8_contradicts_227 rfl rfl ?_
                          refine z_iaload C 2401 rfl dX8_contradicts_229 rfl ?_
                          refine z_goto C dX8_contradicts_230 rfl ?_
                          exact z_perm [1, 2, 3, 0, 5] rfl (hk27 (zrd M23 106 s11.2.2.1))
                    · refine z_icmpge C dX8_contradicts_196 rfl rfl ?_ ?_
                      · refine z_iload_n C 3 dX8_contradicts_209 rfl rfl rfl ?_
                        exact z_perm [0, 1, 2, 4, 5] rfl (hk25 s11.1)
                      · refine z_aload_n C 0 dX8_contradicts_199 rfl rfl rfl ?_
                        refine z_get (v := .ref 106) C 13 zOK8 rfl (by decide) w801 rfl rfl dX8_contradicts_200 rfl ?_
                        refine z_iload C 5 dX8_contradicts_203 rfl rfl ?_
                        refine z_iaload C 2401 rfl dX8_contradicts_205 rfl ?_
                        refine z_goto C dX8_contradicts_206 rfl ?_
                        exact z_perm [0, 1, 2, 4, 5] rfl (hk25 (zrd M23 106 s11.2.2.1))
    · refine z_aload_n C 0 dX8_contradicts_13 rfl rfl rfl ?_
      refine z_get (v := .ref 110) C 18 zOK8 rfl (by decide) w806 rfl rfl dX8_contradicts_14 rfl ?_
      refine z_iload_n C 1 dX8_contradicts_17 rfl rfl rfl ?_
      refine z_bipush C (-9 : Int32) dX8_contradicts_18 rfl rfl ?_
      refine z_iastore C 2401 rfl dX8_contradicts_20 rfl (fun M29 => ?_)
      refine z_iinc (v := (s3.1 + (1 : Int32))) C 1 (fun z => [(1, .int z), (0, .ref 100)]) dX8_contradicts_21 rfl rfl (by decide) (fun _ => rfl) rfl (fun x30 => ?_)
      refine z_goto C dX8_contradicts_24 rfl ?_
      exact z_perm [1, 0] rfl (hr2 (x30, M29))
  exact key b hF
set_option maxRecDepth 100000 in
set_option maxHeartbeats 4000000 in
theorem mX8_filled (Y : zY) (x0 : Int32) (x1 : Int32) (M : zMem) (b : Int32 × zMem) (hF : FX8_filled x0 x1 M = some b) : zMt Y yX8_filled cX8_filled 3 (some .int) 3 78 [.ref 100, .int x0, .int x1] M (zQi Y b.1 b.2) := by
  refine zMt_of (own := RX8) (by decide +kernel) rfl (Nat.le_of_ble_eq_true rfl) (fun X C => ?_)
  have key : zR Y X 3 (zFi Y X (fun b => b.1) (fun b => b.2)) (FX8_filled x0 x1 M) 0 [(0, .ref 100), (1, .int x0), (2, .int x1)] [] M := by
    unfold FX8_filled
    refine z_iload_n C 1 dX8_filled_0 rfl rfl rfl ?_
    refine z_iload_n C 2 dX8_filled_1 rfl rfl rfl ?_
    refine z_ci (fun b => b) (fun _ => M) (fun b hb => z_S (na := 2) C [.int x0, .int x1] rfl (mX8_isPixel Y x0 x1 M b hb) w983 w984 w88 w985 hdX8_isPixel ⟨Nat.le_of_ble_eq_true rfl, Nat.le_of_ble_eq_true rfl⟩ (Nat.le_of_ble_eq_true rfl) rfl dX8_filled_2) rfl (fun b3 => ?_)
    refine z_ifne C dX8_filled_5 rfl rfl ?_ ?_
    · refine z_aload_n C 0 dX8_filled_10 rfl rfl rfl ?_
      refine z_get (v := .ref 106) C 13 zOK8 rfl (by decide) w801 rfl rfl dX8_filled_11 rfl ?_
      refine z_iload_n C 1 dX8_filled_14 rfl rfl rfl ?_
      refine z_iload_n C 2 dX8_filled_15 rfl rfl rfl ?_
      refine z_ci (fun b => b) (fun _ => M) (fun b hb => z_S (na := 2) C [.int x0, .int x1] rfl (mX8_pixel Y x0 x1 M b hb) w986 w987 w88 w988 hdX8_pixel ⟨Nat.le_of_ble_eq_true rfl, Nat.le_of_ble_eq_true rfl⟩ (Nat.le_of_ble_eq_true rfl) rfl dX8_filled_16) rfl (fun b4 => ?_)
      refine z_iaload C 2401 rfl dX8_filled_19 rfl ?_
      refine z_bipush C (-9 : Int32) dX8_filled_20 rfl rfl ?_
      refine z_icmpeq C dX8_filled_22 rfl rfl ?_ ?_
      · refine z_aload_n C 0 dX8_filled_36 rfl rfl rfl ?_
        refine z_cv (fun b => b) (fun b hb => z_V (na := 0) (ci := 8) (r := (RX8, TX8, 34)) C [] rfl (mX8_findTold Y M b hb) rfl rfl w1149 w1151 w76 w88 w1152 hdX8_findTold ⟨Nat.le_of_ble_eq_true rfl, Nat.le_of_ble_eq_true rfl⟩ (Nat.le_of_ble_eq_true rfl) rfl dX8_filled_37) rfl (fun b5 => ?_)
        refine z_aload_n C 0 dX8_filled_40 rfl rfl rfl ?_
        refine z_aload_n C 0 dX8_filled_41 rfl rfl rfl ?_
        refine z_iload_n C 1 dX8_filled_42 rfl rfl rfl ?_
        refine z_iload_n C 2 dX8_filled_43 rfl rfl rfl ?_
        refine z_iconst C (0 : Int32) dX8_filled_44 rfl rfl ?_
        refine z_ci (fun b => b) (fun _ => b5) (fun b hb => z_V (na := 3) (ci := 8) (r := (RX8, TX8, 34)) C [.int x0, .int x1, .int (0 : Int32)] rfl (mX8_cellOf Y x0 x1 (0 : Int32) b5 b hb) rfl rfl w944 w946 w52 w88 w947 hdX8_cellOf ⟨Nat.le_of_ble_eq_true rfl, Nat.le_of_ble_eq_true rfl⟩ (Nat.le_of_ble_eq_true rfl) rfl dX8_filled_45) rfl (fun b6 => ?_)
        refine z_aload_n C 0 dX8_filled_48 rfl rfl rfl ?_
        refine z_iload_n C 1 dX8_filled_49 rfl rfl rfl ?_
        refine z_iload_n C 2 dX8_filled_50 rfl rfl rfl ?_
        refine z_iconst C (1 : Int32) dX8_filled_51 rfl rfl ?_
        refine z_ci (fun b => b) (fun _ => b5) (fun b hb => z_V (na := 3) (ci := 8) (r := (RX8, TX8, 34)) C [.int x0, .int x1, .int (1 : Int32)] rfl (mX8_cellOf Y x0 x1 (1 : Int32) b5 b hb) rfl rfl w944 w946 w52 w88 w947 hdX8_cellOf ⟨Nat.le_of_ble_eq_true rfl, Nat.le_of_ble_eq_true rfl⟩ (Nat.le_of_ble_eq_true rfl) rfl dX8_filled_52) rfl (fun b7 => ?_)
        refine z_ci (fun b => b) (fun _ => b5) (fun b hb => z_V (na := 2) (ci := 8) (r := (RX8, TX8, 34)) C [.int b6, .int b7] rfl (mX8_farOf Y b6 b7 b5 b hb) rfl rfl w1153 w1155 w77 w88 w1156 hdX8_farOf ⟨Nat.le_of_ble_eq_true rfl, Nat.le_of_ble_eq_true rfl⟩ (Nat.le_of_ble_eq_true rfl) rfl dX8_filled_55) rfl (fun b8 => ?_)
        exact z_iret C rfl rfl dX8_filled_58
      · refine z_aload_n C 0 dX8_filled_25 rfl rfl rfl ?_
        refine z_get (v := .ref 106) C 13 zOK8 rfl (by decide) w801 rfl rfl dX8_filled_26 rfl ?_
        refine z_iload_n C 1 dX8_filled_29 rfl rfl rfl ?_
        refine z_iload_n C 2 dX8_filled_30 rfl rfl rfl ?_
        refine z_ci (fun b => b) (fun _ => M) (fun b hb => z_S (na := 2) C [.int x0, .int x1] rfl (mX8_pixel Y x0 x1 M b hb) w986 w987 w88 w988 hdX8_pixel ⟨Nat.le_of_ble_eq_true rfl, Nat.le_of_ble_eq_true rfl⟩ (Nat.le_of_ble_eq_true rfl) rfl dX8_filled_31) rfl (fun b9 => ?_)
        refine z_iaload C 2401 rfl dX8_filled_34 rfl ?_
        exact z_iret C rfl rfl dX8_filled_35
    · refine z_iconst C (-1 : Int32) dX8_filled_8 rfl rfl ?_
      exact z_iret C rfl rfl dX8_filled_9
  exact key b hF
set_option maxRecDepth 100000 in
set_option maxHeartbeats 4000000 in
theorem mX8_count (Y : zY) (x0 : Int32) (M : zMem) (b : Int32) (hF : FX8_count x0 M = some b) : zMt Y yX8_count cX8_count 4 (some .int) 0 0 [.ref 100, .int x0] M (zQi Y b M) := by
  refine zMt_of (own := RX8) (by decide +kernel) rfl (Nat.le_of_ble_eq_true rfl) (fun X C => ?_)
  have key : zR Y X 4 (zFi Y X (fun b => b) (fun _ => M)) (FX8_count x0 M) 0 [(0, .ref 100), (1, .int x0)] [] M := by
    unfold FX8_count
    refine z_iconst C (0 : Int32) dX8_count_0 rfl rfl ?_
    refine z_istoreP_n (lo' := [(2, .int (0 : Int32)), (0, .ref 100), (1, .int x0)]) C dX8_count_1 rfl (by decide) rfl rfl ?_
    refine z_iload_n C 2 dX8_count_2 rfl rfl rfl ?_
    refine z_ite (fun hs3_0 => ?_) (fun hs3_0 => ?_)
    · refine z_tswIn (v := (0 : Int32)) (off := 37) C hs3_0 dX8_count_3 (by decide) (by decide) rfl rfl ?_
      refine z_aload_n C 1 dX8_count_40 rfl rfl rfl ?_
      refine z_get (v := .int (M.1 100 1)) C 1 zOK8 rfl (by decide) w789 rfl rfl dX8_count_41 rfl ?_
      exact z_iret C rfl rfl dX8_count_44
    · refine z_ite (fun hs3_1 => ?_) (fun hs3_1 => ?_)
      · refine z_tswIn (v := (1 : Int32)) (off := 42) C hs3_1 dX8_count_3 (by decide) (by decide) rfl rfl ?_
        refine z_aload_n C 1 dX8_count_45 rfl rfl rfl ?_
        refine z_get (v := .int (M.1 100 6)) C 6 zOK8 rfl (by decide) w794 rfl rfl dX8_count_46 rfl ?_
        exact z_iret C rfl rfl dX8_count_49
      · refine z_ite (fun hs3_2 => ?_) (fun hs3_2 => ?_)
        · refine z_tswIn (v := (2 : Int32)) (off := 47) C hs3_2 dX8_count_3 (by decide) (by decide) rfl rfl ?_
          refine z_aload_n C 1 dX8_count_50 rfl rfl rfl ?_
          refine z_get (v := .int (M.1 100 10)) C 10 zOK8 rfl (by decide) w798 rfl rfl dX8_count_51 rfl ?_
          exact z_iret C rfl rfl dX8_count_54
        · refine z_ite (fun hs3_3 => ?_) (fun hs3_3 => ?_)
          · refine z_tswIn (v := (3 : Int32)) (off := 52) C hs3_3 dX8_count_3 (by decide) (by decide) rfl rfl ?_
            refine z_iconst C (0 : Int32) dX8_count_55 rfl rfl ?_
            refine z_istoreP_n (lo' := [(3, .int (0 : Int32)), (2, .int (0 : Int32)), (0, .ref 100), (1, .int x0)]) C dX8_count_56 rfl (by decide) rfl rfl ?_
            refine z_loop (sM := fun s => M) (sl := fun s => [(0, .ref 100), (2, .int s.1), (3, .int s.2)]) [2, 1, 0] rfl rfl (fun r6 hr6 s7 => ?_)
            unfold FX8_count_L57
            refine z_iload_n C 2 dX8_count_57 rfl rfl rfl ?_
            refine z_sipush C (2401 : Int32) dX8_count_58 rfl rfl ?_
            refine z_icmpge C dX8_count_61 rfl rfl ?_ ?_
            · refine z_iload_n C 1 dX8_count_89 rfl rfl rfl ?_
              exact z_iret C rfl rfl dX8_count_90
            · refine z_iload_n C 1 dX8_count_64 rfl rfl rfl ?_
              refine z_aload_n C 0 dX8_count_65 rfl rfl rfl ?_
              refine z_get (v := .ref 106) C 13 zOK8 rfl (by decide) w801 rfl rfl dX8_count_66 rfl ?_
              refine z_iload_n C 2 dX8_count_69 rfl rfl rfl ?_
              refine z_iaload C 2401 rfl dX8_count_70 rfl ?_
              refine z_bipush C (-9 : Int32) dX8_count_71 rfl rfl ?_
              refine z_join (fun k9 => ∀ (x8 : Int32), zR Y X 4 (zFi Y X (fun b => b) (fun _ => M)) (k9 x8) 81 [(0, .ref 100), (3, .int s7.2)] [.int x8, .int s7.1] M) (fun x8 => ?_) (fun k9 hk9 => ?_)
              · refine z_iadd C dX8_count_81 rfl ?_
                refine z_istore_n C (fun z => [(2, .int z), (0, .ref 100), (3, .int s7.2)]) dX8_count_82 rfl (by decide) (fun _ => rfl) rfl (fun x10 => ?_)
                refine z_iinc (v := (s7.2 + (1 : Int32))) C 2 (fun z => [(3, .int z), (2, .int x10), (0, .ref 100)]) dX8_count_83 rfl rfl (by decide) (fun _ => rfl) rfl (fun x11 => ?_)
                refine z_goto C dX8_count_86 rfl ?_
                exact z_perm [2, 1, 0] rfl (hr6 (x10, x11))
              · refine z_icmpne C dX8_count_73 rfl rfl ?_ ?_
                · refine z_iconst C (1 : Int32) dX8_count_80 rfl rfl ?_
                  exact z_perm [0, 2] rfl (hk9 (1 : Int32))
                · refine z_iconst C (0 : Int32) dX8_count_76 rfl rfl ?_
                  refine z_goto C dX8_count_77 rfl ?_
                  exact z_perm [0, 2] rfl (hk9 (0 : Int32))
          · refine z_ite (fun hs3_4 => ?_) (fun hs3_4 => ?_)
            · refine z_tswIn (v := (4 : Int32)) (off := 88) C hs3_4 dX8_count_3 (by decide) (by decide) rfl rfl ?_
              refine z_aload_n C 1 dX8_count_91 rfl rfl rfl ?_
              refine z_get (v := .int (M.1 100 5)) C 5 zOK8 rfl (by decide) w793 rfl rfl dX8_count_92 rfl ?_
              exact z_iret C rfl rfl dX8_count_95
            · refine z_ite (fun hs3_5 => ?_) (fun hs3_5 => ?_)
              · refine z_tswIn (v := (5 : Int32)) (off := 93) C hs3_5 dX8_count_3 (by decide) (by decide) rfl rfl ?_
                refine z_iconst C (0 : Int32) dX8_count_96 rfl rfl ?_
                refine z_istoreP_n (lo' := [(3, .int (0 : Int32)), (2, .int (0 : Int32)), (0, .ref 100), (1, .int x0)]) C dX8_count_97 rfl (by decide) rfl rfl ?_
                refine z_loop (sM := fun s => M) (sl := fun s => [(0, .ref 100), (2, .int s.1), (3, .int s.2)]) [2, 1, 0] rfl rfl (fun r2 hr2 s3 => ?_)
                unfold FX8_count_L98
                refine z_iload_n C 2 dX8_count_98 rfl rfl rfl ?_
                refine z_aload_n C 0 dX8_count_99 rfl rfl rfl ?_
                refine z_get (v := .int (M.1 100 1)) C 1 zOK8 rfl (by decide) w789 rfl rfl dX8_count_100 rfl ?_
                refine z_icmpge C dX8_count_103 rfl rfl ?_ ?_
                · refine z_iload_n C 1 dX8_count_126 rfl rfl rfl ?_
                  exact z_iret C rfl rfl dX8_count_127
                · refine z_iload_n C 1 dX8_count_106 rfl rfl rfl ?_
                  refine z_aload_n C 0 dX8_count_107 rfl rfl rfl ?_
                  refine z_get (v := .ref 101) C 0 zOK8 rfl (by decide) w788 rfl rfl dX8_count_108 rfl ?_
                  refine z_bipush C (6 : Int32) dX8_count_111 rfl rfl ?_
                  refine z_iload_n C 2 dX8_count_113 rfl rfl rfl ?_
                  refine z_imul C dX8_count_114 rfl ?_
                  refine z_iconst C (3 : Int32) dX8_count_115 rfl rfl ?_
                  refine z_iadd C dX8_count_116 rfl ?_
                  refine z_iaload C 96 rfl dX8_count_117 rfl ?_
                  refine z_iadd C dX8_count_118 rfl ?_
                  refine z_istore_n C (fun z => [(2, .int z), (0, .ref 100), (3, .int s3.2)]) dX8_count_119 rfl (by decide) (fun _ => rfl) rfl (fun x4 => ?_)
                  refine z_iinc (v := (s3.2 + (1 : Int32))) C 2 (fun z => [(3, .int z), (2, .int x4), (0, .ref 100)]) dX8_count_120 rfl rfl (by decide) (fun _ => rfl) rfl (fun x5 => ?_)
                  refine z_goto C dX8_count_123 rfl ?_
                  exact z_perm [2, 1, 0] rfl (hr2 (x4, x5))
              · refine z_tswOut C (by have e0 : x0.toInt ≠ 0 := fun e => hs3_0 (Int32.toInt_inj.mp (e.trans rfl)); have e1 : x0.toInt ≠ 1 := fun e => hs3_1 (Int32.toInt_inj.mp (e.trans rfl)); have e2 : x0.toInt ≠ 2 := fun e => hs3_2 (Int32.toInt_inj.mp (e.trans rfl)); have e3 : x0.toInt ≠ 3 := fun e => hs3_3 (Int32.toInt_inj.mp (e.trans rfl)); have e4 : x0.toInt ≠ 4 := fun e => hs3_4 (Int32.toInt_inj.mp (e.trans rfl)); have e5 : x0.toInt ≠ 5 := fun e => hs3_5 (Int32.toInt_inj.mp (e.trans rfl)); omega) dX8_count_3 rfl ?_
                refine z_iconst C (-1 : Int32) dX8_count_128 rfl rfl ?_
                exact z_iret C rfl rfl dX8_count_129
  exact key b hF
set_option maxRecDepth 100000 in
set_option maxHeartbeats 4000000 in
theorem mX8_trace (Y : zY) (M : zMem) (b : Int64) (hF : FX8_trace M = some b) : zMt Y yX8_trace cX8_trace 1 (some .long) 0 0 [.ref 100] M (zQl Y b M) := by
  refine zMt_of (own := RX8) (by decide +kernel) rfl (Nat.le_of_ble_eq_true rfl) (fun X C => ?_)
  have key : zR Y X 1 (zFl Y X (fun b => b) (fun _ => M)) (FX8_trace M) 0 [(0, .ref 100)] [] M := by
    unfold FX8_trace
    refine z_aload_n C 0 dX8_trace_0 rfl rfl rfl ?_
    refine z_get (v := .long (M.2 100)) C 14 zOK8 rfl (by decide) w802 rfl rfl dX8_trace_1 rfl ?_
    exact z_lret C rfl rfl dX8_trace_4
  exact key b hF
