set_option maxRecDepth 100000 in
set_option maxHeartbeats 4000000 in
theorem mX0_toldCount (Y : zY) (M : zMem) (b : Int32) (hF : FX0_toldCount M = some b) : zMt Y yX0_toldCount cX0_toldCount 3 (some .int) 0 0 [.ref 96] M (zQi Y b M) := by
  refine zMt_of (own := RX0) (by decide +kernel) rfl (Nat.le_of_ble_eq_true rfl) (fun X C => ?_)
  have key : zR Y X 3 (zFi Y X (fun b => b) (fun _ => M)) (FX0_toldCount M) 0 [(0, .ref 96)] [] M := by
    unfold FX0_toldCount
    refine z_iconst C (0 : Int32) dX0_toldCount_0 rfl rfl ?_
    refine z_istoreP_n (lo' := [(1, .int (0 : Int32)), (0, .ref 96)]) C dX0_toldCount_1 rfl (by decide) rfl rfl ?_
    refine z_iconst C (0 : Int32) dX0_toldCount_2 rfl rfl ?_
    refine z_istoreP_n (lo' := [(2, .int (0 : Int32)), (1, .int (0 : Int32)), (0, .ref 96)]) C dX0_toldCount_3 rfl (by decide) rfl rfl ?_
    refine z_loop (sM := fun s => M) (sl := fun s => [(0, .ref 96), (1, .int s.1), (2, .int s.2)]) [2, 1, 0] rfl rfl (fun r1 hr1 s2 => ?_)
    unfold FX0_toldCount_L4
    refine z_iload_n C 2 dX0_toldCount_4 rfl rfl rfl ?_
    refine z_sipush C (2401 : Int32) dX0_toldCount_5 rfl rfl ?_
    refine z_icmpge C dX0_toldCount_8 rfl rfl ?_ ?_
    · refine z_iload_n C 1 dX0_toldCount_36 rfl rfl rfl ?_
      exact z_iret C rfl rfl dX0_toldCount_37
    · refine z_iload_n C 1 dX0_toldCount_11 rfl rfl rfl ?_
      refine z_aload_n C 0 dX0_toldCount_12 rfl rfl rfl ?_
      refine z_get (v := .ref 97) C 2 zOK0 rfl (by decide) w304 rfl rfl dX0_toldCount_13 rfl ?_
      refine z_iload_n C 2 dX0_toldCount_16 rfl rfl rfl ?_
      refine z_iaload C 2401 rfl dX0_toldCount_17 rfl ?_
      refine z_bipush C (-9 : Int32) dX0_toldCount_18 rfl rfl ?_
      refine z_join (fun k4 => ∀ (x3 : Int32), zR Y X 3 (zFi Y X (fun b => b) (fun _ => M)) (k4 x3) 28 [(0, .ref 96), (2, .int s2.2)] [.int x3, .int s2.1] M) (fun x3 => ?_) (fun k4 hk4 => ?_)
      · refine z_iadd C dX0_toldCount_28 rfl ?_
        refine z_istore_n C (fun z => [(1, .int z), (0, .ref 96), (2, .int s2.2)]) dX0_toldCount_29 rfl (by decide) (fun _ => rfl) rfl (fun x5 => ?_)
        refine z_iinc (v := (s2.2 + (1 : Int32))) C 2 (fun z => [(2, .int z), (1, .int x5), (0, .ref 96)]) dX0_toldCount_30 rfl rfl (by decide) (fun _ => rfl) rfl (fun x6 => ?_)
        refine z_goto C dX0_toldCount_33 rfl ?_
        exact z_perm [2, 1, 0] rfl (hr1 (x5, x6))
      · refine z_icmpeq C dX0_toldCount_20 rfl rfl ?_ ?_
        · refine z_iconst C (0 : Int32) dX0_toldCount_27 rfl rfl ?_
          exact z_perm [0, 2] rfl (hk4 (0 : Int32))
        · refine z_iconst C (1 : Int32) dX0_toldCount_23 rfl rfl ?_
          refine z_goto C dX0_toldCount_24 rfl ?_
          exact z_perm [0, 2] rfl (hk4 (1 : Int32))
  exact key b hF
set_option maxRecDepth 100000 in
set_option maxHeartbeats 4000000 in
theorem mX0_farOf (Y : zY) (x0 : Int32) (M : zMem) (b : Int32) (hF : FX0_farOf x0 M = some b) : zMt Y yX0_farOf cX0_farOf 5 (some .int) 0 0 [.ref 96, .int x0] M (zQi Y b M) := by
  refine zMt_of (own := RX0) (by decide +kernel) rfl (Nat.le_of_ble_eq_true rfl) (fun X C => ?_)
  have key : zR Y X 5 (zFi Y X (fun b => b) (fun _ => M)) (FX0_farOf x0 M) 0 [(0, .ref 96), (1, .int x0)] [] M := by
    unfold FX0_farOf
    refine z_iconst C (0 : Int32) dX0_farOf_0 rfl rfl ?_
    refine z_istoreP_n (lo' := [(2, .int (0 : Int32)), (0, .ref 96), (1, .int x0)]) C dX0_farOf_1 rfl (by decide) rfl rfl ?_
    refine z_iconst C (0 : Int32) dX0_farOf_2 rfl rfl ?_
    refine z_istoreP_n (lo' := [(3, .int (0 : Int32)), (2, .int (0 : Int32)), (0, .ref 96), (1, .int x0)]) C dX0_farOf_3 rfl (by decide) rfl rfl ?_
    refine z_iconst C (0 : Int32) dX0_farOf_4 rfl rfl ?_
    refine z_istoreP (lo' := [(4, .int (0 : Int32)), (3, .int (0 : Int32)), (2, .int (0 : Int32)), (0, .ref 96), (1, .int x0)]) C dX0_farOf_5 (by decide) rfl rfl ?_
    refine z_loop (sM := fun s => M) (sl := fun s => [(0, .ref 96), (1, .int x0), (2, .int s.1), (3, .int s.2.1), (4, .int s.2.2)]) [3, 4, 2, 1, 0] rfl rfl (fun r2 hr2 s3 => ?_)
    unfold FX0_farOf_L7
    refine z_iload C 4 dX0_farOf_7 rfl rfl ?_
    refine z_sipush C (2401 : Int32) dX0_farOf_9 rfl rfl ?_
    refine z_icmpge C dX0_farOf_12 rfl rfl ?_ ?_
    · refine z_iload_n C 3 dX0_farOf_60 rfl rfl rfl ?_
      refine z_ifne C dX0_farOf_61 rfl rfl ?_ ?_
      · refine z_iload_n C 2 dX0_farOf_69 rfl rfl rfl ?_
        refine z_iload_n C 3 dX0_farOf_70 rfl rfl rfl ?_
        refine z_idiv C dX0_farOf_71 rfl ?_
        exact z_iret C rfl rfl dX0_farOf_72
      · refine z_bipush C (-9 : Int32) dX0_farOf_64 rfl rfl ?_
        refine z_goto C dX0_farOf_66 rfl ?_
        exact z_iret C rfl rfl dX0_farOf_72
    · refine z_aload_n C 0 dX0_farOf_15 rfl rfl rfl ?_
      refine z_get (v := .ref 97) C 2 zOK0 rfl (by decide) w304 rfl rfl dX0_farOf_16 rfl ?_
      refine z_iload C 4 dX0_farOf_19 rfl rfl ?_
      refine z_iaload C 2401 rfl dX0_farOf_21 rfl ?_
      refine z_bipush C (-9 : Int32) dX0_farOf_22 rfl rfl ?_
      refine z_icmpeq C dX0_farOf_24 rfl rfl ?_ ?_
      · refine z_iinc (v := (s3.2.2 + (1 : Int32))) C 4 (fun z => [(4, .int z), (0, .ref 96), (1, .int x0), (2, .int s3.1), (3, .int s3.2.1)]) dX0_farOf_54 rfl rfl (by decide) (fun _ => rfl) rfl (fun x4 => ?_)
        refine z_goto C dX0_farOf_57 rfl ?_
        exact z_perm [1, 2, 3, 4, 0] rfl (hr2 (s3.1, s3.2.1, x4))
      · refine z_aload_n C 0 dX0_farOf_27 rfl rfl rfl ?_
        refine z_get (v := .ref 15) C 0 zOK0 rfl (by decide) w302 rfl rfl dX0_farOf_28 rfl ?_
        refine z_getN (v := .ref 18) C 3 zOK3 rfl (by decide) (List.mem_of_getElem? (i := 10) rfl) rfl rfl dX0_farOf_31 rfl ?_
        refine z_iload C 4 dX0_farOf_34 rfl rfl ?_
        refine z_iaload C 2401 rfl dX0_farOf_36 rfl ?_
        refine z_iload_n C 1 dX0_farOf_37 rfl rfl rfl ?_
        refine z_icmpne C dX0_farOf_38 rfl rfl ?_ ?_
        · refine z_iinc (v := (s3.2.2 + (1 : Int32))) C 4 (fun z => [(4, .int z), (0, .ref 96), (1, .int x0), (2, .int s3.1), (3, .int s3.2.1)]) dX0_farOf_54 rfl rfl (by decide) (fun _ => rfl) rfl (fun x5 => ?_)
          refine z_goto C dX0_farOf_57 rfl ?_
          exact z_perm [1, 2, 3, 4, 0] rfl (hr2 (s3.1, s3.2.1, x5))
        · refine z_iload_n C 2 dX0_farOf_41 rfl rfl rfl ?_
          refine z_aload_n C 0 dX0_farOf_42 rfl rfl rfl ?_
          refine z_get (v := .ref 97) C 2 zOK0 rfl (by decide) w304 rfl rfl dX0_farOf_43 rfl ?_
          refine z_iload C 4 dX0_farOf_46 rfl rfl ?_
          refine z_iaload C 2401 rfl dX0_farOf_48 rfl ?_
          refine z_iadd C dX0_farOf_49 rfl ?_
          refine z_istore_n C (fun z => [(2, .int z), (0, .ref 96), (1, .int x0), (3, .int s3.2.1), (4, .int s3.2.2)]) dX0_farOf_50 rfl (by decide) (fun _ => rfl) rfl (fun x6 => ?_)
          refine z_iinc (v := (s3.2.1 + (1 : Int32))) C 3 (fun z => [(3, .int z), (2, .int x6), (0, .ref 96), (1, .int x0), (4, .int s3.2.2)]) dX0_farOf_51 rfl rfl (by decide) (fun _ => rfl) rfl (fun x7 => ?_)
          refine z_iinc (v := (s3.2.2 + (1 : Int32))) C 4 (fun z => [(4, .int z), (3, .int x7), (2, .int x6), (0, .ref 96), (1, .int x0)]) dX0_farOf_54 rfl rfl (by decide) (fun _ => rfl) rfl (fun x8 => ?_)
          refine z_goto C dX0_farOf_57 rfl ?_
          exact z_perm [3, 4, 2, 1, 0] rfl (hr2 (x6, x7, x8))
  exact key b hF
set_option maxRecDepth 100000 in
set_option maxHeartbeats 4000000 in
theorem mJ7_fill_53178 (Y : zY) (q0 : Nat) (x1 : Int32) (M : zMem) (b : zMem) (hF : FJ7_fill_53178 q0 x1 M = some b) : zMt Y yJ7_fill_53178 cJ7_fill_53178 4 none 0 0 [.ref q0, .int x1] M (zQv Y b) := by
  refine zMt_of (own := RJ7) (by decide +kernel) rfl (Nat.le_of_ble_eq_true rfl) (fun X C => ?_)
  have key : zR Y X 4 (zFv Y X (fun b => b)) (FJ7_fill_53178 q0 x1 M) 0 [(0, .ref q0), (1, .int x1)] [] M := by
    unfold FJ7_fill_53178
    refine z_iconst C (0 : Int32) dJ7_fill_53178_0 rfl rfl ?_
    refine z_istoreP_n (lo' := [(2, .int (0 : Int32)), (0, .ref q0), (1, .int x1)]) C dJ7_fill_53178_1 rfl (by decide) rfl rfl ?_
    refine z_aload_n C 1 dJ7_fill_53178_2 rfl rfl rfl ?_
    refine z_alen C dJ7_fill_53178_3 rfl ?_
    refine z_istore_n C (fun z => [(3, .int z), (2, .int (0 : Int32)), (0, .ref q0), (1, .int x1)]) dJ7_fill_53178_4 rfl (by decide) (fun _ => rfl) rfl (fun x3 => ?_)
    refine z_loop (sM := fun s => s.2) (sl := fun s => [(0, .ref q0), (1, .int x1), (2, .int s.1), (3, .int x3)]) [2, 3, 1, 0] rfl rfl (fun r4 hr4 s5 => ?_)
    unfold FJ7_fill_53178_L5
    refine z_iload_n C 2 dJ7_fill_53178_5 rfl rfl rfl ?_
    refine z_iload_n C 3 dJ7_fill_53178_6 rfl rfl rfl ?_
    refine z_icmpge C dJ7_fill_53178_7 rfl rfl ?_ ?_
    · exact z_vret C rfl dJ7_fill_53178_20
    · refine z_aload_n C 0 dJ7_fill_53178_10 rfl rfl rfl ?_
      refine z_iload_n C 2 dJ7_fill_53178_11 rfl rfl rfl ?_
      refine z_iload_n C 1 dJ7_fill_53178_12 rfl rfl rfl ?_
      refine z_iastore C (zlenI q0) rfl dJ7_fill_53178_13 rfl (fun M6 => ?_)
      refine z_iinc (v := (s5.1 + (1 : Int32))) C 2 (fun z => [(2, .int z), (0, .ref q0), (1, .int x1), (3, .int x3)]) dJ7_fill_53178_14 rfl rfl (by decide) (fun _ => rfl) rfl (fun x7 => ?_)
      refine z_goto C dJ7_fill_53178_17 rfl ?_
      exact z_perm [1, 2, 0, 3] rfl (hr4 (x7, M6))
  exact key b hF
set_option maxRecDepth 100000 in
set_option maxHeartbeats 4000000 in
theorem mX4_start (Y : zY) (M : zMem) (b : zMem) (hF : FX4_start M = some b) : zMt Y yX4_start cX4_start 1 none 1 23 [.ref 11] M (zQv Y b) := by
  refine zMt_of (own := RX4) (by decide +kernel) rfl (Nat.le_of_ble_eq_true rfl) (fun X C => ?_)
  have key : zR Y X 1 (zFv Y X (fun b => b)) (FX4_start M) 0 [(0, .ref 11)] [] M := by
    unfold FX4_start
    refine z_aload_n C 0 dX4_start_0 rfl rfl rfl ?_
    refine z_get (v := .ref 12) C 0 zOK4 rfl (by decide) w133 rfl rfl dX4_start_1 rfl ?_
    refine z_iconst C (0 : Int32) dX4_start_4 rfl rfl ?_
    refine z_cv (fun b => b) (fun b hb => z_S (na := 2) C [.ref 12, .int (0 : Int32)] rfl (mJ7_fill_53178 Y 12 (0 : Int32) M b hb) w537 w300 w87 w301 hdJ7_fill_53178 ⟨Nat.le_of_ble_eq_true rfl, Nat.le_of_ble_eq_true rfl⟩ (Nat.le_of_ble_eq_true rfl) rfl dX4_start_5) rfl (fun b1 => ?_)
    refine z_aload_n C 0 dX4_start_8 rfl rfl rfl ?_
    refine z_iconst C (0 : Int32) dX4_start_9 rfl rfl ?_
    refine z_puti C 3 zOK4 rfl (by decide) w139 rfl rfl rfl rfl rfl dX4_start_10 rfl (fun M2 => ?_)
    exact z_vret C rfl dX4_start_13
  exact key b hF
set_option maxRecDepth 100000 in
set_option maxHeartbeats 4000000 in
theorem mX4_take (Y : zY) (x0 : Int32) (x1 : Int32) (M : zMem) (b : Int32 × zMem) (hF : FX4_take x0 x1 M = some b) : zMt Y yX4_take cX4_take 4 (some .int) 0 0 [.ref 11, .int x0, .int x1] M (zQi Y b.1 b.2) := by
  refine zMt_of (own := RX4) (by decide +kernel) rfl (Nat.le_of_ble_eq_true rfl) (fun X C => ?_)
  have key : zR Y X 4 (zFi Y X (fun b => b.1) (fun b => b.2)) (FX4_take x0 x1 M) 0 [(0, .ref 11), (1, .int x0), (2, .int x1)] [] M := by
    unfold FX4_take
    refine z_aload_n C 0 dX4_take_0 rfl rfl rfl ?_
    refine z_get (v := .int (M.1 11 3)) C 3 zOK4 rfl (by decide) w139 rfl rfl dX4_take_1 rfl ?_
    refine z_sipush C (4096 : Int32) dX4_take_4 rfl rfl ?_
    refine z_icmplt C dX4_take_7 rfl rfl ?_ ?_
    · refine z_aload_n C 0 dX4_take_12 rfl rfl rfl ?_
      refine z_get (v := .int (M.1 11 3)) C 3 zOK4 rfl (by decide) w139 rfl rfl dX4_take_13 rfl ?_
      refine z_istore_n C (fun z => [(3, .int z), (0, .ref 11), (1, .int x0), (2, .int x1)]) dX4_take_16 rfl (by decide) (fun _ => rfl) rfl (fun x3 => ?_)
      refine z_aload_n C 1 dX4_take_17 rfl rfl rfl ?_
      refine z_get (v := .ref 13) C 1 zOK4 rfl (by decide) w134 rfl rfl dX4_take_18 rfl ?_
      refine z_iload_n C 0 dX4_take_21 rfl rfl rfl ?_
      refine z_iload_n C 2 dX4_take_22 rfl rfl rfl ?_
      refine z_iastore C 4096 rfl dX4_take_23 rfl (fun M4 => ?_)
      refine z_aload_n C 1 dX4_take_24 rfl rfl rfl ?_
      refine z_get (v := .ref 14) C 2 zOK4 rfl (by decide) w136 rfl rfl dX4_take_25 rfl ?_
      refine z_iload_n C 0 dX4_take_28 rfl rfl rfl ?_
      refine z_iconst C (1 : Int32) dX4_take_29 rfl rfl ?_
      refine z_iastore C 4096 rfl dX4_take_30 rfl (fun M5 => ?_)
      refine z_aload_n C 1 dX4_take_31 rfl rfl rfl ?_
      refine z_dup C dX4_take_32 rfl rfl ?_
      refine z_get (v := .int (M5.1 11 3)) C 3 zOK4 rfl (by decide) w139 rfl rfl dX4_take_33 rfl ?_
      refine z_iconst C (1 : Int32) dX4_take_36 rfl rfl ?_
      refine z_iadd C dX4_take_37 rfl ?_
      refine z_puti C 3 zOK4 rfl (by decide) w139 rfl rfl rfl rfl rfl dX4_take_38 rfl (fun M6 => ?_)
      refine z_aload_n C 1 dX4_take_41 rfl rfl rfl ?_
      refine z_get (v := .ref 12) C 0 zOK4 rfl (by decide) w133 rfl rfl dX4_take_42 rfl ?_
      refine z_iload_n C 3 dX4_take_45 rfl rfl rfl ?_
      refine z_aload_n C 1 dX4_take_46 rfl rfl rfl ?_
      refine z_get (v := .int (M6.1 11 3)) C 3 zOK4 rfl (by decide) w139 rfl rfl dX4_take_47 rfl ?_
      refine z_iastore C 8192 rfl dX4_take_50 rfl (fun M7 => ?_)
      refine z_iload_n C 0 dX4_take_51 rfl rfl rfl ?_
      exact z_iret C rfl rfl dX4_take_52
    · refine z_iconst C (0 : Int32) dX4_take_10 rfl rfl ?_
      exact z_iret C rfl rfl dX4_take_11
  exact key b hF
set_option maxRecDepth 100000 in
set_option maxHeartbeats 4000000 in
theorem mX4_numberOf (Y : zY) (x0 : Int32) (M : zMem) (b : Int32 × zMem) (hF : FX4_numberOf x0 M = some b) : zMt Y yX4_numberOf cX4_numberOf 5 (some .int) 1 23 [.ref 11, .int x0] M (zQi Y b.1 b.2) := by
  refine zMt_of (own := RX4) (by decide +kernel) rfl (Nat.le_of_ble_eq_true rfl) (fun X C => ?_)
  have key : zR Y X 5 (zFi Y X (fun b => b.1) (fun b => b.2)) (FX4_numberOf x0 M) 0 [(0, .ref 11), (1, .int x0)] [] M := by
    unfold FX4_numberOf
    refine z_iload_n C 1 dX4_numberOf_0 rfl rfl rfl ?_
    refine z_ldc C w542 dX4_numberOf_1 rfl ?_
    refine z_imul C dX4_numberOf_3 rfl ?_
    refine z_bipush C (19 : Int32) dX4_numberOf_4 rfl rfl ?_
    refine z_iushr C dX4_numberOf_6 rfl ?_
    refine z_istore_n C (fun z => [(2, .int z), (0, .ref 11), (1, .int x0)]) dX4_numberOf_7 rfl (by decide) (fun _ => rfl) rfl (fun x2 => ?_)
    refine z_iconst C (0 : Int32) dX4_numberOf_8 rfl rfl ?_
    refine z_istoreP_n (lo' := [(3, .int (0 : Int32)), (2, .int x2), (0, .ref 11), (1, .int x0)]) C dX4_numberOf_9 rfl (by decide) rfl rfl ?_
    refine z_loop (sM := fun s => M) (sl := fun s => [(0, .ref 11), (1, .int x0), (2, .int s.1), (3, .int s.2)]) [2, 3, 1, 0] rfl rfl (fun r3 hr3 s4 => ?_)
    unfold FX4_numberOf_L10
    refine z_iload_n C 3 dX4_numberOf_10 rfl rfl rfl ?_
    refine z_sipush C (8192 : Int32) dX4_numberOf_11 rfl rfl ?_
    refine z_icmpge C dX4_numberOf_14 rfl rfl ?_ ?_
    · refine z_iconst C (0 : Int32) dX4_numberOf_78 rfl rfl ?_
      exact z_iret C rfl rfl dX4_numberOf_79
    · refine z_aload_n C 0 dX4_numberOf_17 rfl rfl rfl ?_
      refine z_get (v := .ref 12) C 0 zOK4 rfl (by decide) w133 rfl rfl dX4_numberOf_18 rfl ?_
      refine z_iload_n C 2 dX4_numberOf_21 rfl rfl rfl ?_
      refine z_iaload C 8192 rfl dX4_numberOf_22 rfl ?_
      refine z_iconst C (1 : Int32) dX4_numberOf_23 rfl rfl ?_
      refine z_isub C dX4_numberOf_24 rfl ?_
      refine z_istore C (fun z => [(4, .int z), (0, .ref 11), (1, .int x0), (2, .int s4.1), (3, .int s4.2)]) dX4_numberOf_25 (by decide) (fun _ => rfl) rfl (fun x5 => ?_)
      refine z_iload C 0 dX4_numberOf_27 rfl rfl ?_
      refine z_ifge C dX4_numberOf_29 rfl rfl ?_ ?_
      · refine z_aload_n C 1 dX4_numberOf_39 rfl rfl rfl ?_
        refine z_get (v := .ref 13) C 1 zOK4 rfl (by decide) w134 rfl rfl dX4_numberOf_40 rfl ?_
        refine z_iload C 0 dX4_numberOf_43 rfl rfl ?_
        refine z_iaload C 4096 rfl dX4_numberOf_45 rfl ?_
        refine z_iload_n C 2 dX4_numberOf_46 rfl rfl rfl ?_
        refine z_icmpne C dX4_numberOf_47 rfl rfl ?_ ?_
        · refine z_iload_n C 3 dX4_numberOf_64 rfl rfl rfl ?_
          refine z_iconst C (1 : Int32) dX4_numberOf_65 rfl rfl ?_
          refine z_iadd C dX4_numberOf_66 rfl ?_
          refine z_sipush C (8191 : Int32) dX4_numberOf_67 rfl rfl ?_
          refine z_iand C dX4_numberOf_70 rfl ?_
          refine z_istore_n C (fun z => [(2, .int z), (4, .int x5), (0, .ref 11), (1, .int x0), (3, .int s4.2)]) dX4_numberOf_71 rfl (by decide) (fun _ => rfl) rfl (fun x6 => ?_)
          refine z_iinc (v := (s4.2 + (1 : Int32))) C 4 (fun z => [(3, .int z), (2, .int x6), (4, .int x5), (0, .ref 11), (1, .int x0)]) dX4_numberOf_72 rfl rfl (by decide) (fun _ => rfl) rfl (fun x7 => ?_)
          refine z_goto C dX4_numberOf_75 rfl ?_
          exact z_perm [3, 4, 1, 0] rfl (hr3 (x6, x7))
        · refine z_aload_n C 1 dX4_numberOf_50 rfl rfl rfl ?_
          refine z_get (v := .ref 14) C 2 zOK4 rfl (by decide) w136 rfl rfl dX4_numberOf_51 rfl ?_
          refine z_iload C 0 dX4_numberOf_54 rfl rfl ?_
          refine z_dup2 C dX4_numberOf_56 rfl rfl rfl ?_
          refine z_iaload C 4096 rfl dX4_numberOf_57 rfl ?_
          refine z_iconst C (1 : Int32) dX4_numberOf_58 rfl rfl ?_
          refine z_iadd C dX4_numberOf_59 rfl ?_
          refine z_iastore C 4096 rfl dX4_numberOf_60 rfl (fun M8 => ?_)
          refine z_iload C 0 dX4_numberOf_61 rfl rfl ?_
          exact z_iret C rfl rfl dX4_numberOf_63
      · refine z_aload_n C 1 dX4_numberOf_32 rfl rfl rfl ?_
        refine z_iload_n C 2 dX4_numberOf_33 rfl rfl rfl ?_
        refine z_iload_n C 3 dX4_numberOf_34 rfl rfl rfl ?_
        refine z_ci (fun b => b.1) (fun b => b.2) (fun b hb => z_V (na := 2) (ci := 4) (r := (RX4, TX4, 4)) C [.int x0, .int s4.1] rfl (mX4_take Y x0 s4.1 M b hb) rfl rfl w543 w545 w17 w81 w546 hdX4_take ⟨Nat.le_of_ble_eq_true rfl, Nat.le_of_ble_eq_true rfl⟩ (Nat.le_of_ble_eq_true rfl) rfl dX4_numberOf_35) rfl (fun b9 => ?_)
        exact z_iret C rfl rfl dX4_numberOf_38
  exact key b hF
set_option maxRecDepth 100000 in
set_option maxHeartbeats 4000000 in
theorem mJ9_min_7cf53 (Y : zY) (x0 : Int32) (x1 : Int32) (M : zMem) (b : Int32) (hF : FJ9_min_7cf53 x0 x1 = some b) : zMt Y yJ9_min_7cf53 cJ9_min_7cf53 2 (some .int) 0 0 [.int x0, .int x1] M (zQi Y b M) := by
  refine zMt_ofF (own := RJ9) (by decide +kernel) rfl (Nat.le_of_ble_eq_true rfl) (fun X C => ?_)
  have key : zR Y X 2 (zFi Y X (fun b => b) (fun _ => M)) (FJ9_min_7cf53 x0 x1) 0 [(0, .int x0), (1, .int x1)] [] M := by
    unfold FJ9_min_7cf53
    refine z_iload_n C 0 dJ9_min_7cf53_0 rfl rfl rfl ?_
    refine z_iload_n C 1 dJ9_min_7cf53_1 rfl rfl rfl ?_
    refine z_icmpgt C dJ9_min_7cf53_2 rfl rfl ?_ ?_
    · refine z_iload_n C 1 dJ9_min_7cf53_9 rfl rfl rfl ?_
      exact z_iret C rfl rfl dJ9_min_7cf53_10
    · refine z_iload_n C 0 dJ9_min_7cf53_5 rfl rfl rfl ?_
      refine z_goto C dJ9_min_7cf53_6 rfl ?_
      exact z_iret C rfl rfl dJ9_min_7cf53_10
  exact key b hF
set_option maxRecDepth 100000 in
set_option maxHeartbeats 4000000 in
theorem mJ9_max_7cf53 (Y : zY) (x0 : Int32) (x1 : Int32) (M : zMem) (b : Int32) (hF : FJ9_max_7cf53 x0 x1 = some b) : zMt Y yJ9_max_7cf53 cJ9_max_7cf53 2 (some .int) 0 0 [.int x0, .int x1] M (zQi Y b M) := by
  refine zMt_ofF (own := RJ9) (by decide +kernel) rfl (Nat.le_of_ble_eq_true rfl) (fun X C => ?_)
  have key : zR Y X 2 (zFi Y X (fun b => b) (fun _ => M)) (FJ9_max_7cf53 x0 x1) 0 [(0, .int x0), (1, .int x1)] [] M := by
    unfold FJ9_max_7cf53
    refine z_iload_n C 0 dJ9_max_7cf53_0 rfl rfl rfl ?_
    refine z_iload_n C 1 dJ9_max_7cf53_1 rfl rfl rfl ?_
    refine z_icmplt C dJ9_max_7cf53_2 rfl rfl ?_ ?_
    · refine z_iload_n C 1 dJ9_max_7cf53_9 rfl rfl rfl ?_
      exact z_iret C rfl rfl dJ9_max_7cf53_10
    · refine z_iload_n C 0 dJ9_max_7cf53_5 rfl rfl rfl ?_
      refine z_goto C dJ9_max_7cf53_6 rfl ?_
      exact z_iret C rfl rfl dJ9_max_7cf53_10
  exact key b hF
set_option maxRecDepth 100000 in
set_option maxHeartbeats 4000000 in
theorem mX0_widen (Y : zY) (x0 : Int32) (x1 : Int32) (M : zMem) (b : zMem) (hF : FX0_widen x0 x1 M = some b) : zMt Y yX0_widen cX0_widen 6 none 2 47 [.ref 96, .int x0, .int x1] M (zQv Y b) := by
  refine zMt_of (own := RX0) (by decide +kernel) rfl (Nat.le_of_ble_eq_true rfl) (fun X C => ?_)
  have key : zR Y X 6 (zFv Y X (fun b => b)) (FX0_widen x0 x1 M) 0 [(0, .ref 96), (1, .int x0), (2, .int x1)] [] M := by
    unfold FX0_widen
    refine z_aload_n C 0 dX0_widen_0 rfl rfl rfl ?_
    refine z_get (v := .ref 11) C 1 zOK0 rfl (by decide) w303 rfl rfl dX0_widen_1 rfl ?_
    refine z_getN (v := .int (M.1 11 3)) C 3 zOK4 rfl (by decide) (List.mem_of_getElem? (i := 8) rfl) rfl rfl dX0_widen_4 rfl ?_
    refine z_istore_n C (fun z => [(3, .int z), (0, .ref 96), (1, .int x0), (2, .int x1)]) dX0_widen_7 rfl (by decide) (fun _ => rfl) rfl (fun x3 => ?_)
    refine z_aload_n C 1 dX0_widen_8 rfl rfl rfl ?_
    refine z_get (v := .ref 11) C 1 zOK0 rfl (by decide) w303 rfl rfl dX0_widen_9 rfl ?_
    refine z_iload_n C 3 dX0_widen_12 rfl rfl rfl ?_
    refine z_ci (fun b => b.1) (fun b => b.2) (fun b hb => z_VN (na := 1) (ci := 4) (r := (RX4, TX4, 4)) C [.int x1] rfl (mX4_numberOf Y x1 M b hb) rfl rfl (List.mem_of_getElem? (i := 48) rfl) w540 w16 w81 w541 hdX4_numberOfN ⟨Nat.le_of_ble_eq_true rfl, Nat.le_of_ble_eq_true rfl⟩ (Nat.le_of_ble_eq_true rfl) rfl dX0_widen_13) rfl (fun b4 => ?_)
    refine z_istoreP (lo' := [(4, .int b4.1), (3, .int x3), (0, .ref 96), (1, .int x0), (2, .int x1)]) C dX0_widen_16 (by decide) rfl rfl ?_
    refine z_iload C 0 dX0_widen_18 rfl rfl ?_
    refine z_sipush C (2401 : Int32) dX0_widen_20 rfl rfl ?_
    refine z_icmplt C dX0_widen_23 rfl rfl ?_ ?_
    · refine z_aload_n C 2 dX0_widen_27 rfl rfl rfl ?_
      refine z_get (v := .ref 11) C 1 zOK0 rfl (by decide) w303 rfl rfl dX0_widen_28 rfl ?_
      refine z_getN (v := .int (b4.2.1 11 3)) C 3 zOK4 rfl (by decide) (List.mem_of_getElem? (i := 8) rfl) rfl rfl dX0_widen_31 rfl ?_
      refine z_iload_n C 1 dX0_widen_34 rfl rfl rfl ?_
      refine z_join (fun k6 => ∀ (x5 : Int32), zR Y X 6 (zFv Y X (fun b => b)) (k6 x5) 43 [(0, .ref 96), (1, .int x0), (4, .int b4.1)] [.int x5] b4.2) (fun x5 => ?_) (fun k6 hk6 => ?_)
      · refine z_istoreP (lo' := [(5, .int x5), (0, .ref 96), (1, .int x0), (4, .int b4.1)]) C dX0_widen_43 (by decide) rfl rfl ?_
        refine z_aload_n C 1 dX0_widen_45 rfl rfl rfl ?_
        refine z_get (v := .ref 98) C 3 zOK0 rfl (by decide) w306 rfl rfl dX0_widen_46 rfl ?_
        refine z_iload C 3 dX0_widen_49 rfl rfl ?_
        refine z_iload C 0 dX0_widen_51 rfl rfl ?_
        refine z_join (fun k8 => ∀ (x7 : Int32), zR Y X 6 (zFv Y X (fun b => b)) (k8 x7) 71 [(0, .ref 96), (1, .int x0), (4, .int b4.1), (5, .int x5)] [.int x7, .int b4.1, .ref 98] b4.2) (fun x7 => ?_) (fun k8 hk8 => ?_)
        · refine z_iastore C 2401 rfl dX0_widen_71 rfl (fun M9 => ?_)
          refine z_aload_n C 0 dX0_widen_72 rfl rfl rfl ?_
          refine z_get (v := .ref 99) C 4 zOK0 rfl (by decide) w307 rfl rfl dX0_widen_73 rfl ?_
          refine z_iload C 2 dX0_widen_76 rfl rfl ?_
          refine z_iload C 3 dX0_widen_78 rfl rfl ?_
          refine z_join (fun k11 => ∀ (x10 : Int32), zR Y X 6 (zFv Y X (fun b => b)) (k11 x10) 98 [] [.int x10, .int b4.1, .ref 99] M9) (fun x10 => ?_) (fun k11 hk11 => ?_)
          · refine z_iastore C 2401 rfl dX0_widen_98 rfl (fun M12 => ?_)
            exact z_vret C rfl dX0_widen_99
          · refine z_ifeq C dX0_widen_80 rfl rfl ?_ ?_
            · refine z_aload_n C 0 dX0_widen_87 rfl rfl rfl ?_
              refine z_get (v := .ref 99) C 4 zOK0 rfl (by decide) w307 rfl rfl dX0_widen_88 rfl ?_
              refine z_iload C 2 dX0_widen_91 rfl rfl ?_
              refine z_iaload C 2401 rfl dX0_widen_93 rfl ?_
              refine z_iload_n C 1 dX0_widen_94 rfl rfl rfl ?_
              refine z_ci (fun b => b) (fun _ => M9) (fun b hb => z_S (na := 2) C [.int (zrd M9 99 b4.1), .int x0] rfl (mJ9_max_7cf53 Y (zrd M9 99 b4.1) x0 M9 b hb) w760 w486 w89 w487 hdJ9_max_7cf53 ⟨Nat.le_of_ble_eq_true rfl, Nat.le_of_ble_eq_true rfl⟩ (Nat.le_of_ble_eq_true rfl) rfl dX0_widen_95) rfl (fun b13 => ?_)
              exact z_perm [] rfl (hk11 b13)
            · refine z_iload_n C 1 dX0_widen_83 rfl rfl rfl ?_
              refine z_goto C dX0_widen_84 rfl ?_
              exact z_perm [] rfl (hk11 x0)
        · refine z_ifeq C dX0_widen_53 rfl rfl ?_ ?_
          · refine z_aload_n C 1 dX0_widen_60 rfl rfl rfl ?_
            refine z_get (v := .ref 98) C 3 zOK0 rfl (by decide) w306 rfl rfl dX0_widen_61 rfl ?_
            refine z_iload C 3 dX0_widen_64 rfl rfl ?_
            refine z_iaload C 2401 rfl dX0_widen_66 rfl ?_
            refine z_iload_n C 2 dX0_widen_67 rfl rfl rfl ?_
            refine z_ci (fun b => b) (fun _ => b4.2) (fun b hb => z_S (na := 2) C [.int (zrd b4.2 98 b4.1), .int x0] rfl (mJ9_min_7cf53 Y (zrd b4.2 98 b4.1) x0 b4.2 b hb) w759 w489 w89 w490 hdJ9_min_7cf53 ⟨Nat.le_of_ble_eq_true rfl, Nat.le_of_ble_eq_true rfl⟩ (Nat.le_of_ble_eq_true rfl) rfl dX0_widen_68) rfl (fun b14 => ?_)
            exact z_perm [1, 2, 3, 0] rfl (hk8 b14)
          · refine z_iload_n C 2 dX0_widen_56 rfl rfl rfl ?_
            refine z_goto C dX0_widen_57 rfl ?_
            exact z_perm [1, 2, 3, 0] rfl (hk8 x0)
      · refine z_icmple C dX0_widen_35 rfl rfl ?_ ?_
        · refine z_iconst C (0 : Int32) dX0_widen_42 rfl rfl ?_
          exact z_perm [2, 3, 0] rfl (hk6 (0 : Int32))
        · refine z_iconst C (1 : Int32) dX0_widen_38 rfl rfl ?_
          refine z_goto C dX0_widen_39 rfl ?_
          exact z_perm [2, 3, 0] rfl (hk6 (1 : Int32))
    · exact z_vret C rfl dX0_widen_26
  exact key b hF
set_option maxRecDepth 100000 in
set_option maxHeartbeats 4000000 in
theorem mX0_contradictions (Y : zY) (M : zMem) (b : Int32 × zMem) (hF : FX0_contradictions M = some b) : zMt Y yX0_contradictions cX0_contradictions 3 (some .int) 3 72 [.ref 96] M (zQi Y b.1 b.2) := by
  refine zMt_of (own := RX0) (by decide +kernel) rfl (Nat.le_of_ble_eq_true rfl) (fun X C => ?_)
  have key : zR Y X 3 (zFi Y X (fun b => b.1) (fun b => b.2)) (FX0_contradictions M) 0 [(0, .ref 96)] [] M := by
    unfold FX0_contradictions
    refine z_aload_n C 0 dX0_contradictions_0 rfl rfl rfl ?_
    refine z_get (v := .ref 11) C 1 zOK0 rfl (by decide) w303 rfl rfl dX0_contradictions_1 rfl ?_
    refine z_cv (fun b => b) (fun b hb => z_VN (na := 0) (ci := 4) (r := (RX4, TX4, 4)) C [] rfl (mX4_start Y M b hb) rfl rfl (List.mem_of_getElem? (i := 47) rfl) w535 w15 w81 w536 hdX4_startN ⟨Nat.le_of_ble_eq_true rfl, Nat.le_of_ble_eq_true rfl⟩ (Nat.le_of_ble_eq_true rfl) rfl dX0_contradictions_4) rfl (fun b1 => ?_)
    refine z_iconst C (0 : Int32) dX0_contradictions_7 rfl rfl ?_
    refine z_istoreP_n (lo' := [(1, .int (0 : Int32)), (0, .ref 96)]) C dX0_contradictions_8 rfl (by decide) rfl rfl ?_
    refine z_loop (sM := fun s => s.2) (sl := fun s => [(0, .ref 96), (1, .int s.1)]) [1, 0] rfl rfl (fun r2 hr2 s3 => ?_)
    unfold FX0_contradictions_L9
    refine z_iload_n C 1 dX0_contradictions_9 rfl rfl rfl ?_
    refine z_sipush C (2401 : Int32) dX0_contradictions_10 rfl rfl ?_
    refine z_icmpge C dX0_contradictions_13 rfl rfl ?_ ?_
    · refine z_iconst C (0 : Int32) dX0_contradictions_52 rfl rfl ?_
      refine z_istoreP_n (lo' := [(1, .int (0 : Int32)), (0, .ref 96)]) C dX0_contradictions_53 rfl (by decide) rfl rfl ?_
      refine z_iconst C (0 : Int32) dX0_contradictions_54 rfl rfl ?_
      refine z_istoreP_n (lo' := [(2, .int (0 : Int32)), (1, .int (0 : Int32)), (0, .ref 96)]) C dX0_contradictions_55 rfl (by decide) rfl rfl ?_
      refine z_loop (sM := fun s => s3.2) (sl := fun s => [(0, .ref 96), (1, .int s.1), (2, .int s.2)]) [2, 1, 0] rfl rfl (fun r4 hr4 s5 => ?_)
      unfold FX0_contradictions_L56
      refine z_iload_n C 2 dX0_contradictions_56 rfl rfl rfl ?_
      refine z_aload_n C 0 dX0_contradictions_57 rfl rfl rfl ?_
      refine z_get (v := .ref 11) C 1 zOK0 rfl (by decide) w303 rfl rfl dX0_contradictions_58 rfl ?_
      refine z_getN (v := .int (s3.2.1 11 3)) C 3 zOK4 rfl (by decide) (List.mem_of_getElem? (i := 8) rfl) rfl rfl dX0_contradictions_61 rfl ?_
      refine z_icmpge C dX0_contradictions_64 rfl rfl ?_ ?_
      · refine z_iload_n C 1 dX0_contradictions_108 rfl rfl rfl ?_
        exact z_iret C rfl rfl dX0_contradictions_109
      · refine z_iload_n C 2 dX0_contradictions_67 rfl rfl rfl ?_
        refine z_sipush C (2401 : Int32) dX0_contradictions_68 rfl rfl ?_
        refine z_icmpge C dX0_contradictions_71 rfl rfl ?_ ?_
        · refine z_iload_n C 1 dX0_contradictions_108 rfl rfl rfl ?_
          exact z_iret C rfl rfl dX0_contradictions_109
        · refine z_iload_n C 1 dX0_contradictions_74 rfl rfl rfl ?_
          refine z_aload_n C 0 dX0_contradictions_75 rfl rfl rfl ?_
          refine z_get (v := .ref 99) C 4 zOK0 rfl (by decide) w307 rfl rfl dX0_contradictions_76 rfl ?_
          refine z_iload_n C 2 dX0_contradictions_79 rfl rfl rfl ?_
          refine z_iaload C 2401 rfl dX0_contradictions_80 rfl ?_
          refine z_aload_n C 0 dX0_contradictions_81 rfl rfl rfl ?_
          refine z_get (v := .ref 98) C 3 zOK0 rfl (by decide) w306 rfl rfl dX0_contradictions_82 rfl ?_
          refine z_iload_n C 2 dX0_contradictions_85 rfl rfl rfl ?_
          refine z_iaload C 2401 rfl dX0_contradictions_86 rfl ?_
          refine z_isub C dX0_contradictions_87 rfl ?_
          refine z_aload_n C 0 dX0_contradictions_88 rfl rfl rfl ?_
          refine z_get (v := .int (s3.2.1 96 5)) C 5 zOK0 rfl (by decide) w308 rfl rfl dX0_contradictions_89 rfl ?_
          refine z_join (fun k7 => ∀ (x6 : Int32), zR Y X 3 (zFi Y X (fun b => b.1) (fun b => b.2)) (k7 x6) 100 [(0, .ref 96), (2, .int s5.2)] [.int x6, .int s5.1] s3.2) (fun x6 => ?_) (fun k7 hk7 => ?_)
          · refine z_iadd C dX0_contradictions_100 rfl ?_
            refine z_istore_n C (fun z => [(1, .int z), (0, .ref 96), (2, .int s5.2)]) dX0_contradictions_101 rfl (by decide) (fun _ => rfl) rfl (fun x8 => ?_)
            refine z_iinc (v := (s5.2 + (1 : Int32))) C 2 (fun z => [(2, .int z), (1, .int x8), (0, .ref 96)]) dX0_contradictions_102 rfl rfl (by decide) (fun _ => rfl) rfl (fun x9 => ?_)
            refine z_goto C dX0_contradictions_105 rfl ?_
            exact z_perm [2, 1, 0] rfl (hr4 (x8, x9))
          · refine z_icmple C dX0_contradictions_92 rfl rfl ?_ ?_
            · refine z_iconst C (0 : Int32) dX0_contradictions_99 rfl rfl ?_
              exact z_perm [0, 2] rfl (hk7 (0 : Int32))
            · refine z_iconst C (1 : Int32) dX0_contradictions_95 rfl rfl ?_
              refine z_goto C dX0_contradictions_96 rfl ?_
              exact z_perm [0, 2] rfl (hk7 (1 : Int32))
    · refine z_aload_n C 0 dX0_contradictions_16 rfl rfl rfl ?_
      refine z_get (v := .ref 97) C 2 zOK0 rfl (by decide) w304 rfl rfl dX0_contradictions_17 rfl ?_
      refine z_iload_n C 1 dX0_contradictions_20 rfl rfl rfl ?_
      refine z_iaload C 2401 rfl dX0_contradictions_21 rfl ?_
      refine z_bipush C (-9 : Int32) dX0_contradictions_22 rfl rfl ?_
      refine z_icmpeq C dX0_contradictions_24 rfl rfl ?_ ?_
      · refine z_iinc (v := (s3.1 + (1 : Int32))) C 1 (fun z => [(1, .int z), (0, .ref 96)]) dX0_contradictions_46 rfl rfl (by decide) (fun _ => rfl) rfl (fun x10 => ?_)
        refine z_goto C dX0_contradictions_49 rfl ?_
        exact z_perm [1, 0] rfl (hr2 (x10, s3.2))
      · refine z_aload_n C 0 dX0_contradictions_27 rfl rfl rfl ?_
        refine z_aload_n C 0 dX0_contradictions_28 rfl rfl rfl ?_
        refine z_get (v := .ref 97) C 2 zOK0 rfl (by decide) w304 rfl rfl dX0_contradictions_29 rfl ?_
        refine z_iload_n C 1 dX0_contradictions_32 rfl rfl rfl ?_
        refine z_iaload C 2401 rfl dX0_contradictions_33 rfl ?_
        refine z_aload_n C 0 dX0_contradictions_34 rfl rfl rfl ?_
        refine z_get (v := .ref 15) C 0 zOK0 rfl (by decide) w302 rfl rfl dX0_contradictions_35 rfl ?_
        refine z_getN (v := .ref 18) C 3 zOK3 rfl (by decide) (List.mem_of_getElem? (i := 10) rfl) rfl rfl dX0_contradictions_38 rfl ?_
        refine z_iload_n C 1 dX0_contradictions_41 rfl rfl rfl ?_
        refine z_iaload C 2401 rfl dX0_contradictions_42 rfl ?_
        refine z_cv (fun b => b) (fun b hb => z_V (na := 2) (ci := 0) (r := (RX0, TX0, 6)) C [.int (zrd s3.2 97 s3.1), .int (zrd s3.2 18 s3.1)] rfl (mX0_widen Y (zrd s3.2 97 s3.1) (zrd s3.2 18 s3.1) s3.2 b hb) rfl rfl w754 w756 w46 w86 w757 hdX0_widen ⟨Nat.le_of_ble_eq_true rfl, Nat.le_of_ble_eq_true rfl⟩ (Nat.le_of_ble_eq_true rfl) rfl dX0_contradictions_43) rfl (fun b11 => ?_)
        refine z_iinc (v := (s3.1 + (1 : Int32))) C 1 (fun z => [(1, .int z), (0, .ref 96)]) dX0_contradictions_46 rfl rfl (by decide) (fun _ => rfl) rfl (fun x12 => ?_)
        refine z_goto C dX0_contradictions_49 rfl ?_
        exact z_perm [1, 0] rfl (hr2 (x12, b11))
  exact key b hF
set_option maxRecDepth 100000 in
set_option maxHeartbeats 4000000 in
theorem mX1_queueNeighbours (Y : zY) (x0 : Int32) (x1 : Int32) (M : zMem) (b : Int32 × zMem) (hF : FX1_queueNeighbours x0 x1 M = some b) : zMt Y yX1_queueNeighbours cX1_queueNeighbours 9 (some .int) 1 21 [.ref 20, .int x0, .int x1] M (zQi Y b.1 b.2) := by
  refine zMt_of (own := RX1) (by decide +kernel) rfl (Nat.le_of_ble_eq_true rfl) (fun X C => ?_)
  have key : zR Y X 9 (zFi Y X (fun b => b.1) (fun b => b.2)) (FX1_queueNeighbours x0 x1 M) 0 [(0, .ref 20), (1, .int x0), (2, .int x1)] [] M := by
    unfold FX1_queueNeighbours
    refine z_iload_n C 2 dX1_queueNeighbours_0 rfl rfl rfl ?_
    refine z_istoreP_n (lo' := [(3, .int x1), (0, .ref 20), (1, .int x0), (2, .int x1)]) C dX1_queueNeighbours_1 rfl (by decide) rfl rfl ?_
    refine z_iload_n C 2 dX1_queueNeighbours_2 rfl rfl rfl ?_
    refine z_bipush C (49 : Int32) dX1_queueNeighbours_3 rfl rfl ?_
    refine z_iremK C dX1_queueNeighbours_5 (by decide) rfl ?_
    refine z_istore C (fun z => [(4, .int z), (3, .int x1), (0, .ref 20), (1, .int x0), (2, .int x1)]) dX1_queueNeighbours_6 (by decide) (fun _ => rfl) rfl (fun x3 => ?_)
    refine z_iload_n C 3 dX1_queueNeighbours_8 rfl rfl rfl ?_
    refine z_bipush C (49 : Int32) dX1_queueNeighbours_9 rfl rfl ?_
    refine z_idivK C dX1_queueNeighbours_11 (by decide) rfl ?_
    refine z_istore C (fun z => [(5, .int z), (4, .int x3), (3, .int x1), (0, .ref 20), (1, .int x0), (2, .int x1)]) dX1_queueNeighbours_12 (by decide) (fun _ => rfl) rfl (fun x4 => ?_)
    refine z_iload C 0 dX1_queueNeighbours_14 rfl rfl ?_
    refine z_iconst C (1 : Int32) dX1_queueNeighbours_16 rfl rfl ?_
    refine z_isub C dX1_queueNeighbours_17 rfl ?_
    refine z_iconst C (0 : Int32) dX1_queueNeighbours_18 rfl rfl ?_
    refine z_ci (fun b => b) (fun _ => M) (fun b hb => z_S (na := 2) C [.int (x4 - (1 : Int32)), .int (0 : Int32)] rfl (mJ9_max_7cf53 Y (x4 - (1 : Int32)) (0 : Int32) M b hb) w485 w486 w89 w487 hdJ9_max_7cf53 ⟨Nat.le_of_ble_eq_true rfl, Nat.le_of_ble_eq_true rfl⟩ (Nat.le_of_ble_eq_true rfl) rfl dX1_queueNeighbours_19) rfl (fun b5 => ?_)
    refine z_istoreP (lo' := [(6, .int b5), (5, .int x4), (4, .int x3), (3, .int x1), (0, .ref 20), (1, .int x0), (2, .int x1)]) C dX1_queueNeighbours_22 (by decide) rfl rfl ?_
    refine z_loop (sM := fun s => s.2.2) (sl := fun s => [(0, .ref 20), (3, .int s.1), (4, .int x3), (5, .int x4), (6, .int s.2.1)]) [4, 3, 2, 1, 0] rfl rfl (fun r6 hr6 s7 => ?_)
    unfold FX1_queueNeighbours_L24
    refine z_iload C 4 dX1_queueNeighbours_24 rfl rfl ?_
    refine z_iload C 3 dX1_queueNeighbours_26 rfl rfl ?_
    refine z_iconst C (1 : Int32) dX1_queueNeighbours_28 rfl rfl ?_
    refine z_iadd C dX1_queueNeighbours_29 rfl ?_
    refine z_bipush C (48 : Int32) dX1_queueNeighbours_30 rfl rfl ?_
    refine z_ci (fun b => b) (fun _ => s7.2.2) (fun b hb => z_S (na := 2) C [.int (x4 + (1 : Int32)), .int (48 : Int32)] rfl (mJ9_min_7cf53 Y (x4 + (1 : Int32)) (48 : Int32) s7.2.2 b hb) w488 w489 w89 w490 hdJ9_min_7cf53 ⟨Nat.le_of_ble_eq_true rfl, Nat.le_of_ble_eq_true rfl⟩ (Nat.le_of_ble_eq_true rfl) rfl dX1_queueNeighbours_32) rfl (fun b8 => ?_)
    refine z_icmpgt C dX1_queueNeighbours_35 rfl rfl ?_ ?_
    · refine z_iload_n C 1 dX1_queueNeighbours_120 rfl rfl rfl ?_
      exact z_iret C rfl rfl dX1_queueNeighbours_121
    · refine z_iload C 2 dX1_queueNeighbours_38 rfl rfl ?_
      refine z_iconst C (1 : Int32) dX1_queueNeighbours_40 rfl rfl ?_
      refine z_isub C dX1_queueNeighbours_41 rfl ?_
      refine z_iconst C (0 : Int32) dX1_queueNeighbours_42 rfl rfl ?_
      refine z_ci (fun b => b) (fun _ => s7.2.2) (fun b hb => z_S (na := 2) C [.int (x3 - (1 : Int32)), .int (0 : Int32)] rfl (mJ9_max_7cf53 Y (x3 - (1 : Int32)) (0 : Int32) s7.2.2 b hb) w485 w486 w89 w487 hdJ9_max_7cf53 ⟨Nat.le_of_ble_eq_true rfl, Nat.le_of_ble_eq_true rfl⟩ (Nat.le_of_ble_eq_true rfl) rfl dX1_queueNeighbours_43) rfl (fun b9 => ?_)
      refine z_istoreP (lo' := [(7, .int b9), (0, .ref 20), (3, .int s7.1), (4, .int x3), (5, .int x4), (6, .int s7.2.1)]) C dX1_queueNeighbours_46 (by decide) rfl rfl ?_
      refine z_loop (sM := fun s => s.2.2) (sl := fun s => [(0, .ref 20), (3, .int s.1), (4, .int x3), (5, .int x4), (6, .int s7.2.1), (7, .int s.2.1)]) [1, 2, 3, 4, 5, 0] rfl rfl (fun r10 hr10 s11 => ?_)
      unfold FX1_queueNeighbours_L48
      refine z_iload C 5 dX1_queueNeighbours_48 rfl rfl ?_
      refine z_iload C 2 dX1_queueNeighbours_50 rfl rfl ?_
      refine z_iconst C (1 : Int32) dX1_queueNeighbours_52 rfl rfl ?_
      refine z_iadd C dX1_queueNeighbours_53 rfl ?_
      refine z_bipush C (48 : Int32) dX1_queueNeighbours_54 rfl rfl ?_
      refine z_ci (fun b => b) (fun _ => s11.2.2) (fun b hb => z_S (na := 2) C [.int (x3 + (1 : Int32)), .int (48 : Int32)] rfl (mJ9_min_7cf53 Y (x3 + (1 : Int32)) (48 : Int32) s11.2.2 b hb) w488 w489 w89 w490 hdJ9_min_7cf53 ⟨Nat.le_of_ble_eq_true rfl, Nat.le_of_ble_eq_true rfl⟩ (Nat.le_of_ble_eq_true rfl) rfl dX1_queueNeighbours_56) rfl (fun b12 => ?_)
      refine z_icmpgt C dX1_queueNeighbours_59 rfl rfl ?_ ?_
      · refine z_iinc (v := (s7.2.1 + (1 : Int32))) C 4 (fun z => [(6, .int z), (0, .ref 20), (3, .int s11.1), (4, .int x3), (5, .int x4), (7, .int s11.2.1)]) dX1_queueNeighbours_114 rfl rfl (by decide) (fun _ => rfl) rfl (fun x13 => ?_)
        refine z_goto C dX1_queueNeighbours_117 rfl ?_
        exact z_perm [1, 2, 3, 4, 0] rfl (hr6 (s11.1, x13, s11.2.2))
      · refine z_iload C 4 dX1_queueNeighbours_62 rfl rfl ?_
        refine z_bipush C (49 : Int32) dX1_queueNeighbours_64 rfl rfl ?_
        refine z_imul C dX1_queueNeighbours_66 rfl ?_
        refine z_iload C 5 dX1_queueNeighbours_67 rfl rfl ?_
        refine z_iadd C dX1_queueNeighbours_69 rfl ?_
        refine z_istore C (fun z => [(8, .int z), (0, .ref 20), (3, .int s11.1), (4, .int x3), (5, .int x4), (6, .int s7.2.1), (7, .int s11.2.1)]) dX1_queueNeighbours_70 (by decide) (fun _ => rfl) rfl (fun x14 => ?_)
        refine z_aload_n C 1 dX1_queueNeighbours_72 rfl rfl rfl ?_
        refine z_get (v := .ref 21) C 0 zOK1 rfl (by decide) w185 rfl rfl dX1_queueNeighbours_73 rfl ?_
        refine z_iload C 0 dX1_queueNeighbours_76 rfl rfl ?_
        refine z_zaload C 2401 rfl dX1_queueNeighbours_78 rfl ?_
        refine z_ifeq C dX1_queueNeighbours_79 rfl rfl ?_ ?_
        · refine z_iinc (v := (s11.2.1 + (1 : Int32))) C 6 (fun z => [(7, .int z), (8, .int x14), (0, .ref 20), (3, .int s11.1), (4, .int x3), (5, .int x4), (6, .int s7.2.1)]) dX1_queueNeighbours_108 rfl rfl (by decide) (fun _ => rfl) rfl (fun x15 => ?_)
          refine z_goto C dX1_queueNeighbours_111 rfl ?_
          exact z_perm [2, 3, 4, 5, 6, 0] rfl (hr10 (s11.1, x15, s11.2.2))
        · refine z_iload_n C 2 dX1_queueNeighbours_82 rfl rfl rfl ?_
          refine z_sipush C (2401 : Int32) dX1_queueNeighbours_83 rfl rfl ?_
          refine z_icmpge C dX1_queueNeighbours_86 rfl rfl ?_ ?_
          · refine z_iinc (v := (s11.2.1 + (1 : Int32))) C 6 (fun z => [(7, .int z), (8, .int x14), (0, .ref 20), (3, .int s11.1), (4, .int x3), (5, .int x4), (6, .int s7.2.1)]) dX1_queueNeighbours_108 rfl rfl (by decide) (fun _ => rfl) rfl (fun x16 => ?_)
            refine z_goto C dX1_queueNeighbours_111 rfl ?_
            exact z_perm [2, 3, 4, 5, 6, 0] rfl (hr10 (s11.1, x16, s11.2.2))
          · refine z_aload_n C 1 dX1_queueNeighbours_89 rfl rfl rfl ?_
            refine z_get (v := .ref 21) C 0 zOK1 rfl (by decide) w185 rfl rfl dX1_queueNeighbours_90 rfl ?_
            refine z_iload C 0 dX1_queueNeighbours_93 rfl rfl ?_
            refine z_iconst C (0 : Int32) dX1_queueNeighbours_95 rfl rfl ?_
            refine z_zastore C 2401 rfl dX1_queueNeighbours_96 rfl (fun M17 => ?_)
            refine z_aload_n C 1 dX1_queueNeighbours_97 rfl rfl rfl ?_
            refine z_get (v := .ref 22) C 1 zOK1 rfl (by decide) w187 rfl rfl dX1_queueNeighbours_98 rfl ?_
            refine z_iload_n C 2 dX1_queueNeighbours_101 rfl rfl rfl ?_
            refine z_iload C 0 dX1_queueNeighbours_102 rfl rfl ?_
            refine z_iastore C 2401 rfl dX1_queueNeighbours_104 rfl (fun M18 => ?_)
            refine z_iinc (v := (s11.1 + (1 : Int32))) C 2 (fun z => [(3, .int z), (8, .int x14), (0, .ref 20), (4, .int x3), (5, .int x4), (6, .int s7.2.1), (7, .int s11.2.1)]) dX1_queueNeighbours_105 rfl rfl (by decide) (fun _ => rfl) rfl (fun x19 => ?_)
            refine z_iinc (v := (s11.2.1 + (1 : Int32))) C 6 (fun z => [(7, .int z), (3, .int x19), (8, .int x14), (0, .ref 20), (4, .int x3), (5, .int x4), (6, .int s7.2.1)]) dX1_queueNeighbours_108 rfl rfl (by decide) (fun _ => rfl) rfl (fun x20 => ?_)
            refine z_goto C dX1_queueNeighbours_111 rfl ?_
            exact z_perm [3, 1, 4, 5, 6, 0] rfl (hr10 (x19, x20, M18))
  exact key b hF
set_option maxRecDepth 100000 in
set_option maxHeartbeats 4000000 in
theorem mX1_collect (Y : zY) (x0 : Int32) (M : zMem) (b : Int32 × zMem) (hF : FX1_collect x0 M = some b) : zMt Y yX1_collect cX1_collect 4 (some .int) 2 49 [.ref 20, .int x0] M (zQi Y b.1 b.2) := by
  refine zMt_of (own := RX1) (by decide +kernel) rfl (Nat.le_of_ble_eq_true rfl) (fun X C => ?_)
  have key : zR Y X 4 (zFi Y X (fun b => b.1) (fun b => b.2)) (FX1_collect x0 M) 0 [(0, .ref 20), (1, .int x0)] [] M := by
    unfold FX1_collect
    refine z_aload_n C 0 dX1_collect_0 rfl rfl rfl ?_
    refine z_get (v := .ref 21) C 0 zOK1 rfl (by decide) w185 rfl rfl dX1_collect_1 rfl ?_
    refine z_iload_n C 1 dX1_collect_4 rfl rfl rfl ?_
    refine z_iconst C (0 : Int32) dX1_collect_5 rfl rfl ?_
    refine z_zastore C 2401 rfl dX1_collect_6 rfl (fun M2 => ?_)
    refine z_aload_n C 0 dX1_collect_7 rfl rfl rfl ?_
    refine z_get (v := .ref 22) C 1 zOK1 rfl (by decide) w187 rfl rfl dX1_collect_8 rfl ?_
    refine z_iconst C (0 : Int32) dX1_collect_11 rfl rfl ?_
    refine z_iload_n C 1 dX1_collect_12 rfl rfl rfl ?_
    refine z_iastore C 2401 rfl dX1_collect_13 rfl (fun M3 => ?_)
    refine z_iconst C (1 : Int32) dX1_collect_14 rfl rfl ?_
    refine z_istoreP_n (lo' := [(2, .int (1 : Int32)), (0, .ref 20), (1, .int x0)]) C dX1_collect_15 rfl (by decide) rfl rfl ?_
    refine z_iconst C (0 : Int32) dX1_collect_16 rfl rfl ?_
    refine z_istoreP_n (lo' := [(3, .int (0 : Int32)), (2, .int (1 : Int32)), (0, .ref 20), (1, .int x0)]) C dX1_collect_17 rfl (by decide) rfl rfl ?_
    refine z_loop (sM := fun s => s.2.2) (sl := fun s => [(0, .ref 20), (2, .int s.1), (3, .int s.2.1)]) [2, 1, 0] rfl rfl (fun r4 hr4 s5 => ?_)
    unfold FX1_collect_L18
    refine z_iload_n C 2 dX1_collect_18 rfl rfl rfl ?_
    refine z_iload_n C 1 dX1_collect_19 rfl rfl rfl ?_
    refine z_icmpge C dX1_collect_20 rfl rfl ?_ ?_
    · refine z_iload_n C 1 dX1_collect_48 rfl rfl rfl ?_
      exact z_iret C rfl rfl dX1_collect_49
    · refine z_iload_n C 2 dX1_collect_23 rfl rfl rfl ?_
      refine z_sipush C (2401 : Int32) dX1_collect_24 rfl rfl ?_
      refine z_icmpge C dX1_collect_27 rfl rfl ?_ ?_
      · refine z_iload_n C 1 dX1_collect_48 rfl rfl rfl ?_
        exact z_iret C rfl rfl dX1_collect_49
      · refine z_aload_n C 0 dX1_collect_30 rfl rfl rfl ?_
        refine z_aload_n C 0 dX1_collect_31 rfl rfl rfl ?_
        refine z_get (v := .ref 22) C 1 zOK1 rfl (by decide) w187 rfl rfl dX1_collect_32 rfl ?_
        refine z_iload_n C 2 dX1_collect_35 rfl rfl rfl ?_
        refine z_iaload C 2401 rfl dX1_collect_36 rfl ?_
        refine z_iload_n C 1 dX1_collect_37 rfl rfl rfl ?_
        refine z_ci (fun b => b.1) (fun b => b.2) (fun b hb => z_V (na := 2) (ci := 1) (r := (RX1, TX1, 4)) C [.int (zrd s5.2.2 22 s5.2.1), .int s5.1] rfl (mX1_queueNeighbours Y (zrd s5.2.2 22 s5.2.1) s5.1 s5.2.2 b hb) rfl rfl w481 w483 w10 w83 w484 hdX1_queueNeighbours ⟨Nat.le_of_ble_eq_true rfl, Nat.le_of_ble_eq_true rfl⟩ (Nat.le_of_ble_eq_true rfl) rfl dX1_collect_38) rfl (fun b6 => ?_)
        refine z_istoreP_n (lo' := [(2, .int b6.1), (0, .ref 20), (3, .int s5.2.1)]) C dX1_collect_41 rfl (by decide) rfl rfl ?_
        refine z_iinc (v := (s5.2.1 + (1 : Int32))) C 2 (fun z => [(3, .int z), (2, .int b6.1), (0, .ref 20)]) dX1_collect_42 rfl rfl (by decide) (fun _ => rfl) rfl (fun x7 => ?_)
        refine z_goto C dX1_collect_45 rfl ?_
        exact z_perm [2, 1, 0] rfl (hr4 (b6.1, x7, b6.2))
  exact key b hF
set_option maxRecDepth 100000 in
set_option maxHeartbeats 4000000 in
theorem mX1_split (Y : zY) (x0 : Int32) (M : zMem) (b : Int32 × zMem) (hF : FX1_split x0 M = some b) : zMt Y yX1_split cX1_split 5 (some .int) 3 72 [.ref 20, .int x0] M (zQi Y b.1 b.2) := by
  refine zMt_of (own := RX1) (by decide +kernel) rfl (Nat.le_of_ble_eq_true rfl) (fun X C => ?_)
  have key : zR Y X 5 (zFi Y X (fun b => b.1) (fun b => b.2)) (FX1_split x0 M) 0 [(0, .ref 20), (1, .int x0)] [] M := by
    unfold FX1_split
    refine z_iconst C (0 : Int32) dX1_split_0 rfl rfl ?_
    refine z_istoreP_n (lo' := [(2, .int (0 : Int32)), (0, .ref 20), (1, .int x0)]) C dX1_split_1 rfl (by decide) rfl rfl ?_
    refine z_iconst C (0 : Int32) dX1_split_2 rfl rfl ?_
    refine z_istoreP_n (lo' := [(3, .int (0 : Int32)), (2, .int (0 : Int32)), (0, .ref 20), (1, .int x0)]) C dX1_split_3 rfl (by decide) rfl rfl ?_
    refine z_loop (sM := fun s => s.2.2) (sl := fun s => [(0, .ref 20), (1, .int x0), (2, .int s.1), (3, .int s.2.1)]) [2, 3, 1, 0] rfl rfl (fun r2 hr2 s3 => ?_)
    unfold FX1_split_L4
    refine z_iload_n C 3 dX1_split_4 rfl rfl rfl ?_
    refine z_sipush C (2401 : Int32) dX1_split_5 rfl rfl ?_
    refine z_icmpge C dX1_split_8 rfl rfl ?_ ?_
    · refine z_iload_n C 2 dX1_split_52 rfl rfl rfl ?_
      exact z_iret C rfl rfl dX1_split_53
    · refine z_aload_n C 0 dX1_split_11 rfl rfl rfl ?_
      refine z_get (v := .ref 21) C 0 zOK1 rfl (by decide) w185 rfl rfl dX1_split_12 rfl ?_
      refine z_iload_n C 3 dX1_split_15 rfl rfl rfl ?_
      refine z_zaload C 2401 rfl dX1_split_16 rfl ?_
      refine z_ifeq C dX1_split_17 rfl rfl ?_ ?_
      · refine z_iinc (v := (s3.2.1 + (1 : Int32))) C 3 (fun z => [(3, .int z), (0, .ref 20), (1, .int x0), (2, .int s3.1)]) dX1_split_46 rfl rfl (by decide) (fun _ => rfl) rfl (fun x4 => ?_)
        refine z_goto C dX1_split_49 rfl ?_
        exact z_perm [1, 2, 3, 0] rfl (hr2 (s3.1, x4, s3.2.2))
      · refine z_aload_n C 0 dX1_split_20 rfl rfl rfl ?_
        refine z_iload_n C 3 dX1_split_21 rfl rfl rfl ?_
        refine z_ci (fun b => b.1) (fun b => b.2) (fun b hb => z_V (na := 1) (ci := 1) (r := (RX1, TX1, 4)) C [.int s3.2.1] rfl (mX1_collect Y s3.2.1 s3.2.2 b hb) rfl rfl w477 w479 w9 w83 w480 hdX1_collect ⟨Nat.le_of_ble_eq_true rfl, Nat.le_of_ble_eq_true rfl⟩ (Nat.le_of_ble_eq_true rfl) rfl dX1_split_22) rfl (fun b5 => ?_)
        refine z_istoreP (lo' := [(4, .int b5.1), (0, .ref 20), (1, .int x0), (2, .int s3.1), (3, .int s3.2.1)]) C dX1_split_25 (by decide) rfl rfl ?_
        refine z_iload_n C 3 dX1_split_27 rfl rfl rfl ?_
        refine z_iload_n C 2 dX1_split_28 rfl rfl rfl ?_
        refine z_icmpne C dX1_split_29 rfl rfl ?_ ?_
        · refine z_iinc (v := (s3.1 + (1 : Int32))) C 3 (fun z => [(2, .int z), (4, .int b5.1), (0, .ref 20), (1, .int x0), (3, .int s3.2.1)]) dX1_split_43 rfl rfl (by decide) (fun _ => rfl) rfl (fun x6 => ?_)
          refine z_iinc (v := (s3.2.1 + (1 : Int32))) C 4 (fun z => [(3, .int z), (2, .int x6), (4, .int b5.1), (0, .ref 20), (1, .int x0)]) dX1_split_46 rfl rfl (by decide) (fun _ => rfl) rfl (fun x7 => ?_)
          refine z_goto C dX1_split_49 rfl ?_
          exact z_perm [3, 4, 1, 0] rfl (hr2 (x6, x7, b5.2))
        · refine z_aload_n C 1 dX1_split_32 rfl rfl rfl ?_
          refine z_iload_n C 4 dX1_split_33 rfl rfl rfl ?_
          refine z_puti C 2 zOK1 rfl (by decide) w188 rfl rfl rfl rfl rfl dX1_split_34 rfl (fun M8 => ?_)
          refine z_aload_n C 1 dX1_split_37 rfl rfl rfl ?_
          refine z_iload C 0 dX1_split_38 rfl rfl ?_
          refine z_puti C 3 zOK1 rfl (by decide) w190 rfl rfl rfl rfl rfl dX1_split_40 rfl (fun M9 => ?_)
          refine z_iinc (v := (s3.1 + (1 : Int32))) C 3 (fun z => [(2, .int z), (4, .int b5.1), (0, .ref 20), (1, .int x0), (3, .int s3.2.1)]) dX1_split_43 rfl rfl (by decide) (fun _ => rfl) rfl (fun x10 => ?_)
          refine z_iinc (v := (s3.2.1 + (1 : Int32))) C 4 (fun z => [(3, .int z), (2, .int x10), (4, .int b5.1), (0, .ref 20), (1, .int x0)]) dX1_split_46 rfl rfl (by decide) (fun _ => rfl) rfl (fun x11 => ?_)
          refine z_goto C dX1_split_49 rfl ?_
          exact z_perm [3, 4, 1, 0] rfl (hr2 (x10, x11, M9))
  exact key b hF
set_option maxRecDepth 100000 in
set_option maxHeartbeats 4000000 in
theorem mX2_add (Y : zY) (x0 : Int32) (x1 : Int32) (x2 : Int32) (x3 : Int32) (M : zMem) (b : Int32 × zMem) (hF : FX2_add x0 x1 x2 x3 M = some b) : zMt Y yX2_add cX2_add 7 (some .int) 0 0 [.ref 1, .int x0, .int x1, .int x2, .int x3] M (zQi Y b.1 b.2) := by
  refine zMt_of (own := RX2) (by decide +kernel) rfl (Nat.le_of_ble_eq_true rfl) (fun X C => ?_)
  have key : zR Y X 7 (zFi Y X (fun b => b.1) (fun b => b.2)) (FX2_add x0 x1 x2 x3 M) 0 [(0, .ref 1), (1, .int x0), (2, .int x1), (3, .int x2), (4, .int x3)] [] M := by
    unfold FX2_add
    refine z_aload_n C 0 dX2_add_0 rfl rfl rfl ?_
    refine z_get (v := .int (M.1 1 1)) C 1 zOK2 rfl (by decide) w111 rfl rfl dX2_add_1 rfl ?_
    refine z_istore C (fun z => [(5, .int z), (0, .ref 1), (1, .int x0), (2, .int x1), (3, .int x2), (4, .int x3)]) dX2_add_4 (by decide) (fun _ => rfl) rfl (fun x5 => ?_)
    refine z_aload_n C 1 dX2_add_6 rfl rfl rfl ?_
    refine z_get (v := .ref (zcl (M.1 1 0))) C 0 zOK2 rfl (by decide) w108 rfl rfl dX2_add_7 rfl ?_
    refine z_iload C 0 dX2_add_10 rfl rfl ?_
    refine z_aaload C (zlenR (zcl (M.1 1 0))) rfl dX2_add_12 rfl ?_
    refine z_astore (lo' := [(6, .ref (zrow (zcl (M.1 1 0)) x5)), (5, .int x5), (0, .ref 1), (1, .int x0), (2, .int x1), (3, .int x2), (4, .int x3)]) C dX2_add_13 (by decide) rfl rfl ?_
    refine z_aload C 0 dX2_add_15 rfl rfl ?_
    refine z_iconst C (0 : Int32) dX2_add_17 rfl rfl ?_
    refine z_iload_n C 3 dX2_add_18 rfl rfl rfl ?_
    refine z_iastore C (zlenI (zrow (zcl (M.1 1 0)) x5)) rfl dX2_add_19 rfl (fun M6 => ?_)
    refine z_aload C 0 dX2_add_20 rfl rfl ?_
    refine z_iconst C (1 : Int32) dX2_add_22 rfl rfl ?_
    refine z_iload_n C 4 dX2_add_23 rfl rfl rfl ?_
    refine z_iastore C (zlenI (zrow (zcl (M.1 1 0)) x5)) rfl dX2_add_24 rfl (fun M7 => ?_)
    refine z_aload C 0 dX2_add_25 rfl rfl ?_
    refine z_iconst C (2 : Int32) dX2_add_27 rfl rfl ?_
    refine z_iload_n C 5 dX2_add_28 rfl rfl rfl ?_
    refine z_iastore C (zlenI (zrow (zcl (M.1 1 0)) x5)) rfl dX2_add_29 rfl (fun M8 => ?_)
    refine z_aload C 0 dX2_add_30 rfl rfl ?_
    refine z_iconst C (3 : Int32) dX2_add_32 rfl rfl ?_
    refine z_iload C 6 dX2_add_33 rfl rfl ?_
    refine z_iastore C (zlenI (zrow (zcl (M.1 1 0)) x5)) rfl dX2_add_35 rfl (fun M9 => ?_)
    refine z_aload C 0 dX2_add_36 rfl rfl ?_
    refine z_iconst C (4 : Int32) dX2_add_38 rfl rfl ?_
    refine z_iconst C (0 : Int32) dX2_add_39 rfl rfl ?_
    refine z_iastore C (zlenI (zrow (zcl (M.1 1 0)) x5)) rfl dX2_add_40 rfl (fun M10 => ?_)
    refine z_aload C 0 dX2_add_41 rfl rfl ?_
    refine z_iconst C (5 : Int32) dX2_add_43 rfl rfl ?_
    refine z_getsMN C (List.mem_of_getElem? (i := 27) rfl) dX2_add_44 rfl ?_
    refine z_iconst C (5 : Int32) dX2_add_47 rfl rfl ?_
    refine z_ialoadM C dX2_add_48 rfl ?_
    refine z_iastore C (zlenI (zrow (zcl (M.1 1 0)) x5)) rfl dX2_add_49 rfl (fun M11 => ?_)
    refine z_aload_n C 2 dX2_add_50 rfl rfl rfl ?_
    refine z_dup C dX2_add_51 rfl rfl ?_
    refine z_get (v := .int (M11.1 1 1)) C 1 zOK2 rfl (by decide) w111 rfl rfl dX2_add_52 rfl ?_
    refine z_iconst C (1 : Int32) dX2_add_55 rfl rfl ?_
    refine z_iadd C dX2_add_56 rfl ?_
    refine z_puti C 1 zOK2 rfl (by decide) w111 rfl rfl rfl rfl rfl dX2_add_57 rfl (fun M12 => ?_)
    refine z_iload C 1 dX2_add_60 rfl rfl ?_
    exact z_iret C rfl rfl dX2_add_62
  exact key b hF
set_option maxRecDepth 100000 in
set_option maxHeartbeats 4000000 in
theorem mX2_weights (Y : zY) (M : zMem) (b : Int32) (hF : FX2_weights M = some b) : zMt Y yX2_weights cX2_weights 3 (some .int) 0 0 [.ref 1] M (zQi Y b M) := by
  refine zMt_of (own := RX2) (by decide +kernel) rfl (Nat.le_of_ble_eq_true rfl) (fun X C => ?_)
  have key : zR Y X 3 (zFi Y X (fun b => b) (fun _ => M)) (FX2_weights M) 0 [(0, .ref 1)] [] M := by
    unfold FX2_weights
    refine z_iconst C (0 : Int32) dX2_weights_0 rfl rfl ?_
    refine z_istoreP_n (lo' := [(1, .int (0 : Int32)), (0, .ref 1)]) C dX2_weights_1 rfl (by decide) rfl rfl ?_
    refine z_iconst C (0 : Int32) dX2_weights_2 rfl rfl ?_
    refine z_istoreP_n (lo' := [(2, .int (0 : Int32)), (1, .int (0 : Int32)), (0, .ref 1)]) C dX2_weights_3 rfl (by decide) rfl rfl ?_
    refine z_loop (sM := fun s => M) (sl := fun s => [(0, .ref 1), (1, .int s.1), (2, .int s.2)]) [2, 1, 0] rfl rfl (fun r1 hr1 s2 => ?_)
    unfold FX2_weights_L4
    refine z_iload_n C 2 dX2_weights_4 rfl rfl rfl ?_
    refine z_aload_n C 0 dX2_weights_5 rfl rfl rfl ?_
    refine z_get (v := .int (M.1 1 1)) C 1 zOK2 rfl (by decide) w111 rfl rfl dX2_weights_6 rfl ?_
    refine z_icmpge C dX2_weights_9 rfl rfl ?_ ?_
    · refine z_iload_n C 1 dX2_weights_29 rfl rfl rfl ?_
      exact z_iret C rfl rfl dX2_weights_30
    · refine z_iload_n C 1 dX2_weights_12 rfl rfl rfl ?_
      refine z_aload_n C 0 dX2_weights_13 rfl rfl rfl ?_
      refine z_get (v := .ref (zcl (M.1 1 0))) C 0 zOK2 rfl (by decide) w108 rfl rfl dX2_weights_14 rfl ?_
      refine z_iload_n C 2 dX2_weights_17 rfl rfl rfl ?_
      refine z_aaload C (zlenR (zcl (M.1 1 0))) rfl dX2_weights_18 rfl ?_
      refine z_iconst C (3 : Int32) dX2_weights_19 rfl rfl ?_
      refine z_iaload C (zlenI (zrow (zcl (M.1 1 0)) s2.2)) rfl dX2_weights_20 rfl ?_
      refine z_iadd C dX2_weights_21 rfl ?_
      refine z_istore_n C (fun z => [(1, .int z), (0, .ref 1), (2, .int s2.2)]) dX2_weights_22 rfl (by decide) (fun _ => rfl) rfl (fun x3 => ?_)
      refine z_iinc (v := (s2.2 + (1 : Int32))) C 2 (fun z => [(2, .int z), (1, .int x3), (0, .ref 1)]) dX2_weights_23 rfl rfl (by decide) (fun _ => rfl) rfl (fun x4 => ?_)
      refine z_goto C dX2_weights_26 rfl ?_
      exact z_perm [2, 1, 0] rfl (hr1 (x3, x4))
  exact key b hF
set_option maxRecDepth 100000 in
set_option maxHeartbeats 4000000 in
theorem mX2_squares (Y : zY) (q0 : Nat) (x1 : Int32) (x2 : Int32) (M : zMem) (b : Int32) (hF : FX2_squares q0 x1 x2 M = some b) : zMt Y yX2_squares cX2_squares 5 (some .int) 0 0 [.ref q0, .int x1, .int x2] M (zQi Y b M) := by
  refine zMt_of (own := RX2) (by decide +kernel) rfl (Nat.le_of_ble_eq_true rfl) (fun X C => ?_)
  have key : zR Y X 5 (zFi Y X (fun b => b) (fun _ => M)) (FX2_squares q0 x1 x2 M) 0 [(0, .ref q0), (1, .int x1), (2, .int x2)] [] M := by
    unfold FX2_squares
    refine z_iload_n C 1 dX2_squares_0 rfl rfl rfl ?_
    refine z_aload_n C 0 dX2_squares_1 rfl rfl rfl ?_
    refine z_iconst C (1 : Int32) dX2_squares_2 rfl rfl ?_
    refine z_iaload C (zlenI q0) rfl dX2_squares_3 rfl ?_
    refine z_isub C dX2_squares_4 rfl ?_
    refine z_istore_n C (fun z => [(3, .int z), (0, .ref q0), (1, .int x1), (2, .int x2)]) dX2_squares_5 rfl (by decide) (fun _ => rfl) rfl (fun x4 => ?_)
    refine z_iload_n C 3 dX2_squares_6 rfl rfl rfl ?_
    refine z_aload_n C 1 dX2_squares_7 rfl rfl rfl ?_
    refine z_iconst C (2 : Int32) dX2_squares_8 rfl rfl ?_
    refine z_iaload C (zlenI q0) rfl dX2_squares_9 rfl ?_
    refine z_isub C dX2_squares_10 rfl ?_
    refine z_istore C (fun z => [(4, .int z), (3, .int x4), (0, .ref q0), (1, .int x1), (2, .int x2)]) dX2_squares_11 (by decide) (fun _ => rfl) rfl (fun x5 => ?_)
    refine z_iload_n C 1 dX2_squares_13 rfl rfl rfl ?_
    refine z_iload_n C 1 dX2_squares_14 rfl rfl rfl ?_
    refine z_imul C dX2_squares_15 rfl ?_
    refine z_iload C 0 dX2_squares_16 rfl rfl ?_
    refine z_iload C 0 dX2_squares_18 rfl rfl ?_
    refine z_imul C dX2_squares_20 rfl ?_
    refine z_iadd C dX2_squares_21 rfl ?_
    exact z_iret C rfl rfl dX2_squares_22
  exact key b hF
set_option maxRecDepth 100000 in
set_option maxHeartbeats 4000000 in
theorem mX2_isCutAway (Y : zY) (q0 : Nat) (x1 : Int32) (M : zMem) (b : Int32) (hF : FX2_isCutAway q0 x1 M = some b) : zMt Y yX2_isCutAway cX2_isCutAway 2 (some .boolean) 0 0 [.ref q0, .int x1] M (zQi Y b M) := by
  refine zMt_of (own := RX2) (by decide +kernel) rfl (Nat.le_of_ble_eq_true rfl) (fun X C => ?_)
  have key : zR Y X 2 (zFi Y X (fun b => b) (fun _ => M)) (FX2_isCutAway q0 x1 M) 0 [(0, .ref q0), (1, .int x1)] [] M := by
    unfold FX2_isCutAway
    refine z_iload_n C 1 dX2_isCutAway_0 rfl rfl rfl ?_
    refine z_aload_n C 0 dX2_isCutAway_1 rfl rfl rfl ?_
    refine z_iconst C (5 : Int32) dX2_isCutAway_2 rfl rfl ?_
    refine z_iaload C (zlenI q0) rfl dX2_isCutAway_3 rfl ?_
    refine z_aload_n C 0 dX2_isCutAway_4 rfl rfl rfl ?_
    refine z_iconst C (5 : Int32) dX2_isCutAway_5 rfl rfl ?_
    refine z_iaload C (zlenI q0) rfl dX2_isCutAway_6 rfl ?_
    refine z_imul C dX2_isCutAway_7 rfl ?_
    refine z_icmple C dX2_isCutAway_8 rfl rfl ?_ ?_
    · refine z_iconst C (0 : Int32) dX2_isCutAway_15 rfl rfl ?_
      exact z_zretK C rfl rfl rfl dX2_isCutAway_16
    · refine z_iconst C (1 : Int32) dX2_isCutAway_11 rfl rfl ?_
      refine z_goto C dX2_isCutAway_12 rfl ?_
      exact z_zretK C rfl rfl rfl dX2_isCutAway_16
  exact key b hF
set_option maxRecDepth 100000 in
set_option maxHeartbeats 4000000 in
theorem mX2_bendBy (Y : zY) (x0 : Int32) (q1 : Nat) (x2 : Int32) (x3 : Int32) (x4 : Int32) (x5 : Int32) (M : zMem) (b : Int32) (hF : FX2_bendBy x0 q1 x2 x3 x4 x5 M = some b) : zMt Y yX2_bendBy cX2_bendBy 8 (some .int) 1 24 [.int x0, .ref q1, .int x2, .int x3, .int x4, .int x5] M (zQi Y b M) := by
  refine zMt_of (own := RX2) (by decide +kernel) rfl (Nat.le_of_ble_eq_true rfl) (fun X C => ?_)
  have key : zR Y X 8 (zFi Y X (fun b => b) (fun _ => M)) (FX2_bendBy x0 q1 x2 x3 x4 x5 M) 0 [(0, .int x0), (1, .ref q1), (2, .int x2), (3, .int x3), (4, .int x4), (5, .int x5)] [] M := by
    unfold FX2_bendBy
    refine z_aload_n C 1 dX2_bendBy_0 rfl rfl rfl ?_
    refine z_iload_n C 3 dX2_bendBy_1 rfl rfl rfl ?_
    refine z_iload C 4 dX2_bendBy_2 rfl rfl ?_
    refine z_ci (fun b => b) (fun _ => M) (fun b hb => z_S (na := 3) C [.ref q1, .int x3, .int x4] rfl (mX2_squares Y q1 x3 x4 M b hb) w404 w405 w80 w406 hdX2_squares ⟨Nat.le_of_ble_eq_true rfl, Nat.le_of_ble_eq_true rfl⟩ (Nat.le_of_ble_eq_true rfl) rfl dX2_bendBy_4) rfl (fun b7 => ?_)
    refine z_istoreP (lo' := [(6, .int b7), (0, .int x0), (1, .ref q1), (2, .int x2), (3, .int x3), (4, .int x4), (5, .int x5)]) C dX2_bendBy_7 (by decide) rfl rfl ?_
    refine z_iload C 0 dX2_bendBy_9 rfl rfl ?_
    refine z_ifeq C dX2_bendBy_11 rfl rfl ?_ ?_
    · refine z_iconst C (0 : Int32) dX2_bendBy_28 rfl rfl ?_
      exact z_iret C rfl rfl dX2_bendBy_29
    · refine z_iload_n C 1 dX2_bendBy_14 rfl rfl rfl ?_
      refine z_iconst C (2 : Int32) dX2_bendBy_15 rfl rfl ?_
      refine z_join (fun k9 => ∀ (u8 : Unit), zR Y X 8 (zFi Y X (fun b => b) (fun _ => M)) (k9 u8) 30 [(0, .int x0), (1, .ref q1), (2, .int x2), (3, .int x3), (4, .int x4), (5, .int x5), (6, .int b7)] [] M) (fun u8 => ?_) (fun k9 hk9 => ?_)
      · refine z_bipush C (16 : Int32) dX2_bendBy_30 rfl rfl ?_
        refine z_iload_n C 2 dX2_bendBy_32 rfl rfl rfl ?_
        refine z_imul C dX2_bendBy_33 rfl ?_
        refine z_iload C 5 dX2_bendBy_34 rfl rfl ?_
        refine z_join (fun k11 => ∀ (x10 : Int32), zR Y X 8 (zFi Y X (fun b => b) (fun _ => M)) (k11 x10) 53 [(0, .int x0), (1, .ref q1), (6, .int b7)] [.int x10, .int ((16 : Int32) * x2)] M) (fun x10 => ?_) (fun k11 hk11 => ?_)
        · refine z_imul C dX2_bendBy_53 rfl ?_
          refine z_iload C 2 dX2_bendBy_54 rfl rfl ?_
          refine z_idiv C dX2_bendBy_56 rfl ?_
          refine z_istore C (fun z => [(7, .int z), (0, .int x0), (1, .ref q1), (6, .int b7)]) dX2_bendBy_57 (by decide) (fun _ => rfl) rfl (fun x12 => ?_)
          refine z_iload_n C 1 dX2_bendBy_59 rfl rfl rfl ?_
          refine z_ifne C dX2_bendBy_60 rfl rfl ?_ ?_
          · refine z_iload C 0 dX2_bendBy_68 rfl rfl ?_
            refine z_iload C 3 dX2_bendBy_70 rfl rfl ?_
            refine z_imul C dX2_bendBy_72 rfl ?_
            refine z_iload C 3 dX2_bendBy_73 rfl rfl ?_
            refine z_aload_n C 2 dX2_bendBy_75 rfl rfl rfl ?_
            refine z_iconst C (4 : Int32) dX2_bendBy_76 rfl rfl ?_
            refine z_iaload C (zlenI q1) rfl dX2_bendBy_77 rfl ?_
            refine z_iadd C dX2_bendBy_78 rfl ?_
            refine z_idiv C dX2_bendBy_79 rfl ?_
            exact z_iret C rfl rfl dX2_bendBy_80
          · refine z_iload C 0 dX2_bendBy_63 rfl rfl ?_
            refine z_goto C dX2_bendBy_65 rfl ?_
            exact z_iret C rfl rfl dX2_bendBy_80
        · refine z_ifne C dX2_bendBy_36 rfl rfl ?_ ?_
          · refine z_iload C 4 dX2_bendBy_47 rfl rfl ?_
            refine z_aload_n C 1 dX2_bendBy_49 rfl rfl rfl ?_
            refine z_iconst C (2 : Int32) dX2_bendBy_50 rfl rfl ?_
            refine z_iaload C (zlenI q1) rfl dX2_bendBy_51 rfl ?_
            refine z_isub C dX2_bendBy_52 rfl ?_
            exact z_perm [0, 1, 6] rfl (hk11 (x4 - (zrd M q1 (2 : Int32))))
          · refine z_iload_n C 3 dX2_bendBy_39 rfl rfl rfl ?_
            refine z_aload_n C 1 dX2_bendBy_40 rfl rfl rfl ?_
            refine z_iconst C (1 : Int32) dX2_bendBy_41 rfl rfl ?_
            refine z_iaload C (zlenI q1) rfl dX2_bendBy_42 rfl ?_
            refine z_isub C dX2_bendBy_43 rfl ?_
            refine z_goto C dX2_bendBy_44 rfl ?_
            exact z_perm [0, 1, 6] rfl (hk11 (x3 - (zrd M q1 (1 : Int32))))
      · refine z_icmpne C dX2_bendBy_16 rfl rfl ?_ ?_
        · exact z_perm [1, 2, 3, 4, 5, 6, 0] rfl (hk9 ())
        · refine z_aload_n C 2 dX2_bendBy_19 rfl rfl rfl ?_
          refine z_iload C 0 dX2_bendBy_20 rfl rfl ?_
          refine z_ci (fun b => b) (fun _ => M) (fun b hb => z_S (na := 2) C [.ref q1, .int b7] rfl (mX2_isCutAway Y q1 b7 M b hb) w407 w408 w80 w409 hdX2_isCutAway ⟨Nat.le_of_ble_eq_true rfl, Nat.le_of_ble_eq_true rfl⟩ (Nat.le_of_ble_eq_true rfl) rfl dX2_bendBy_22) rfl (fun b13 => ?_)
          refine z_ifeq C dX2_bendBy_25 rfl rfl ?_ ?_
          · exact z_perm [1, 2, 3, 4, 5, 6, 0] rfl (hk9 ())
          · refine z_iconst C (0 : Int32) dX2_bendBy_28 rfl rfl ?_
            exact z_iret C rfl rfl dX2_bendBy_29
  exact key b hF
set_option maxRecDepth 100000 in
set_option maxHeartbeats 4000000 in
theorem mX2_lightPast (Y : zY) (x0 : Int32) (x1 : Int32) (x2 : Int32) (x3 : Int32) (M : zMem) (b : Int32) (hF : FX2_lightPast x0 x1 x2 x3 M = some b) : zMt Y yX2_lightPast cX2_lightPast 7 (some .int) 2 51 [.ref 1, .int x0, .int x1, .int x2, .int x3] M (zQi Y b M) := by
  refine zMt_of (own := RX2) (by decide +kernel) rfl (Nat.le_of_ble_eq_true rfl) (fun X C => ?_)
  have key : zR Y X 7 (zFi Y X (fun b => b) (fun _ => M)) (FX2_lightPast x0 x1 x2 x3 M) 0 [(0, .ref 1), (1, .int x0), (2, .int x1), (3, .int x2), (4, .int x3)] [] M := by
    unfold FX2_lightPast
    refine z_iload C 4 dX2_lightPast_0 rfl rfl ?_
    refine z_join (fun k6 => ∀ (x5 : Int32), zR Y X 7 (zFi Y X (fun b => b) (fun _ => M)) (k6 x5) 44 [(0, .ref 1), (1, .int x0), (2, .int x1), (3, .int x2), (4, .int x3)] [.int x5] M) (fun x5 => ?_) (fun k6 hk6 => ?_)
    · refine z_istoreP (lo' := [(5, .int x5), (0, .ref 1), (1, .int x0), (2, .int x1), (3, .int x2), (4, .int x3)]) C dX2_lightPast_44 (by decide) rfl rfl ?_
      refine z_iload_n C 2 dX2_lightPast_46 rfl rfl rfl ?_
      refine z_istoreP (lo' := [(6, .int x0), (5, .int x5), (0, .ref 1), (1, .int x0), (2, .int x1), (3, .int x2), (4, .int x3)]) C dX2_lightPast_47 (by decide) rfl rfl ?_
      refine z_loop (sM := fun s => M) (sl := fun s => [(0, .ref 1), (2, .int x1), (3, .int x2), (4, .int x3), (5, .int s.1), (6, .int s.2)]) [2, 4, 5, 6, 1, 0] rfl rfl (fun r7 hr7 s8 => ?_)
      unfold FX2_lightPast_L49
      refine z_iload C 5 dX2_lightPast_49 rfl rfl ?_
      refine z_aload_n C 0 dX2_lightPast_51 rfl rfl rfl ?_
      refine z_get (v := .int (M.1 1 1)) C 1 zOK2 rfl (by decide) w111 rfl rfl dX2_lightPast_52 rfl ?_
      refine z_icmpge C dX2_lightPast_55 rfl rfl ?_ ?_
      · refine z_iload C 4 dX2_lightPast_101 rfl rfl ?_
        exact z_iret C rfl rfl dX2_lightPast_103
      · refine z_iload C 4 dX2_lightPast_58 rfl rfl ?_
        refine z_aload_n C 0 dX2_lightPast_60 rfl rfl rfl ?_
        refine z_get (v := .ref (zcl (M.1 1 0))) C 0 zOK2 rfl (by decide) w108 rfl rfl dX2_lightPast_61 rfl ?_
        refine z_iload C 5 dX2_lightPast_64 rfl rfl ?_
        refine z_aaload C (zlenR (zcl (M.1 1 0))) rfl dX2_lightPast_66 rfl ?_
        refine z_iconst C (0 : Int32) dX2_lightPast_67 rfl rfl ?_
        refine z_iaload C (zlenI (zrow (zcl (M.1 1 0)) s8.2)) rfl dX2_lightPast_68 rfl ?_
        refine z_aload_n C 0 dX2_lightPast_69 rfl rfl rfl ?_
        refine z_get (v := .ref (zcl (M.1 1 0))) C 0 zOK2 rfl (by decide) w108 rfl rfl dX2_lightPast_70 rfl ?_
        refine z_iload C 5 dX2_lightPast_73 rfl rfl ?_
        refine z_aaload C (zlenR (zcl (M.1 1 0))) rfl dX2_lightPast_75 rfl ?_
        refine z_aload_n C 0 dX2_lightPast_76 rfl rfl rfl ?_
        refine z_get (v := .ref (zcl (M.1 1 0))) C 0 zOK2 rfl (by decide) w108 rfl rfl dX2_lightPast_77 rfl ?_
        refine z_iload C 5 dX2_lightPast_80 rfl rfl ?_
        refine z_aaload C (zlenR (zcl (M.1 1 0))) rfl dX2_lightPast_82 rfl ?_
        refine z_iconst C (3 : Int32) dX2_lightPast_83 rfl rfl ?_
        refine z_iaload C (zlenI (zrow (zcl (M.1 1 0)) s8.2)) rfl dX2_lightPast_84 rfl ?_
        refine z_iload_n C 1 dX2_lightPast_85 rfl rfl rfl ?_
        refine z_iload_n C 2 dX2_lightPast_86 rfl rfl rfl ?_
        refine z_iload C 3 dX2_lightPast_87 rfl rfl ?_
        refine z_ci (fun b => b) (fun _ => M) (fun b hb => z_S (na := 6) C [.int (zrd M (zrow (zcl (M.1 1 0)) s8.2) (0 : Int32)), .ref (zrow (zcl (M.1 1 0)) s8.2), .int (zrd M (zrow (zcl (M.1 1 0)) s8.2) (3 : Int32)), .int x1, .int x2, .int x3] rfl (mX2_bendBy Y (zrd M (zrow (zcl (M.1 1 0)) s8.2) (0 : Int32)) (zrow (zcl (M.1 1 0)) s8.2) (zrd M (zrow (zcl (M.1 1 0)) s8.2) (3 : Int32)) x1 x2 x3 M b hb) w422 w402 w80 w403 hdX2_bendBy ⟨Nat.le_of_ble_eq_true rfl, Nat.le_of_ble_eq_true rfl⟩ (Nat.le_of_ble_eq_true rfl) rfl dX2_lightPast_89) rfl (fun b9 => ?_)
        refine z_isub C dX2_lightPast_92 rfl ?_
        refine z_istore C (fun z => [(5, .int z), (0, .ref 1), (2, .int x1), (3, .int x2), (4, .int x3), (6, .int s8.2)]) dX2_lightPast_93 (by decide) (fun _ => rfl) rfl (fun x10 => ?_)
        refine z_iinc (v := (s8.2 + (1 : Int32))) C 5 (fun z => [(6, .int z), (5, .int x10), (0, .ref 1), (2, .int x1), (3, .int x2), (4, .int x3)]) dX2_lightPast_95 rfl rfl (by decide) (fun _ => rfl) rfl (fun x11 => ?_)
        refine z_goto C dX2_lightPast_98 rfl ?_
        exact z_perm [2, 3, 4, 5, 1, 0] rfl (hr7 (x10, x11))
    · refine z_ifne C dX2_lightPast_2 rfl rfl ?_ ?_
      · refine z_bipush C (16 : Int32) dX2_lightPast_26 rfl rfl ?_
        refine z_iload_n C 3 dX2_lightPast_28 rfl rfl rfl ?_
        refine z_imul C dX2_lightPast_29 rfl ?_
        refine z_aload_n C 0 dX2_lightPast_30 rfl rfl rfl ?_
        refine z_get (v := .int (M.1 1 3)) C 3 zOK2 rfl (by decide) w115 rfl rfl dX2_lightPast_31 rfl ?_
        refine z_iload_n C 2 dX2_lightPast_34 rfl rfl rfl ?_
        refine z_imul C dX2_lightPast_35 rfl ?_
        refine z_aload_n C 0 dX2_lightPast_36 rfl rfl rfl ?_
        refine z_get (v := .int (M.1 1 2)) C 2 zOK2 rfl (by decide) w113 rfl rfl dX2_lightPast_37 rfl ?_
        refine z_iload_n C 3 dX2_lightPast_40 rfl rfl rfl ?_
        refine z_imul C dX2_lightPast_41 rfl ?_
        refine z_isub C dX2_lightPast_42 rfl ?_
        refine z_isub C dX2_lightPast_43 rfl ?_
        exact z_perm [0, 1, 2, 3, 4] rfl (hk6 (((16 : Int32) * x2) - (((M.1 1 3) * x1) - ((M.1 1 2) * x2))))
      · refine z_bipush C (16 : Int32) dX2_lightPast_5 rfl rfl ?_
        refine z_iload_n C 2 dX2_lightPast_7 rfl rfl rfl ?_
        refine z_imul C dX2_lightPast_8 rfl ?_
        refine z_aload_n C 0 dX2_lightPast_9 rfl rfl rfl ?_
        refine z_get (v := .int (M.1 1 2)) C 2 zOK2 rfl (by decide) w113 rfl rfl dX2_lightPast_10 rfl ?_
        refine z_iload_n C 2 dX2_lightPast_13 rfl rfl rfl ?_
        refine z_imul C dX2_lightPast_14 rfl ?_
        refine z_aload_n C 0 dX2_lightPast_15 rfl rfl rfl ?_
        refine z_get (v := .int (M.1 1 3)) C 3 zOK2 rfl (by decide) w115 rfl rfl dX2_lightPast_16 rfl ?_
        refine z_iload_n C 3 dX2_lightPast_19 rfl rfl rfl ?_
        refine z_imul C dX2_lightPast_20 rfl ?_
        refine z_iadd C dX2_lightPast_21 rfl ?_
        refine z_isub C dX2_lightPast_22 rfl ?_
        refine z_goto C dX2_lightPast_23 rfl ?_
        exact z_perm [0, 1, 2, 3, 4] rfl (hk6 (((16 : Int32) * x1) - (((M.1 1 2) * x1) + ((M.1 1 3) * x2))))
  exact key b hF
set_option maxRecDepth 100000 in
set_option maxHeartbeats 4000000 in
theorem mX2_lightAt (Y : zY) (x0 : Int32) (x1 : Int32) (x2 : Int32) (M : zMem) (b : Int32) (hF : FX2_lightAt x0 x1 x2 M = some b) : zMt Y yX2_lightAt cX2_lightAt 4 (some .int) 3 77 [.ref 1, .int x0, .int x1, .int x2] M (zQi Y b M) := by
  refine zMt_of (own := RX2) (by decide +kernel) rfl (Nat.le_of_ble_eq_true rfl) (fun X C => ?_)
  have key : zR Y X 4 (zFi Y X (fun b => b) (fun _ => M)) (FX2_lightAt x0 x1 x2 M) 0 [(0, .ref 1), (1, .int x0), (2, .int x1), (3, .int x2)] [] M := by
    unfold FX2_lightAt
    refine z_aload_n C 0 dX2_lightAt_0 rfl rfl rfl ?_
    refine z_iconst C (0 : Int32) dX2_lightAt_1 rfl rfl ?_
    refine z_iload_n C 1 dX2_lightAt_2 rfl rfl rfl ?_
    refine z_iload_n C 2 dX2_lightAt_3 rfl rfl rfl ?_
    refine z_iload_n C 3 dX2_lightAt_4 rfl rfl rfl ?_
    refine z_ci (fun b => b) (fun _ => M) (fun b hb => z_V (na := 4) (ci := 2) (r := (RX2, TX2, 4)) C [.int (0 : Int32), .int x0, .int x1, .int x2] rfl (mX2_lightPast Y (0 : Int32) x0 x1 x2 M b hb) rfl rfl w418 w420 w4 w80 w421 hdX2_lightPast ⟨Nat.le_of_ble_eq_true rfl, Nat.le_of_ble_eq_true rfl⟩ (Nat.le_of_ble_eq_true rfl) rfl dX2_lightAt_5) rfl (fun b4 => ?_)
    exact z_iret C rfl rfl dX2_lightAt_8
  exact key b hF
set_option maxRecDepth 100000 in
set_option maxHeartbeats 4000000 in
theorem mX2_askedBy (Y : zY) (x0 : Int32) (M : zMem) (b : Int32) (hF : FX2_askedBy x0 = some b) : zMt Y yX2_askedBy cX2_askedBy 1 (some .int) 0 0 [.int x0] M (zQi Y b M) := by
  refine zMt_of (own := RX2) (by decide +kernel) rfl (Nat.le_of_ble_eq_true rfl) (fun X C => ?_)
  have key : zR Y X 1 (zFi Y X (fun b => b) (fun _ => M)) (FX2_askedBy x0) 0 [(0, .int x0)] [] M := by
    unfold FX2_askedBy
    refine z_iload_n C 0 dX2_askedBy_0 rfl rfl rfl ?_
    refine z_ite (fun hs1_0 => ?_) (fun hs1_0 => ?_)
    · refine z_lsw (off := 27) C dX2_askedBy_1 rfl (by rw [hs1_0]; rfl) rfl ?_
      refine z_iconst C (1 : Int32) dX2_askedBy_28 rfl rfl ?_
      exact z_iret C rfl rfl dX2_askedBy_29
    · refine z_ite (fun hs1_1 => ?_) (fun hs1_1 => ?_)
      · refine z_lsw (off := 29) C dX2_askedBy_1 rfl (by rw [hs1_1]; rfl) rfl ?_
        refine z_bipush C (11 : Int32) dX2_askedBy_30 rfl rfl ?_
        exact z_iret C rfl rfl dX2_askedBy_32
      · refine z_lsw (off := 32) C dX2_askedBy_1 rfl (by have e0 : x0.toInt ≠ 0 := fun e => hs1_0 (Int32.toInt_inj.mp (e.trans rfl)); have e1 : x0.toInt ≠ 1 := fun e => hs1_1 (Int32.toInt_inj.mp (e.trans rfl)); simp only [Op.lookupswitch.offset]; simp [Ne.symm e0, Ne.symm e1]) rfl ?_
        refine z_bipush C (111 : Int32) dX2_askedBy_33 rfl rfl ?_
        exact z_iret C rfl rfl dX2_askedBy_35
  exact key b hF
set_option maxRecDepth 100000 in
set_option maxHeartbeats 4000000 in
theorem mX3_placeAt (Y : zY) (x0 : Int32) (x1 : Int32) (M : zMem) (b : Int32) (hF : FX3_placeAt x0 x1 = some b) : zMt Y yX3_placeAt cX3_placeAt 2 (some .int) 0 0 [.int x0, .int x1] M (zQi Y b M) := by
  refine zMt_of (own := RX3) (by decide +kernel) rfl (Nat.le_of_ble_eq_true rfl) (fun X C => ?_)
  have key : zR Y X 2 (zFi Y X (fun b => b) (fun _ => M)) (FX3_placeAt x0 x1) 0 [(0, .int x0), (1, .int x1)] [] M := by
    unfold FX3_placeAt
    refine z_iload_n C 1 dX3_placeAt_0 rfl rfl rfl ?_
    refine z_bipush C (25 : Int32) dX3_placeAt_1 rfl rfl ?_
    refine z_iadd C dX3_placeAt_3 rfl ?_
    refine z_bipush C (51 : Int32) dX3_placeAt_4 rfl rfl ?_
    refine z_imul C dX3_placeAt_6 rfl ?_
    refine z_iload_n C 0 dX3_placeAt_7 rfl rfl rfl ?_
    refine z_iadd C dX3_placeAt_8 rfl ?_
    refine z_bipush C (25 : Int32) dX3_placeAt_9 rfl rfl ?_
    refine z_iadd C dX3_placeAt_11 rfl ?_
    exact z_iret C rfl rfl dX3_placeAt_12
  exact key b hF
set_option maxRecDepth 100000 in
set_option maxHeartbeats 4000000 in
theorem mX7_xOf (Y : zY) (x0 : Int32) (M : zMem) (b : Int32) (hF : FX7_xOf x0 = some b) : zMt Y yX7_xOf cX7_xOf 1 (some .int) 0 0 [.int x0] M (zQi Y b M) := by
  refine zMt_of (own := RX7) (by decide +kernel) rfl (Nat.le_of_ble_eq_true rfl) (fun X C => ?_)
  have key : zR Y X 1 (zFi Y X (fun b => b) (fun _ => M)) (FX7_xOf x0) 0 [(0, .int x0)] [] M := by
    unfold FX7_xOf
    refine z_iload_n C 0 dX7_xOf_0 rfl rfl rfl ?_
    refine z_bipush C (49 : Int32) dX7_xOf_1 rfl rfl ?_
    refine z_iremK C dX7_xOf_3 (by decide) rfl ?_
    refine z_bipush C (24 : Int32) dX7_xOf_4 rfl rfl ?_
    refine z_isub C dX7_xOf_6 rfl ?_
    exact z_iret C rfl rfl dX7_xOf_7
  exact key b hF
set_option maxRecDepth 100000 in
set_option maxHeartbeats 4000000 in
theorem mX7_yOf (Y : zY) (x0 : Int32) (M : zMem) (b : Int32) (hF : FX7_yOf x0 = some b) : zMt Y yX7_yOf cX7_yOf 1 (some .int) 0 0 [.int x0] M (zQi Y b M) := by
  refine zMt_of (own := RX7) (by decide +kernel) rfl (Nat.le_of_ble_eq_true rfl) (fun X C => ?_)
  have key : zR Y X 1 (zFi Y X (fun b => b) (fun _ => M)) (FX7_yOf x0) 0 [(0, .int x0)] [] M := by
    unfold FX7_yOf
    refine z_iload_n C 0 dX7_yOf_0 rfl rfl rfl ?_
    refine z_bipush C (49 : Int32) dX7_yOf_1 rfl rfl ?_
    refine z_idivK C dX7_yOf_3 (by decide) rfl ?_
    refine z_bipush C (24 : Int32) dX7_yOf_4 rfl rfl ?_
    refine z_isub C dX7_yOf_6 rfl ?_
    exact z_iret C rfl rfl dX7_yOf_7
  exact key b hF
set_option maxRecDepth 100000 in
set_option maxHeartbeats 4000000 in
theorem mJ9_floorDiv_7cf53 (Y : zY) (x0 : Int32) (x1 : Int32) (M : zMem) (b : Int32) (hF : FJ9_floorDiv_7cf53 x0 x1 = some b) : zMt Y yJ9_floorDiv_7cf53 cJ9_floorDiv_7cf53 3 (some .int) 0 0 [.int x0, .int x1] M (zQi Y b M) := by
  refine zMt_ofF (own := RJ9) (by decide +kernel) rfl (Nat.le_of_ble_eq_true rfl) (fun X C => ?_)
  have key : zR Y X 3 (zFi Y X (fun b => b) (fun _ => M)) (FJ9_floorDiv_7cf53 x0 x1) 0 [(0, .int x0), (1, .int x1)] [] M := by
    unfold FJ9_floorDiv_7cf53
    refine z_iload_n C 0 dJ9_floorDiv_7cf53_0 rfl rfl rfl ?_
    refine z_iload_n C 1 dJ9_floorDiv_7cf53_1 rfl rfl rfl ?_
    refine z_idiv C dJ9_floorDiv_7cf53_2 rfl ?_
    refine z_istore_n C (fun z => [(2, .int z), (0, .int x0), (1, .int x1)]) dJ9_floorDiv_7cf53_3 rfl (by decide) (fun _ => rfl) rfl (fun x3 => ?_)
    refine z_iload_n C 1 dJ9_floorDiv_7cf53_4 rfl rfl rfl ?_
    refine z_iload_n C 2 dJ9_floorDiv_7cf53_5 rfl rfl rfl ?_
    refine z_ixor C dJ9_floorDiv_7cf53_6 rfl ?_
    refine z_ifge C dJ9_floorDiv_7cf53_7 rfl rfl ?_ ?_
    · refine z_iload_n C 0 dJ9_floorDiv_7cf53_21 rfl rfl rfl ?_
      exact z_iret C rfl rfl dJ9_floorDiv_7cf53_22
    · refine z_iload_n C 0 dJ9_floorDiv_7cf53_10 rfl rfl rfl ?_
      refine z_iload_n C 2 dJ9_floorDiv_7cf53_11 rfl rfl rfl ?_
      refine z_imul C dJ9_floorDiv_7cf53_12 rfl ?_
      refine z_iload_n C 1 dJ9_floorDiv_7cf53_13 rfl rfl rfl ?_
      refine z_icmpeq C dJ9_floorDiv_7cf53_14 rfl rfl ?_ ?_
      · refine z_iload_n C 0 dJ9_floorDiv_7cf53_21 rfl rfl rfl ?_
        exact z_iret C rfl rfl dJ9_floorDiv_7cf53_22
      · refine z_iload_n C 0 dJ9_floorDiv_7cf53_17 rfl rfl rfl ?_
        refine z_iconst C (1 : Int32) dJ9_floorDiv_7cf53_18 rfl rfl ?_
        refine z_isub C dJ9_floorDiv_7cf53_19 rfl ?_
        exact z_iret C rfl rfl dJ9_floorDiv_7cf53_20
  exact key b hF
set_option maxRecDepth 100000 in
set_option maxHeartbeats 4000000 in
theorem mX7_cellOf (Y : zY) (x0 : Int32) (M : zMem) (b : Int32) (hF : FX7_cellOf x0 = some b) : zMt Y yX7_cellOf cX7_cellOf 1 (some .int) 1 22 [.int x0] M (zQi Y b M) := by
  refine zMt_of (own := RX7) (by decide +kernel) rfl (Nat.le_of_ble_eq_true rfl) (fun X C => ?_)
  have key : zR Y X 1 (zFi Y X (fun b => b) (fun _ => M)) (FX7_cellOf x0) 0 [(0, .int x0)] [] M := by
    unfold FX7_cellOf
    refine z_iload_n C 0 dX7_cellOf_0 rfl rfl rfl ?_
    refine z_bipush C (8 : Int32) dX7_cellOf_1 rfl rfl ?_
    refine z_iadd C dX7_cellOf_3 rfl ?_
    refine z_bipush C (16 : Int32) dX7_cellOf_4 rfl rfl ?_
    refine z_ci (fun b => b) (fun _ => M) (fun b hb => z_S (na := 2) C [.int (x0 + (8 : Int32)), .int (16 : Int32)] rfl (mJ9_floorDiv_7cf53 Y (x0 + (8 : Int32)) (16 : Int32) M b hb) w430 w431 w89 w432 hdJ9_floorDiv_7cf53 ⟨Nat.le_of_ble_eq_true rfl, Nat.le_of_ble_eq_true rfl⟩ (Nat.le_of_ble_eq_true rfl) rfl dX7_cellOf_6) rfl (fun b2 => ?_)
    exact z_iret C rfl rfl dX7_cellOf_9
  exact key b hF
set_option maxRecDepth 100000 in
set_option maxHeartbeats 4000000 in
theorem mX7_keyOf (Y : zY) (x0 : Int32) (x1 : Int32) (M : zMem) (b : Int32) (hF : FX7_keyOf x0 x1 = some b) : zMt Y yX7_keyOf cX7_keyOf 2 (some .int) 0 0 [.int x0, .int x1] M (zQi Y b M) := by
  refine zMt_of (own := RX7) (by decide +kernel) rfl (Nat.le_of_ble_eq_true rfl) (fun X C => ?_)
  have key : zR Y X 2 (zFi Y X (fun b => b) (fun _ => M)) (FX7_keyOf x0 x1) 0 [(0, .int x0), (1, .int x1)] [] M := by
    unfold FX7_keyOf
    refine z_iload_n C 1 dX7_keyOf_0 rfl rfl rfl ?_
    refine z_sipush C (4096 : Int32) dX7_keyOf_1 rfl rfl ?_
    refine z_iadd C dX7_keyOf_4 rfl ?_
    refine z_sipush C (8192 : Int32) dX7_keyOf_5 rfl rfl ?_
    refine z_imul C dX7_keyOf_8 rfl ?_
    refine z_iload_n C 0 dX7_keyOf_9 rfl rfl rfl ?_
    refine z_iadd C dX7_keyOf_10 rfl ?_
    refine z_sipush C (4096 : Int32) dX7_keyOf_11 rfl rfl ?_
    refine z_iadd C dX7_keyOf_14 rfl ?_
    exact z_iret C rfl rfl dX7_keyOf_15
  exact key b hF
set_option maxRecDepth 100000 in
set_option maxHeartbeats 4000000 in
theorem mX3_across (Y : zY) (q0 : Nat) (x1 : Int32) (M : zMem) (b : Int32) (hF : FX3_across q0 x1 M = some b) : zMt Y yX3_across cX3_across 2 (some .int) 0 0 [.ref q0, .int x1] M (zQi Y b M) := by
  refine zMt_of (own := RX3) (by decide +kernel) rfl (Nat.le_of_ble_eq_true rfl) (fun X C => ?_)
  have key : zR Y X 2 (zFi Y X (fun b => b) (fun _ => M)) (FX3_across q0 x1 M) 0 [(0, .ref q0), (1, .int x1)] [] M := by
    unfold FX3_across
    refine z_aload_n C 0 dX3_across_0 rfl rfl rfl ?_
    refine z_iload_n C 1 dX3_across_1 rfl rfl rfl ?_
    refine z_iconst C (1 : Int32) dX3_across_2 rfl rfl ?_
    refine z_iadd C dX3_across_3 rfl ?_
    refine z_iaload C (zlenI q0) rfl dX3_across_4 rfl ?_
    refine z_aload_n C 0 dX3_across_5 rfl rfl rfl ?_
    refine z_iload_n C 1 dX3_across_6 rfl rfl rfl ?_
    refine z_iconst C (1 : Int32) dX3_across_7 rfl rfl ?_
    refine z_isub C dX3_across_8 rfl ?_
    refine z_iaload C (zlenI q0) rfl dX3_across_9 rfl ?_
    refine z_isub C dX3_across_10 rfl ?_
    exact z_iret C rfl rfl dX3_across_11
  exact key b hF
set_option maxRecDepth 100000 in
set_option maxHeartbeats 4000000 in
theorem mX3_down (Y : zY) (q0 : Nat) (x1 : Int32) (M : zMem) (b : Int32) (hF : FX3_down q0 x1 M = some b) : zMt Y yX3_down cX3_down 2 (some .int) 0 0 [.ref q0, .int x1] M (zQi Y b M) := by
  refine zMt_of (own := RX3) (by decide +kernel) rfl (Nat.le_of_ble_eq_true rfl) (fun X C => ?_)
  have key : zR Y X 2 (zFi Y X (fun b => b) (fun _ => M)) (FX3_down q0 x1 M) 0 [(0, .ref q0), (1, .int x1)] [] M := by
    unfold FX3_down
    refine z_aload_n C 0 dX3_down_0 rfl rfl rfl ?_
    refine z_iload_n C 1 dX3_down_1 rfl rfl rfl ?_
    refine z_bipush C (51 : Int32) dX3_down_2 rfl rfl ?_
    refine z_iadd C dX3_down_4 rfl ?_
    refine z_iaload C (zlenI q0) rfl dX3_down_5 rfl ?_
    refine z_aload_n C 0 dX3_down_6 rfl rfl rfl ?_
    refine z_iload_n C 1 dX3_down_7 rfl rfl rfl ?_
    refine z_bipush C (51 : Int32) dX3_down_8 rfl rfl ?_
    refine z_isub C dX3_down_10 rfl ?_
    refine z_iaload C (zlenI q0) rfl dX3_down_11 rfl ?_
    refine z_isub C dX3_down_12 rfl ?_
    exact z_iret C rfl rfl dX3_down_13
  exact key b hF
set_option maxRecDepth 100000 in
set_option maxHeartbeats 4000000 in
theorem mJ13_compare_74951 (Y : zY) (y0 : Int64) (y1 : Int64) (M : zMem) (b : Int32) (hF : FJ13_compare_74951 y0 y1 = some b) : zMt Y yJ13_compare_74951 cJ13_compare_74951 4 (some .int) 0 0 [.long y0, .long y1] M (zQi Y b M) := by
  refine zMt_of (own := RJ13) (by decide +kernel) rfl (Nat.le_of_ble_eq_true rfl) (fun X C => ?_)
  have key : zR Y X 4 (zFi Y X (fun b => b) (fun _ => M)) (FJ13_compare_74951 y0 y1) 0 [(0, .long y0), (2, .long y1)] [] M := by
    unfold FJ13_compare_74951
    refine z_lload_n C 0 dJ13_compare_74951_0 rfl rfl rfl ?_
    refine z_lload_n C 1 dJ13_compare_74951_1 rfl rfl rfl ?_
    refine z_lcmp C dJ13_compare_74951_2 rfl ?_
    refine z_ifge C dJ13_compare_74951_3 rfl rfl ?_ ?_
    · refine z_lload_n C 0 dJ13_compare_74951_10 rfl rfl rfl ?_
      refine z_lload_n C 1 dJ13_compare_74951_11 rfl rfl rfl ?_
      refine z_lcmp C dJ13_compare_74951_12 rfl ?_
      refine z_ifne C dJ13_compare_74951_13 rfl rfl ?_ ?_
      · refine z_iconst C (1 : Int32) dJ13_compare_74951_20 rfl rfl ?_
        exact z_iret C rfl rfl dJ13_compare_74951_21
      · refine z_iconst C (0 : Int32) dJ13_compare_74951_16 rfl rfl ?_
        refine z_goto C dJ13_compare_74951_17 rfl ?_
        exact z_iret C rfl rfl dJ13_compare_74951_21
    · refine z_iconst C (-1 : Int32) dJ13_compare_74951_6 rfl rfl ?_
      refine z_goto C dJ13_compare_74951_7 rfl ?_
      exact z_iret C rfl rfl dJ13_compare_74951_21
  exact key b hF
set_option maxRecDepth 100000 in
set_option maxHeartbeats 4000000 in
theorem mX3_signOfArea (Y : zY) (x0 : Int32) (M : zMem) (b : Int32) (hF : FX3_signOfArea x0 M = some b) : zMt Y yX3_signOfArea cX3_signOfArea 6 (some .int) 1 23 [.ref 15, .int x0] M (zQi Y b M) := by
  refine zMt_of (own := RX3) (by decide +kernel) rfl (Nat.le_of_ble_eq_true rfl) (fun X C => ?_)
  have key : zR Y X 6 (zFi Y X (fun b => b) (fun _ => M)) (FX3_signOfArea x0 M) 0 [(0, .ref 15), (1, .int x0)] [] M := by
    unfold FX3_signOfArea
    refine z_aload_n C 0 dX3_signOfArea_0 rfl rfl rfl ?_
    refine z_get (v := .ref 16) C 1 zOK3 rfl (by decide) w158 rfl rfl dX3_signOfArea_1 rfl ?_
    refine z_iload_n C 1 dX3_signOfArea_4 rfl rfl rfl ?_
    refine z_ci (fun b => b) (fun _ => M) (fun b hb => z_S (na := 2) C [.ref 16, .int x0] rfl (mX3_across Y 16 x0 M b hb) w463 w464 w82 w465 hdX3_across ⟨Nat.le_of_ble_eq_true rfl, Nat.le_of_ble_eq_true rfl⟩ (Nat.le_of_ble_eq_true rfl) rfl dX3_signOfArea_5) rfl (fun b2 => ?_)
    refine z_i2l C dX3_signOfArea_8 rfl ?_
    refine z_aload_n C 0 dX3_signOfArea_9 rfl rfl rfl ?_
    refine z_get (v := .ref 17) C 2 zOK3 rfl (by decide) w159 rfl rfl dX3_signOfArea_10 rfl ?_
    refine z_iload_n C 1 dX3_signOfArea_13 rfl rfl rfl ?_
    refine z_ci (fun b => b) (fun _ => M) (fun b hb => z_S (na := 2) C [.ref 17, .int x0] rfl (mX3_down Y 17 x0 M b hb) w466 w467 w82 w468 hdX3_down ⟨Nat.le_of_ble_eq_true rfl, Nat.le_of_ble_eq_true rfl⟩ (Nat.le_of_ble_eq_true rfl) rfl dX3_signOfArea_14) rfl (fun b3 => ?_)
    refine z_i2l C dX3_signOfArea_17 rfl ?_
    refine z_lmul C dX3_signOfArea_18 rfl ?_
    refine z_lstore_n C (fun z => [(2, .long z), (0, .ref 15), (1, .int x0)]) dX3_signOfArea_19 rfl (by decide) (fun _ => rfl) rfl (fun y4 => ?_)
    refine z_aload_n C 1 dX3_signOfArea_20 rfl rfl rfl ?_
    refine z_get (v := .ref 17) C 2 zOK3 rfl (by decide) w159 rfl rfl dX3_signOfArea_21 rfl ?_
    refine z_iload_n C 2 dX3_signOfArea_24 rfl rfl rfl ?_
    refine z_ci (fun b => b) (fun _ => M) (fun b hb => z_S (na := 2) C [.ref 17, .int x0] rfl (mX3_across Y 17 x0 M b hb) w463 w464 w82 w465 hdX3_across ⟨Nat.le_of_ble_eq_true rfl, Nat.le_of_ble_eq_true rfl⟩ (Nat.le_of_ble_eq_true rfl) rfl dX3_signOfArea_25) rfl (fun b5 => ?_)
    refine z_i2l C dX3_signOfArea_28 rfl ?_
    refine z_aload_n C 1 dX3_signOfArea_29 rfl rfl rfl ?_
    refine z_get (v := .ref 16) C 1 zOK3 rfl (by decide) w158 rfl rfl dX3_signOfArea_30 rfl ?_
    refine z_iload_n C 2 dX3_signOfArea_33 rfl rfl rfl ?_
    refine z_ci (fun b => b) (fun _ => M) (fun b hb => z_S (na := 2) C [.ref 16, .int x0] rfl (mX3_down Y 16 x0 M b hb) w466 w467 w82 w468 hdX3_down ⟨Nat.le_of_ble_eq_true rfl, Nat.le_of_ble_eq_true rfl⟩ (Nat.le_of_ble_eq_true rfl) rfl dX3_signOfArea_34) rfl (fun b6 => ?_)
    refine z_i2l C dX3_signOfArea_37 rfl ?_
    refine z_lmul C dX3_signOfArea_38 rfl ?_
    refine z_lstore C (fun z => [(4, .long z), (2, .long y4), (0, .ref 15), (1, .int x0)]) dX3_signOfArea_39 (by decide) (fun _ => rfl) rfl (fun y7 => ?_)
    refine z_lload_n C 1 dX3_signOfArea_41 rfl rfl rfl ?_
    refine z_lload C 0 dX3_signOfArea_42 rfl rfl ?_
    refine z_ci (fun b => b) (fun _ => M) (fun b hb => z_S (na := 2) C [.long y4, .long y7] rfl (mJ13_compare_74951 Y y4 y7 M b hb) w469 w470 w90 w471 hdJ13_compare_74951 ⟨Nat.le_of_ble_eq_true rfl, Nat.le_of_ble_eq_true rfl⟩ (Nat.le_of_ble_eq_true rfl) rfl dX3_signOfArea_44) rfl (fun b8 => ?_)
    exact z_iret C rfl rfl dX3_signOfArea_47
  exact key b hF
set_option maxRecDepth 100000 in
set_option maxHeartbeats 4000000 in
theorem mX3_lookAnew (Y : zY) (M : zMem) (b : zMem) (hF : FX3_lookAnew M = some b) : zMt Y yX3_lookAnew cX3_lookAnew 4 none 4 100 [.ref 15] M (zQv Y b) := by
  refine zMt_of (own := RX3) (by decide +kernel) rfl (Nat.le_of_ble_eq_true rfl) (fun X C => ?_)
  have key : zR Y X 4 (zFv Y X (fun b => b)) (FX3_lookAnew M) 0 [(0, .ref 15)] [] M := by
    unfold FX3_lookAnew
    refine z_aload_n C 0 dX3_lookAnew_0 rfl rfl rfl ?_
    refine z_get (v := .int (M.1 15 5)) C 5 zOK3 rfl (by decide) w164 rfl rfl dX3_lookAnew_1 rfl ?_
    refine z_ifne C dX3_lookAnew_4 rfl rfl ?_ ?_
    · refine z_bipush C (-25 : Int32) dX3_lookAnew_8 rfl rfl ?_
      refine z_istoreP_n (lo' := [(1, .int (-25 : Int32)), (0, .ref 15)]) C dX3_lookAnew_10 rfl (by decide) rfl rfl ?_
      refine z_loop (sM := fun s => s.2) (sl := fun s => [(0, .ref 15), (1, .int s.1)]) [1, 0] rfl rfl (fun r1 hr1 s2 => ?_)
      unfold FX3_lookAnew_L11
      refine z_iload_n C 1 dX3_lookAnew_11 rfl rfl rfl ?_
      refine z_bipush C (25 : Int32) dX3_lookAnew_12 rfl rfl ?_
      refine z_icmpgt C dX3_lookAnew_14 rfl rfl ?_ ?_
      · refine z_iconst C (0 : Int32) dX3_lookAnew_76 rfl rfl ?_
        refine z_istoreP_n (lo' := [(1, .int (0 : Int32)), (0, .ref 15)]) C dX3_lookAnew_77 rfl (by decide) rfl rfl ?_
        refine z_loop (sM := fun s => s.2) (sl := fun s => [(0, .ref 15), (1, .int s.1)]) [1, 0] rfl rfl (fun r3 hr3 s4 => ?_)
        unfold FX3_lookAnew_L78
        refine z_iload_n C 1 dX3_lookAnew_78 rfl rfl rfl ?_
        refine z_sipush C (2401 : Int32) dX3_lookAnew_79 rfl rfl ?_
        refine z_icmpge C dX3_lookAnew_82 rfl rfl ?_ ?_
        · refine z_aload_n C 0 dX3_lookAnew_141 rfl rfl rfl ?_
          refine z_iconst C (0 : Int32) dX3_lookAnew_142 rfl rfl ?_
          refine z_puti C 5 zOK3 rfl (by decide) w164 rfl rfl rfl rfl rfl dX3_lookAnew_143 rfl (fun M5 => ?_)
          exact z_vret C rfl dX3_lookAnew_146
        · refine z_iload_n C 1 dX3_lookAnew_85 rfl rfl rfl ?_
          refine z_ci (fun b => b) (fun _ => s4.2) (fun b hb => z_SN (na := 1) C [.int s4.1] rfl (mX7_xOf Y s4.1 s4.2 b hb) (List.mem_of_getElem? (i := 13) rfl) w450 w79 w451 hdX7_xOf ⟨Nat.le_of_ble_eq_true rfl, Nat.le_of_ble_eq_true rfl⟩ (Nat.le_of_ble_eq_true rfl) rfl dX3_lookAnew_86) rfl (fun b6 => ?_)
          refine z_iload_n C 1 dX3_lookAnew_89 rfl rfl rfl ?_
          refine z_ci (fun b => b) (fun _ => s4.2) (fun b hb => z_SN (na := 1) C [.int s4.1] rfl (mX7_yOf Y s4.1 s4.2 b hb) (List.mem_of_getElem? (i := 14) rfl) w453 w79 w454 hdX7_yOf ⟨Nat.le_of_ble_eq_true rfl, Nat.le_of_ble_eq_true rfl⟩ (Nat.le_of_ble_eq_true rfl) rfl dX3_lookAnew_90) rfl (fun b7 => ?_)
          refine z_ci (fun b => b) (fun _ => s4.2) (fun b hb => z_S (na := 2) C [.int b6, .int b7] rfl (mX3_placeAt Y b6 b7 s4.2 b hb) w445 w446 w82 w447 hdX3_placeAt ⟨Nat.le_of_ble_eq_true rfl, Nat.le_of_ble_eq_true rfl⟩ (Nat.le_of_ble_eq_true rfl) rfl dX3_lookAnew_93) rfl (fun b8 => ?_)
          refine z_istoreP_n (lo' := [(2, .int b8), (0, .ref 15), (1, .int s4.1)]) C dX3_lookAnew_96 rfl (by decide) rfl rfl ?_
          refine z_aload_n C 1 dX3_lookAnew_97 rfl rfl rfl ?_
          refine z_get (v := .ref 18) C 3 zOK3 rfl (by decide) w160 rfl rfl dX3_lookAnew_98 rfl ?_
          refine z_iload_n C 2 dX3_lookAnew_101 rfl rfl rfl ?_
          refine z_aload_n C 1 dX3_lookAnew_102 rfl rfl rfl ?_
          refine z_get (v := .ref 16) C 1 zOK3 rfl (by decide) w158 rfl rfl dX3_lookAnew_103 rfl ?_
          refine z_iload_n C 0 dX3_lookAnew_106 rfl rfl rfl ?_
          refine z_iaload C 2601 rfl dX3_lookAnew_107 rfl ?_
          refine z_ci (fun b => b) (fun _ => s4.2) (fun b hb => z_SN (na := 1) C [.int (zrd s4.2 16 b8)] rfl (mX7_cellOf Y (zrd s4.2 16 b8) s4.2 b hb) (List.mem_of_getElem? (i := 15) rfl) w428 w79 w429 hdX7_cellOf ⟨Nat.le_of_ble_eq_true rfl, Nat.le_of_ble_eq_true rfl⟩ (Nat.le_of_ble_eq_true rfl) rfl dX3_lookAnew_108) rfl (fun b9 => ?_)
          refine z_aload_n C 1 dX3_lookAnew_111 rfl rfl rfl ?_
          refine z_get (v := .ref 17) C 2 zOK3 rfl (by decide) w159 rfl rfl dX3_lookAnew_112 rfl ?_
          refine z_iload_n C 0 dX3_lookAnew_115 rfl rfl rfl ?_
          refine z_iaload C 2601 rfl dX3_lookAnew_116 rfl ?_
          refine z_ci (fun b => b) (fun _ => s4.2) (fun b hb => z_SN (na := 1) C [.int (zrd s4.2 17 b8)] rfl (mX7_cellOf Y (zrd s4.2 17 b8) s4.2 b hb) (List.mem_of_getElem? (i := 15) rfl) w428 w79 w429 hdX7_cellOf ⟨Nat.le_of_ble_eq_true rfl, Nat.le_of_ble_eq_true rfl⟩ (Nat.le_of_ble_eq_true rfl) rfl dX3_lookAnew_117) rfl (fun b10 => ?_)
          refine z_ci (fun b => b) (fun _ => s4.2) (fun b hb => z_SN (na := 2) C [.int b9, .int b10] rfl (mX7_keyOf Y b9 b10 s4.2 b hb) (List.mem_of_getElem? (i := 16) rfl) w457 w79 w458 hdX7_keyOf ⟨Nat.le_of_ble_eq_true rfl, Nat.le_of_ble_eq_true rfl⟩ (Nat.le_of_ble_eq_true rfl) rfl dX3_lookAnew_120) rfl (fun b11 => ?_)
          refine z_iastore C 2401 rfl dX3_lookAnew_123 rfl (fun M12 => ?_)
          refine z_aload_n C 1 dX3_lookAnew_124 rfl rfl rfl ?_
          refine z_get (v := .ref 19) C 4 zOK3 rfl (by decide) w163 rfl rfl dX3_lookAnew_125 rfl ?_
          refine z_iload_n C 2 dX3_lookAnew_128 rfl rfl rfl ?_
          refine z_aload_n C 1 dX3_lookAnew_129 rfl rfl rfl ?_
          refine z_iload_n C 0 dX3_lookAnew_130 rfl rfl rfl ?_
          refine z_ci (fun b => b) (fun _ => M12) (fun b hb => z_V (na := 1) (ci := 3) (r := (RX3, TX3, 6)) C [.int b8] rfl (mX3_signOfArea Y b8 M12 b hb) rfl rfl w459 w461 w7 w82 w462 hdX3_signOfArea ⟨Nat.le_of_ble_eq_true rfl, Nat.le_of_ble_eq_true rfl⟩ (Nat.le_of_ble_eq_true rfl) rfl dX3_lookAnew_131) rfl (fun b13 => ?_)
          refine z_iastore C 2401 rfl dX3_lookAnew_134 rfl (fun M14 => ?_)
          refine z_iinc (v := (s4.1 + (1 : Int32))) C 2 (fun z => [(1, .int z), (2, .int b8), (0, .ref 15)]) dX3_lookAnew_135 rfl rfl (by decide) (fun _ => rfl) rfl (fun x15 => ?_)
          refine z_goto C dX3_lookAnew_138 rfl ?_
          exact z_perm [2, 0] rfl (hr3 (x15, M14))
      · refine z_bipush C (-25 : Int32) dX3_lookAnew_17 rfl rfl ?_
        refine z_istoreP_n (lo' := [(2, .int (-25 : Int32)), (0, .ref 15), (1, .int s2.1)]) C dX3_lookAnew_19 rfl (by decide) rfl rfl ?_
        refine z_loop (sM := fun s => s.2) (sl := fun s => [(0, .ref 15), (1, .int s2.1), (2, .int s.1)]) [1, 2, 0] rfl rfl (fun r16 hr16 s17 => ?_)
        unfold FX3_lookAnew_L20
        refine z_iload_n C 2 dX3_lookAnew_20 rfl rfl rfl ?_
        refine z_bipush C (25 : Int32) dX3_lookAnew_21 rfl rfl ?_
        refine z_icmpgt C dX3_lookAnew_23 rfl rfl ?_ ?_
        · refine z_iinc (v := (s2.1 + (1 : Int32))) C 1 (fun z => [(1, .int z), (0, .ref 15), (2, .int s17.1)]) dX3_lookAnew_70 rfl rfl (by decide) (fun _ => rfl) rfl (fun x18 => ?_)
          refine z_goto C dX3_lookAnew_73 rfl ?_
          exact z_perm [1, 0] rfl (hr1 (x18, s17.2))
        · refine z_iload_n C 2 dX3_lookAnew_26 rfl rfl rfl ?_
          refine z_iload_n C 1 dX3_lookAnew_27 rfl rfl rfl ?_
          refine z_ci (fun b => b) (fun _ => s17.2) (fun b hb => z_S (na := 2) C [.int s17.1, .int s2.1] rfl (mX3_placeAt Y s17.1 s2.1 s17.2 b hb) w445 w446 w82 w447 hdX3_placeAt ⟨Nat.le_of_ble_eq_true rfl, Nat.le_of_ble_eq_true rfl⟩ (Nat.le_of_ble_eq_true rfl) rfl dX3_lookAnew_28) rfl (fun b19 => ?_)
          refine z_istoreP_n (lo' := [(3, .int b19), (0, .ref 15), (1, .int s2.1), (2, .int s17.1)]) C dX3_lookAnew_31 rfl (by decide) rfl rfl ?_
          refine z_aload_n C 1 dX3_lookAnew_32 rfl rfl rfl ?_
          refine z_get (v := .ref 16) C 1 zOK3 rfl (by decide) w158 rfl rfl dX3_lookAnew_33 rfl ?_
          refine z_iload_n C 0 dX3_lookAnew_36 rfl rfl rfl ?_
          refine z_aload_n C 1 dX3_lookAnew_37 rfl rfl rfl ?_
          refine z_get (v := .ref 1) C 0 zOK3 rfl (by decide) w157 rfl rfl dX3_lookAnew_38 rfl ?_
          refine z_iload_n C 3 dX3_lookAnew_41 rfl rfl rfl ?_
          refine z_iload_n C 2 dX3_lookAnew_42 rfl rfl rfl ?_
          refine z_iconst C (0 : Int32) dX3_lookAnew_43 rfl rfl ?_
          refine z_ci (fun b => b) (fun _ => s17.2) (fun b hb => z_VN (na := 3) (ci := 2) (r := (RX2, TX2, 4)) C [.int s17.1, .int s2.1, .int (0 : Int32)] rfl (mX2_lightAt Y s17.1 s2.1 (0 : Int32) s17.2 b hb) rfl rfl (List.mem_of_getElem? (i := 12) rfl) w416 w3 w80 w417 hdX2_lightAtN ⟨Nat.le_of_ble_eq_true rfl, Nat.le_of_ble_eq_true rfl⟩ (Nat.le_of_ble_eq_true rfl) rfl dX3_lookAnew_44) rfl (fun b20 => ?_)
          refine z_iastore C 2601 rfl dX3_lookAnew_47 rfl (fun M21 => ?_)
          refine z_aload_n C 1 dX3_lookAnew_48 rfl rfl rfl ?_
          refine z_get (v := .ref 17) C 2 zOK3 rfl (by decide) w159 rfl rfl dX3_lookAnew_49 rfl ?_
          refine z_iload_n C 0 dX3_lookAnew_52 rfl rfl rfl ?_
          refine z_aload_n C 1 dX3_lookAnew_53 rfl rfl rfl ?_
          refine z_get (v := .ref 1) C 0 zOK3 rfl (by decide) w157 rfl rfl dX3_lookAnew_54 rfl ?_
          refine z_iload_n C 3 dX3_lookAnew_57 rfl rfl rfl ?_
          refine z_iload_n C 2 dX3_lookAnew_58 rfl rfl rfl ?_
          refine z_iconst C (1 : Int32) dX3_lookAnew_59 rfl rfl ?_
          refine z_ci (fun b => b) (fun _ => M21) (fun b hb => z_VN (na := 3) (ci := 2) (r := (RX2, TX2, 4)) C [.int s17.1, .int s2.1, .int (1 : Int32)] rfl (mX2_lightAt Y s17.1 s2.1 (1 : Int32) M21 b hb) rfl rfl (List.mem_of_getElem? (i := 12) rfl) w416 w3 w80 w417 hdX2_lightAtN ⟨Nat.le_of_ble_eq_true rfl, Nat.le_of_ble_eq_true rfl⟩ (Nat.le_of_ble_eq_true rfl) rfl dX3_lookAnew_60) rfl (fun b22 => ?_)
          refine z_iastore C 2601 rfl dX3_lookAnew_63 rfl (fun M23 => ?_)
          refine z_iinc (v := (s17.1 + (1 : Int32))) C 3 (fun z => [(2, .int z), (3, .int b19), (0, .ref 15), (1, .int s2.1)]) dX3_lookAnew_64 rfl rfl (by decide) (fun _ => rfl) rfl (fun x24 => ?_)
          refine z_goto C dX3_lookAnew_67 rfl ?_
          exact z_perm [2, 3, 0] rfl (hr16 (x24, M23))
    · exact z_vret C rfl dX3_lookAnew_7
  exact key b hF
set_option maxRecDepth 100000 in
set_option maxHeartbeats 4000000 in
theorem mX7_pixelAt (Y : zY) (x0 : Int32) (x1 : Int32) (M : zMem) (b : Int32) (hF : FX7_pixelAt x0 x1 = some b) : zMt Y yX7_pixelAt cX7_pixelAt 2 (some .int) 0 0 [.int x0, .int x1] M (zQi Y b M) := by
  refine zMt_of (own := RX7) (by decide +kernel) rfl (Nat.le_of_ble_eq_true rfl) (fun X C => ?_)
  have key : zR Y X 2 (zFi Y X (fun b => b) (fun _ => M)) (FX7_pixelAt x0 x1) 0 [(0, .int x0), (1, .int x1)] [] M := by
    unfold FX7_pixelAt
    refine z_iload_n C 1 dX7_pixelAt_0 rfl rfl rfl ?_
    refine z_bipush C (24 : Int32) dX7_pixelAt_1 rfl rfl ?_
    refine z_iadd C dX7_pixelAt_3 rfl ?_
    refine z_bipush C (49 : Int32) dX7_pixelAt_4 rfl rfl ?_
    refine z_imul C dX7_pixelAt_6 rfl ?_
    refine z_iload_n C 0 dX7_pixelAt_7 rfl rfl rfl ?_
    refine z_iadd C dX7_pixelAt_8 rfl ?_
    refine z_bipush C (24 : Int32) dX7_pixelAt_9 rfl rfl ?_
    refine z_iadd C dX7_pixelAt_11 rfl ?_
    exact z_iret C rfl rfl dX7_pixelAt_12
  exact key b hF
set_option maxRecDepth 100000 in
set_option maxHeartbeats 4000000 in
theorem mX3_parityAt (Y : zY) (x0 : Int32) (x1 : Int32) (M : zMem) (b : Int32) (hF : FX3_parityAt x0 x1 M = some b) : zMt Y yX3_parityAt cX3_parityAt 3 (some .int) 1 21 [.ref 15, .int x0, .int x1] M (zQi Y b M) := by
  refine zMt_of (own := RX3) (by decide +kernel) rfl (Nat.le_of_ble_eq_true rfl) (fun X C => ?_)
  have key : zR Y X 3 (zFi Y X (fun b => b) (fun _ => M)) (FX3_parityAt x0 x1 M) 0 [(0, .ref 15), (1, .int x0), (2, .int x1)] [] M := by
    unfold FX3_parityAt
    refine z_aload_n C 0 dX3_parityAt_0 rfl rfl rfl ?_
    refine z_get (v := .ref 19) C 4 zOK3 rfl (by decide) w163 rfl rfl dX3_parityAt_1 rfl ?_
    refine z_iload_n C 1 dX3_parityAt_4 rfl rfl rfl ?_
    refine z_iload_n C 2 dX3_parityAt_5 rfl rfl rfl ?_
    refine z_ci (fun b => b) (fun _ => M) (fun b hb => z_SN (na := 2) C [.int x0, .int x1] rfl (mX7_pixelAt Y x0 x1 M b hb) (List.mem_of_getElem? (i := 19) rfl) w502 w79 w503 hdX7_pixelAt ⟨Nat.le_of_ble_eq_true rfl, Nat.le_of_ble_eq_true rfl⟩ (Nat.le_of_ble_eq_true rfl) rfl dX3_parityAt_6) rfl (fun b3 => ?_)
    refine z_iaload C 2401 rfl dX3_parityAt_9 rfl ?_
    exact z_iret C rfl rfl dX3_parityAt_10
  exact key b hF
set_option maxRecDepth 100000 in
set_option maxHeartbeats 4000000 in
theorem mX3_isCritical (Y : zY) (x0 : Int32) (x1 : Int32) (M : zMem) (b : Int32) (hF : FX3_isCritical x0 x1 M = some b) : zMt Y yX3_isCritical cX3_isCritical 4 (some .boolean) 2 43 [.ref 15, .int x0, .int x1] M (zQi Y b M) := by
  refine zMt_of (own := RX3) (by decide +kernel) rfl (Nat.le_of_ble_eq_true rfl) (fun X C => ?_)
  have key : zR Y X 4 (zFi Y X (fun b => b) (fun _ => M)) (FX3_isCritical x0 x1 M) 0 [(0, .ref 15), (1, .int x0), (2, .int x1)] [] M := by
    unfold FX3_isCritical
    refine z_aload_n C 0 dX3_isCritical_0 rfl rfl rfl ?_
    refine z_iload_n C 1 dX3_isCritical_1 rfl rfl rfl ?_
    refine z_iload_n C 2 dX3_isCritical_2 rfl rfl rfl ?_
    refine z_ci (fun b => b) (fun _ => M) (fun b hb => z_V (na := 2) (ci := 3) (r := (RX3, TX3, 6)) C [.int x0, .int x1] rfl (mX3_parityAt Y x0 x1 M b hb) rfl rfl w516 w499 w11 w82 w500 hdX3_parityAt ⟨Nat.le_of_ble_eq_true rfl, Nat.le_of_ble_eq_true rfl⟩ (Nat.le_of_ble_eq_true rfl) rfl dX3_isCritical_3) rfl (fun b3 => ?_)
    refine z_istoreP_n (lo' := [(3, .int b3), (0, .ref 15), (1, .int x0), (2, .int x1)]) C dX3_isCritical_6 rfl (by decide) rfl rfl ?_
    refine z_iload_n C 2 dX3_isCritical_7 rfl rfl rfl ?_
    refine z_bipush C (24 : Int32) dX3_isCritical_8 rfl rfl ?_
    refine z_join (fun k5 => ∀ (u4 : Unit), zR Y X 4 (zFi Y X (fun b => b) (fun _ => M)) (k5 u4) 43 [] [] M) (fun u4 => ?_) (fun k5 hk5 => ?_)
    · refine z_iconst C (1 : Int32) dX3_isCritical_43 rfl rfl ?_
      refine z_goto C dX3_isCritical_44 rfl ?_
      exact z_zretK C rfl rfl rfl dX3_isCritical_48
    · refine z_join (fun k7 => ∀ (u6 : Unit), zR Y X 4 (zFi Y X (fun b => b) (fun _ => M)) (k7 u6) 25 [(0, .ref 15), (1, .int x0), (2, .int x1), (3, .int b3)] [] M) (fun u6 => ?_) (fun k7 hk7 => ?_)
      · refine z_iload_n C 2 dX3_isCritical_25 rfl rfl rfl ?_
        refine z_bipush C (24 : Int32) dX3_isCritical_26 rfl rfl ?_
        refine z_icmpge C dX3_isCritical_28 rfl rfl ?_ ?_
        · refine z_iconst C (0 : Int32) dX3_isCritical_47 rfl rfl ?_
          exact z_zretK C rfl rfl rfl dX3_isCritical_48
        · refine z_aload_n C 0 dX3_isCritical_31 rfl rfl rfl ?_
          refine z_iload_n C 1 dX3_isCritical_32 rfl rfl rfl ?_
          refine z_iload_n C 2 dX3_isCritical_33 rfl rfl rfl ?_
          refine z_iconst C (1 : Int32) dX3_isCritical_34 rfl rfl ?_
          refine z_iadd C dX3_isCritical_35 rfl ?_
          refine z_ci (fun b => b) (fun _ => M) (fun b hb => z_V (na := 2) (ci := 3) (r := (RX3, TX3, 6)) C [.int x0, .int (x1 + (1 : Int32))] rfl (mX3_parityAt Y x0 (x1 + (1 : Int32)) M b hb) rfl rfl w516 w499 w11 w82 w500 hdX3_parityAt ⟨Nat.le_of_ble_eq_true rfl, Nat.le_of_ble_eq_true rfl⟩ (Nat.le_of_ble_eq_true rfl) rfl dX3_isCritical_36) rfl (fun b8 => ?_)
          refine z_iload_n C 3 dX3_isCritical_39 rfl rfl rfl ?_
          refine z_icmpeq C dX3_isCritical_40 rfl rfl ?_ ?_
          · refine z_iconst C (0 : Int32) dX3_isCritical_47 rfl rfl ?_
            exact z_zretK C rfl rfl rfl dX3_isCritical_48
          · exact z_perm [] rfl (hk5 ())
      · refine z_icmpge C dX3_isCritical_10 rfl rfl ?_ ?_
        · exact z_perm [1, 2, 3, 0] rfl (hk7 ())
        · refine z_aload_n C 1 dX3_isCritical_13 rfl rfl rfl ?_
          refine z_iload_n C 2 dX3_isCritical_14 rfl rfl rfl ?_
          refine z_iconst C (1 : Int32) dX3_isCritical_15 rfl rfl ?_
          refine z_iadd C dX3_isCritical_16 rfl ?_
          refine z_iload_n C 3 dX3_isCritical_17 rfl rfl rfl ?_
          refine z_ci (fun b => b) (fun _ => M) (fun b hb => z_V (na := 2) (ci := 3) (r := (RX3, TX3, 6)) C [.int (x0 + (1 : Int32)), .int x1] rfl (mX3_parityAt Y (x0 + (1 : Int32)) x1 M b hb) rfl rfl w516 w499 w11 w82 w500 hdX3_parityAt ⟨Nat.le_of_ble_eq_true rfl, Nat.le_of_ble_eq_true rfl⟩ (Nat.le_of_ble_eq_true rfl) rfl dX3_isCritical_18) rfl (fun b9 => ?_)
          refine z_iload_n C 0 dX3_isCritical_21 rfl rfl rfl ?_
          refine z_icmpne C dX3_isCritical_22 rfl rfl ?_ ?_
          · exact z_perm [] rfl (hk5 ())
          · exact z_perm [1, 2, 3, 0] rfl (hk7 ())
  exact key b hF
set_option maxRecDepth 100000 in
set_option maxHeartbeats 4000000 in
theorem mX3_countOfParity (Y : zY) (x0 : Int32) (M : zMem) (b : Int32) (hF : FX3_countOfParity x0 M = some b) : zMt Y yX3_countOfParity cX3_countOfParity 4 (some .int) 0 0 [.ref 15, .int x0] M (zQi Y b M) := by
  refine zMt_of (own := RX3) (by decide +kernel) rfl (Nat.le_of_ble_eq_true rfl) (fun X C => ?_)
  have key : zR Y X 4 (zFi Y X (fun b => b) (fun _ => M)) (FX3_countOfParity x0 M) 0 [(0, .ref 15), (1, .int x0)] [] M := by
    unfold FX3_countOfParity
    refine z_iconst C (0 : Int32) dX3_countOfParity_0 rfl rfl ?_
    refine z_istoreP_n (lo' := [(2, .int (0 : Int32)), (0, .ref 15), (1, .int x0)]) C dX3_countOfParity_1 rfl (by decide) rfl rfl ?_
    refine z_iconst C (0 : Int32) dX3_countOfParity_2 rfl rfl ?_
    refine z_istoreP_n (lo' := [(3, .int (0 : Int32)), (2, .int (0 : Int32)), (0, .ref 15), (1, .int x0)]) C dX3_countOfParity_3 rfl (by decide) rfl rfl ?_
    refine z_loop (sM := fun s => M) (sl := fun s => [(0, .ref 15), (1, .int x0), (2, .int s.1), (3, .int s.2)]) [2, 3, 1, 0] rfl rfl (fun r2 hr2 s3 => ?_)
    unfold FX3_countOfParity_L4
    refine z_iload_n C 3 dX3_countOfParity_4 rfl rfl rfl ?_
    refine z_sipush C (2401 : Int32) dX3_countOfParity_5 rfl rfl ?_
    refine z_icmpge C dX3_countOfParity_8 rfl rfl ?_ ?_
    · refine z_iload_n C 2 dX3_countOfParity_35 rfl rfl rfl ?_
      exact z_iret C rfl rfl dX3_countOfParity_36
    · refine z_iload_n C 2 dX3_countOfParity_11 rfl rfl rfl ?_
      refine z_aload_n C 0 dX3_countOfParity_12 rfl rfl rfl ?_
      refine z_get (v := .ref 19) C 4 zOK3 rfl (by decide) w163 rfl rfl dX3_countOfParity_13 rfl ?_
      refine z_iload_n C 3 dX3_countOfParity_16 rfl rfl rfl ?_
      refine z_iaload C 2401 rfl dX3_countOfParity_17 rfl ?_
      refine z_iload_n C 1 dX3_countOfParity_18 rfl rfl rfl ?_
      refine z_join (fun k5 => ∀ (x4 : Int32), zR Y X 4 (zFi Y X (fun b => b) (fun _ => M)) (k5 x4) 27 [(0, .ref 15), (1, .int x0), (3, .int s3.2)] [.int x4, .int s3.1] M) (fun x4 => ?_) (fun k5 hk5 => ?_)
      · refine z_iadd C dX3_countOfParity_27 rfl ?_
        refine z_istore_n C (fun z => [(2, .int z), (0, .ref 15), (1, .int x0), (3, .int s3.2)]) dX3_countOfParity_28 rfl (by decide) (fun _ => rfl) rfl (fun x6 => ?_)
        refine z_iinc (v := (s3.2 + (1 : Int32))) C 3 (fun z => [(3, .int z), (2, .int x6), (0, .ref 15), (1, .int x0)]) dX3_countOfParity_29 rfl rfl (by decide) (fun _ => rfl) rfl (fun x7 => ?_)
        refine z_goto C dX3_countOfParity_32 rfl ?_
        exact z_perm [2, 3, 1, 0] rfl (hr2 (x6, x7))
      · refine z_icmpne C dX3_countOfParity_19 rfl rfl ?_ ?_
        · refine z_iconst C (0 : Int32) dX3_countOfParity_26 rfl rfl ?_
          exact z_perm [0, 1, 3] rfl (hk5 (0 : Int32))
        · refine z_iconst C (1 : Int32) dX3_countOfParity_22 rfl rfl ?_
          refine z_goto C dX3_countOfParity_23 rfl ?_
          exact z_perm [0, 1, 3] rfl (hk5 (1 : Int32))
  exact key b hF
set_option maxRecDepth 100000 in
set_option maxHeartbeats 4000000 in
theorem mJ6_signum_0f7a4 (Y : zY) (x0 : Int32) (M : zMem) (b : Int32) (hF : FJ6_signum_0f7a4 x0 = some b) : zMt Y yJ6_signum_0f7a4 cJ6_signum_0f7a4 1 (some .int) 0 0 [.int x0] M (zQi Y b M) := by
  refine zMt_of (own := RJ6) (by decide +kernel) rfl (Nat.le_of_ble_eq_true rfl) (fun X C => ?_)
  have key : zR Y X 1 (zFi Y X (fun b => b) (fun _ => M)) (FJ6_signum_0f7a4 x0) 0 [(0, .int x0)] [] M := by
    unfold FJ6_signum_0f7a4
    refine z_iload_n C 0 dJ6_signum_0f7a4_0 rfl rfl rfl ?_
    refine z_bipush C (31 : Int32) dJ6_signum_0f7a4_1 rfl rfl ?_
    refine z_ishr C dJ6_signum_0f7a4_3 rfl ?_
    refine z_iload_n C 0 dJ6_signum_0f7a4_4 rfl rfl rfl ?_
    refine z_ineg C dJ6_signum_0f7a4_5 rfl ?_
    refine z_bipush C (31 : Int32) dJ6_signum_0f7a4_6 rfl rfl ?_
    refine z_iushr C dJ6_signum_0f7a4_8 rfl ?_
    refine z_ior C dJ6_signum_0f7a4_9 rfl ?_
    exact z_iret C rfl rfl dJ6_signum_0f7a4_10
  exact key b hF
set_option maxRecDepth 100000 in
set_option maxHeartbeats 4000000 in
theorem mJ9_abs_0f7a4 (Y : zY) (x0 : Int32) (M : zMem) (b : Int32) (hF : FJ9_abs_0f7a4 x0 = some b) : zMt Y yJ9_abs_0f7a4 cJ9_abs_0f7a4 1 (some .int) 0 0 [.int x0] M (zQi Y b M) := by
  refine zMt_ofF (own := RJ9) (by decide +kernel) rfl (Nat.le_of_ble_eq_true rfl) (fun X C => ?_)
  have key : zR Y X 1 (zFi Y X (fun b => b) (fun _ => M)) (FJ9_abs_0f7a4 x0) 0 [(0, .int x0)] [] M := by
    unfold FJ9_abs_0f7a4
    refine z_iload_n C 0 dJ9_abs_0f7a4_0 rfl rfl rfl ?_
    refine z_ifge C dJ9_abs_0f7a4_1 rfl rfl ?_ ?_
    · refine z_iload_n C 0 dJ9_abs_0f7a4_9 rfl rfl rfl ?_
      exact z_iret C rfl rfl dJ9_abs_0f7a4_10
    · refine z_iload_n C 0 dJ9_abs_0f7a4_4 rfl rfl rfl ?_
      refine z_ineg C dJ9_abs_0f7a4_5 rfl ?_
      refine z_goto C dJ9_abs_0f7a4_6 rfl ?_
      exact z_iret C rfl rfl dJ9_abs_0f7a4_10
  exact key b hF
set_option maxRecDepth 100000 in
set_option maxHeartbeats 4000000 in
theorem mX3_delayAlong (Y : zY) (q0 : Nat) (x1 : Int32) (x2 : Int32) (x3 : Int32) (x4 : Int32) (M : zMem) (b : Int64) (hF : FX3_delayAlong q0 x1 x2 x3 x4 M = some b) : zMt Y yX3_delayAlong cX3_delayAlong 10 (some .long) 1 20 [.ref q0, .int x1, .int x2, .int x3, .int x4] M (zQl Y b M) := by
  refine zMt_of (own := RX3) (by decide +kernel) rfl (Nat.le_of_ble_eq_true rfl) (fun X C => ?_)
  have key : zR Y X 10 (zFl Y X (fun b => b) (fun _ => M)) (FX3_delayAlong q0 x1 x2 x3 x4 M) 0 [(0, .ref q0), (1, .int x1), (2, .int x2), (3, .int x3), (4, .int x4)] [] M := by
    unfold FX3_delayAlong
    refine z_iload_n C 2 dX3_delayAlong_0 rfl rfl rfl ?_
    refine z_ci (fun b => b) (fun _ => M) (fun b hb => z_S (na := 1) C [.int x2] rfl (mJ6_signum_0f7a4 Y x2 M b hb) w563 w564 w91 w565 hdJ6_signum_0f7a4 ⟨Nat.le_of_ble_eq_true rfl, Nat.le_of_ble_eq_true rfl⟩ (Nat.le_of_ble_eq_true rfl) rfl dX3_delayAlong_1) rfl (fun b6 => ?_)
    refine z_istoreP (lo' := [(5, .int b6), (0, .ref q0), (1, .int x1), (2, .int x2), (3, .int x3), (4, .int x4)]) C dX3_delayAlong_4 (by decide) rfl rfl ?_
    refine z_lconst C (0 : Int64) dX3_delayAlong_6 rfl rfl ?_
    refine z_lstore C (fun z => [(6, .long z), (5, .int b6), (0, .ref q0), (1, .int x1), (2, .int x2), (3, .int x3), (4, .int x4)]) dX3_delayAlong_7 (by decide) (fun _ => rfl) rfl (fun y7 => ?_)
    refine z_iconst C (0 : Int32) dX3_delayAlong_9 rfl rfl ?_
    refine z_istoreP (lo' := [(8, .int (0 : Int32)), (6, .long y7), (5, .int b6), (0, .ref q0), (1, .int x1), (2, .int x2), (3, .int x3), (4, .int x4)]) C dX3_delayAlong_10 (by decide) rfl rfl ?_
    refine z_loop (sM := fun s => M) (sl := fun s => [(0, .ref q0), (1, .int x1), (2, .int x2), (3, .int x3), (4, .int x4), (5, .int b6), (6, .long s.1), (8, .int s.2)]) [3, 4, 5, 6, 7, 2, 1, 0] rfl rfl (fun r8 hr8 s9 => ?_)
    unfold FX3_delayAlong_L12
    refine z_iload C 7 dX3_delayAlong_12 rfl rfl ?_
    refine z_iload_n C 2 dX3_delayAlong_14 rfl rfl rfl ?_
    refine z_ci (fun b => b) (fun _ => M) (fun b hb => z_S (na := 1) C [.int x2] rfl (mJ9_abs_0f7a4 Y x2 M b hb) w566 w567 w89 w568 hdJ9_abs_0f7a4 ⟨Nat.le_of_ble_eq_true rfl, Nat.le_of_ble_eq_true rfl⟩ (Nat.le_of_ble_eq_true rfl) rfl dX3_delayAlong_15) rfl (fun b10 => ?_)
    refine z_icmpge C dX3_delayAlong_18 rfl rfl ?_ ?_
    · refine z_lload C 6 dX3_delayAlong_67 rfl rfl ?_
      exact z_lret C rfl rfl dX3_delayAlong_69
    · refine z_iload_n C 1 dX3_delayAlong_21 rfl rfl rfl ?_
      refine z_iload C 7 dX3_delayAlong_22 rfl rfl ?_
      refine z_iload C 5 dX3_delayAlong_24 rfl rfl ?_
      refine z_imul C dX3_delayAlong_26 rfl ?_
      refine z_iload_n C 3 dX3_delayAlong_27 rfl rfl rfl ?_
      refine z_imul C dX3_delayAlong_28 rfl ?_
      refine z_iadd C dX3_delayAlong_29 rfl ?_
      refine z_istore C (fun z => [(9, .int z), (0, .ref q0), (1, .int x1), (2, .int x2), (3, .int x3), (4, .int x4), (5, .int b6), (6, .long s9.1), (8, .int s9.2)]) dX3_delayAlong_30 (by decide) (fun _ => rfl) rfl (fun x11 => ?_)
      refine z_lload C 7 dX3_delayAlong_32 rfl rfl ?_
      refine z_iload C 6 dX3_delayAlong_34 rfl rfl ?_
      refine z_i2l C dX3_delayAlong_36 rfl ?_
      refine z_aload_n C 1 dX3_delayAlong_37 rfl rfl rfl ?_
      refine z_iload C 0 dX3_delayAlong_38 rfl rfl ?_
      refine z_iaload C (zlenI q0) rfl dX3_delayAlong_40 rfl ?_
      refine z_aload_n C 1 dX3_delayAlong_41 rfl rfl rfl ?_
      refine z_iload C 0 dX3_delayAlong_42 rfl rfl ?_
      refine z_iload C 6 dX3_delayAlong_44 rfl rfl ?_
      refine z_iload_n C 4 dX3_delayAlong_46 rfl rfl rfl ?_
      refine z_imul C dX3_delayAlong_47 rfl ?_
      refine z_iadd C dX3_delayAlong_48 rfl ?_
      refine z_iaload C (zlenI q0) rfl dX3_delayAlong_49 rfl ?_
      refine z_iadd C dX3_delayAlong_50 rfl ?_
      refine z_iconst C (2 : Int32) dX3_delayAlong_51 rfl rfl ?_
      refine z_iload C 5 dX3_delayAlong_52 rfl rfl ?_
      refine z_imul C dX3_delayAlong_54 rfl ?_
      refine z_isub C dX3_delayAlong_55 rfl ?_
      refine z_i2l C dX3_delayAlong_56 rfl ?_
      refine z_lmul C dX3_delayAlong_57 rfl ?_
      refine z_ladd C dX3_delayAlong_58 rfl ?_
      refine z_lstore C (fun z => [(6, .long z), (9, .int x11), (0, .ref q0), (1, .int x1), (2, .int x2), (3, .int x3), (4, .int x4), (5, .int b6), (8, .int s9.2)]) dX3_delayAlong_59 (by decide) (fun _ => rfl) rfl (fun y12 => ?_)
      refine z_iinc (v := (s9.2 + (1 : Int32))) C 8 (fun z => [(8, .int z), (6, .long y12), (9, .int x11), (0, .ref q0), (1, .int x1), (2, .int x2), (3, .int x3), (4, .int x4), (5, .int b6)]) dX3_delayAlong_61 rfl rfl (by decide) (fun _ => rfl) rfl (fun x13 => ?_)
      refine z_goto C dX3_delayAlong_64 rfl ?_
      exact z_perm [3, 4, 5, 6, 7, 8, 1, 0] rfl (hr8 (y12, x13))
  exact key b hF
set_option maxRecDepth 100000 in
set_option maxHeartbeats 4000000 in
theorem mX3_delayOnWay (Y : zY) (x0 : Int32) (x1 : Int32) (x2 : Int32) (x3 : Int32) (x4 : Int32) (x5 : Int32) (M : zMem) (b : Int64) (hF : FX3_delayOnWay x0 x1 x2 x3 x4 x5 M = some b) : zMt Y yX3_delayOnWay cX3_delayOnWay 7 (some .long) 2 49 [.ref 15, .int x0, .int x1, .int x2, .int x3, .int x4, .int x5] M (zQl Y b M) := by
  refine zMt_of (own := RX3) (by decide +kernel) rfl (Nat.le_of_ble_eq_true rfl) (fun X C => ?_)
  have key : zR Y X 7 (zFl Y X (fun b => b) (fun _ => M)) (FX3_delayOnWay x0 x1 x2 x3 x4 x5 M) 0 [(0, .ref 15), (1, .int x0), (2, .int x1), (3, .int x2), (4, .int x3), (5, .int x4), (6, .int x5)] [] M := by
    unfold FX3_delayOnWay
    refine z_aload_n C 0 dX3_delayOnWay_0 rfl rfl rfl ?_
    refine z_get (v := .ref 16) C 1 zOK3 rfl (by decide) w158 rfl rfl dX3_delayOnWay_1 rfl ?_
    refine z_iload_n C 1 dX3_delayOnWay_4 rfl rfl rfl ?_
    refine z_iload_n C 2 dX3_delayOnWay_5 rfl rfl rfl ?_
    refine z_ci (fun b => b) (fun _ => M) (fun b hb => z_S (na := 2) C [.int x0, .int x1] rfl (mX3_placeAt Y x0 x1 M b hb) w445 w446 w82 w447 hdX3_placeAt ⟨Nat.le_of_ble_eq_true rfl, Nat.le_of_ble_eq_true rfl⟩ (Nat.le_of_ble_eq_true rfl) rfl dX3_delayOnWay_6) rfl (fun b7 => ?_)
    refine z_iload_n C 3 dX3_delayOnWay_9 rfl rfl rfl ?_
    refine z_iload_n C 1 dX3_delayOnWay_10 rfl rfl rfl ?_
    refine z_isub C dX3_delayOnWay_11 rfl ?_
    refine z_iconst C (1 : Int32) dX3_delayOnWay_12 rfl rfl ?_
    refine z_iload C 5 dX3_delayOnWay_13 rfl rfl ?_
    refine z_cl (fun b => b) (fun _ => M) (fun b hb => z_S (na := 5) C [.ref 16, .int b7, .int (x2 - x0), .int (1 : Int32), .int x4] rfl (mX3_delayAlong Y 16 b7 (x2 - x0) (1 : Int32) x4 M b hb) w560 w561 w82 w562 hdX3_delayAlong ⟨Nat.le_of_ble_eq_true rfl, Nat.le_of_ble_eq_true rfl⟩ (Nat.le_of_ble_eq_true rfl) rfl dX3_delayOnWay_15) rfl (fun b8 => ?_)
    refine z_aload_n C 0 dX3_delayOnWay_18 rfl rfl rfl ?_
    refine z_get (v := .ref 17) C 2 zOK3 rfl (by decide) w159 rfl rfl dX3_delayOnWay_19 rfl ?_
    refine z_iload_n C 3 dX3_delayOnWay_22 rfl rfl rfl ?_
    refine z_iload_n C 2 dX3_delayOnWay_23 rfl rfl rfl ?_
    refine z_ci (fun b => b) (fun _ => M) (fun b hb => z_S (na := 2) C [.int x2, .int x1] rfl (mX3_placeAt Y x2 x1 M b hb) w445 w446 w82 w447 hdX3_placeAt ⟨Nat.le_of_ble_eq_true rfl, Nat.le_of_ble_eq_true rfl⟩ (Nat.le_of_ble_eq_true rfl) rfl dX3_delayOnWay_24) rfl (fun b9 => ?_)
    refine z_iload C 4 dX3_delayOnWay_27 rfl rfl ?_
    refine z_iload_n C 2 dX3_delayOnWay_29 rfl rfl rfl ?_
    refine z_isub C dX3_delayOnWay_30 rfl ?_
    refine z_bipush C (51 : Int32) dX3_delayOnWay_31 rfl rfl ?_
    refine z_iload C 6 dX3_delayOnWay_33 rfl rfl ?_
    refine z_cl (fun b => b) (fun _ => M) (fun b hb => z_S (na := 5) C [.ref 17, .int b9, .int (x3 - x1), .int (51 : Int32), .int x5] rfl (mX3_delayAlong Y 17 b9 (x3 - x1) (51 : Int32) x5 M b hb) w560 w561 w82 w562 hdX3_delayAlong ⟨Nat.le_of_ble_eq_true rfl, Nat.le_of_ble_eq_true rfl⟩ (Nat.le_of_ble_eq_true rfl) rfl dX3_delayOnWay_35) rfl (fun b10 => ?_)
    refine z_ladd C dX3_delayOnWay_38 rfl ?_
    exact z_lret C rfl rfl dX3_delayOnWay_39
  exact key b hF
set_option maxRecDepth 100000 in
set_option maxHeartbeats 4000000 in
theorem mX3_doubledStretchAt (Y : zY) (x0 : Int32) (x1 : Int32) (M : zMem) (b : Int64) (hF : FX3_doubledStretchAt x0 x1 M = some b) : zMt Y yX3_doubledStretchAt cX3_doubledStretchAt 8 (some .long) 1 21 [.ref 15, .int x0, .int x1] M (zQl Y b M) := by
  refine zMt_of (own := RX3) (by decide +kernel) rfl (Nat.le_of_ble_eq_true rfl) (fun X C => ?_)
  have key : zR Y X 8 (zFl Y X (fun b => b) (fun _ => M)) (FX3_doubledStretchAt x0 x1 M) 0 [(0, .ref 15), (1, .int x0), (2, .int x1)] [] M := by
    unfold FX3_doubledStretchAt
    refine z_iload_n C 1 dX3_doubledStretchAt_0 rfl rfl rfl ?_
    refine z_iload_n C 2 dX3_doubledStretchAt_1 rfl rfl rfl ?_
    refine z_ci (fun b => b) (fun _ => M) (fun b hb => z_S (na := 2) C [.int x0, .int x1] rfl (mX3_placeAt Y x0 x1 M b hb) w445 w446 w82 w447 hdX3_placeAt ⟨Nat.le_of_ble_eq_true rfl, Nat.le_of_ble_eq_true rfl⟩ (Nat.le_of_ble_eq_true rfl) rfl dX3_doubledStretchAt_2) rfl (fun b3 => ?_)
    refine z_istoreP_n (lo' := [(3, .int b3), (0, .ref 15), (1, .int x0), (2, .int x1)]) C dX3_doubledStretchAt_5 rfl (by decide) rfl rfl ?_
    refine z_aload_n C 1 dX3_doubledStretchAt_6 rfl rfl rfl ?_
    refine z_get (v := .ref 17) C 2 zOK3 rfl (by decide) w159 rfl rfl dX3_doubledStretchAt_7 rfl ?_
    refine z_iload_n C 0 dX3_doubledStretchAt_10 rfl rfl rfl ?_
    refine z_ci (fun b => b) (fun _ => M) (fun b hb => z_S (na := 2) C [.ref 17, .int b3] rfl (mX3_across Y 17 b3 M b hb) w463 w464 w82 w465 hdX3_across ⟨Nat.le_of_ble_eq_true rfl, Nat.le_of_ble_eq_true rfl⟩ (Nat.le_of_ble_eq_true rfl) rfl dX3_doubledStretchAt_11) rfl (fun b4 => ?_)
    refine z_aload_n C 1 dX3_doubledStretchAt_14 rfl rfl rfl ?_
    refine z_get (v := .ref 16) C 1 zOK3 rfl (by decide) w158 rfl rfl dX3_doubledStretchAt_15 rfl ?_
    refine z_iload_n C 0 dX3_doubledStretchAt_18 rfl rfl rfl ?_
    refine z_ci (fun b => b) (fun _ => M) (fun b hb => z_S (na := 2) C [.ref 16, .int b3] rfl (mX3_down Y 16 b3 M b hb) w466 w467 w82 w468 hdX3_down ⟨Nat.le_of_ble_eq_true rfl, Nat.le_of_ble_eq_true rfl⟩ (Nat.le_of_ble_eq_true rfl) rfl dX3_doubledStretchAt_19) rfl (fun b5 => ?_)
    refine z_iadd C dX3_doubledStretchAt_22 rfl ?_
    refine z_i2l C dX3_doubledStretchAt_23 rfl ?_
    refine z_lstore C (fun z => [(4, .long z), (3, .int b3), (0, .ref 15), (1, .int x0), (2, .int x1)]) dX3_doubledStretchAt_24 (by decide) (fun _ => rfl) rfl (fun y6 => ?_)
    refine z_aload_n C 2 dX3_doubledStretchAt_26 rfl rfl rfl ?_
    refine z_get (v := .ref 16) C 1 zOK3 rfl (by decide) w158 rfl rfl dX3_doubledStretchAt_27 rfl ?_
    refine z_iload_n C 1 dX3_doubledStretchAt_30 rfl rfl rfl ?_
    refine z_ci (fun b => b) (fun _ => M) (fun b hb => z_S (na := 2) C [.ref 16, .int b3] rfl (mX3_across Y 16 b3 M b hb) w463 w464 w82 w465 hdX3_across ⟨Nat.le_of_ble_eq_true rfl, Nat.le_of_ble_eq_true rfl⟩ (Nat.le_of_ble_eq_true rfl) rfl dX3_doubledStretchAt_31) rfl (fun b7 => ?_)
    refine z_aload_n C 2 dX3_doubledStretchAt_34 rfl rfl rfl ?_
    refine z_get (v := .ref 17) C 2 zOK3 rfl (by decide) w159 rfl rfl dX3_doubledStretchAt_35 rfl ?_
    refine z_iload_n C 1 dX3_doubledStretchAt_38 rfl rfl rfl ?_
    refine z_ci (fun b => b) (fun _ => M) (fun b hb => z_S (na := 2) C [.ref 17, .int b3] rfl (mX3_down Y 17 b3 M b hb) w466 w467 w82 w468 hdX3_down ⟨Nat.le_of_ble_eq_true rfl, Nat.le_of_ble_eq_true rfl⟩ (Nat.le_of_ble_eq_true rfl) rfl dX3_doubledStretchAt_39) rfl (fun b8 => ?_)
    refine z_isub C dX3_doubledStretchAt_42 rfl ?_
    refine z_i2l C dX3_doubledStretchAt_43 rfl ?_
    refine z_lstore C (fun z => [(6, .long z), (4, .long y6), (3, .int b3), (0, .ref 15), (1, .int x0), (2, .int x1)]) dX3_doubledStretchAt_44 (by decide) (fun _ => rfl) rfl (fun y9 => ?_)
    refine z_ldc2 C w582 dX3_doubledStretchAt_46 rfl ?_
    refine z_lload C 1 dX3_doubledStretchAt_49 rfl rfl ?_
    refine z_lmul C dX3_doubledStretchAt_51 rfl ?_
    refine z_iload_n C 4 dX3_doubledStretchAt_52 rfl rfl rfl ?_
    refine z_i2l C dX3_doubledStretchAt_53 rfl ?_
    refine z_lmul C dX3_doubledStretchAt_54 rfl ?_
    refine z_iload_n C 5 dX3_doubledStretchAt_55 rfl rfl rfl ?_
    refine z_i2l C dX3_doubledStretchAt_56 rfl ?_
    refine z_lmul C dX3_doubledStretchAt_57 rfl ?_
    refine z_lload C 0 dX3_doubledStretchAt_58 rfl rfl ?_
    refine z_iload_n C 4 dX3_doubledStretchAt_60 rfl rfl rfl ?_
    refine z_iload_n C 4 dX3_doubledStretchAt_61 rfl rfl rfl ?_
    refine z_imul C dX3_doubledStretchAt_62 rfl ?_
    refine z_iload_n C 5 dX3_doubledStretchAt_63 rfl rfl rfl ?_
    refine z_iload_n C 5 dX3_doubledStretchAt_64 rfl rfl rfl ?_
    refine z_imul C dX3_doubledStretchAt_65 rfl ?_
    refine z_isub C dX3_doubledStretchAt_66 rfl ?_
    refine z_i2l C dX3_doubledStretchAt_67 rfl ?_
    refine z_lmul C dX3_doubledStretchAt_68 rfl ?_
    refine z_lsub C dX3_doubledStretchAt_69 rfl ?_
    exact z_lret C rfl rfl dX3_doubledStretchAt_70
  exact key b hF
set_option maxRecDepth 100000 in
set_option maxHeartbeats 4000000 in
theorem mJ9_floorDiv_f86c9 (Y : zY) (y0 : Int64) (y1 : Int64) (M : zMem) (b : Int64) (hF : FJ9_floorDiv_f86c9 y0 y1 = some b) : zMt Y yJ9_floorDiv_f86c9 cJ9_floorDiv_f86c9 6 (some .long) 0 0 [.long y0, .long y1] M (zQl Y b M) := by
  refine zMt_ofF (own := RJ9) (by decide +kernel) rfl (Nat.le_of_ble_eq_true rfl) (fun X C => ?_)
  have key : zR Y X 6 (zFl Y X (fun b => b) (fun _ => M)) (FJ9_floorDiv_f86c9 y0 y1) 0 [(0, .long y0), (2, .long y1)] [] M := by
    unfold FJ9_floorDiv_f86c9
    refine z_lload_n C 0 dJ9_floorDiv_f86c9_0 rfl rfl rfl ?_
    refine z_lload_n C 1 dJ9_floorDiv_f86c9_1 rfl rfl rfl ?_
    refine z_ldiv C dJ9_floorDiv_f86c9_2 rfl ?_
    refine z_lstore C (fun z => [(4, .long z), (0, .long y0), (2, .long y1)]) dJ9_floorDiv_f86c9_3 (by decide) (fun _ => rfl) rfl (fun y3 => ?_)
    refine z_lload_n C 1 dJ9_floorDiv_f86c9_5 rfl rfl rfl ?_
    refine z_lload_n C 2 dJ9_floorDiv_f86c9_6 rfl rfl rfl ?_
    refine z_lxor C dJ9_floorDiv_f86c9_7 rfl ?_
    refine z_lconst C (0 : Int64) dJ9_floorDiv_f86c9_8 rfl rfl ?_
    refine z_lcmp C dJ9_floorDiv_f86c9_9 rfl ?_
    refine z_ifge C dJ9_floorDiv_f86c9_10 rfl rfl ?_ ?_
    · refine z_lload C 0 dJ9_floorDiv_f86c9_27 rfl rfl ?_
      exact z_lret C rfl rfl dJ9_floorDiv_f86c9_29
    · refine z_lload C 0 dJ9_floorDiv_f86c9_13 rfl rfl ?_
      refine z_lload_n C 2 dJ9_floorDiv_f86c9_15 rfl rfl rfl ?_
      refine z_lmul C dJ9_floorDiv_f86c9_16 rfl ?_
      refine z_lload_n C 1 dJ9_floorDiv_f86c9_17 rfl rfl rfl ?_
      refine z_lcmp C dJ9_floorDiv_f86c9_18 rfl ?_
      refine z_ifeq C dJ9_floorDiv_f86c9_19 rfl rfl ?_ ?_
      · refine z_lload C 0 dJ9_floorDiv_f86c9_27 rfl rfl ?_
        exact z_lret C rfl rfl dJ9_floorDiv_f86c9_29
      · refine z_lload C 0 dJ9_floorDiv_f86c9_22 rfl rfl ?_
        refine z_lconst C (1 : Int64) dJ9_floorDiv_f86c9_24 rfl rfl ?_
        refine z_lsub C dJ9_floorDiv_f86c9_25 rfl ?_
        exact z_lret C rfl rfl dJ9_floorDiv_f86c9_26
  exact key b hF
set_option maxRecDepth 100000 in
set_option maxHeartbeats 4000000 in
theorem mX3_stretchOf (Y : zY) (x0 : Int32) (M : zMem) (b : Int32) (hF : FX3_stretchOf x0 M = some b) : zMt Y yX3_stretchOf cX3_stretchOf 6 (some .int) 2 48 [.ref 15, .int x0] M (zQi Y b M) := by
  refine zMt_of (own := RX3) (by decide +kernel) rfl (Nat.le_of_ble_eq_true rfl) (fun X C => ?_)
  have key : zR Y X 6 (zFi Y X (fun b => b) (fun _ => M)) (FX3_stretchOf x0 M) 0 [(0, .ref 15), (1, .int x0)] [] M := by
    unfold FX3_stretchOf
    refine z_lconst C (0 : Int64) dX3_stretchOf_0 rfl rfl ?_
    refine z_lstore_n C (fun z => [(2, .long z), (0, .ref 15), (1, .int x0)]) dX3_stretchOf_1 rfl (by decide) (fun _ => rfl) rfl (fun y2 => ?_)
    refine z_iload_n C 2 dX3_stretchOf_2 rfl rfl rfl ?_
    refine z_ineg C dX3_stretchOf_3 rfl ?_
    refine z_istore C (fun z => [(4, .int z), (2, .long y2), (0, .ref 15), (1, .int x0)]) dX3_stretchOf_4 (by decide) (fun _ => rfl) rfl (fun x3 => ?_)
    refine z_loop (sM := fun s => M) (sl := fun s => [(0, .ref 15), (1, .int x0), (2, .long s.1), (4, .int s.2)]) [2, 3, 1, 0] rfl rfl (fun r4 hr4 s5 => ?_)
    unfold FX3_stretchOf_L6
    refine z_iload C 3 dX3_stretchOf_6 rfl rfl ?_
    refine z_iload_n C 1 dX3_stretchOf_8 rfl rfl rfl ?_
    refine z_icmpgt C dX3_stretchOf_9 rfl rfl ?_ ?_
    · refine z_lload_n C 2 dX3_stretchOf_62 rfl rfl rfl ?_
      refine z_ldc2 C w583 dX3_stretchOf_63 rfl ?_
      refine z_cl (fun b => b) (fun _ => M) (fun b hb => z_S (na := 2) C [.long s5.1, .long (128 : Int64)] rfl (mJ9_floorDiv_f86c9 Y s5.1 (128 : Int64) M b hb) w584 w585 w89 w586 hdJ9_floorDiv_f86c9 ⟨Nat.le_of_ble_eq_true rfl, Nat.le_of_ble_eq_true rfl⟩ (Nat.le_of_ble_eq_true rfl) rfl dX3_stretchOf_66) rfl (fun b6 => ?_)
      refine z_l2i C dX3_stretchOf_69 rfl ?_
      exact z_iret C rfl rfl dX3_stretchOf_70
    · refine z_iload_n C 1 dX3_stretchOf_12 rfl rfl rfl ?_
      refine z_ineg C dX3_stretchOf_13 rfl ?_
      refine z_istore C (fun z => [(5, .int z), (0, .ref 15), (1, .int x0), (2, .long s5.1), (4, .int s5.2)]) dX3_stretchOf_14 (by decide) (fun _ => rfl) rfl (fun x7 => ?_)
      refine z_loop (sM := fun s => M) (sl := fun s => [(0, .ref 15), (1, .int x0), (2, .long s.1), (4, .int s5.2), (5, .int s.2)]) [1, 2, 3, 4, 0] rfl rfl (fun r8 hr8 s9 => ?_)
      unfold FX3_stretchOf_L16
      refine z_iload C 4 dX3_stretchOf_16 rfl rfl ?_
      refine z_iload_n C 1 dX3_stretchOf_18 rfl rfl rfl ?_
      refine z_icmpgt C dX3_stretchOf_19 rfl rfl ?_ ?_
      · refine z_iinc (v := (s5.2 + (1 : Int32))) C 3 (fun z => [(4, .int z), (0, .ref 15), (1, .int x0), (2, .long s9.1), (5, .int s9.2)]) dX3_stretchOf_56 rfl rfl (by decide) (fun _ => rfl) rfl (fun x10 => ?_)
        refine z_goto C dX3_stretchOf_59 rfl ?_
        exact z_perm [1, 2, 3, 0] rfl (hr4 (s9.1, x10))
      · refine z_iload C 4 dX3_stretchOf_22 rfl rfl ?_
        refine z_ci (fun b => b) (fun _ => M) (fun b hb => z_S (na := 1) C [.int s9.2] rfl (mJ9_abs_0f7a4 Y s9.2 M b hb) w566 w567 w89 w568 hdJ9_abs_0f7a4 ⟨Nat.le_of_ble_eq_true rfl, Nat.le_of_ble_eq_true rfl⟩ (Nat.le_of_ble_eq_true rfl) rfl dX3_stretchOf_24) rfl (fun b11 => ?_)
        refine z_iload C 3 dX3_stretchOf_27 rfl rfl ?_
        refine z_ci (fun b => b) (fun _ => M) (fun b hb => z_S (na := 1) C [.int s5.2] rfl (mJ9_abs_0f7a4 Y s5.2 M b hb) w566 w567 w89 w568 hdJ9_abs_0f7a4 ⟨Nat.le_of_ble_eq_true rfl, Nat.le_of_ble_eq_true rfl⟩ (Nat.le_of_ble_eq_true rfl) rfl dX3_stretchOf_29) rfl (fun b12 => ?_)
        refine z_ci (fun b => b) (fun _ => M) (fun b hb => z_S (na := 2) C [.int b11, .int b12] rfl (mJ9_max_7cf53 Y b11 b12 M b hb) w577 w486 w89 w487 hdJ9_max_7cf53 ⟨Nat.le_of_ble_eq_true rfl, Nat.le_of_ble_eq_true rfl⟩ (Nat.le_of_ble_eq_true rfl) rfl dX3_stretchOf_32) rfl (fun b13 => ?_)
        refine z_iload_n C 1 dX3_stretchOf_35 rfl rfl rfl ?_
        refine z_icmpne C dX3_stretchOf_36 rfl rfl ?_ ?_
        · refine z_iinc (v := (s9.2 + (1 : Int32))) C 4 (fun z => [(5, .int z), (0, .ref 15), (1, .int x0), (2, .long s9.1), (4, .int s5.2)]) dX3_stretchOf_50 rfl rfl (by decide) (fun _ => rfl) rfl (fun x14 => ?_)
          refine z_goto C dX3_stretchOf_53 rfl ?_
          exact z_perm [1, 2, 3, 4, 0] rfl (hr8 (s9.1, x14))
        · refine z_lload_n C 2 dX3_stretchOf_39 rfl rfl rfl ?_
          refine z_aload_n C 0 dX3_stretchOf_40 rfl rfl rfl ?_
          refine z_iload C 4 dX3_stretchOf_41 rfl rfl ?_
          refine z_iload C 3 dX3_stretchOf_43 rfl rfl ?_
          refine z_cl (fun b => b) (fun _ => M) (fun b hb => z_V (na := 2) (ci := 3) (r := (RX3, TX3, 6)) C [.int s9.2, .int s5.2] rfl (mX3_doubledStretchAt Y s9.2 s5.2 M b hb) rfl rfl w578 w580 w21 w82 w581 hdX3_doubledStretchAt ⟨Nat.le_of_ble_eq_true rfl, Nat.le_of_ble_eq_true rfl⟩ (Nat.le_of_ble_eq_true rfl) rfl dX3_stretchOf_45) rfl (fun b15 => ?_)
          refine z_ladd C dX3_stretchOf_48 rfl ?_
          refine z_lstore_n C (fun z => [(2, .long z), (0, .ref 15), (1, .int x0), (4, .int s5.2), (5, .int s9.2)]) dX3_stretchOf_49 rfl (by decide) (fun _ => rfl) rfl (fun y16 => ?_)
          refine z_iinc (v := (s9.2 + (1 : Int32))) C 4 (fun z => [(5, .int z), (2, .long y16), (0, .ref 15), (1, .int x0), (4, .int s5.2)]) dX3_stretchOf_50 rfl rfl (by decide) (fun _ => rfl) rfl (fun x17 => ?_)
          refine z_goto C dX3_stretchOf_53 rfl ?_
          exact z_perm [2, 3, 1, 4, 0] rfl (hr8 (y16, x17))
  exact key b hF
set_option maxRecDepth 100000 in
set_option maxHeartbeats 4000000 in
theorem mX4_greatest (Y : zY) (M : zMem) (b : Int32) (hF : FX4_greatest M = some b) : zMt Y yX4_greatest cX4_greatest 3 (some .int) 0 0 [.ref 11] M (zQi Y b M) := by
  refine zMt_of (own := RX4) (by decide +kernel) rfl (Nat.le_of_ble_eq_true rfl) (fun X C => ?_)
  have key : zR Y X 3 (zFi Y X (fun b => b) (fun _ => M)) (FX4_greatest M) 0 [(0, .ref 11)] [] M := by
    unfold FX4_greatest
    refine z_iconst C (0 : Int32) dX4_greatest_0 rfl rfl ?_
    refine z_istoreP_n (lo' := [(1, .int (0 : Int32)), (0, .ref 11)]) C dX4_greatest_1 rfl (by decide) rfl rfl ?_
    refine z_iconst C (1 : Int32) dX4_greatest_2 rfl rfl ?_
    refine z_istoreP_n (lo' := [(2, .int (1 : Int32)), (1, .int (0 : Int32)), (0, .ref 11)]) C dX4_greatest_3 rfl (by decide) rfl rfl ?_
    refine z_loop (sM := fun s => M) (sl := fun s => [(0, .ref 11), (1, .int s.1), (2, .int s.2)]) [2, 1, 0] rfl rfl (fun r1 hr1 s2 => ?_)
    unfold FX4_greatest_L4
    refine z_iload_n C 2 dX4_greatest_4 rfl rfl rfl ?_
    refine z_aload_n C 0 dX4_greatest_5 rfl rfl rfl ?_
    refine z_get (v := .int (M.1 11 3)) C 3 zOK4 rfl (by decide) w139 rfl rfl dX4_greatest_6 rfl ?_
    refine z_icmpge C dX4_greatest_9 rfl rfl ?_ ?_
    · refine z_iload_n C 1 dX4_greatest_35 rfl rfl rfl ?_
      exact z_iret C rfl rfl dX4_greatest_36
    · refine z_aload_n C 0 dX4_greatest_12 rfl rfl rfl ?_
      refine z_get (v := .ref 14) C 2 zOK4 rfl (by decide) w136 rfl rfl dX4_greatest_13 rfl ?_
      refine z_iload_n C 2 dX4_greatest_16 rfl rfl rfl ?_
      refine z_iaload C 4096 rfl dX4_greatest_17 rfl ?_
      refine z_aload_n C 0 dX4_greatest_18 rfl rfl rfl ?_
      refine z_get (v := .ref 14) C 2 zOK4 rfl (by decide) w136 rfl rfl dX4_greatest_19 rfl ?_
      refine z_iload_n C 1 dX4_greatest_22 rfl rfl rfl ?_
      refine z_iaload C 4096 rfl dX4_greatest_23 rfl ?_
      refine z_icmple C dX4_greatest_24 rfl rfl ?_ ?_
      · refine z_iinc (v := (s2.2 + (1 : Int32))) C 2 (fun z => [(2, .int z), (0, .ref 11), (1, .int s2.1)]) dX4_greatest_29 rfl rfl (by decide) (fun _ => rfl) rfl (fun x3 => ?_)
        refine z_goto C dX4_greatest_32 rfl ?_
        exact z_perm [1, 2, 0] rfl (hr1 (s2.1, x3))
      · refine z_iload_n C 2 dX4_greatest_27 rfl rfl rfl ?_
        refine z_istoreP_n (lo' := [(1, .int s2.2), (0, .ref 11), (2, .int s2.2)]) C dX4_greatest_28 rfl (by decide) rfl rfl ?_
        refine z_iinc (v := (s2.2 + (1 : Int32))) C 2 (fun z => [(2, .int z), (1, .int s2.2), (0, .ref 11)]) dX4_greatest_29 rfl rfl (by decide) (fun _ => rfl) rfl (fun x4 => ?_)
        refine z_goto C dX4_greatest_32 rfl ?_
        exact z_perm [2, 1, 0] rfl (hr1 (s2.2, x4))
  exact key b hF
set_option maxRecDepth 100000 in
set_option maxHeartbeats 4000000 in
theorem mX5_add (Y : zY) (x0 : Int32) (M : zMem) (b : zMem) (hF : FX5_add x0 M = some b) : zMt Y yX5_add cX5_add 2 none 0 0 [.ref 23, .int x0] M (zQv Y b) := by
  refine zMt_of (own := RX5) (by decide +kernel) rfl (Nat.le_of_ble_eq_true rfl) (fun X C => ?_)
  have key : zR Y X 2 (zFv Y X (fun b => b)) (FX5_add x0 M) 0 [(0, .ref 23), (1, .int x0)] [] M := by
    unfold FX5_add
    refine z_aload_n C 0 dX5_add_0 rfl rfl rfl ?_
    refine z_get (v := .int (M.1 23 2)) C 2 zOK5 rfl (by decide) w212 rfl rfl dX5_add_1 rfl ?_
    refine z_sipush C (200 : Int32) dX5_add_4 rfl rfl ?_
    refine z_icmpge C dX5_add_7 rfl rfl ?_ ?_
    · exact z_vret C rfl dX5_add_30
    · refine z_aload_n C 0 dX5_add_10 rfl rfl rfl ?_
      refine z_get (v := .ref 24) C 0 zOK5 rfl (by decide) w209 rfl rfl dX5_add_11 rfl ?_
      refine z_aload_n C 0 dX5_add_14 rfl rfl rfl ?_
      refine z_get (v := .int (M.1 23 2)) C 2 zOK5 rfl (by decide) w212 rfl rfl dX5_add_15 rfl ?_
      refine z_iload_n C 1 dX5_add_18 rfl rfl rfl ?_
      refine z_iastore C 200 rfl dX5_add_19 rfl (fun M2 => ?_)
      refine z_aload_n C 0 dX5_add_20 rfl rfl rfl ?_
      refine z_dup C dX5_add_21 rfl rfl ?_
      refine z_get (v := .int (M2.1 23 2)) C 2 zOK5 rfl (by decide) w212 rfl rfl dX5_add_22 rfl ?_
      refine z_iconst C (1 : Int32) dX5_add_25 rfl rfl ?_
      refine z_iadd C dX5_add_26 rfl ?_
      refine z_puti C 2 zOK5 rfl (by decide) w212 rfl rfl rfl rfl rfl dX5_add_27 rfl (fun M3 => ?_)
      exact z_vret C rfl dX5_add_30
  exact key b hF
set_option maxRecDepth 100000 in
set_option maxHeartbeats 4000000 in
theorem mX5_takeSign (Y : zY) (x0 : Int32) (M : zMem) (b : Int32 × zMem) (hF : FX5_takeSign x0 M = some b) : zMt Y yX5_takeSign cX5_takeSign 2 (some .boolean) 0 0 [.ref 23, .int x0] M (zQi Y b.1 b.2) := by
  refine zMt_of (own := RX5) (by decide +kernel) rfl (Nat.le_of_ble_eq_true rfl) (fun X C => ?_)
  have key : zR Y X 2 (zFi Y X (fun b => b.1) (fun b => b.2)) (FX5_takeSign x0 M) 0 [(0, .ref 23), (1, .int x0)] [] M := by
    unfold FX5_takeSign
    refine z_aload_n C 0 dX5_takeSign_0 rfl rfl rfl ?_
    refine z_get (v := .int (M.1 23 3)) C 3 zOK5 rfl (by decide) w214 rfl rfl dX5_takeSign_1 rfl ?_
    refine z_aload_n C 0 dX5_takeSign_4 rfl rfl rfl ?_
    refine z_get (v := .int (M.1 23 2)) C 2 zOK5 rfl (by decide) w212 rfl rfl dX5_takeSign_5 rfl ?_
    refine z_icmpge C dX5_takeSign_8 rfl rfl ?_ ?_
    · refine z_iconst C (0 : Int32) dX5_takeSign_24 rfl rfl ?_
      exact z_zretK C rfl rfl rfl dX5_takeSign_25
    · refine z_aload_n C 0 dX5_takeSign_11 rfl rfl rfl ?_
      refine z_get (v := .ref 24) C 0 zOK5 rfl (by decide) w209 rfl rfl dX5_takeSign_12 rfl ?_
      refine z_aload_n C 0 dX5_takeSign_15 rfl rfl rfl ?_
      refine z_get (v := .int (M.1 23 3)) C 3 zOK5 rfl (by decide) w214 rfl rfl dX5_takeSign_16 rfl ?_
      refine z_iaload C 200 rfl dX5_takeSign_19 rfl ?_
      refine z_iload_n C 1 dX5_takeSign_20 rfl rfl rfl ?_
      refine z_icmpeq C dX5_takeSign_21 rfl rfl ?_ ?_
      · refine z_aload_n C 0 dX5_takeSign_26 rfl rfl rfl ?_
        refine z_dup C dX5_takeSign_27 rfl rfl ?_
        refine z_get (v := .int (M.1 23 3)) C 3 zOK5 rfl (by decide) w214 rfl rfl dX5_takeSign_28 rfl ?_
        refine z_iconst C (1 : Int32) dX5_takeSign_31 rfl rfl ?_
        refine z_iadd C dX5_takeSign_32 rfl ?_
        refine z_puti C 3 zOK5 rfl (by decide) w214 rfl rfl rfl rfl rfl dX5_takeSign_33 rfl (fun M2 => ?_)
        refine z_iconst C (1 : Int32) dX5_takeSign_36 rfl rfl ?_
        exact z_zretK C rfl rfl rfl dX5_takeSign_37
      · refine z_iconst C (0 : Int32) dX5_takeSign_24 rfl rfl ?_
        exact z_zretK C rfl rfl rfl dX5_takeSign_25
  exact key b hF
set_option maxRecDepth 100000 in
set_option maxHeartbeats 4000000 in
theorem mX5_takeKind (Y : zY) (M : zMem) (b : Int32 × zMem) (hF : FX5_takeKind M = some b) : zMt Y yX5_takeKind cX5_takeKind 1 (some .int) 1 21 [.ref 23] M (zQi Y b.1 b.2) := by
  refine zMt_of (own := RX5) (by decide +kernel) rfl (Nat.le_of_ble_eq_true rfl) (fun X C => ?_)
  have key : zR Y X 1 (zFi Y X (fun b => b.1) (fun b => b.2)) (FX5_takeKind M) 0 [(0, .ref 23)] [] M := by
    unfold FX5_takeKind
    refine z_aload_n C 0 dX5_takeKind_0 rfl rfl rfl ?_
    refine z_bipush C (112 : Int32) dX5_takeKind_1 rfl rfl ?_
    refine z_ci (fun b => b.1) (fun b => b.2) (fun b hb => z_V (na := 1) (ci := 5) (r := (RX5, TX5, 4)) C [.int (112 : Int32)] rfl (mX5_takeSign Y (112 : Int32) M b hb) rfl rfl w616 w618 w26 w84 w619 hdX5_takeSign ⟨Nat.le_of_ble_eq_true rfl, Nat.le_of_ble_eq_true rfl⟩ (Nat.le_of_ble_eq_true rfl) rfl dX5_takeKind_3) rfl (fun b1 => ?_)
    refine z_ifeq C dX5_takeKind_6 rfl rfl ?_ ?_
    · refine z_aload_n C 0 dX5_takeKind_11 rfl rfl rfl ?_
      refine z_bipush C (115 : Int32) dX5_takeKind_12 rfl rfl ?_
      refine z_ci (fun b => b.1) (fun b => b.2) (fun b hb => z_V (na := 1) (ci := 5) (r := (RX5, TX5, 4)) C [.int (115 : Int32)] rfl (mX5_takeSign Y (115 : Int32) b1.2 b hb) rfl rfl w616 w618 w26 w84 w619 hdX5_takeSign ⟨Nat.le_of_ble_eq_true rfl, Nat.le_of_ble_eq_true rfl⟩ (Nat.le_of_ble_eq_true rfl) rfl dX5_takeKind_14) rfl (fun b2 => ?_)
      refine z_ifeq C dX5_takeKind_17 rfl rfl ?_ ?_
      · refine z_aload_n C 0 dX5_takeKind_22 rfl rfl rfl ?_
        refine z_bipush C (99 : Int32) dX5_takeKind_23 rfl rfl ?_
        refine z_ci (fun b => b.1) (fun b => b.2) (fun b hb => z_V (na := 1) (ci := 5) (r := (RX5, TX5, 4)) C [.int (99 : Int32)] rfl (mX5_takeSign Y (99 : Int32) b2.2 b hb) rfl rfl w616 w618 w26 w84 w619 hdX5_takeSign ⟨Nat.le_of_ble_eq_true rfl, Nat.le_of_ble_eq_true rfl⟩ (Nat.le_of_ble_eq_true rfl) rfl dX5_takeKind_25) rfl (fun b3 => ?_)
        refine z_ifeq C dX5_takeKind_28 rfl rfl ?_ ?_
        · refine z_iconst C (-1 : Int32) dX5_takeKind_35 rfl rfl ?_
          exact z_iret C rfl rfl dX5_takeKind_36
        · refine z_iconst C (2 : Int32) dX5_takeKind_31 rfl rfl ?_
          refine z_goto C dX5_takeKind_32 rfl ?_
          exact z_iret C rfl rfl dX5_takeKind_36
      · refine z_iconst C (1 : Int32) dX5_takeKind_20 rfl rfl ?_
        exact z_iret C rfl rfl dX5_takeKind_21
    · refine z_iconst C (0 : Int32) dX5_takeKind_9 rfl rfl ?_
      exact z_iret C rfl rfl dX5_takeKind_10
  exact key b hF
set_option maxRecDepth 100000 in
set_option maxHeartbeats 4000000 in
theorem mX7_within (Y : zY) (x0 : Int32) (x1 : Int32) (x2 : Int32) (M : zMem) (b : Int32) (hF : FX7_within x0 x1 x2 = some b) : zMt Y yX7_within cX7_within 3 (some .boolean) 0 0 [.int x0, .int x1, .int x2] M (zQi Y b M) := by
  refine zMt_of (own := RX7) (by decide +kernel) rfl (Nat.le_of_ble_eq_true rfl) (fun X C => ?_)
  have key : zR Y X 3 (zFi Y X (fun b => b) (fun _ => M)) (FX7_within x0 x1 x2) 0 [(0, .int x0), (1, .int x1), (2, .int x2)] [] M := by
    unfold FX7_within
    refine z_iload_n C 0 dX7_within_0 rfl rfl rfl ?_
    refine z_iload_n C 1 dX7_within_1 rfl rfl rfl ?_
    refine z_icmplt C dX7_within_2 rfl rfl ?_ ?_
    · refine z_iconst C (0 : Int32) dX7_within_14 rfl rfl ?_
      exact z_zretK C rfl rfl rfl dX7_within_15
    · refine z_iload_n C 0 dX7_within_5 rfl rfl rfl ?_
      refine z_iload_n C 2 dX7_within_6 rfl rfl rfl ?_
      refine z_icmpgt C dX7_within_7 rfl rfl ?_ ?_
      · refine z_iconst C (0 : Int32) dX7_within_14 rfl rfl ?_
        exact z_zretK C rfl rfl rfl dX7_within_15
      · refine z_iconst C (1 : Int32) dX7_within_10 rfl rfl ?_
        refine z_goto C dX7_within_11 rfl ?_
        exact z_zretK C rfl rfl rfl dX7_within_15
  exact key b hF
set_option maxRecDepth 100000 in
set_option maxHeartbeats 4000000 in
theorem mX5_takeNumber (Y : zY) (q0 : Nat) (x1 : Int32) (M : zMem) (b : Int32 × zMem) (hF : FX5_takeNumber q0 x1 M = some b) : zMt Y yX5_takeNumber cX5_takeNumber 6 (some .boolean) 1 22 [.ref 23, .ref q0, .int x1] M (zQi Y b.1 b.2) := by
  refine zMt_of (own := RX5) (by decide +kernel) rfl (Nat.le_of_ble_eq_true rfl) (fun X C => ?_)
  have key : zR Y X 6 (zFi Y X (fun b => b.1) (fun b => b.2)) (FX5_takeNumber q0 x1 M) 0 [(0, .ref 23), (1, .ref q0), (2, .int x1)] [] M := by
    unfold FX5_takeNumber
    refine z_getsLN C (List.mem_of_getElem? (i := 29) rfl) dX5_takeNumber_0 rfl ?_
    refine z_iload_n C 2 dX5_takeNumber_3 rfl rfl rfl ?_
    refine z_ialoadL C dX5_takeNumber_4 rfl ?_
    refine z_join (fun k5 => ∀ (x3 : Int32) (M4 : zMem), zR Y X 6 (zFi Y X (fun b => b.1) (fun b => b.2)) (k5 x3 M4) 22 [(0, .ref 23), (1, .ref q0), (2, .int x1)] [.int x3] M4) (fun x3 M4 => ?_) (fun k5 hk5 => ?_)
    · refine z_istoreP_n (lo' := [(3, .int x3), (0, .ref 23), (1, .ref q0), (2, .int x1)]) C dX5_takeNumber_22 rfl (by decide) rfl rfl ?_
      refine z_iload_n C 0 dX5_takeNumber_23 rfl rfl rfl ?_
      refine z_join (fun k7 => ∀ (M6 : zMem), zR Y X 6 (zFi Y X (fun b => b.1) (fun b => b.2)) (k7 M6) 42 [(0, .ref 23), (1, .ref q0), (2, .int x1), (3, .int x3)] [] M6) (fun M6 => ?_) (fun k7 hk7 => ?_)
      · refine z_aload_n C 0 dX5_takeNumber_42 rfl rfl rfl ?_
        refine z_get (v := .int (M6.1 23 3)) C 3 zOK5 rfl (by decide) w214 rfl rfl dX5_takeNumber_43 rfl ?_
        refine z_aload_n C 0 dX5_takeNumber_46 rfl rfl rfl ?_
        refine z_get (v := .int (M6.1 23 2)) C 2 zOK5 rfl (by decide) w212 rfl rfl dX5_takeNumber_47 rfl ?_
        refine z_icmpge C dX5_takeNumber_50 rfl rfl ?_ ?_
        · refine z_iconst C (0 : Int32) dX5_takeNumber_72 rfl rfl ?_
          exact z_zretK C rfl rfl rfl dX5_takeNumber_73
        · refine z_aload_n C 0 dX5_takeNumber_53 rfl rfl rfl ?_
          refine z_get (v := .ref 24) C 0 zOK5 rfl (by decide) w209 rfl rfl dX5_takeNumber_54 rfl ?_
          refine z_aload_n C 0 dX5_takeNumber_57 rfl rfl rfl ?_
          refine z_get (v := .int (M6.1 23 3)) C 3 zOK5 rfl (by decide) w214 rfl rfl dX5_takeNumber_58 rfl ?_
          refine z_iaload C 200 rfl dX5_takeNumber_61 rfl ?_
          refine z_bipush C (49 : Int32) dX5_takeNumber_62 rfl rfl ?_
          refine z_bipush C (57 : Int32) dX5_takeNumber_64 rfl rfl ?_
          refine z_ci (fun b => b) (fun _ => M6) (fun b hb => z_SN (na := 3) C [.int (zrd M6 24 (M6.1 23 3)), .int (49 : Int32), .int (57 : Int32)] rfl (mX7_within Y (zrd M6 24 (M6.1 23 3)) (49 : Int32) (57 : Int32) M6 b hb) (List.mem_of_getElem? (i := 29) rfl) w360 w79 w361 hdX7_within ⟨Nat.le_of_ble_eq_true rfl, Nat.le_of_ble_eq_true rfl⟩ (Nat.le_of_ble_eq_true rfl) rfl dX5_takeNumber_66) rfl (fun b8 => ?_)
          refine z_ifne C dX5_takeNumber_69 rfl rfl ?_ ?_
          · refine z_iload_n C 3 dX5_takeNumber_74 rfl rfl rfl ?_
            refine z_join (fun k10 => ∀ (x9 : Int32), zR Y X 6 (zFi Y X (fun b => b.1) (fun b => b.2)) (k10 x9) 92 [(0, .ref 23), (1, .ref q0), (2, .int x1), (3, .int x3)] [.int x9] M6) (fun x9 => ?_) (fun k10 hk10 => ?_)
            · refine z_istoreP (lo' := [(4, .int x9), (0, .ref 23), (1, .ref q0), (2, .int x1), (3, .int x3)]) C dX5_takeNumber_92 (by decide) rfl rfl ?_
              refine z_iconst C (0 : Int32) dX5_takeNumber_94 rfl rfl ?_
              refine z_istoreP (lo' := [(5, .int (0 : Int32)), (4, .int x9), (0, .ref 23), (1, .ref q0), (2, .int x1), (3, .int x3)]) C dX5_takeNumber_95 (by decide) rfl rfl ?_
              refine z_loop (sM := fun s => s.2) (sl := fun s => [(0, .ref 23), (1, .ref q0), (2, .int x1), (3, .int x3), (4, .int x9), (5, .int s.1)]) [2, 3, 4, 5, 1, 0] rfl rfl (fun r11 hr11 s12 => ?_)
              unfold FX5_takeNumber_L97
              refine z_aload_n C 0 dX5_takeNumber_97 rfl rfl rfl ?_
              refine z_get (v := .int (s12.2.1 23 3)) C 3 zOK5 rfl (by decide) w214 rfl rfl dX5_takeNumber_98 rfl ?_
              refine z_aload_n C 0 dX5_takeNumber_101 rfl rfl rfl ?_
              refine z_get (v := .int (s12.2.1 23 2)) C 2 zOK5 rfl (by decide) w212 rfl rfl dX5_takeNumber_102 rfl ?_
              refine z_join (fun k14 => ∀ (u13 : Unit), zR Y X 6 (zFi Y X (fun b => b.1) (fun b => b.2)) (k14 u13) 169 [(1, .ref q0), (2, .int x1), (3, .int x3), (5, .int s12.1)] [] s12.2) (fun u13 => ?_) (fun k14 hk14 => ?_)
              · refine z_aload_n C 0 dX5_takeNumber_169 rfl rfl rfl ?_
                refine z_iload_n C 1 dX5_takeNumber_170 rfl rfl rfl ?_
                refine z_iload_n C 2 dX5_takeNumber_171 rfl rfl rfl ?_
                refine z_join (fun k16 => ∀ (x15 : Int32), zR Y X 6 (zFi Y X (fun b => b.1) (fun b => b.2)) (k16 x15) 183 [] [.int x15, .int x1, .ref q0] s12.2) (fun x15 => ?_) (fun k16 hk16 => ?_)
                · refine z_iastore C (zlenI q0) rfl dX5_takeNumber_183 rfl (fun M17 => ?_)
                  refine z_iconst C (1 : Int32) dX5_takeNumber_184 rfl rfl ?_
                  exact z_zretK C rfl rfl rfl dX5_takeNumber_185
                · refine z_ifeq C dX5_takeNumber_172 rfl rfl ?_ ?_
                  · refine z_iload C 3 dX5_takeNumber_181 rfl rfl ?_
                    exact z_perm [] rfl (hk16 s12.1)
                  · refine z_iload C 3 dX5_takeNumber_175 rfl rfl ?_
                    refine z_ineg C dX5_takeNumber_177 rfl ?_
                    refine z_goto C dX5_takeNumber_178 rfl ?_
                    exact z_perm [] rfl (hk16 (-s12.1))
              · refine z_icmpge C dX5_takeNumber_105 rfl rfl ?_ ?_
                · exact z_perm [1, 2, 3, 5] rfl (hk14 ())
                · refine z_aload_n C 0 dX5_takeNumber_108 rfl rfl rfl ?_
                  refine z_get (v := .ref 24) C 0 zOK5 rfl (by decide) w209 rfl rfl dX5_takeNumber_109 rfl ?_
                  refine z_aload_n C 0 dX5_takeNumber_112 rfl rfl rfl ?_
                  refine z_get (v := .int (s12.2.1 23 3)) C 3 zOK5 rfl (by decide) w214 rfl rfl dX5_takeNumber_113 rfl ?_
                  refine z_iaload C 200 rfl dX5_takeNumber_116 rfl ?_
                  refine z_bipush C (48 : Int32) dX5_takeNumber_117 rfl rfl ?_
                  refine z_bipush C (57 : Int32) dX5_takeNumber_119 rfl rfl ?_
                  refine z_ci (fun b => b) (fun _ => s12.2) (fun b hb => z_SN (na := 3) C [.int (zrd s12.2 24 (s12.2.1 23 3)), .int (48 : Int32), .int (57 : Int32)] rfl (mX7_within Y (zrd s12.2 24 (s12.2.1 23 3)) (48 : Int32) (57 : Int32) s12.2 b hb) (List.mem_of_getElem? (i := 29) rfl) w360 w79 w361 hdX7_within ⟨Nat.le_of_ble_eq_true rfl, Nat.le_of_ble_eq_true rfl⟩ (Nat.le_of_ble_eq_true rfl) rfl dX5_takeNumber_121) rfl (fun b18 => ?_)
                  refine z_ifeq C dX5_takeNumber_124 rfl rfl ?_ ?_
                  · exact z_perm [1, 2, 3, 5] rfl (hk14 ())
                  · refine z_bipush C (10 : Int32) dX5_takeNumber_127 rfl rfl ?_
                    refine z_iload C 5 dX5_takeNumber_129 rfl rfl ?_
                    refine z_imul C dX5_takeNumber_131 rfl ?_
                    refine z_aload_n C 0 dX5_takeNumber_132 rfl rfl rfl ?_
                    refine z_get (v := .ref 24) C 0 zOK5 rfl (by decide) w209 rfl rfl dX5_takeNumber_133 rfl ?_
                    refine z_aload_n C 0 dX5_takeNumber_136 rfl rfl rfl ?_
                    refine z_get (v := .int (s12.2.1 23 3)) C 3 zOK5 rfl (by decide) w214 rfl rfl dX5_takeNumber_137 rfl ?_
                    refine z_iaload C 200 rfl dX5_takeNumber_140 rfl ?_
                    refine z_iadd C dX5_takeNumber_141 rfl ?_
                    refine z_bipush C (48 : Int32) dX5_takeNumber_142 rfl rfl ?_
                    refine z_isub C dX5_takeNumber_144 rfl ?_
                    refine z_istore C (fun z => [(5, .int z), (0, .ref 23), (1, .ref q0), (2, .int x1), (3, .int x3), (4, .int x9)]) dX5_takeNumber_145 (by decide) (fun _ => rfl) rfl (fun x19 => ?_)
                    refine z_iload C 0 dX5_takeNumber_147 rfl rfl ?_
                    refine z_iload C 5 dX5_takeNumber_149 rfl rfl ?_
                    refine z_icmple C dX5_takeNumber_151 rfl rfl ?_ ?_
                    · refine z_aload_n C 1 dX5_takeNumber_156 rfl rfl rfl ?_
                      refine z_dup C dX5_takeNumber_157 rfl rfl ?_
                      refine z_get (v := .int (s12.2.1 23 3)) C 3 zOK5 rfl (by decide) w214 rfl rfl dX5_takeNumber_158 rfl ?_
                      refine z_iconst C (1 : Int32) dX5_takeNumber_161 rfl rfl ?_
                      refine z_iadd C dX5_takeNumber_162 rfl ?_
                      refine z_puti C 3 zOK5 rfl (by decide) w214 rfl rfl rfl rfl rfl dX5_takeNumber_163 rfl (fun M20 => ?_)
                      refine z_goto C dX5_takeNumber_166 rfl ?_
                      exact z_perm [1, 2, 3, 4, 5, 0] rfl (hr11 (x19, M20))
                    · refine z_iconst C (0 : Int32) dX5_takeNumber_154 rfl rfl ?_
                      exact z_zretK C rfl rfl rfl dX5_takeNumber_155
            · refine z_ifeq C dX5_takeNumber_75 rfl rfl ?_ ?_
              · refine z_getsMN C (List.mem_of_getElem? (i := 28) rfl) dX5_takeNumber_87 rfl ?_
                refine z_iload_n C 2 dX5_takeNumber_90 rfl rfl rfl ?_
                refine z_ialoadM C dX5_takeNumber_91 rfl ?_
                exact z_perm [0, 1, 2, 3] rfl (hk10 (zMO (zcl x1)))
              · refine z_getsLN C (List.mem_of_getElem? (i := 29) rfl) dX5_takeNumber_78 rfl ?_
                refine z_iload_n C 2 dX5_takeNumber_81 rfl rfl rfl ?_
                refine z_ialoadL C dX5_takeNumber_82 rfl ?_
                refine z_ineg C dX5_takeNumber_83 rfl ?_
                refine z_goto C dX5_takeNumber_84 rfl ?_
                exact z_perm [0, 1, 2, 3] rfl (hk10 (-(zLO (zcl x1))))
          · refine z_iconst C (0 : Int32) dX5_takeNumber_72 rfl rfl ?_
            exact z_zretK C rfl rfl rfl dX5_takeNumber_73
      · refine z_ifne C dX5_takeNumber_24 rfl rfl ?_ ?_
        · exact z_perm [1, 2, 3, 0] rfl (hk7 M4)
        · refine z_aload_n C 1 dX5_takeNumber_27 rfl rfl rfl ?_
          refine z_bipush C (48 : Int32) dX5_takeNumber_28 rfl rfl ?_
          refine z_ci (fun b => b.1) (fun b => b.2) (fun b hb => z_V (na := 1) (ci := 5) (r := (RX5, TX5, 4)) C [.int (48 : Int32)] rfl (mX5_takeSign Y (48 : Int32) M4 b hb) rfl rfl w616 w618 w26 w84 w619 hdX5_takeSign ⟨Nat.le_of_ble_eq_true rfl, Nat.le_of_ble_eq_true rfl⟩ (Nat.le_of_ble_eq_true rfl) rfl dX5_takeNumber_30) rfl (fun b21 => ?_)
          refine z_ifeq C dX5_takeNumber_33 rfl rfl ?_ ?_
          · exact z_perm [1, 2, 3, 0] rfl (hk7 b21.2)
          · refine z_aload_n C 2 dX5_takeNumber_36 rfl rfl rfl ?_
            refine z_iload_n C 3 dX5_takeNumber_37 rfl rfl rfl ?_
            refine z_iconst C (0 : Int32) dX5_takeNumber_38 rfl rfl ?_
            refine z_iastore C (zlenI q0) rfl dX5_takeNumber_39 rfl (fun M22 => ?_)
            refine z_iconst C (1 : Int32) dX5_takeNumber_40 rfl rfl ?_
            exact z_zretK C rfl rfl rfl dX5_takeNumber_41
    · refine z_join (fun k24 => ∀ (M23 : zMem), zR Y X 6 (zFi Y X (fun b => b.1) (fun b => b.2)) (k24 M23) 21 [(0, .ref 23), (1, .ref q0), (2, .int x1)] [] M23) (fun M23 => ?_) (fun k24 hk24 => ?_)
      · refine z_iconst C (0 : Int32) dX5_takeNumber_21 rfl rfl ?_
        exact z_perm [0, 1, 2] rfl (hk5 (0 : Int32) M23)
      · refine z_ifge C dX5_takeNumber_5 rfl rfl ?_ ?_
        · exact z_perm [0, 1, 2] rfl (hk24 M)
        · refine z_aload_n C 0 dX5_takeNumber_8 rfl rfl rfl ?_
          refine z_bipush C (45 : Int32) dX5_takeNumber_9 rfl rfl ?_
          refine z_ci (fun b => b.1) (fun b => b.2) (fun b hb => z_V (na := 1) (ci := 5) (r := (RX5, TX5, 4)) C [.int (45 : Int32)] rfl (mX5_takeSign Y (45 : Int32) M b hb) rfl rfl w616 w618 w26 w84 w619 hdX5_takeSign ⟨Nat.le_of_ble_eq_true rfl, Nat.le_of_ble_eq_true rfl⟩ (Nat.le_of_ble_eq_true rfl) rfl dX5_takeNumber_11) rfl (fun b25 => ?_)
          refine z_ifeq C dX5_takeNumber_14 rfl rfl ?_ ?_
          · exact z_perm [0, 1, 2] rfl (hk24 b25.2)
          · refine z_iconst C (1 : Int32) dX5_takeNumber_17 rfl rfl ?_
            refine z_goto C dX5_takeNumber_18 rfl ?_
            exact z_perm [0, 1, 2] rfl (hk5 (1 : Int32) b25.2)
  exact key b hF
set_option maxRecDepth 100000 in
set_option maxHeartbeats 4000000 in
theorem mX5_takeItem (Y : zY) (q0 : Nat) (M : zMem) (b : Int32 × zMem) (hF : FX5_takeItem q0 M = some b) : zMt Y yX5_takeItem cX5_takeItem 3 (some .boolean) 2 47 [.ref 23, .ref q0] M (zQi Y b.1 b.2) := by
  refine zMt_of (own := RX5) (by decide +kernel) rfl (Nat.le_of_ble_eq_true rfl) (fun X C => ?_)
  have key : zR Y X 3 (zFi Y X (fun b => b.1) (fun b => b.2)) (FX5_takeItem q0 M) 0 [(0, .ref 23), (1, .ref q0)] [] M := by
    unfold FX5_takeItem
    refine z_aload_n C 0 dX5_takeItem_0 rfl rfl rfl ?_
    refine z_ci (fun b => b.1) (fun b => b.2) (fun b hb => z_V (na := 0) (ci := 5) (r := (RX5, TX5, 4)) C [] rfl (mX5_takeKind Y M b hb) rfl rfl w612 w614 w25 w84 w615 hdX5_takeKind ⟨Nat.le_of_ble_eq_true rfl, Nat.le_of_ble_eq_true rfl⟩ (Nat.le_of_ble_eq_true rfl) rfl dX5_takeItem_1) rfl (fun b2 => ?_)
    refine z_istoreP_n (lo' := [(2, .int b2.1), (0, .ref 23), (1, .ref q0)]) C dX5_takeItem_4 rfl (by decide) rfl rfl ?_
    refine z_iload_n C 0 dX5_takeItem_5 rfl rfl rfl ?_
    refine z_ifge C dX5_takeItem_6 rfl rfl ?_ ?_
    · refine z_aload_n C 2 dX5_takeItem_11 rfl rfl rfl ?_
      refine z_iconst C (0 : Int32) dX5_takeItem_12 rfl rfl ?_
      refine z_iload_n C 0 dX5_takeItem_13 rfl rfl rfl ?_
      refine z_iastore C (zlenI q0) rfl dX5_takeItem_14 rfl (fun M3 => ?_)
      refine z_aload_n C 2 dX5_takeItem_15 rfl rfl rfl ?_
      refine z_iconst C (4 : Int32) dX5_takeItem_16 rfl rfl ?_
      refine z_iconst C (0 : Int32) dX5_takeItem_17 rfl rfl ?_
      refine z_iastore C (zlenI q0) rfl dX5_takeItem_18 rfl (fun M4 => ?_)
      refine z_aload_n C 2 dX5_takeItem_19 rfl rfl rfl ?_
      refine z_iconst C (5 : Int32) dX5_takeItem_20 rfl rfl ?_
      refine z_getsMN C (List.mem_of_getElem? (i := 28) rfl) dX5_takeItem_21 rfl ?_
      refine z_iconst C (5 : Int32) dX5_takeItem_24 rfl rfl ?_
      refine z_ialoadM C dX5_takeItem_25 rfl ?_
      refine z_iastore C (zlenI q0) rfl dX5_takeItem_26 rfl (fun M5 => ?_)
      refine z_aload_n C 1 dX5_takeItem_27 rfl rfl rfl ?_
      refine z_aload_n C 2 dX5_takeItem_28 rfl rfl rfl ?_
      refine z_iconst C (1 : Int32) dX5_takeItem_29 rfl rfl ?_
      refine z_ci (fun b => b.1) (fun b => b.2) (fun b hb => z_V (na := 2) (ci := 5) (r := (RX5, TX5, 4)) C [.ref q0, .int (1 : Int32)] rfl (mX5_takeNumber Y q0 (1 : Int32) M5 b hb) rfl rfl w621 w623 w27 w84 w624 hdX5_takeNumber ⟨Nat.le_of_ble_eq_true rfl, Nat.le_of_ble_eq_true rfl⟩ (Nat.le_of_ble_eq_true rfl) rfl dX5_takeItem_30) rfl (fun b6 => ?_)
      refine z_ifeq C dX5_takeItem_33 rfl rfl ?_ ?_
      · refine z_iconst C (0 : Int32) dX5_takeItem_130 rfl rfl ?_
        exact z_zretK C rfl rfl rfl dX5_takeItem_131
      · refine z_aload_n C 1 dX5_takeItem_36 rfl rfl rfl ?_
        refine z_bipush C (44 : Int32) dX5_takeItem_37 rfl rfl ?_
        refine z_ci (fun b => b.1) (fun b => b.2) (fun b hb => z_V (na := 1) (ci := 5) (r := (RX5, TX5, 4)) C [.int (44 : Int32)] rfl (mX5_takeSign Y (44 : Int32) b6.2 b hb) rfl rfl w616 w618 w26 w84 w619 hdX5_takeSign ⟨Nat.le_of_ble_eq_true rfl, Nat.le_of_ble_eq_true rfl⟩ (Nat.le_of_ble_eq_true rfl) rfl dX5_takeItem_39) rfl (fun b7 => ?_)
        refine z_ifeq C dX5_takeItem_42 rfl rfl ?_ ?_
        · refine z_iconst C (0 : Int32) dX5_takeItem_130 rfl rfl ?_
          exact z_zretK C rfl rfl rfl dX5_takeItem_131
        · refine z_aload_n C 1 dX5_takeItem_45 rfl rfl rfl ?_
          refine z_aload_n C 2 dX5_takeItem_46 rfl rfl rfl ?_
          refine z_iconst C (2 : Int32) dX5_takeItem_47 rfl rfl ?_
          refine z_ci (fun b => b.1) (fun b => b.2) (fun b hb => z_V (na := 2) (ci := 5) (r := (RX5, TX5, 4)) C [.ref q0, .int (2 : Int32)] rfl (mX5_takeNumber Y q0 (2 : Int32) b7.2 b hb) rfl rfl w621 w623 w27 w84 w624 hdX5_takeNumber ⟨Nat.le_of_ble_eq_true rfl, Nat.le_of_ble_eq_true rfl⟩ (Nat.le_of_ble_eq_true rfl) rfl dX5_takeItem_48) rfl (fun b8 => ?_)
          refine z_ifeq C dX5_takeItem_51 rfl rfl ?_ ?_
          · refine z_iconst C (0 : Int32) dX5_takeItem_130 rfl rfl ?_
            exact z_zretK C rfl rfl rfl dX5_takeItem_131
          · refine z_aload_n C 1 dX5_takeItem_54 rfl rfl rfl ?_
            refine z_bipush C (119 : Int32) dX5_takeItem_55 rfl rfl ?_
            refine z_ci (fun b => b.1) (fun b => b.2) (fun b hb => z_V (na := 1) (ci := 5) (r := (RX5, TX5, 4)) C [.int (119 : Int32)] rfl (mX5_takeSign Y (119 : Int32) b8.2 b hb) rfl rfl w616 w618 w26 w84 w619 hdX5_takeSign ⟨Nat.le_of_ble_eq_true rfl, Nat.le_of_ble_eq_true rfl⟩ (Nat.le_of_ble_eq_true rfl) rfl dX5_takeItem_57) rfl (fun b9 => ?_)
            refine z_ifeq C dX5_takeItem_60 rfl rfl ?_ ?_
            · refine z_iconst C (0 : Int32) dX5_takeItem_130 rfl rfl ?_
              exact z_zretK C rfl rfl rfl dX5_takeItem_131
            · refine z_aload_n C 1 dX5_takeItem_63 rfl rfl rfl ?_
              refine z_aload_n C 2 dX5_takeItem_64 rfl rfl rfl ?_
              refine z_iconst C (3 : Int32) dX5_takeItem_65 rfl rfl ?_
              refine z_ci (fun b => b.1) (fun b => b.2) (fun b hb => z_V (na := 2) (ci := 5) (r := (RX5, TX5, 4)) C [.ref q0, .int (3 : Int32)] rfl (mX5_takeNumber Y q0 (3 : Int32) b9.2 b hb) rfl rfl w621 w623 w27 w84 w624 hdX5_takeNumber ⟨Nat.le_of_ble_eq_true rfl, Nat.le_of_ble_eq_true rfl⟩ (Nat.le_of_ble_eq_true rfl) rfl dX5_takeItem_66) rfl (fun b10 => ?_)
              refine z_ifeq C dX5_takeItem_69 rfl rfl ?_ ?_
              · refine z_iconst C (0 : Int32) dX5_takeItem_130 rfl rfl ?_
                exact z_zretK C rfl rfl rfl dX5_takeItem_131
              · refine z_iload_n C 0 dX5_takeItem_72 rfl rfl rfl ?_
                refine z_join (fun k12 => ∀ (M11 : zMem), zR Y X 3 (zFi Y X (fun b => b.1) (fun b => b.2)) (k12 M11) 94 [(0, .ref 23), (1, .ref q0), (2, .int b2.1)] [] M11) (fun M11 => ?_) (fun k12 hk12 => ?_)
                · refine z_iload_n C 2 dX5_takeItem_94 rfl rfl rfl ?_
                  refine z_iconst C (2 : Int32) dX5_takeItem_95 rfl rfl ?_
                  refine z_join (fun k14 => ∀ (M13 : zMem), zR Y X 3 (zFi Y X (fun b => b.1) (fun b => b.2)) (k14 M13) 117 [(0, .ref 23)] [] M13) (fun M13 => ?_) (fun k14 hk14 => ?_)
                  · refine z_aload_n C 0 dX5_takeItem_117 rfl rfl rfl ?_
                    refine z_bipush C (59 : Int32) dX5_takeItem_118 rfl rfl ?_
                    refine z_ci (fun b => b.1) (fun b => b.2) (fun b hb => z_V (na := 1) (ci := 5) (r := (RX5, TX5, 4)) C [.int (59 : Int32)] rfl (mX5_takeSign Y (59 : Int32) M13 b hb) rfl rfl w616 w618 w26 w84 w619 hdX5_takeSign ⟨Nat.le_of_ble_eq_true rfl, Nat.le_of_ble_eq_true rfl⟩ (Nat.le_of_ble_eq_true rfl) rfl dX5_takeItem_120) rfl (fun b15 => ?_)
                    refine z_ifeq C dX5_takeItem_123 rfl rfl ?_ ?_
                    · refine z_iconst C (0 : Int32) dX5_takeItem_130 rfl rfl ?_
                      exact z_zretK C rfl rfl rfl dX5_takeItem_131
                    · refine z_iconst C (1 : Int32) dX5_takeItem_126 rfl rfl ?_
                      refine z_goto C dX5_takeItem_127 rfl ?_
                      exact z_zretK C rfl rfl rfl dX5_takeItem_131
                  · refine z_icmpne C dX5_takeItem_96 rfl rfl ?_ ?_
                    · exact z_perm [0] rfl (hk14 M11)
                    · refine z_aload_n C 0 dX5_takeItem_99 rfl rfl rfl ?_
                      refine z_bipush C (101 : Int32) dX5_takeItem_100 rfl rfl ?_
                      refine z_ci (fun b => b.1) (fun b => b.2) (fun b hb => z_V (na := 1) (ci := 5) (r := (RX5, TX5, 4)) C [.int (101 : Int32)] rfl (mX5_takeSign Y (101 : Int32) M11 b hb) rfl rfl w616 w618 w26 w84 w619 hdX5_takeSign ⟨Nat.le_of_ble_eq_true rfl, Nat.le_of_ble_eq_true rfl⟩ (Nat.le_of_ble_eq_true rfl) rfl dX5_takeItem_102) rfl (fun b16 => ?_)
                      refine z_ifeq C dX5_takeItem_105 rfl rfl ?_ ?_
                      · refine z_iconst C (0 : Int32) dX5_takeItem_130 rfl rfl ?_
                        exact z_zretK C rfl rfl rfl dX5_takeItem_131
                      · refine z_aload_n C 0 dX5_takeItem_108 rfl rfl rfl ?_
                        refine z_aload_n C 1 dX5_takeItem_109 rfl rfl rfl ?_
                        refine z_iconst C (5 : Int32) dX5_takeItem_110 rfl rfl ?_
                        refine z_ci (fun b => b.1) (fun b => b.2) (fun b hb => z_V (na := 2) (ci := 5) (r := (RX5, TX5, 4)) C [.ref q0, .int (5 : Int32)] rfl (mX5_takeNumber Y q0 (5 : Int32) b16.2 b hb) rfl rfl w621 w623 w27 w84 w624 hdX5_takeNumber ⟨Nat.le_of_ble_eq_true rfl, Nat.le_of_ble_eq_true rfl⟩ (Nat.le_of_ble_eq_true rfl) rfl dX5_takeItem_111) rfl (fun b17 => ?_)
                        refine z_ifeq C dX5_takeItem_114 rfl rfl ?_ ?_
                        · refine z_iconst C (0 : Int32) dX5_takeItem_130 rfl rfl ?_
                          exact z_zretK C rfl rfl rfl dX5_takeItem_131
                        · exact z_perm [0] rfl (hk14 b17.2)
                · refine z_ifeq C dX5_takeItem_73 rfl rfl ?_ ?_
                  · exact z_perm [1, 2, 0] rfl (hk12 b10.2)
                  · refine z_aload_n C 1 dX5_takeItem_76 rfl rfl rfl ?_
                    refine z_bipush C (111 : Int32) dX5_takeItem_77 rfl rfl ?_
                    refine z_ci (fun b => b.1) (fun b => b.2) (fun b hb => z_V (na := 1) (ci := 5) (r := (RX5, TX5, 4)) C [.int (111 : Int32)] rfl (mX5_takeSign Y (111 : Int32) b10.2 b hb) rfl rfl w616 w618 w26 w84 w619 hdX5_takeSign ⟨Nat.le_of_ble_eq_true rfl, Nat.le_of_ble_eq_true rfl⟩ (Nat.le_of_ble_eq_true rfl) rfl dX5_takeItem_79) rfl (fun b18 => ?_)
                    refine z_ifeq C dX5_takeItem_82 rfl rfl ?_ ?_
                    · refine z_iconst C (0 : Int32) dX5_takeItem_130 rfl rfl ?_
                      exact z_zretK C rfl rfl rfl dX5_takeItem_131
                    · refine z_aload_n C 1 dX5_takeItem_85 rfl rfl rfl ?_
                      refine z_aload_n C 2 dX5_takeItem_86 rfl rfl rfl ?_
                      refine z_iconst C (4 : Int32) dX5_takeItem_87 rfl rfl ?_
                      refine z_ci (fun b => b.1) (fun b => b.2) (fun b hb => z_V (na := 2) (ci := 5) (r := (RX5, TX5, 4)) C [.ref q0, .int (4 : Int32)] rfl (mX5_takeNumber Y q0 (4 : Int32) b18.2 b hb) rfl rfl w621 w623 w27 w84 w624 hdX5_takeNumber ⟨Nat.le_of_ble_eq_true rfl, Nat.le_of_ble_eq_true rfl⟩ (Nat.le_of_ble_eq_true rfl) rfl dX5_takeItem_88) rfl (fun b19 => ?_)
                      refine z_ifeq C dX5_takeItem_91 rfl rfl ?_ ?_
                      · refine z_iconst C (0 : Int32) dX5_takeItem_130 rfl rfl ?_
                        exact z_zretK C rfl rfl rfl dX5_takeItem_131
                      · exact z_perm [1, 2, 0] rfl (hk12 b19.2)
    · refine z_iconst C (0 : Int32) dX5_takeItem_9 rfl rfl ?_
      exact z_zretK C rfl rfl rfl dX5_takeItem_10
  exact key b hF
set_option maxRecDepth 100000 in
set_option maxHeartbeats 4000000 in
theorem mX5_tellBodies (Y : zY) (M : zMem) (b : Int32 × zMem) (hF : FX5_tellBodies M = some b) : zMt Y yX5_tellBodies cX5_tellBodies 2 (some .int) 3 69 [.ref 23] M (zQi Y b.1 b.2) := by
  refine zMt_of (own := RX5) (by decide +kernel) rfl (Nat.le_of_ble_eq_true rfl) (fun X C => ?_)
  have key : zR Y X 2 (zFi Y X (fun b => b.1) (fun b => b.2)) (FX5_tellBodies M) 0 [(0, .ref 23)] [] M := by
    unfold FX5_tellBodies
    refine z_aload_n C 0 dX5_tellBodies_0 rfl rfl rfl ?_
    refine z_iconst C (0 : Int32) dX5_tellBodies_1 rfl rfl ?_
    refine z_puti C 3 zOK5 rfl (by decide) w214 rfl rfl rfl rfl rfl dX5_tellBodies_2 rfl (fun M1 => ?_)
    refine z_iconst C (0 : Int32) dX5_tellBodies_5 rfl rfl ?_
    refine z_istoreP_n (lo' := [(1, .int (0 : Int32)), (0, .ref 23)]) C dX5_tellBodies_6 rfl (by decide) rfl rfl ?_
    refine z_loop (sM := fun s => s.2) (sl := fun s => [(0, .ref 23), (1, .int s.1)]) [1, 0] rfl rfl (fun r2 hr2 s3 => ?_)
    unfold FX5_tellBodies_L7
    refine z_iload_n C 1 dX5_tellBodies_7 rfl rfl rfl ?_
    refine z_bipush C (8 : Int32) dX5_tellBodies_8 rfl rfl ?_
    refine z_join (fun k5 => ∀ (u4 : Unit), zR Y X 2 (zFi Y X (fun b => b.1) (fun b => b.2)) (k5 u4) 45 [(0, .ref 23), (1, .int s3.1)] [] s3.2) (fun u4 => ?_) (fun k5 hk5 => ?_)
    · refine z_aload_n C 0 dX5_tellBodies_45 rfl rfl rfl ?_
      refine z_get (v := .int (s3.2.1 23 3)) C 3 zOK5 rfl (by decide) w214 rfl rfl dX5_tellBodies_46 rfl ?_
      refine z_aload_n C 0 dX5_tellBodies_49 rfl rfl rfl ?_
      refine z_get (v := .int (s3.2.1 23 2)) C 2 zOK5 rfl (by decide) w212 rfl rfl dX5_tellBodies_50 rfl ?_
      refine z_icmpge C dX5_tellBodies_53 rfl rfl ?_ ?_
      · refine z_iload_n C 1 dX5_tellBodies_60 rfl rfl rfl ?_
        exact z_iret C rfl rfl dX5_tellBodies_61
      · refine z_iconst C (-1 : Int32) dX5_tellBodies_56 rfl rfl ?_
        refine z_goto C dX5_tellBodies_57 rfl ?_
        exact z_iret C rfl rfl dX5_tellBodies_61
    · refine z_icmpge C dX5_tellBodies_10 rfl rfl ?_ ?_
      · exact z_perm [0, 1] rfl (hk5 ())
      · refine z_aload_n C 0 dX5_tellBodies_13 rfl rfl rfl ?_
        refine z_get (v := .int (s3.2.1 23 3)) C 3 zOK5 rfl (by decide) w214 rfl rfl dX5_tellBodies_14 rfl ?_
        refine z_aload_n C 0 dX5_tellBodies_17 rfl rfl rfl ?_
        refine z_get (v := .int (s3.2.1 23 2)) C 2 zOK5 rfl (by decide) w212 rfl rfl dX5_tellBodies_18 rfl ?_
        refine z_icmpge C dX5_tellBodies_21 rfl rfl ?_ ?_
        · exact z_perm [0, 1] rfl (hk5 ())
        · refine z_aload_n C 0 dX5_tellBodies_24 rfl rfl rfl ?_
          refine z_aload_n C 0 dX5_tellBodies_25 rfl rfl rfl ?_
          refine z_get (v := .ref (zcl (s3.2.1 23 1))) C 1 zOK5 rfl (by decide) w210 rfl rfl dX5_tellBodies_26 rfl ?_
          refine z_iload_n C 1 dX5_tellBodies_29 rfl rfl rfl ?_
          refine z_aaload C (zlenR (zcl (s3.2.1 23 1))) rfl dX5_tellBodies_30 rfl ?_
          refine z_ci (fun b => b.1) (fun b => b.2) (fun b hb => z_V (na := 1) (ci := 5) (r := (RX5, TX5, 4)) C [.ref (zrow (zcl (s3.2.1 23 1)) s3.1)] rfl (mX5_takeItem Y (zrow (zcl (s3.2.1 23 1)) s3.1) s3.2 b hb) rfl rfl w608 w610 w24 w84 w611 hdX5_takeItem ⟨Nat.le_of_ble_eq_true rfl, Nat.le_of_ble_eq_true rfl⟩ (Nat.le_of_ble_eq_true rfl) rfl dX5_tellBodies_31) rfl (fun b6 => ?_)
          refine z_ifne C dX5_tellBodies_34 rfl rfl ?_ ?_
          · refine z_iinc (v := (s3.1 + (1 : Int32))) C 1 (fun z => [(1, .int z), (0, .ref 23)]) dX5_tellBodies_39 rfl rfl (by decide) (fun _ => rfl) rfl (fun x7 => ?_)
            refine z_goto C dX5_tellBodies_42 rfl ?_
            exact z_perm [1, 0] rfl (hr2 (x7, b6.2))
          · refine z_iconst C (-1 : Int32) dX5_tellBodies_37 rfl rfl ?_
            exact z_iret C rfl rfl dX5_tellBodies_38
  exact key b hF
set_option maxRecDepth 100000 in
set_option maxHeartbeats 4000000 in
theorem mX6_addPair (Y : zY) (x0 : Int32) (x1 : Int32) (x2 : Int32) (x3 : Int32) (M : zMem) (b : Int32 × zMem) (hF : FX6_addPair x0 x1 x2 x3 M = some b) : zMt Y yX6_addPair cX6_addPair 6 (some .int) 0 0 [.ref 34, .int x0, .int x1, .int x2, .int x3] M (zQi Y b.1 b.2) := by
  refine zMt_of (own := RX6) (by decide +kernel) rfl (Nat.le_of_ble_eq_true rfl) (fun X C => ?_)
  have key : zR Y X 6 (zFi Y X (fun b => b.1) (fun b => b.2)) (FX6_addPair x0 x1 x2 x3 M) 0 [(0, .ref 34), (1, .int x0), (2, .int x1), (3, .int x2), (4, .int x3)] [] M := by
    unfold FX6_addPair
    refine z_aload_n C 0 dX6_addPair_0 rfl rfl rfl ?_
    refine z_get (v := .ref 35) C 2 zOK6 rfl (by decide) w234 rfl rfl dX6_addPair_1 rfl ?_
    refine z_aload_n C 0 dX6_addPair_4 rfl rfl rfl ?_
    refine z_get (v := .int (M.1 34 4)) C 4 zOK6 rfl (by decide) w236 rfl rfl dX6_addPair_5 rfl ?_
    refine z_aaload C 10 rfl dX6_addPair_8 rfl ?_
    refine z_astore (lo' := [(5, .ref (zrow 35 (M.1 34 4))), (0, .ref 34), (1, .int x0), (2, .int x1), (3, .int x2), (4, .int x3)]) C dX6_addPair_9 (by decide) rfl rfl ?_
    refine z_aload C 0 dX6_addPair_11 rfl rfl ?_
    refine z_iconst C (0 : Int32) dX6_addPair_13 rfl rfl ?_
    refine z_iload_n C 2 dX6_addPair_14 rfl rfl rfl ?_
    refine z_iastore C (zlenI (zrow 35 (M.1 34 4))) rfl dX6_addPair_15 rfl (fun M5 => ?_)
    refine z_aload C 0 dX6_addPair_16 rfl rfl ?_
    refine z_iconst C (1 : Int32) dX6_addPair_18 rfl rfl ?_
    refine z_iload_n C 3 dX6_addPair_19 rfl rfl rfl ?_
    refine z_iastore C (zlenI (zrow 35 (M.1 34 4))) rfl dX6_addPair_20 rfl (fun M6 => ?_)
    refine z_aload C 0 dX6_addPair_21 rfl rfl ?_
    refine z_iconst C (2 : Int32) dX6_addPair_23 rfl rfl ?_
    refine z_iload_n C 4 dX6_addPair_24 rfl rfl rfl ?_
    refine z_iastore C (zlenI (zrow 35 (M.1 34 4))) rfl dX6_addPair_25 rfl (fun M7 => ?_)
    refine z_aload C 0 dX6_addPair_26 rfl rfl ?_
    refine z_iconst C (3 : Int32) dX6_addPair_28 rfl rfl ?_
    refine z_iload C 5 dX6_addPair_29 rfl rfl ?_
    refine z_iastore C (zlenI (zrow 35 (M.1 34 4))) rfl dX6_addPair_31 rfl (fun M8 => ?_)
    refine z_aload_n C 1 dX6_addPair_32 rfl rfl rfl ?_
    refine z_dup C dX6_addPair_33 rfl rfl ?_
    refine z_get (v := .int (M8.1 34 4)) C 4 zOK6 rfl (by decide) w236 rfl rfl dX6_addPair_34 rfl ?_
    refine z_iconst C (1 : Int32) dX6_addPair_37 rfl rfl ?_
    refine z_iadd C dX6_addPair_38 rfl ?_
    refine z_puti C 4 zOK6 rfl (by decide) w236 rfl rfl rfl rfl rfl dX6_addPair_39 rfl (fun M9 => ?_)
    refine z_aload_n C 1 dX6_addPair_42 rfl rfl rfl ?_
    refine z_iconst C (1 : Int32) dX6_addPair_43 rfl rfl ?_
    refine z_puti C 16 zOK6 rfl (by decide) w253 rfl rfl rfl rfl rfl dX6_addPair_44 rfl (fun M10 => ?_)
    refine z_aload_n C 1 dX6_addPair_47 rfl rfl rfl ?_
    refine z_get (v := .int (M10.1 34 4)) C 4 zOK6 rfl (by decide) w236 rfl rfl dX6_addPair_48 rfl ?_
    exact z_iret C rfl rfl dX6_addPair_51
  exact key b hF
set_option maxRecDepth 100000 in
set_option maxHeartbeats 4000000 in
theorem mX6_addSpot (Y : zY) (x0 : Int32) (x1 : Int32) (M : zMem) (b : Int32 × zMem) (hF : FX6_addSpot x0 x1 M = some b) : zMt Y yX6_addSpot cX6_addSpot 3 (some .int) 0 0 [.ref 34, .int x0, .int x1] M (zQi Y b.1 b.2) := by
  refine zMt_of (own := RX6) (by decide +kernel) rfl (Nat.le_of_ble_eq_true rfl) (fun X C => ?_)
  have key : zR Y X 3 (zFi Y X (fun b => b.1) (fun b => b.2)) (FX6_addSpot x0 x1 M) 0 [(0, .ref 34), (1, .int x0), (2, .int x1)] [] M := by
    unfold FX6_addSpot
    refine z_aload_n C 0 dX6_addSpot_0 rfl rfl rfl ?_
    refine z_get (v := .ref 46) C 3 zOK6 rfl (by decide) w235 rfl rfl dX6_addSpot_1 rfl ?_
    refine z_aload_n C 0 dX6_addSpot_4 rfl rfl rfl ?_
    refine z_get (v := .int (M.1 34 5)) C 5 zOK6 rfl (by decide) w238 rfl rfl dX6_addSpot_5 rfl ?_
    refine z_aaload C 8 rfl dX6_addSpot_8 rfl ?_
    refine z_iconst C (0 : Int32) dX6_addSpot_9 rfl rfl ?_
    refine z_iload_n C 1 dX6_addSpot_10 rfl rfl rfl ?_
    refine z_iastore C (zlenI (zrow 46 (M.1 34 5))) rfl dX6_addSpot_11 rfl (fun M3 => ?_)
    refine z_aload_n C 0 dX6_addSpot_12 rfl rfl rfl ?_
    refine z_get (v := .ref 46) C 3 zOK6 rfl (by decide) w235 rfl rfl dX6_addSpot_13 rfl ?_
    refine z_aload_n C 0 dX6_addSpot_16 rfl rfl rfl ?_
    refine z_get (v := .int (M3.1 34 5)) C 5 zOK6 rfl (by decide) w238 rfl rfl dX6_addSpot_17 rfl ?_
    refine z_aaload C 8 rfl dX6_addSpot_20 rfl ?_
    refine z_iconst C (1 : Int32) dX6_addSpot_21 rfl rfl ?_
    refine z_iload_n C 2 dX6_addSpot_22 rfl rfl rfl ?_
    refine z_iastore C (zlenI (zrow 46 (M3.1 34 5))) rfl dX6_addSpot_23 rfl (fun M4 => ?_)
    refine z_aload_n C 0 dX6_addSpot_24 rfl rfl rfl ?_
    refine z_dup C dX6_addSpot_25 rfl rfl ?_
    refine z_get (v := .int (M4.1 34 5)) C 5 zOK6 rfl (by decide) w238 rfl rfl dX6_addSpot_26 rfl ?_
    refine z_iconst C (1 : Int32) dX6_addSpot_29 rfl rfl ?_
    refine z_iadd C dX6_addSpot_30 rfl ?_
    refine z_puti C 5 zOK6 rfl (by decide) w238 rfl rfl rfl rfl rfl dX6_addSpot_31 rfl (fun M5 => ?_)
    refine z_aload_n C 0 dX6_addSpot_34 rfl rfl rfl ?_
    refine z_iconst C (1 : Int32) dX6_addSpot_35 rfl rfl ?_
    refine z_puti C 16 zOK6 rfl (by decide) w253 rfl rfl rfl rfl rfl dX6_addSpot_36 rfl (fun M6 => ?_)
    refine z_aload_n C 0 dX6_addSpot_39 rfl rfl rfl ?_
    refine z_get (v := .int (M6.1 34 5)) C 5 zOK6 rfl (by decide) w238 rfl rfl dX6_addSpot_40 rfl ?_
    exact z_iret C rfl rfl dX6_addSpot_43
  exact key b hF
set_option maxRecDepth 100000 in
set_option maxHeartbeats 4000000 in
theorem mX6_startRow (Y : zY) (x0 : Int32) (M : zMem) (b : zMem) (hF : FX6_startRow x0 M = some b) : zMt Y yX6_startRow cX6_startRow 2 none 1 23 [.ref 34, .int x0] M (zQv Y b) := by
  refine zMt_of (own := RX6) (by decide +kernel) rfl (Nat.le_of_ble_eq_true rfl) (fun X C => ?_)
  have key : zR Y X 2 (zFv Y X (fun b => b)) (FX6_startRow x0 M) 0 [(0, .ref 34), (1, .int x0)] [] M := by
    unfold FX6_startRow
    refine z_aload_n C 0 dX6_startRow_0 rfl rfl rfl ?_
    refine z_get (v := .ref 55) C 7 zOK6 rfl (by decide) w242 rfl rfl dX6_startRow_1 rfl ?_
    refine z_iload_n C 1 dX6_startRow_4 rfl rfl rfl ?_
    refine z_iconst C (0 : Int32) dX6_startRow_5 rfl rfl ?_
    refine z_iastore C 36 rfl dX6_startRow_6 rfl (fun M2 => ?_)
    refine z_aload_n C 0 dX6_startRow_7 rfl rfl rfl ?_
    refine z_get (v := .ref 56) C 8 zOK6 rfl (by decide) w243 rfl rfl dX6_startRow_8 rfl ?_
    refine z_iload_n C 1 dX6_startRow_11 rfl rfl rfl ?_
    refine z_aaload C 36 rfl dX6_startRow_12 rfl ?_
    refine z_iconst C (0 : Int32) dX6_startRow_13 rfl rfl ?_
    refine z_cv (fun b => b) (fun b hb => z_S (na := 2) C [.ref (zrow 56 x0), .int (0 : Int32)] rfl (mJ7_fill_53178 Y (zrow 56 x0) (0 : Int32) M2 b hb) w659 w300 w87 w301 hdJ7_fill_53178 ⟨Nat.le_of_ble_eq_true rfl, Nat.le_of_ble_eq_true rfl⟩ (Nat.le_of_ble_eq_true rfl) rfl dX6_startRow_14) rfl (fun b3 => ?_)
    exact z_vret C rfl dX6_startRow_17
  exact key b hF
set_option maxRecDepth 100000 in
set_option maxHeartbeats 4000000 in
theorem mX6_addToRow (Y : zY) (x0 : Int32) (x1 : Int32) (x2 : Int32) (x3 : Int32) (x4 : Int32) (M : zMem) (b : zMem) (hF : FX6_addToRow x0 x1 x2 x3 x4 M = some b) : zMt Y yX6_addToRow cX6_addToRow 9 none 3 77 [.ref 34, .int x0, .int x1, .int x2, .int x3, .int x4] M (zQv Y b) := by
  refine zMt_of (own := RX6) (by decide +kernel) rfl (Nat.le_of_ble_eq_true rfl) (fun X C => ?_)
  have key : zR Y X 9 (zFv Y X (fun b => b)) (FX6_addToRow x0 x1 x2 x3 x4 M) 0 [(0, .ref 34), (1, .int x0), (2, .int x1), (3, .int x2), (4, .int x3), (5, .int x4)] [] M := by
    unfold FX6_addToRow
    refine z_aload_n C 0 dX6_addToRow_0 rfl rfl rfl ?_
    refine z_get (v := .ref 55) C 7 zOK6 rfl (by decide) w242 rfl rfl dX6_addToRow_1 rfl ?_
    refine z_iload_n C 1 dX6_addToRow_4 rfl rfl rfl ?_
    refine z_dup2 C dX6_addToRow_5 rfl rfl rfl ?_
    refine z_iaload C 36 rfl dX6_addToRow_6 rfl ?_
    refine z_iload_n C 2 dX6_addToRow_7 rfl rfl rfl ?_
    refine z_aload_n C 0 dX6_addToRow_8 rfl rfl rfl ?_
    refine z_get (v := .ref 1) C 0 zOK6 rfl (by decide) w232 rfl rfl dX6_addToRow_9 rfl ?_
    refine z_aload_n C 0 dX6_addToRow_12 rfl rfl rfl ?_
    refine z_get (v := .int (M.1 34 12)) C 12 zOK6 rfl (by decide) w247 rfl rfl dX6_addToRow_13 rfl ?_
    refine z_iload_n C 3 dX6_addToRow_16 rfl rfl rfl ?_
    refine z_iload C 4 dX6_addToRow_17 rfl rfl ?_
    refine z_iload C 5 dX6_addToRow_19 rfl rfl ?_
    refine z_ci (fun b => b) (fun _ => M) (fun b hb => z_VN (na := 4) (ci := 2) (r := (RX2, TX2, 4)) C [.int (M.1 34 12), .int x2, .int x3, .int x4] rfl (mX2_lightPast Y (M.1 34 12) x2 x3 x4 M b hb) rfl rfl (List.mem_of_getElem? (i := 32) rfl) w420 w4 w80 w421 hdX2_lightPastN ⟨Nat.le_of_ble_eq_true rfl, Nat.le_of_ble_eq_true rfl⟩ (Nat.le_of_ble_eq_true rfl) rfl dX6_addToRow_21) rfl (fun b6 => ?_)
    refine z_imul C dX6_addToRow_24 rfl ?_
    refine z_iadd C dX6_addToRow_25 rfl ?_
    refine z_iastore C 36 rfl dX6_addToRow_26 rfl (fun M7 => ?_)
    refine z_iconst C (0 : Int32) dX6_addToRow_27 rfl rfl ?_
    refine z_istoreP (lo' := [(6, .int (0 : Int32)), (0, .ref 34), (1, .int x0), (2, .int x1), (3, .int x2), (4, .int x3), (5, .int x4)]) C dX6_addToRow_28 (by decide) rfl rfl ?_
    refine z_loop (sM := fun s => s.2) (sl := fun s => [(0, .ref 34), (1, .int x0), (2, .int x1), (3, .int x2), (4, .int x3), (5, .int x4), (6, .int s.1)]) [1, 2, 3, 4, 5, 6, 0] rfl rfl (fun r8 hr8 s9 => ?_)
    unfold FX6_addToRow_L30
    refine z_iload C 6 dX6_addToRow_30 rfl rfl ?_
    refine z_aload_n C 0 dX6_addToRow_32 rfl rfl rfl ?_
    refine z_get (v := .int (s9.2.1 34 12)) C 12 zOK6 rfl (by decide) w247 rfl rfl dX6_addToRow_33 rfl ?_
    refine z_icmpge C dX6_addToRow_36 rfl rfl ?_ ?_
    · exact z_vret C rfl dX6_addToRow_111
    · refine z_aload_n C 0 dX6_addToRow_39 rfl rfl rfl ?_
      refine z_get (v := .ref 1) C 0 zOK6 rfl (by decide) w232 rfl rfl dX6_addToRow_40 rfl ?_
      refine z_getN (v := .ref (zcl (s9.2.1 1 0))) C 0 zOK2 rfl (by decide) (List.mem_of_getElem? (i := 1) rfl) rfl rfl dX6_addToRow_43 rfl ?_
      refine z_iload C 6 dX6_addToRow_46 rfl rfl ?_
      refine z_aaload C (zlenR (zcl (s9.2.1 1 0))) rfl dX6_addToRow_48 rfl ?_
      refine z_astore (lo' := [(7, .ref (zrow (zcl (s9.2.1 1 0)) s9.1)), (0, .ref 34), (1, .int x0), (2, .int x1), (3, .int x2), (4, .int x3), (5, .int x4), (6, .int s9.1)]) C dX6_addToRow_49 (by decide) rfl rfl ?_
      refine z_iconst C (0 : Int32) dX6_addToRow_51 rfl rfl ?_
      refine z_istoreP (lo' := [(8, .int (0 : Int32)), (7, .ref (zrow (zcl (s9.2.1 1 0)) s9.1)), (0, .ref 34), (1, .int x0), (2, .int x1), (3, .int x2), (4, .int x3), (5, .int x4), (6, .int s9.1)]) C dX6_addToRow_52 (by decide) rfl rfl ?_
      refine z_loop (sM := fun s => s.2) (sl := fun s => [(0, .ref 34), (1, .int x0), (2, .int x1), (3, .int x2), (4, .int x3), (5, .int x4), (6, .int s9.1), (7, .ref (zrow (zcl (s9.2.1 1 0)) s9.1)), (8, .int s.1)]) [2, 3, 4, 5, 6, 7, 8, 1, 0] rfl rfl (fun r10 hr10 s11 => ?_)
      unfold FX6_addToRow_L54
      refine z_iload C 8 dX6_addToRow_54 rfl rfl ?_
      refine z_aload_n C 0 dX6_addToRow_56 rfl rfl rfl ?_
      refine z_get (v := .int (s11.2.1 34 13)) C 13 zOK6 rfl (by decide) w248 rfl rfl dX6_addToRow_57 rfl ?_
      refine z_icmpge C dX6_addToRow_60 rfl rfl ?_ ?_
      · refine z_iinc (v := (s9.1 + (1 : Int32))) C 6 (fun z => [(6, .int z), (0, .ref 34), (1, .int x0), (2, .int x1), (3, .int x2), (4, .int x3), (5, .int x4), (7, .ref (zrow (zcl (s9.2.1 1 0)) s9.1)), (8, .int s11.1)]) dX6_addToRow_105 rfl rfl (by decide) (fun _ => rfl) rfl (fun x12 => ?_)
        refine z_goto C dX6_addToRow_108 rfl ?_
        exact z_perm [1, 2, 3, 4, 5, 6, 0] rfl (hr8 (x12, s11.2))
      · refine z_aload_n C 0 dX6_addToRow_63 rfl rfl rfl ?_
        refine z_get (v := .ref 56) C 8 zOK6 rfl (by decide) w243 rfl rfl dX6_addToRow_64 rfl ?_
        refine z_iload_n C 1 dX6_addToRow_67 rfl rfl rfl ?_
        refine z_aaload C 36 rfl dX6_addToRow_68 rfl ?_
        refine z_iload C 6 dX6_addToRow_69 rfl rfl ?_
        refine z_bipush C (16 : Int32) dX6_addToRow_71 rfl rfl ?_
        refine z_imul C dX6_addToRow_73 rfl ?_
        refine z_iload C 8 dX6_addToRow_74 rfl rfl ?_
        refine z_iadd C dX6_addToRow_76 rfl ?_
        refine z_dup2 C dX6_addToRow_77 rfl rfl rfl ?_
        refine z_iaload C (zlenI (zrow 56 x0)) rfl dX6_addToRow_78 rfl ?_
        refine z_iload_n C 2 dX6_addToRow_79 rfl rfl rfl ?_
        refine z_aload C 7 dX6_addToRow_80 rfl rfl ?_
        refine z_iconst C (0 : Int32) dX6_addToRow_82 rfl rfl ?_
        refine z_iaload C (zlenI (zrow (zcl (s9.2.1 1 0)) s9.1)) rfl dX6_addToRow_83 rfl ?_
        refine z_aload C 7 dX6_addToRow_84 rfl rfl ?_
        refine z_iload C 8 dX6_addToRow_86 rfl rfl ?_
        refine z_iload_n C 3 dX6_addToRow_88 rfl rfl rfl ?_
        refine z_iload C 4 dX6_addToRow_89 rfl rfl ?_
        refine z_iload C 5 dX6_addToRow_91 rfl rfl ?_
        refine z_ci (fun b => b) (fun _ => s11.2) (fun b hb => z_SN (na := 6) C [.int (zrd s11.2 (zrow (zcl (s9.2.1 1 0)) s9.1) (0 : Int32)), .ref (zrow (zcl (s9.2.1 1 0)) s9.1), .int s11.1, .int x2, .int x3, .int x4] rfl (mX2_bendBy Y (zrd s11.2 (zrow (zcl (s9.2.1 1 0)) s9.1) (0 : Int32)) (zrow (zcl (s9.2.1 1 0)) s9.1) s11.1 x2 x3 x4 s11.2 b hb) (List.mem_of_getElem? (i := 33) rfl) w402 w80 w403 hdX2_bendBy ⟨Nat.le_of_ble_eq_true rfl, Nat.le_of_ble_eq_true rfl⟩ (Nat.le_of_ble_eq_true rfl) rfl dX6_addToRow_93) rfl (fun b13 => ?_)
        refine z_imul C dX6_addToRow_96 rfl ?_
        refine z_iadd C dX6_addToRow_97 rfl ?_
        refine z_iastore C (zlenI (zrow 56 x0)) rfl dX6_addToRow_98 rfl (fun M14 => ?_)
        refine z_iinc (v := (s11.1 + (1 : Int32))) C 8 (fun z => [(8, .int z), (0, .ref 34), (1, .int x0), (2, .int x1), (3, .int x2), (4, .int x3), (5, .int x4), (6, .int s9.1), (7, .ref (zrow (zcl (s9.2.1 1 0)) s9.1))]) dX6_addToRow_99 rfl rfl (by decide) (fun _ => rfl) rfl (fun x15 => ?_)
        refine z_goto C dX6_addToRow_102 rfl ?_
        exact z_perm [1, 2, 3, 4, 5, 6, 7, 8, 0] rfl (hr10 (x15, M14))
  exact key b hF
set_option maxRecDepth 100000 in
set_option maxHeartbeats 4000000 in
theorem mX6_load (Y : zY) (x0 : Int32) (x1 : Int32) (M : zMem) (b : zMem) (hF : FX6_load x0 x1 M = some b) : zMt Y yX6_load cX6_load 5 none 4 105 [.ref 34, .int x0, .int x1] M (zQv Y b) := by
  refine zMt_of (own := RX6) (by decide +kernel) rfl (Nat.le_of_ble_eq_true rfl) (fun X C => ?_)
  have key : zR Y X 5 (zFv Y X (fun b => b)) (FX6_load x0 x1 M) 0 [(0, .ref 34), (1, .int x0), (2, .int x1)] [] M := by
    unfold FX6_load
    refine z_aload_n C 0 dX6_load_0 rfl rfl rfl ?_
    refine z_get (v := .int (M.1 34 16)) C 16 zOK6 rfl (by decide) w253 rfl rfl dX6_load_1 rfl ?_
    refine z_join (fun k4 => ∀ (u3 : Unit), zR Y X 5 (zFv Y X (fun b => b)) (k4 u3) 26 [(0, .ref 34), (1, .int x0), (2, .int x1)] [] M) (fun u3 => ?_) (fun k4 hk4 => ?_)
    · refine z_aload_n C 0 dX6_load_26 rfl rfl rfl ?_
      refine z_iload_n C 1 dX6_load_27 rfl rfl rfl ?_
      refine z_puti C 12 zOK6 rfl (by decide) w247 rfl rfl rfl rfl rfl dX6_load_28 rfl (fun M5 => ?_)
      refine z_aload_n C 0 dX6_load_31 rfl rfl rfl ?_
      refine z_iload_n C 2 dX6_load_32 rfl rfl rfl ?_
      refine z_iconst C (1 : Int32) dX6_load_33 rfl rfl ?_
      refine z_iadd C dX6_load_34 rfl ?_
      refine z_puti C 13 zOK6 rfl (by decide) w248 rfl rfl rfl rfl rfl dX6_load_35 rfl (fun M6 => ?_)
      refine z_aload_n C 0 dX6_load_38 rfl rfl rfl ?_
      refine z_iconst C (1 : Int32) dX6_load_39 rfl rfl ?_
      refine z_puti C 14 zOK6 rfl (by decide) w249 rfl rfl rfl rfl rfl dX6_load_40 rfl (fun M7 => ?_)
      refine z_iconst C (0 : Int32) dX6_load_43 rfl rfl ?_
      refine z_istoreP_n (lo' := [(3, .int (0 : Int32)), (0, .ref 34), (1, .int x0), (2, .int x1)]) C dX6_load_44 rfl (by decide) rfl rfl ?_
      refine z_loop (sM := fun s => s.2) (sl := fun s => [(0, .ref 34), (1, .int x0), (3, .int s.1)]) [1, 2, 0] rfl rfl (fun r8 hr8 s9 => ?_)
      unfold FX6_load_L45
      refine z_iload_n C 2 dX6_load_45 rfl rfl rfl ?_
      refine z_iload_n C 1 dX6_load_46 rfl rfl rfl ?_
      refine z_icmpge C dX6_load_47 rfl rfl ?_ ?_
      · refine z_iconst C (0 : Int32) dX6_load_69 rfl rfl ?_
        refine z_istoreP_n (lo' := [(3, .int (0 : Int32)), (0, .ref 34), (1, .int x0)]) C dX6_load_70 rfl (by decide) rfl rfl ?_
        refine z_loop (sM := fun s => s.2) (sl := fun s => [(0, .ref 34), (3, .int s.1)]) [1, 0] rfl rfl (fun r10 hr10 s11 => ?_)
        unfold FX6_load_L71
        refine z_iload_n C 1 dX6_load_71 rfl rfl rfl ?_
        refine z_iconst C (2 : Int32) dX6_load_72 rfl rfl ?_
        refine z_icmpge C dX6_load_73 rfl rfl ?_ ?_
        · refine z_aload_n C 0 dX6_load_234 rfl rfl rfl ?_
          refine z_iconst C (0 : Int32) dX6_load_235 rfl rfl ?_
          refine z_puti C 16 zOK6 rfl (by decide) w253 rfl rfl rfl rfl rfl dX6_load_236 rfl (fun M12 => ?_)
          refine z_aload_n C 0 dX6_load_239 rfl rfl rfl ?_
          refine z_iconst C (0 : Int32) dX6_load_240 rfl rfl ?_
          refine z_puti C 17 zOK6 rfl (by decide) w255 rfl rfl rfl rfl rfl dX6_load_241 rfl (fun M13 => ?_)
          exact z_vret C rfl dX6_load_244
        · refine z_iconst C (0 : Int32) dX6_load_76 rfl rfl ?_
          refine z_istoreP (lo' := [(4, .int (0 : Int32)), (0, .ref 34), (3, .int s11.1)]) C dX6_load_77 (by decide) rfl rfl ?_
          refine z_loop (sM := fun s => s.2) (sl := fun s => [(0, .ref 34), (3, .int s11.1), (4, .int s.1)]) [1, 2, 0] rfl rfl (fun r14 hr14 s15 => ?_)
          unfold FX6_load_L79
          refine z_iload C 2 dX6_load_79 rfl rfl ?_
          refine z_aload_n C 0 dX6_load_81 rfl rfl rfl ?_
          refine z_get (v := .int (s15.2.1 34 4)) C 4 zOK6 rfl (by decide) w236 rfl rfl dX6_load_82 rfl ?_
          refine z_icmpge C dX6_load_85 rfl rfl ?_ ?_
          · refine z_iconst C (0 : Int32) dX6_load_164 rfl rfl ?_
            refine z_istoreP (lo' := [(4, .int (0 : Int32)), (0, .ref 34), (3, .int s11.1)]) C dX6_load_165 (by decide) rfl rfl ?_
            refine z_loop (sM := fun s => s.2) (sl := fun s => [(0, .ref 34), (3, .int s11.1), (4, .int s.1)]) [1, 2, 0] rfl rfl (fun r16 hr16 s17 => ?_)
            unfold FX6_load_L167
            refine z_iload C 2 dX6_load_167 rfl rfl ?_
            refine z_aload_n C 0 dX6_load_169 rfl rfl rfl ?_
            refine z_get (v := .int (s17.2.1 34 5)) C 5 zOK6 rfl (by decide) w238 rfl rfl dX6_load_170 rfl ?_
            refine z_icmpge C dX6_load_173 rfl rfl ?_ ?_
            · refine z_iinc (v := (s11.1 + (1 : Int32))) C 1 (fun z => [(3, .int z), (0, .ref 34), (4, .int s17.1)]) dX6_load_228 rfl rfl (by decide) (fun _ => rfl) rfl (fun x18 => ?_)
              refine z_goto C dX6_load_231 rfl ?_
              exact z_perm [1, 0] rfl (hr10 (x18, s17.2))
            · refine z_aload_n C 0 dX6_load_176 rfl rfl rfl ?_
              refine z_bipush C (20 : Int32) dX6_load_177 rfl rfl ?_
              refine z_iconst C (2 : Int32) dX6_load_179 rfl rfl ?_
              refine z_iload C 2 dX6_load_180 rfl rfl ?_
              refine z_imul C dX6_load_182 rfl ?_
              refine z_iadd C dX6_load_183 rfl ?_
              refine z_iload_n C 1 dX6_load_184 rfl rfl rfl ?_
              refine z_iadd C dX6_load_185 rfl ?_
              refine z_cv (fun b => b) (fun b hb => z_V (na := 1) (ci := 6) (r := (RX6, TX6, 18)) C [.int (((20 : Int32) + ((2 : Int32) * s17.1)) + s11.1)] rfl (mX6_startRow Y (((20 : Int32) + ((2 : Int32) * s17.1)) + s11.1) s17.2 b hb) rfl rfl w655 w657 w31 w85 w658 hdX6_startRow ⟨Nat.le_of_ble_eq_true rfl, Nat.le_of_ble_eq_true rfl⟩ (Nat.le_of_ble_eq_true rfl) rfl dX6_load_186) rfl (fun b19 => ?_)
              refine z_aload_n C 0 dX6_load_189 rfl rfl rfl ?_
              refine z_bipush C (20 : Int32) dX6_load_190 rfl rfl ?_
              refine z_iconst C (2 : Int32) dX6_load_192 rfl rfl ?_
              refine z_iload C 2 dX6_load_193 rfl rfl ?_
              refine z_imul C dX6_load_195 rfl ?_
              refine z_iadd C dX6_load_196 rfl ?_
              refine z_iload_n C 1 dX6_load_197 rfl rfl rfl ?_
              refine z_iadd C dX6_load_198 rfl ?_
              refine z_iconst C (1 : Int32) dX6_load_199 rfl rfl ?_
              refine z_aload_n C 0 dX6_load_200 rfl rfl rfl ?_
              refine z_get (v := .ref 46) C 3 zOK6 rfl (by decide) w235 rfl rfl dX6_load_201 rfl ?_
              refine z_iload C 2 dX6_load_204 rfl rfl ?_
              refine z_aaload C 8 rfl dX6_load_206 rfl ?_
              refine z_iconst C (0 : Int32) dX6_load_207 rfl rfl ?_
              refine z_iaload C (zlenI (zrow 46 s17.1)) rfl dX6_load_208 rfl ?_
              refine z_aload_n C 0 dX6_load_209 rfl rfl rfl ?_
              refine z_get (v := .ref 46) C 3 zOK6 rfl (by decide) w235 rfl rfl dX6_load_210 rfl ?_
              refine z_iload C 2 dX6_load_213 rfl rfl ?_
              refine z_aaload C 8 rfl dX6_load_215 rfl ?_
              refine z_iconst C (1 : Int32) dX6_load_216 rfl rfl ?_
              refine z_iaload C (zlenI (zrow 46 s17.1)) rfl dX6_load_217 rfl ?_
              refine z_iload_n C 1 dX6_load_218 rfl rfl rfl ?_
              refine z_cv (fun b => b) (fun b hb => z_V (na := 5) (ci := 6) (r := (RX6, TX6, 18)) C [.int (((20 : Int32) + ((2 : Int32) * s17.1)) + s11.1), .int (1 : Int32), .int (zrd b19 (zrow 46 s17.1) (0 : Int32)), .int (zrd b19 (zrow 46 s17.1) (1 : Int32)), .int s11.1] rfl (mX6_addToRow Y (((20 : Int32) + ((2 : Int32) * s17.1)) + s11.1) (1 : Int32) (zrd b19 (zrow 46 s17.1) (0 : Int32)) (zrd b19 (zrow 46 s17.1) (1 : Int32)) s11.1 b19 b hb) rfl rfl w660 w662 w32 w85 w663 hdX6_addToRow ⟨Nat.le_of_ble_eq_true rfl, Nat.le_of_ble_eq_true rfl⟩ (Nat.le_of_ble_eq_true rfl) rfl dX6_load_219) rfl (fun b20 => ?_)
              refine z_iinc (v := (s17.1 + (1 : Int32))) C 2 (fun z => [(4, .int z), (0, .ref 34), (3, .int s11.1)]) dX6_load_222 rfl rfl (by decide) (fun _ => rfl) rfl (fun x21 => ?_)
              refine z_goto C dX6_load_225 rfl ?_
              exact z_perm [1, 2, 0] rfl (hr16 (x21, b20))
          · refine z_aload_n C 0 dX6_load_88 rfl rfl rfl ?_
            refine z_iconst C (2 : Int32) dX6_load_89 rfl rfl ?_
            refine z_iload C 2 dX6_load_90 rfl rfl ?_
            refine z_imul C dX6_load_92 rfl ?_
            refine z_iload_n C 1 dX6_load_93 rfl rfl rfl ?_
            refine z_iadd C dX6_load_94 rfl ?_
            refine z_cv (fun b => b) (fun b hb => z_V (na := 1) (ci := 6) (r := (RX6, TX6, 18)) C [.int (((2 : Int32) * s15.1) + s11.1)] rfl (mX6_startRow Y (((2 : Int32) * s15.1) + s11.1) s15.2 b hb) rfl rfl w655 w657 w31 w85 w658 hdX6_startRow ⟨Nat.le_of_ble_eq_true rfl, Nat.le_of_ble_eq_true rfl⟩ (Nat.le_of_ble_eq_true rfl) rfl dX6_load_95) rfl (fun b22 => ?_)
            refine z_aload_n C 0 dX6_load_98 rfl rfl rfl ?_
            refine z_iconst C (2 : Int32) dX6_load_99 rfl rfl ?_
            refine z_iload C 2 dX6_load_100 rfl rfl ?_
            refine z_imul C dX6_load_102 rfl ?_
            refine z_iload_n C 1 dX6_load_103 rfl rfl rfl ?_
            refine z_iadd C dX6_load_104 rfl ?_
            refine z_iconst C (1 : Int32) dX6_load_105 rfl rfl ?_
            refine z_aload_n C 0 dX6_load_106 rfl rfl rfl ?_
            refine z_get (v := .ref 35) C 2 zOK6 rfl (by decide) w234 rfl rfl dX6_load_107 rfl ?_
            refine z_iload C 2 dX6_load_110 rfl rfl ?_
            refine z_aaload C 10 rfl dX6_load_112 rfl ?_
            refine z_iconst C (0 : Int32) dX6_load_113 rfl rfl ?_
            refine z_iaload C (zlenI (zrow 35 s15.1)) rfl dX6_load_114 rfl ?_
            refine z_aload_n C 0 dX6_load_115 rfl rfl rfl ?_
            refine z_get (v := .ref 35) C 2 zOK6 rfl (by decide) w234 rfl rfl dX6_load_116 rfl ?_
            refine z_iload C 2 dX6_load_119 rfl rfl ?_
            refine z_aaload C 10 rfl dX6_load_121 rfl ?_
            refine z_iconst C (1 : Int32) dX6_load_122 rfl rfl ?_
            refine z_iaload C (zlenI (zrow 35 s15.1)) rfl dX6_load_123 rfl ?_
            refine z_iload_n C 1 dX6_load_124 rfl rfl rfl ?_
            refine z_cv (fun b => b) (fun b hb => z_V (na := 5) (ci := 6) (r := (RX6, TX6, 18)) C [.int (((2 : Int32) * s15.1) + s11.1), .int (1 : Int32), .int (zrd b22 (zrow 35 s15.1) (0 : Int32)), .int (zrd b22 (zrow 35 s15.1) (1 : Int32)), .int s11.1] rfl (mX6_addToRow Y (((2 : Int32) * s15.1) + s11.1) (1 : Int32) (zrd b22 (zrow 35 s15.1) (0 : Int32)) (zrd b22 (zrow 35 s15.1) (1 : Int32)) s11.1 b22 b hb) rfl rfl w660 w662 w32 w85 w663 hdX6_addToRow ⟨Nat.le_of_ble_eq_true rfl, Nat.le_of_ble_eq_true rfl⟩ (Nat.le_of_ble_eq_true rfl) rfl dX6_load_125) rfl (fun b23 => ?_)
            refine z_aload_n C 0 dX6_load_128 rfl rfl rfl ?_
            refine z_iconst C (2 : Int32) dX6_load_129 rfl rfl ?_
            refine z_iload C 2 dX6_load_130 rfl rfl ?_
            refine z_imul C dX6_load_132 rfl ?_
            refine z_iload_n C 1 dX6_load_133 rfl rfl rfl ?_
            refine z_iadd C dX6_load_134 rfl ?_
            refine z_iconst C (-1 : Int32) dX6_load_135 rfl rfl ?_
            refine z_aload_n C 0 dX6_load_136 rfl rfl rfl ?_
            refine z_get (v := .ref 35) C 2 zOK6 rfl (by decide) w234 rfl rfl dX6_load_137 rfl ?_
            refine z_iload C 2 dX6_load_140 rfl rfl ?_
            refine z_aaload C 10 rfl dX6_load_142 rfl ?_
            refine z_iconst C (2 : Int32) dX6_load_143 rfl rfl ?_
            refine z_iaload C (zlenI (zrow 35 s15.1)) rfl dX6_load_144 rfl ?_
            refine z_aload_n C 0 dX6_load_145 rfl rfl rfl ?_
            refine z_get (v := .ref 35) C 2 zOK6 rfl (by decide) w234 rfl rfl dX6_load_146 rfl ?_
            refine z_iload C 2 dX6_load_149 rfl rfl ?_
            refine z_aaload C 10 rfl dX6_load_151 rfl ?_
            refine z_iconst C (3 : Int32) dX6_load_152 rfl rfl ?_
            refine z_iaload C (zlenI (zrow 35 s15.1)) rfl dX6_load_153 rfl ?_
            refine z_iload_n C 1 dX6_load_154 rfl rfl rfl ?_
            refine z_cv (fun b => b) (fun b hb => z_V (na := 5) (ci := 6) (r := (RX6, TX6, 18)) C [.int (((2 : Int32) * s15.1) + s11.1), .int (-1 : Int32), .int (zrd b23 (zrow 35 s15.1) (2 : Int32)), .int (zrd b23 (zrow 35 s15.1) (3 : Int32)), .int s11.1] rfl (mX6_addToRow Y (((2 : Int32) * s15.1) + s11.1) (-1 : Int32) (zrd b23 (zrow 35 s15.1) (2 : Int32)) (zrd b23 (zrow 35 s15.1) (3 : Int32)) s11.1 b23 b hb) rfl rfl w660 w662 w32 w85 w663 hdX6_addToRow ⟨Nat.le_of_ble_eq_true rfl, Nat.le_of_ble_eq_true rfl⟩ (Nat.le_of_ble_eq_true rfl) rfl dX6_load_155) rfl (fun b24 => ?_)
            refine z_iinc (v := (s15.1 + (1 : Int32))) C 2 (fun z => [(4, .int z), (0, .ref 34), (3, .int s11.1)]) dX6_load_158 rfl rfl (by decide) (fun _ => rfl) rfl (fun x25 => ?_)
            refine z_goto C dX6_load_161 rfl ?_
            exact z_perm [1, 2, 0] rfl (hr14 (x25, b24))
      · refine z_aload_n C 0 dX6_load_50 rfl rfl rfl ?_
        refine z_dup C dX6_load_51 rfl rfl ?_
        refine z_get (v := .int (s9.2.1 34 14)) C 14 zOK6 rfl (by decide) w249 rfl rfl dX6_load_52 rfl ?_
        refine z_aload_n C 0 dX6_load_55 rfl rfl rfl ?_
        refine z_get (v := .int (s9.2.1 34 13)) C 13 zOK6 rfl (by decide) w248 rfl rfl dX6_load_56 rfl ?_
        refine z_imul C dX6_load_59 rfl ?_
        refine z_puti C 14 zOK6 rfl (by decide) w249 rfl rfl rfl rfl rfl dX6_load_60 rfl (fun M26 => ?_)
        refine z_iinc (v := (s9.1 + (1 : Int32))) C 2 (fun z => [(3, .int z), (0, .ref 34), (1, .int x0)]) dX6_load_63 rfl rfl (by decide) (fun _ => rfl) rfl (fun x27 => ?_)
        refine z_goto C dX6_load_66 rfl ?_
        exact z_perm [1, 2, 0] rfl (hr8 (x27, M26))
    · refine z_ifne C dX6_load_4 rfl rfl ?_ ?_
      · exact z_perm [0, 1, 2] rfl (hk4 ())
      · refine z_aload_n C 0 dX6_load_7 rfl rfl rfl ?_
        refine z_get (v := .int (M.1 34 12)) C 12 zOK6 rfl (by decide) w247 rfl rfl dX6_load_8 rfl ?_
        refine z_iload_n C 1 dX6_load_11 rfl rfl rfl ?_
        refine z_icmpne C dX6_load_12 rfl rfl ?_ ?_
        · exact z_perm [0, 1, 2] rfl (hk4 ())
        · refine z_aload_n C 0 dX6_load_15 rfl rfl rfl ?_
          refine z_get (v := .int (M.1 34 13)) C 13 zOK6 rfl (by decide) w248 rfl rfl dX6_load_16 rfl ?_
          refine z_iload_n C 2 dX6_load_19 rfl rfl rfl ?_
          refine z_iconst C (1 : Int32) dX6_load_20 rfl rfl ?_
          refine z_iadd C dX6_load_21 rfl ?_
          refine z_icmpne C dX6_load_22 rfl rfl ?_ ?_
          · exact z_perm [0, 1, 2] rfl (hk4 ())
          · exact z_vret C rfl dX6_load_25
  exact key b hF
