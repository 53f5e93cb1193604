set_option maxRecDepth 100000 in
set_option maxHeartbeats 4000000 in
theorem mX4_greatest (Y : zY) (M : zMem) (b : Int32) (hF : FX4_greatest M = some b) : zMt Y yX4_greatest cX4_greatest 3 (some .int) 0 0 [.ref 19] M (zQi Y b M) := by
  refine zMt_of (own := RX4) (by decide) rfl (Nat.le_of_ble_eq_true rfl) (fun X C => ?_)
  have key : zR Y X 3 (zFi Y X (fun b => b) (fun _ => M)) (FX4_greatest M) 0 [(0, .ref 19)] [] M := by
    unfold FX4_greatest
    refine z_iconst C (0 : Int32) dX4_greatest_0 rfl rfl ?_
    refine z_istoreP_n (lo' := [(1, .int (0 : Int32)), (0, .ref 19)]) C dX4_greatest_1 rfl (by decide) rfl rfl ?_
    refine z_iconst C (1 : Int32) dX4_greatest_2 rfl rfl ?_
    refine z_istoreP_n (lo' := [(2, .int (1 : Int32)), (1, .int (0 : Int32)), (0, .ref 19)]) C dX4_greatest_3 rfl (by decide) rfl rfl ?_
    refine z_loop (sM := fun s => M) (sl := fun s => [(0, .ref 19), (1, .int s.1), (2, .int s.2)]) [2, 1, 0] rfl rfl (fun r1 hr1 s2 => ?_)
    unfold FX4_greatest_L4
    refine z_iload_n C 2 dX4_greatest_4 rfl rfl rfl ?_
    refine z_aload_n C 0 dX4_greatest_5 rfl rfl rfl ?_
    refine z_get (v := .int (M.1 19 3)) C 3 zOK4 rfl (by decide) w139 rfl rfl dX4_greatest_6 rfl ?_
    refine z_icmpge C dX4_greatest_9 rfl rfl ?_ ?_
    · refine z_iload_n C 1 dX4_greatest_35 rfl rfl rfl ?_
      exact z_iret C rfl rfl dX4_greatest_36
    · refine z_aload_n C 0 dX4_greatest_12 rfl rfl rfl ?_
      refine z_get (v := .ref 22) C 2 zOK4 rfl (by decide) w136 rfl rfl dX4_greatest_13 rfl ?_
      refine z_iload_n C 2 dX4_greatest_16 rfl rfl rfl ?_
      refine z_iaload C 4096 rfl dX4_greatest_17 rfl ?_
      refine z_aload_n C 0 dX4_greatest_18 rfl rfl rfl ?_
      refine z_get (v := .ref 22) C 2 zOK4 rfl (by decide) w136 rfl rfl dX4_greatest_19 rfl ?_
      refine z_iload_n C 1 dX4_greatest_22 rfl rfl rfl ?_
      refine z_iaload C 4096 rfl dX4_greatest_23 rfl ?_
      refine z_icmple C dX4_greatest_24 rfl rfl ?_ ?_
      · refine z_iinc (v := (s2.2 + (1 : Int32))) C 2 (fun z => [(2, .int z), (0, .ref 19), (1, .int s2.1)]) dX4_greatest_29 rfl rfl (by decide) (fun _ => rfl) rfl (fun x3 => ?_)
        refine z_goto C dX4_greatest_32 rfl ?_
        exact z_perm [1, 2, 0] rfl (hr1 (s2.1, x3))
      · refine z_iload_n C 2 dX4_greatest_27 rfl rfl rfl ?_
        refine z_istoreP_n (lo' := [(1, .int s2.2), (0, .ref 19), (2, .int s2.2)]) C dX4_greatest_28 rfl (by decide) rfl rfl ?_
        refine z_iinc (v := (s2.2 + (1 : Int32))) C 2 (fun z => [(2, .int z), (1, .int s2.2), (0, .ref 19)]) dX4_greatest_29 rfl rfl (by decide) (fun _ => rfl) rfl (fun x4 => ?_)
        refine z_goto C dX4_greatest_32 rfl ?_
        exact z_perm [2, 1, 0] rfl (hr1 (s2.2, x4))
  exact key b hF
set_option maxRecDepth 100000 in
set_option maxHeartbeats 4000000 in
theorem mX5_add (Y : zY) (x0 : Int32) (M : zMem) (b : zMem) (hF : FX5_add x0 M = some b) : zMt Y yX5_add cX5_add 2 none 0 0 [.ref 23, .int x0] M (zQv Y b) := by
  refine zMt_of (own := RX5) (by decide) rfl (Nat.le_of_ble_eq_true rfl) (fun X C => ?_)
  have key : zR Y X 2 (zFv Y X (fun b => b)) (FX5_add x0 M) 0 [(0, .ref 23), (1, .int x0)] [] M := by
    unfold FX5_add
    refine z_aload_n C 0 dX5_add_0 rfl rfl rfl ?_
    refine z_get (v := .int (M.1 23 2)) C 2 zOK5 rfl (by decide) w212 rfl rfl dX5_add_1 rfl ?_
    refine z_sipush C (200 : Int32) dX5_add_4 rfl rfl ?_
    refine z_icmpge C dX5_add_7 rfl rfl ?_ ?_
    · exact z_vret C rfl dX5_add_30
    · refine z_aload_n C 0 dX5_add_10 rfl rfl rfl ?_
      refine z_get (v := .ref 24) C 0 zOK5 rfl (by decide) w209 rfl rfl dX5_add_11 rfl ?_
      refine z_aload_n C 0 dX5_add_14 rfl rfl rfl ?_
      refine z_get (v := .int (M.1 23 2)) C 2 zOK5 rfl (by decide) w212 rfl rfl dX5_add_15 rfl ?_
      refine z_iload_n C 1 dX5_add_18 rfl rfl rfl ?_
      refine z_iastore C 200 rfl dX5_add_19 rfl (fun M2 => ?_)
      refine z_aload_n C 0 dX5_add_20 rfl rfl rfl ?_
      refine z_dup C dX5_add_21 rfl rfl ?_
      refine z_get (v := .int (M2.1 23 2)) C 2 zOK5 rfl (by decide) w212 rfl rfl dX5_add_22 rfl ?_
      refine z_iconst C (1 : Int32) dX5_add_25 rfl rfl ?_
      refine z_iadd C dX5_add_26 rfl ?_
      refine z_puti C 2 zOK5 rfl (by decide) w212 rfl rfl rfl rfl rfl dX5_add_27 rfl (fun M3 => ?_)
      exact z_vret C rfl dX5_add_30
  exact key b hF
set_option maxRecDepth 100000 in
set_option maxHeartbeats 4000000 in
theorem mX5_takeSign (Y : zY) (x0 : Int32) (M : zMem) (b : Int32 × zMem) (hF : FX5_takeSign x0 M = some b) : zMt Y yX5_takeSign cX5_takeSign 2 (some .boolean) 0 0 [.ref 23, .int x0] M (zQi Y b.1 b.2) := by
  refine zMt_of (own := RX5) (by decide) rfl (Nat.le_of_ble_eq_true rfl) (fun X C => ?_)
  have key : zR Y X 2 (zFi Y X (fun b => b.1) (fun b => b.2)) (FX5_takeSign x0 M) 0 [(0, .ref 23), (1, .int x0)] [] M := by
    unfold FX5_takeSign
    refine z_aload_n C 0 dX5_takeSign_0 rfl rfl rfl ?_
    refine z_get (v := .int (M.1 23 3)) C 3 zOK5 rfl (by decide) w214 rfl rfl dX5_takeSign_1 rfl ?_
    refine z_aload_n C 0 dX5_takeSign_4 rfl rfl rfl ?_
    refine z_get (v := .int (M.1 23 2)) C 2 zOK5 rfl (by decide) w212 rfl rfl dX5_takeSign_5 rfl ?_
    refine z_icmpge C dX5_takeSign_8 rfl rfl ?_ ?_
    · refine z_iconst C (0 : Int32) dX5_takeSign_24 rfl rfl ?_
      exact z_zretK C rfl rfl rfl dX5_takeSign_25
    · refine z_aload_n C 0 dX5_takeSign_11 rfl rfl rfl ?_
      refine z_get (v := .ref 24) C 0 zOK5 rfl (by decide) w209 rfl rfl dX5_takeSign_12 rfl ?_
      refine z_aload_n C 0 dX5_takeSign_15 rfl rfl rfl ?_
      refine z_get (v := .int (M.1 23 3)) C 3 zOK5 rfl (by decide) w214 rfl rfl dX5_takeSign_16 rfl ?_
      refine z_iaload C 200 rfl dX5_takeSign_19 rfl ?_
      refine z_iload_n C 1 dX5_takeSign_20 rfl rfl rfl ?_
      refine z_icmpeq C dX5_takeSign_21 rfl rfl ?_ ?_
      · refine z_aload_n C 0 dX5_takeSign_26 rfl rfl rfl ?_
        refine z_dup C dX5_takeSign_27 rfl rfl ?_
        refine z_get (v := .int (M.1 23 3)) C 3 zOK5 rfl (by decide) w214 rfl rfl dX5_takeSign_28 rfl ?_
        refine z_iconst C (1 : Int32) dX5_takeSign_31 rfl rfl ?_
        refine z_iadd C dX5_takeSign_32 rfl ?_
        refine z_puti C 3 zOK5 rfl (by decide) w214 rfl rfl rfl rfl rfl dX5_takeSign_33 rfl (fun M2 => ?_)
        refine z_iconst C (1 : Int32) dX5_takeSign_36 rfl rfl ?_
        exact z_zretK C rfl rfl rfl dX5_takeSign_37
      · refine z_iconst C (0 : Int32) dX5_takeSign_24 rfl rfl ?_
        exact z_zretK C rfl rfl rfl dX5_takeSign_25
  exact key b hF
set_option maxRecDepth 100000 in
set_option maxHeartbeats 4000000 in
theorem mX5_takeKind (Y : zY) (M : zMem) (b : Int32 × zMem) (hF : FX5_takeKind M = some b) : zMt Y yX5_takeKind cX5_takeKind 1 (some .int) 1 21 [.ref 23] M (zQi Y b.1 b.2) := by
  refine zMt_of (own := RX5) (by decide) rfl (Nat.le_of_ble_eq_true rfl) (fun X C => ?_)
  have key : zR Y X 1 (zFi Y X (fun b => b.1) (fun b => b.2)) (FX5_takeKind M) 0 [(0, .ref 23)] [] M := by
    unfold FX5_takeKind
    refine z_aload_n C 0 dX5_takeKind_0 rfl rfl rfl ?_
    refine z_bipush C (112 : Int32) dX5_takeKind_1 rfl rfl ?_
    refine z_ci (fun b => b.1) (fun b => b.2) (fun b hb => z_V (na := 1) (ci := 5) (r := (RX5, TX5, 4)) C [.int (112 : Int32)] rfl (mX5_takeSign Y (112 : Int32) M b hb) rfl rfl w616 w618 w26 w84 w619 hdX5_takeSign ⟨Nat.le_of_ble_eq_true rfl, Nat.le_of_ble_eq_true rfl⟩ (Nat.le_of_ble_eq_true rfl) rfl dX5_takeKind_3) rfl (fun b1 => ?_)
    refine z_ifeq C dX5_takeKind_6 rfl rfl ?_ ?_
    · refine z_aload_n C 0 dX5_takeKind_11 rfl rfl rfl ?_
      refine z_bipush C (115 : Int32) dX5_takeKind_12 rfl rfl ?_
      refine z_ci (fun b => b.1) (fun b => b.2) (fun b hb => z_V (na := 1) (ci := 5) (r := (RX5, TX5, 4)) C [.int (115 : Int32)] rfl (mX5_takeSign Y (115 : Int32) b1.2 b hb) rfl rfl w616 w618 w26 w84 w619 hdX5_takeSign ⟨Nat.le_of_ble_eq_true rfl, Nat.le_of_ble_eq_true rfl⟩ (Nat.le_of_ble_eq_true rfl) rfl dX5_takeKind_14) rfl (fun b2 => ?_)
      refine z_ifeq C dX5_takeKind_17 rfl rfl ?_ ?_
      · refine z_aload_n C 0 dX5_takeKind_22 rfl rfl rfl ?_
        refine z_bipush C (99 : Int32) dX5_takeKind_23 rfl rfl ?_
        refine z_ci (fun b => b.1) (fun b => b.2) (fun b hb => z_V (na := 1) (ci := 5) (r := (RX5, TX5, 4)) C [.int (99 : Int32)] rfl (mX5_takeSign Y (99 : Int32) b2.2 b hb) rfl rfl w616 w618 w26 w84 w619 hdX5_takeSign ⟨Nat.le_of_ble_eq_true rfl, Nat.le_of_ble_eq_true rfl⟩ (Nat.le_of_ble_eq_true rfl) rfl dX5_takeKind_25) rfl (fun b3 => ?_)
        refine z_ifeq C dX5_takeKind_28 rfl rfl ?_ ?_
        · refine z_iconst C (-1 : Int32) dX5_takeKind_35 rfl rfl ?_
          exact z_iret C rfl rfl dX5_takeKind_36
        · refine z_iconst C (2 : Int32) dX5_takeKind_31 rfl rfl ?_
          refine z_goto C dX5_takeKind_32 rfl ?_
          exact z_iret C rfl rfl dX5_takeKind_36
      · refine z_iconst C (1 : Int32) dX5_takeKind_20 rfl rfl ?_
        exact z_iret C rfl rfl dX5_takeKind_21
    · refine z_iconst C (0 : Int32) dX5_takeKind_9 rfl rfl ?_
      exact z_iret C rfl rfl dX5_takeKind_10
  exact key b hF
set_option maxRecDepth 100000 in
set_option maxHeartbeats 4000000 in
theorem mX7_within (Y : zY) (x0 : Int32) (x1 : Int32) (x2 : Int32) (M : zMem) (b : Int32) (hF : FX7_within x0 x1 x2 = some b) : zMt Y yX7_within cX7_within 3 (some .boolean) 0 0 [.int x0, .int x1, .int x2] M (zQi Y b M) := by
  refine zMt_of (own := RX7) (by decide) rfl (Nat.le_of_ble_eq_true rfl) (fun X C => ?_)
  have key : zR Y X 3 (zFi Y X (fun b => b) (fun _ => M)) (FX7_within x0 x1 x2) 0 [(0, .int x0), (1, .int x1), (2, .int x2)] [] M := by
    unfold FX7_within
    refine z_iload_n C 0 dX7_within_0 rfl rfl rfl ?_
    refine z_iload_n C 1 dX7_within_1 rfl rfl rfl ?_
    refine z_icmplt C dX7_within_2 rfl rfl ?_ ?_
    · refine z_iconst C (0 : Int32) dX7_within_14 rfl rfl ?_
      exact z_zretK C rfl rfl rfl dX7_within_15
    · refine z_iload_n C 0 dX7_within_5 rfl rfl rfl ?_
      refine z_iload_n C 2 dX7_within_6 rfl rfl rfl ?_
      refine z_icmpgt C dX7_within_7 rfl rfl ?_ ?_
      · refine z_iconst C (0 : Int32) dX7_within_14 rfl rfl ?_
        exact z_zretK C rfl rfl rfl dX7_within_15
      · refine z_iconst C (1 : Int32) dX7_within_10 rfl rfl ?_
        refine z_goto C dX7_within_11 rfl ?_
        exact z_zretK C rfl rfl rfl dX7_within_15
  exact key b hF
set_option maxRecDepth 100000 in
set_option maxHeartbeats 4000000 in
theorem mX5_takeNumber (Y : zY) (q0 : Nat) (x1 : Int32) (M : zMem) (b : Int32 × zMem) (hF : FX5_takeNumber q0 x1 M = some b) : zMt Y yX5_takeNumber cX5_takeNumber 6 (some .boolean) 1 22 [.ref 23, .ref q0, .int x1] M (zQi Y b.1 b.2) := by
  refine zMt_of (own := RX5) (by decide) rfl (Nat.le_of_ble_eq_true rfl) (fun X C => ?_)
  have key : zR Y X 6 (zFi Y X (fun b => b.1) (fun b => b.2)) (FX5_takeNumber q0 x1 M) 0 [(0, .ref 23), (1, .ref q0), (2, .int x1)] [] M := by
    unfold FX5_takeNumber
    refine z_getsLN C (List.mem_of_getElem? (i := 29) rfl) dX5_takeNumber_0 rfl ?_
    refine z_iload_n C 2 dX5_takeNumber_3 rfl rfl rfl ?_
    refine z_ialoadL C dX5_takeNumber_4 rfl ?_
    refine z_join (fun k5 => ∀ (x3 : Int32) (M4 : zMem), zR Y X 6 (zFi Y X (fun b => b.1) (fun b => b.2)) (k5 x3 M4) 22 [(0, .ref 23), (1, .ref q0), (2, .int x1)] [.int x3] M4) (fun x3 M4 => ?_) (fun k5 hk5 => ?_)
    · refine z_istoreP_n (lo' := [(3, .int x3), (0, .ref 23), (1, .ref q0), (2, .int x1)]) C dX5_takeNumber_22 rfl (by decide) rfl rfl ?_
      refine z_iload_n C 0 dX5_takeNumber_23 rfl rfl rfl ?_
      refine z_join (fun k7 => ∀ (M6 : zMem), zR Y X 6 (zFi Y X (fun b => b.1) (fun b => b.2)) (k7 M6) 42 [(0, .ref 23), (1, .ref q0), (2, .int x1), (3, .int x3)] [] M6) (fun M6 => ?_) (fun k7 hk7 => ?_)
      · refine z_aload_n C 0 dX5_takeNumber_42 rfl rfl rfl ?_
        refine z_get (v := .int (M6.1 23 3)) C 3 zOK5 rfl (by decide) w214 rfl rfl dX5_takeNumber_43 rfl ?_
        refine z_aload_n C 0 dX5_takeNumber_46 rfl rfl rfl ?_
        refine z_get (v := .int (M6.1 23 2)) C 2 zOK5 rfl (by decide) w212 rfl rfl dX5_takeNumber_47 rfl ?_
        refine z_icmpge C dX5_takeNumber_50 rfl rfl ?_ ?_
        · refine z_iconst C (0 : Int32) dX5_takeNumber_72 rfl rfl ?_
          exact z_zretK C rfl rfl rfl dX5_takeNumber_73
        · refine z_aload_n C 0 dX5_takeNumber_53 rfl rfl rfl ?_
          refine z_get (v := .ref 24) C 0 zOK5 rfl (by decide) w209 rfl rfl dX5_takeNumber_54 rfl ?_
          refine z_aload_n C 0 dX5_takeNumber_57 rfl rfl rfl ?_
          refine z_get (v := .int (M6.1 23 3)) C 3 zOK5 rfl (by decide) w214 rfl rfl dX5_takeNumber_58 rfl ?_
          refine z_iaload C 200 rfl dX5_takeNumber_61 rfl ?_
          refine z_bipush C (49 : Int32) dX5_takeNumber_62 rfl rfl ?_
          refine z_bipush C (57 : Int32) dX5_takeNumber_64 rfl rfl ?_
          refine z_ci (fun b => b) (fun _ => M6) (fun b hb => z_SN (na := 3) C [.int (zrd M6 24 (M6.1 23 3)), .int (49 : Int32), .int (57 : Int32)] rfl (mX7_within Y (zrd M6 24 (M6.1 23 3)) (49 : Int32) (57 : Int32) M6 b hb) (List.mem_of_getElem? (i := 29) rfl) w360 w79 w361 hdX7_within ⟨Nat.le_of_ble_eq_true rfl, Nat.le_of_ble_eq_true rfl⟩ (Nat.le_of_ble_eq_true rfl) rfl dX5_takeNumber_66) rfl (fun b8 => ?_)
          refine z_ifne C dX5_takeNumber_69 rfl rfl ?_ ?_
          · refine z_iload_n C 3 dX5_takeNumber_74 rfl rfl rfl ?_
            refine z_join (fun k10 => ∀ (x9 : Int32), zR Y X 6 (zFi Y X (fun b => b.1) (fun b => b.2)) (k10 x9) 92 [(0, .ref 23), (1, .ref q0), (2, .int x1), (3, .int x3)] [.int x9] M6) (fun x9 => ?_) (fun k10 hk10 => ?_)
            · refine z_istoreP (lo' := [(4, .int x9), (0, .ref 23), (1, .ref q0), (2, .int x1), (3, .int x3)]) C dX5_takeNumber_92 (by decide) rfl rfl ?_
              refine z_iconst C (0 : Int32) dX5_takeNumber_94 rfl rfl ?_
              refine z_istoreP (lo' := [(5, .int (0 : Int32)), (4, .int x9), (0, .ref 23), (1, .ref q0), (2, .int x1), (3, .int x3)]) C dX5_takeNumber_95 (by decide) rfl rfl ?_
              refine z_loop (sM := fun s => s.2) (sl := fun s => [(0, .ref 23), (1, .ref q0), (2, .int x1), (3, .int x3), (4, .int x9), (5, .int s.1)]) [2, 3, 4, 5, 1, 0] rfl rfl (fun r11 hr11 s12 => ?_)
              unfold FX5_takeNumber_L97
              refine z_aload_n C 0 dX5_takeNumber_97 rfl rfl rfl ?_
              refine z_get (v := .int (s12.2.1 23 3)) C 3 zOK5 rfl (by decide) w214 rfl rfl dX5_takeNumber_98 rfl ?_
              refine z_aload_n C 0 dX5_takeNumber_101 rfl rfl rfl ?_
              refine z_get (v := .int (s12.2.1 23 2)) C 2 zOK5 rfl (by decide) w212 rfl rfl dX5_takeNumber_102 rfl ?_
              refine z_join (fun k14 => ∀ (u13 : Unit), zR Y X 6 (zFi Y X (fun b => b.1) (fun b => b.2)) (k14 u13) 169 [(1, .ref q0), (2, .int x1), (3, .int x3), (5, .int s12.1)] [] s12.2) (fun u13 => ?_) (fun k14 hk14 => ?_)
              · refine z_aload_n C 0 dX5_takeNumber_169 rfl rfl rfl ?_
                refine z_iload_n C 1 dX5_takeNumber_170 rfl rfl rfl ?_
                refine z_iload_n C 2 dX5_takeNumber_171 rfl rfl rfl ?_
                refine z_join (fun k16 => ∀ (x15 : Int32), zR Y X 6 (zFi Y X (fun b => b.1) (fun b => b.2)) (k16 x15) 183 [] [.int x15, .int x1, .ref q0] s12.2) (fun x15 => ?_) (fun k16 hk16 => ?_)
                · refine z_iastore C (zlenI q0) rfl dX5_takeNumber_183 rfl (fun M17 => ?_)
                  refine z_iconst C (1 : Int32) dX5_takeNumber_184 rfl rfl ?_
                  exact z_zretK C rfl rfl rfl dX5_takeNumber_185
                · refine z_ifeq C dX5_takeNumber_172 rfl rfl ?_ ?_
                  · refine z_iload C 3 dX5_takeNumber_181 rfl rfl ?_
                    exact z_perm [] rfl (hk16 s12.1)
                  · refine z_iload C 3 dX5_takeNumber_175 rfl rfl ?_
                    refine z_ineg C dX5_takeNumber_177 rfl ?_
                    refine z_goto C dX5_takeNumber_178 rfl ?_
                    exact z_perm [] rfl (hk16 (-s12.1))
              · refine z_icmpge C dX5_takeNumber_105 rfl rfl ?_ ?_
                · exact z_perm [1, 2, 3, 5] rfl (hk14 ())
                · refine z_aload_n C 0 dX5_takeNumber_108 rfl rfl rfl ?_
                  refine z_get (v := .ref 24) C 0 zOK5 rfl (by decide) w209 rfl rfl dX5_takeNumber_109 rfl ?_
                  refine z_aload_n C 0 dX5_takeNumber_112 rfl rfl rfl ?_
                  refine z_get (v := .int (s12.2.1 23 3)) C 3 zOK5 rfl (by decide) w214 rfl rfl dX5_takeNumber_113 rfl ?_
                  refine z_iaload C 200 rfl dX5_takeNumber_116 rfl ?_
                  refine z_bipush C (48 : Int32) dX5_takeNumber_117 rfl rfl ?_
                  refine z_bipush C (57 : Int32) dX5_takeNumber_119 rfl rfl ?_
                  refine z_ci (fun b => b) (fun _ => s12.2) (fun b hb => z_SN (na := 3) C [.int (zrd s12.2 24 (s12.2.1 23 3)), .int (48 : Int32), .int (57 : Int32)] rfl (mX7_within Y (zrd s12.2 24 (s12.2.1 23 3)) (48 : Int32) (57 : Int32) s12.2 b hb) (List.mem_of_getElem? (i := 29) rfl) w360 w79 w361 hdX7_within ⟨Nat.le_of_ble_eq_true rfl, Nat.le_of_ble_eq_true rfl⟩ (Nat.le_of_ble_eq_true rfl) rfl dX5_takeNumber_121) rfl (fun b18 => ?_)
                  refine z_ifeq C dX5_takeNumber_124 rfl rfl ?_ ?_
                  · exact z_perm [1, 2, 3, 5] rfl (hk14 ())
                  · refine z_bipush C (10 : Int32) dX5_takeNumber_127 rfl rfl ?_
                    refine z_iload C 5 dX5_takeNumber_129 rfl rfl ?_
                    refine z_imul C dX5_takeNumber_131 rfl ?_
                    refine z_aload_n C 0 dX5_takeNumber_132 rfl rfl rfl ?_
                    refine z_get (v := .ref 24) C 0 zOK5 rfl (by decide) w209 rfl rfl dX5_takeNumber_133 rfl ?_
                    refine z_aload_n C 0 dX5_takeNumber_136 rfl rfl rfl ?_
                    refine z_get (v := .int (s12.2.1 23 3)) C 3 zOK5 rfl (by decide) w214 rfl rfl dX5_takeNumber_137 rfl ?_
                    refine z_iaload C 200 rfl dX5_takeNumber_140 rfl ?_
                    refine z_iadd C dX5_takeNumber_141 rfl ?_
                    refine z_bipush C (48 : Int32) dX5_takeNumber_142 rfl rfl ?_
                    refine z_isub C dX5_takeNumber_144 rfl ?_
                    refine z_istore C (fun z => [(5, .int z), (0, .ref 23), (1, .ref q0), (2, .int x1), (3, .int x3), (4, .int x9)]) dX5_takeNumber_145 (by decide) (fun _ => rfl) rfl (fun x19 => ?_)
                    refine z_iload C 0 dX5_takeNumber_147 rfl rfl ?_
                    refine z_iload C 5 dX5_takeNumber_149 rfl rfl ?_
                    refine z_icmple C dX5_takeNumber_151 rfl rfl ?_ ?_
                    · refine z_aload_n C 1 dX5_takeNumber_156 rfl rfl rfl ?_
                      refine z_dup C dX5_takeNumber_157 rfl rfl ?_
                      refine z_get (v := .int (s12.2.1 23 3)) C 3 zOK5 rfl (by decide) w214 rfl rfl dX5_takeNumber_158 rfl ?_
                      refine z_iconst C (1 : Int32) dX5_takeNumber_161 rfl rfl ?_
                      refine z_iadd C dX5_takeNumber_162 rfl ?_
                      refine z_puti C 3 zOK5 rfl (by decide) w214 rfl rfl rfl rfl rfl dX5_takeNumber_163 rfl (fun M20 => ?_)
                      refine z_goto C dX5_takeNumber_166 rfl ?_
                      exact z_perm [1, 2, 3, 4, 5, 0] rfl (hr11 (x19, M20))
                    · refine z_iconst C (0 : Int32) dX5_takeNumber_154 rfl rfl ?_
                      exact z_zretK C rfl rfl rfl dX5_takeNumber_155
            · refine z_ifeq C dX5_takeNumber_75 rfl rfl ?_ ?_
              · refine z_getsMN C (List.mem_of_getElem? (i := 28) rfl) dX5_takeNumber_87 rfl ?_
                refine z_iload_n C 2 dX5_takeNumber_90 rfl rfl rfl ?_
                refine z_ialoadM C dX5_takeNumber_91 rfl ?_
                exact z_perm [0, 1, 2, 3] rfl (hk10 (zMO (zcl x1)))
              · refine z_getsLN C (List.mem_of_getElem? (i := 29) rfl) dX5_takeNumber_78 rfl ?_
                refine z_iload_n C 2 dX5_takeNumber_81 rfl rfl rfl ?_
                refine z_ialoadL C dX5_takeNumber_82 rfl ?_
                refine z_ineg C dX5_takeNumber_83 rfl ?_
                refine z_goto C dX5_takeNumber_84 rfl ?_
                exact z_perm [0, 1, 2, 3] rfl (hk10 (-(zLO (zcl x1))))
          · refine z_iconst C (0 : Int32) dX5_takeNumber_72 rfl rfl ?_
            exact z_zretK C rfl rfl rfl dX5_takeNumber_73
      · refine z_ifne C dX5_takeNumber_24 rfl rfl ?_ ?_
        · exact z_perm [1, 2, 3, 0] rfl (hk7 M4)
        · refine z_aload_n C 1 dX5_takeNumber_27 rfl rfl rfl ?_
          refine z_bipush C (48 : Int32) dX5_takeNumber_28 rfl rfl ?_
          refine z_ci (fun b => b.1) (fun b => b.2) (fun b hb => z_V (na := 1) (ci := 5) (r := (RX5, TX5, 4)) C [.int (48 : Int32)] rfl (mX5_takeSign Y (48 : Int32) M4 b hb) rfl rfl w616 w618 w26 w84 w619 hdX5_takeSign ⟨Nat.le_of_ble_eq_true rfl, Nat.le_of_ble_eq_true rfl⟩ (Nat.le_of_ble_eq_true rfl) rfl dX5_takeNumber_30) rfl (fun b21 => ?_)
          refine z_ifeq C dX5_takeNumber_33 rfl rfl ?_ ?_
          · exact z_perm [1, 2, 3, 0] rfl (hk7 b21.2)
          · refine z_aload_n C 2 dX5_takeNumber_36 rfl rfl rfl ?_
            refine z_iload_n C 3 dX5_takeNumber_37 rfl rfl rfl ?_
            refine z_iconst C (0 : Int32) dX5_takeNumber_38 rfl rfl ?_
            refine z_iastore C (zlenI q0) rfl dX5_takeNumber_39 rfl (fun M22 => ?_)
            refine z_iconst C (1 : Int32) dX5_takeNumber_40 rfl rfl ?_
            exact z_zretK C rfl rfl rfl dX5_takeNumber_41
    · refine z_join (fun k24 => ∀ (M23 : zMem), zR Y X 6 (zFi Y X (fun b => b.1) (fun b => b.2)) (k24 M23) 21 [(0, .ref 23), (1, .ref q0), (2, .int x1)] [] M23) (fun M23 => ?_) (fun k24 hk24 => ?_)
      · refine z_iconst C (0 : Int32) dX5_takeNumber_21 rfl rfl ?_
        exact z_perm [0, 1, 2] rfl (hk5 (0 : Int32) M23)
      · refine z_ifge C dX5_takeNumber_5 rfl rfl ?_ ?_
        · exact z_perm [0, 1, 2] rfl (hk24 M)
        · refine z_aload_n C 0 dX5_takeNumber_8 rfl rfl rfl ?_
          refine z_bipush C (45 : Int32) dX5_takeNumber_9 rfl rfl ?_
          refine z_ci (fun b => b.1) (fun b => b.2) (fun b hb => z_V (na := 1) (ci := 5) (r := (RX5, TX5, 4)) C [.int (45 : Int32)] rfl (mX5_takeSign Y (45 : Int32) M b hb) rfl rfl w616 w618 w26 w84 w619 hdX5_takeSign ⟨Nat.le_of_ble_eq_true rfl, Nat.le_of_ble_eq_true rfl⟩ (Nat.le_of_ble_eq_true rfl) rfl dX5_takeNumber_11) rfl (fun b25 => ?_)
          refine z_ifeq C dX5_takeNumber_14 rfl rfl ?_ ?_
          · exact z_perm [0, 1, 2] rfl (hk24 b25.2)
          · refine z_iconst C (1 : Int32) dX5_takeNumber_17 rfl rfl ?_
            refine z_goto C dX5_takeNumber_18 rfl ?_
            exact z_perm [0, 1, 2] rfl (hk5 (1 : Int32) b25.2)
  exact key b hF
set_option maxRecDepth 100000 in
set_option maxHeartbeats 4000000 in
theorem mX5_takeItem (Y : zY) (q0 : Nat) (M : zMem) (b : Int32 × zMem) (hF : FX5_takeItem q0 M = some b) : zMt Y yX5_takeItem cX5_takeItem 3 (some .boolean) 2 47 [.ref 23, .ref q0] M (zQi Y b.1 b.2) := by
  refine zMt_of (own := RX5) (by decide) rfl (Nat.le_of_ble_eq_true rfl) (fun X C => ?_)
  have key : zR Y X 3 (zFi Y X (fun b => b.1) (fun b => b.2)) (FX5_takeItem q0 M) 0 [(0, .ref 23), (1, .ref q0)] [] M := by
    unfold FX5_takeItem
    refine z_aload_n C 0 dX5_takeItem_0 rfl rfl rfl ?_
    refine z_ci (fun b => b.1) (fun b => b.2) (fun b hb => z_V (na := 0) (ci := 5) (r := (RX5, TX5, 4)) C [] rfl (mX5_takeKind Y M b hb) rfl rfl w612 w614 w25 w84 w615 hdX5_takeKind ⟨Nat.le_of_ble_eq_true rfl, Nat.le_of_ble_eq_true rfl⟩ (Nat.le_of_ble_eq_true rfl) rfl dX5_takeItem_1) rfl (fun b2 => ?_)
    refine z_istoreP_n (lo' := [(2, .int b2.1), (0, .ref 23), (1, .ref q0)]) C dX5_takeItem_4 rfl (by decide) rfl rfl ?_
    refine z_iload_n C 0 dX5_takeItem_5 rfl rfl rfl ?_
    refine z_ifge C dX5_takeItem_6 rfl rfl ?_ ?_
    · refine z_aload_n C 2 dX5_takeItem_11 rfl rfl rfl ?_
      refine z_iconst C (0 : Int32) dX5_takeItem_12 rfl rfl ?_
      refine z_iload_n C 0 dX5_takeItem_13 rfl rfl rfl ?_
      refine z_iastore C (zlenI q0) rfl dX5_takeItem_14 rfl (fun M3 => ?_)
      refine z_aload_n C 2 dX5_takeItem_15 rfl rfl rfl ?_
      refine z_iconst C (4 : Int32) dX5_takeItem_16 rfl rfl ?_
      refine z_iconst C (0 : Int32) dX5_takeItem_17 rfl rfl ?_
      refine z_iastore C (zlenI q0) rfl dX5_takeItem_18 rfl (fun M4 => ?_)
      refine z_aload_n C 2 dX5_takeItem_19 rfl rfl rfl ?_
      refine z_iconst C (5 : Int32) dX5_takeItem_20 rfl rfl ?_
      refine z_getsMN C (List.mem_of_getElem? (i := 28) rfl) dX5_takeItem_21 rfl ?_
      refine z_iconst C (5 : Int32) dX5_takeItem_24 rfl rfl ?_
      refine z_ialoadM C dX5_takeItem_25 rfl ?_
      refine z_iastore C (zlenI q0) rfl dX5_takeItem_26 rfl (fun M5 => ?_)
      refine z_aload_n C 1 dX5_takeItem_27 rfl rfl rfl ?_
      refine z_aload_n C 2 dX5_takeItem_28 rfl rfl rfl ?_
      refine z_iconst C (1 : Int32) dX5_takeItem_29 rfl rfl ?_
      refine z_ci (fun b => b.1) (fun b => b.2) (fun b hb => z_V (na := 2) (ci := 5) (r := (RX5, TX5, 4)) C [.ref q0, .int (1 : Int32)] rfl (mX5_takeNumber Y q0 (1 : Int32) M5 b hb) rfl rfl w621 w623 w27 w84 w624 hdX5_takeNumber ⟨Nat.le_of_ble_eq_true rfl, Nat.le_of_ble_eq_true rfl⟩ (Nat.le_of_ble_eq_true rfl) rfl dX5_takeItem_30) rfl (fun b6 => ?_)
      refine z_ifeq C dX5_takeItem_33 rfl rfl ?_ ?_
      · refine z_iconst C (0 : Int32) dX5_takeItem_130 rfl rfl ?_
        exact z_zretK C rfl rfl rfl dX5_takeItem_131
      · refine z_aload_n C 1 dX5_takeItem_36 rfl rfl rfl ?_
        refine z_bipush C (44 : Int32) dX5_takeItem_37 rfl rfl ?_
        refine z_ci (fun b => b.1) (fun b => b.2) (fun b hb => z_V (na := 1) (ci := 5) (r := (RX5, TX5, 4)) C [.int (44 : Int32)] rfl (mX5_takeSign Y (44 : Int32) b6.2 b hb) rfl rfl w616 w618 w26 w84 w619 hdX5_takeSign ⟨Nat.le_of_ble_eq_true rfl, Nat.le_of_ble_eq_true rfl⟩ (Nat.le_of_ble_eq_true rfl) rfl dX5_takeItem_39) rfl (fun b7 => ?_)
        refine z_ifeq C dX5_takeItem_42 rfl rfl ?_ ?_
        · refine z_iconst C (0 : Int32) dX5_takeItem_130 rfl rfl ?_
          exact z_zretK C rfl rfl rfl dX5_takeItem_131
        · refine z_aload_n C 1 dX5_takeItem_45 rfl rfl rfl ?_
          refine z_aload_n C 2 dX5_takeItem_46 rfl rfl rfl ?_
          refine z_iconst C (2 : Int32) dX5_takeItem_47 rfl rfl ?_
          refine z_ci (fun b => b.1) (fun b => b.2) (fun b hb => z_V (na := 2) (ci := 5) (r := (RX5, TX5, 4)) C [.ref q0, .int (2 : Int32)] rfl (mX5_takeNumber Y q0 (2 : Int32) b7.2 b hb) rfl rfl w621 w623 w27 w84 w624 hdX5_takeNumber ⟨Nat.le_of_ble_eq_true rfl, Nat.le_of_ble_eq_true rfl⟩ (Nat.le_of_ble_eq_true rfl) rfl dX5_takeItem_48) rfl (fun b8 => ?_)
          refine z_ifeq C dX5_takeItem_51 rfl rfl ?_ ?_
          · refine z_iconst C (0 : Int32) dX5_takeItem_130 rfl rfl ?_
            exact z_zretK C rfl rfl rfl dX5_takeItem_131
          · refine z_aload_n C 1 dX5_takeItem_54 rfl rfl rfl ?_
            refine z_bipush C (119 : Int32) dX5_takeItem_55 rfl rfl ?_
            refine z_ci (fun b => b.1) (fun b => b.2) (fun b hb => z_V (na := 1) (ci := 5) (r := (RX5, TX5, 4)) C [.int (119 : Int32)] rfl (mX5_takeSign Y (119 : Int32) b8.2 b hb) rfl rfl w616 w618 w26 w84 w619 hdX5_takeSign ⟨Nat.le_of_ble_eq_true rfl, Nat.le_of_ble_eq_true rfl⟩ (Nat.le_of_ble_eq_true rfl) rfl dX5_takeItem_57) rfl (fun b9 => ?_)
            refine z_ifeq C dX5_takeItem_60 rfl rfl ?_ ?_
            · refine z_iconst C (0 : Int32) dX5_takeItem_130 rfl rfl ?_
              exact z_zretK C rfl rfl rfl dX5_takeItem_131
            · refine z_aload_n C 1 dX5_takeItem_63 rfl rfl rfl ?_
              refine z_aload_n C 2 dX5_takeItem_64 rfl rfl rfl ?_
              refine z_iconst C (3 : Int32) dX5_takeItem_65 rfl rfl ?_
              refine z_ci (fun b => b.1) (fun b => b.2) (fun b hb => z_V (na := 2) (ci := 5) (r := (RX5, TX5, 4)) C [.ref q0, .int (3 : Int32)] rfl (mX5_takeNumber Y q0 (3 : Int32) b9.2 b hb) rfl rfl w621 w623 w27 w84 w624 hdX5_takeNumber ⟨Nat.le_of_ble_eq_true rfl, Nat.le_of_ble_eq_true rfl⟩ (Nat.le_of_ble_eq_true rfl) rfl dX5_takeItem_66) rfl (fun b10 => ?_)
              refine z_ifeq C dX5_takeItem_69 rfl rfl ?_ ?_
              · refine z_iconst C (0 : Int32) dX5_takeItem_130 rfl rfl ?_
                exact z_zretK C rfl rfl rfl dX5_takeItem_131
              · refine z_iload_n C 0 dX5_takeItem_72 rfl rfl rfl ?_
                refine z_join (fun k12 => ∀ (M11 : zMem), zR Y X 3 (zFi Y X (fun b => b.1) (fun b => b.2)) (k12 M11) 94 [(0, .ref 23), (1, .ref q0), (2, .int b2.1)] [] M11) (fun M11 => ?_) (fun k12 hk12 => ?_)
                · refine z_iload_n C 2 dX5_takeItem_94 rfl rfl rfl ?_
                  refine z_iconst C (2 : Int32) dX5_takeItem_95 rfl rfl ?_
                  refine z_join (fun k14 => ∀ (M13 : zMem), zR Y X 3 (zFi Y X (fun b => b.1) (fun b => b.2)) (k14 M13) 117 [(0, .ref 23)] [] M13) (fun M13 => ?_) (fun k14 hk14 => ?_)
                  · refine z_aload_n C 0 dX5_takeItem_117 rfl rfl rfl ?_
                    refine z_bipush C (59 : Int32) dX5_takeItem_118 rfl rfl ?_
                    refine z_ci (fun b => b.1) (fun b => b.2) (fun b hb => z_V (na := 1) (ci := 5) (r := (RX5, TX5, 4)) C [.int (59 : Int32)] rfl (mX5_takeSign Y (59 : Int32) M13 b hb) rfl rfl w616 w618 w26 w84 w619 hdX5_takeSign ⟨Nat.le_of_ble_eq_true rfl, Nat.le_of_ble_eq_true rfl⟩ (Nat.le_of_ble_eq_true rfl) rfl dX5_takeItem_120) rfl (fun b15 => ?_)
                    refine z_ifeq C dX5_takeItem_123 rfl rfl ?_ ?_
                    · refine z_iconst C (0 : Int32) dX5_takeItem_130 rfl rfl ?_
                      exact z_zretK C rfl rfl rfl dX5_takeItem_131
                    · refine z_iconst C (1 : Int32) dX5_takeItem_126 rfl rfl ?_
                      refine z_goto C dX5_takeItem_127 rfl ?_
                      exact z_zretK C rfl rfl rfl dX5_takeItem_131
                  · refine z_icmpne C dX5_takeItem_96 rfl rfl ?_ ?_
                    · exact z_perm [0] rfl (hk14 M11)
                    · refine z_aload_n C 0 dX5_takeItem_99 rfl rfl rfl ?_
                      refine z_bipush C (101 : Int32) dX5_takeItem_100 rfl rfl ?_
                      refine z_ci (fun b => b.1) (fun b => b.2) (fun b hb => z_V (na := 1) (ci := 5) (r := (RX5, TX5, 4)) C [.int (101 : Int32)] rfl (mX5_takeSign Y (101 : Int32) M11 b hb) rfl rfl w616 w618 w26 w84 w619 hdX5_takeSign ⟨Nat.le_of_ble_eq_true rfl, Nat.le_of_ble_eq_true rfl⟩ (Nat.le_of_ble_eq_true rfl) rfl dX5_takeItem_102) rfl (fun b16 => ?_)
                      refine z_ifeq C dX5_takeItem_105 rfl rfl ?_ ?_
                      · refine z_iconst C (0 : Int32) dX5_takeItem_130 rfl rfl ?_
                        exact z_zretK C rfl rfl rfl dX5_takeItem_131
                      · refine z_aload_n C 0 dX5_takeItem_108 rfl rfl rfl ?_
                        refine z_aload_n C 1 dX5_takeItem_109 rfl rfl rfl ?_
                        refine z_iconst C (5 : Int32) dX5_takeItem_110 rfl rfl ?_
                        refine z_ci (fun b => b.1) (fun b => b.2) (fun b hb => z_V (na := 2) (ci := 5) (r := (RX5, TX5, 4)) C [.ref q0, .int (5 : Int32)] rfl (mX5_takeNumber Y q0 (5 : Int32) b16.2 b hb) rfl rfl w621 w623 w27 w84 w624 hdX5_takeNumber ⟨Nat.le_of_ble_eq_true rfl, Nat.le_of_ble_eq_true rfl⟩ (Nat.le_of_ble_eq_true rfl) rfl dX5_takeItem_111) rfl (fun b17 => ?_)
                        refine z_ifeq C dX5_takeItem_114 rfl rfl ?_ ?_
                        · refine z_iconst C (0 : Int32) dX5_takeItem_130 rfl rfl ?_
                          exact z_zretK C rfl rfl rfl dX5_takeItem_131
                        · exact z_perm [0] rfl (hk14 b17.2)
                · refine z_ifeq C dX5_takeItem_73 rfl rfl ?_ ?_
                  · exact z_perm [1, 2, 0] rfl (hk12 b10.2)
                  · refine z_aload_n C 1 dX5_takeItem_76 rfl rfl rfl ?_
                    refine z_bipush C (111 : Int32) dX5_takeItem_77 rfl rfl ?_
                    refine z_ci (fun b => b.1) (fun b => b.2) (fun b hb => z_V (na := 1) (ci := 5) (r := (RX5, TX5, 4)) C [.int (111 : Int32)] rfl (mX5_takeSign Y (111 : Int32) b10.2 b hb) rfl rfl w616 w618 w26 w84 w619 hdX5_takeSign ⟨Nat.le_of_ble_eq_true rfl, Nat.le_of_ble_eq_true rfl⟩ (Nat.le_of_ble_eq_true rfl) rfl dX5_takeItem_79) rfl (fun b18 => ?_)
                    refine z_ifeq C dX5_takeItem_82 rfl rfl ?_ ?_
                    · refine z_iconst C (0 : Int32) dX5_takeItem_130 rfl rfl ?_
                      exact z_zretK C rfl rfl rfl dX5_takeItem_131
                    · refine z_aload_n C 1 dX5_takeItem_85 rfl rfl rfl ?_
                      refine z_aload_n C 2 dX5_takeItem_86 rfl rfl rfl ?_
                      refine z_iconst C (4 : Int32) dX5_takeItem_87 rfl rfl ?_
                      refine z_ci (fun b => b.1) (fun b => b.2) (fun b hb => z_V (na := 2) (ci := 5) (r := (RX5, TX5, 4)) C [.ref q0, .int (4 : Int32)] rfl (mX5_takeNumber Y q0 (4 : Int32) b18.2 b hb) rfl rfl w621 w623 w27 w84 w624 hdX5_takeNumber ⟨Nat.le_of_ble_eq_true rfl, Nat.le_of_ble_eq_true rfl⟩ (Nat.le_of_ble_eq_true rfl) rfl dX5_takeItem_88) rfl (fun b19 => ?_)
                      refine z_ifeq C dX5_takeItem_91 rfl rfl ?_ ?_
                      · refine z_iconst C (0 : Int32) dX5_takeItem_130 rfl rfl ?_
                        exact z_zretK C rfl rfl rfl dX5_takeItem_131
                      · exact z_perm [1, 2, 0] rfl (hk12 b19.2)
    · refine z_iconst C (0 : Int32) dX5_takeItem_9 rfl rfl ?_
      exact z_zretK C rfl rfl rfl dX5_takeItem_10
  exact key b hF
set_option maxRecDepth 100000 in
set_option maxHeartbeats 4000000 in
theorem mX5_tellBodies (Y : zY) (M : zMem) (b : Int32 × zMem) (hF : FX5_tellBodies M = some b) : zMt Y yX5_tellBodies cX5_tellBodies 2 (some .int) 3 69 [.ref 23] M (zQi Y b.1 b.2) := by
  refine zMt_of (own := RX5) (by decide) rfl (Nat.le_of_ble_eq_true rfl) (fun X C => ?_)
  have key : zR Y X 2 (zFi Y X (fun b => b.1) (fun b => b.2)) (FX5_tellBodies M) 0 [(0, .ref 23)] [] M := by
    unfold FX5_tellBodies
    refine z_aload_n C 0 dX5_tellBodies_0 rfl rfl rfl ?_
    refine z_iconst C (0 : Int32) dX5_tellBodies_1 rfl rfl ?_
    refine z_puti C 3 zOK5 rfl (by decide) w214 rfl rfl rfl rfl rfl dX5_tellBodies_2 rfl (fun M1 => ?_)
    refine z_iconst C (0 : Int32) dX5_tellBodies_5 rfl rfl ?_
    refine z_istoreP_n (lo' := [(1, .int (0 : Int32)), (0, .ref 23)]) C dX5_tellBodies_6 rfl (by decide) rfl rfl ?_
    refine z_loop (sM := fun s => s.2) (sl := fun s => [(0, .ref 23), (1, .int s.1)]) [1, 0] rfl rfl (fun r2 hr2 s3 => ?_)
    unfold FX5_tellBodies_L7
    refine z_iload_n C 1 dX5_tellBodies_7 rfl rfl rfl ?_
    refine z_bipush C (8 : Int32) dX5_tellBodies_8 rfl rfl ?_
    refine z_join (fun k5 => ∀ (u4 : Unit), zR Y X 2 (zFi Y X (fun b => b.1) (fun b => b.2)) (k5 u4) 45 [(0, .ref 23), (1, .int s3.1)] [] s3.2) (fun u4 => ?_) (fun k5 hk5 => ?_)
    · refine z_aload_n C 0 dX5_tellBodies_45 rfl rfl rfl ?_
      refine z_get (v := .int (s3.2.1 23 3)) C 3 zOK5 rfl (by decide) w214 rfl rfl dX5_tellBodies_46 rfl ?_
      refine z_aload_n C 0 dX5_tellBodies_49 rfl rfl rfl ?_
      refine z_get (v := .int (s3.2.1 23 2)) C 2 zOK5 rfl (by decide) w212 rfl rfl dX5_tellBodies_50 rfl ?_
      refine z_icmpge C dX5_tellBodies_53 rfl rfl ?_ ?_
      · refine z_iload_n C 1 dX5_tellBodies_60 rfl rfl rfl ?_
        exact z_iret C rfl rfl dX5_tellBodies_61
      · refine z_iconst C (-1 : Int32) dX5_tellBodies_56 rfl rfl ?_
        refine z_goto C dX5_tellBodies_57 rfl ?_
        exact z_iret C rfl rfl dX5_tellBodies_61
    · refine z_icmpge C dX5_tellBodies_10 rfl rfl ?_ ?_
      · exact z_perm [0, 1] rfl (hk5 ())
      · refine z_aload_n C 0 dX5_tellBodies_13 rfl rfl rfl ?_
        refine z_get (v := .int (s3.2.1 23 3)) C 3 zOK5 rfl (by decide) w214 rfl rfl dX5_tellBodies_14 rfl ?_
        refine z_aload_n C 0 dX5_tellBodies_17 rfl rfl rfl ?_
        refine z_get (v := .int (s3.2.1 23 2)) C 2 zOK5 rfl (by decide) w212 rfl rfl dX5_tellBodies_18 rfl ?_
        refine z_icmpge C dX5_tellBodies_21 rfl rfl ?_ ?_
        · exact z_perm [0, 1] rfl (hk5 ())
        · refine z_aload_n C 0 dX5_tellBodies_24 rfl rfl rfl ?_
          refine z_aload_n C 0 dX5_tellBodies_25 rfl rfl rfl ?_
          refine z_get (v := .ref (zcl (s3.2.1 23 1))) C 1 zOK5 rfl (by decide) w210 rfl rfl dX5_tellBodies_26 rfl ?_
          refine z_iload_n C 1 dX5_tellBodies_29 rfl rfl rfl ?_
          refine z_aaload C (zlenR (zcl (s3.2.1 23 1))) rfl dX5_tellBodies_30 rfl ?_
          refine z_ci (fun b => b.1) (fun b => b.2) (fun b hb => z_V (na := 1) (ci := 5) (r := (RX5, TX5, 4)) C [.ref (zrow (zcl (s3.2.1 23 1)) s3.1)] rfl (mX5_takeItem Y (zrow (zcl (s3.2.1 23 1)) s3.1) s3.2 b hb) rfl rfl w608 w610 w24 w84 w611 hdX5_takeItem ⟨Nat.le_of_ble_eq_true rfl, Nat.le_of_ble_eq_true rfl⟩ (Nat.le_of_ble_eq_true rfl) rfl dX5_tellBodies_31) rfl (fun b6 => ?_)
          refine z_ifne C dX5_tellBodies_34 rfl rfl ?_ ?_
          · refine z_iinc (v := (s3.1 + (1 : Int32))) C 1 (fun z => [(1, .int z), (0, .ref 23)]) dX5_tellBodies_39 rfl rfl (by decide) (fun _ => rfl) rfl (fun x7 => ?_)
            refine z_goto C dX5_tellBodies_42 rfl ?_
            exact z_perm [1, 0] rfl (hr2 (x7, b6.2))
          · refine z_iconst C (-1 : Int32) dX5_tellBodies_37 rfl rfl ?_
            exact z_iret C rfl rfl dX5_tellBodies_38
  exact key b hF
set_option maxRecDepth 100000 in
set_option maxHeartbeats 4000000 in
theorem mX6_addPair (Y : zY) (x0 : Int32) (x1 : Int32) (x2 : Int32) (x3 : Int32) (M : zMem) (b : Int32 × zMem) (hF : FX6_addPair x0 x1 x2 x3 M = some b) : zMt Y yX6_addPair cX6_addPair 6 (some .int) 0 0 [.ref 34, .int x0, .int x1, .int x2, .int x3] M (zQi Y b.1 b.2) := by
  refine zMt_of (own := RX6) (by decide) rfl (Nat.le_of_ble_eq_true rfl) (fun X C => ?_)
  have key : zR Y X 6 (zFi Y X (fun b => b.1) (fun b => b.2)) (FX6_addPair x0 x1 x2 x3 M) 0 [(0, .ref 34), (1, .int x0), (2, .int x1), (3, .int x2), (4, .int x3)] [] M := by
    unfold FX6_addPair
    refine z_aload_n C 0 dX6_addPair_0 rfl rfl rfl ?_
    refine z_get (v := .ref 35) C 2 zOK6 rfl (by decide) w234 rfl rfl dX6_addPair_1 rfl ?_
    refine z_aload_n C 0 dX6_addPair_4 rfl rfl rfl ?_
    refine z_get (v := .int (M.1 34 4)) C 4 zOK6 rfl (by decide) w236 rfl rfl dX6_addPair_5 rfl ?_
    refine z_aaload C 10 rfl dX6_addPair_8 rfl ?_
    refine z_astore (lo' := [(5, .ref (zrow 35 (M.1 34 4))), (0, .ref 34), (1, .int x0), (2, .int x1), (3, .int x2), (4, .int x3)]) C dX6_addPair_9 (by decide) rfl rfl ?_
    refine z_aload C 0 dX6_addPair_11 rfl rfl ?_
    refine z_iconst C (0 : Int32) dX6_addPair_13 rfl rfl ?_
    refine z_iload_n C 2 dX6_addPair_14 rfl rfl rfl ?_
    refine z_iastore C (zlenI (zrow 35 (M.1 34 4))) rfl dX6_addPair_15 rfl (fun M5 => ?_)
    refine z_aload C 0 dX6_addPair_16 rfl rfl ?_
    refine z_iconst C (1 : Int32) dX6_addPair_18 rfl rfl ?_
    refine z_iload_n C 3 dX6_addPair_19 rfl rfl rfl ?_
    refine z_iastore C (zlenI (zrow 35 (M.1 34 4))) rfl dX6_addPair_20 rfl (fun M6 => ?_)
    refine z_aload C 0 dX6_addPair_21 rfl rfl ?_
    refine z_iconst C (2 : Int32) dX6_addPair_23 rfl rfl ?_
    refine z_iload_n C 4 dX6_addPair_24 rfl rfl rfl ?_
    refine z_iastore C (zlenI (zrow 35 (M.1 34 4))) rfl dX6_addPair_25 rfl (fun M7 => ?_)
    refine z_aload C 0 dX6_addPair_26 rfl rfl ?_
    refine z_iconst C (3 : Int32) dX6_addPair_28 rfl rfl ?_
    refine z_iload C 5 dX6_addPair_29 rfl rfl ?_
    refine z_iastore C (zlenI (zrow 35 (M.1 34 4))) rfl dX6_addPair_31 rfl (fun M8 => ?_)
    refine z_aload_n C 1 dX6_addPair_32 rfl rfl rfl ?_
    refine z_dup C dX6_addPair_33 rfl rfl ?_
    refine z_get (v := .int (M8.1 34 4)) C 4 zOK6 rfl (by decide) w236 rfl rfl dX6_addPair_34 rfl ?_
    refine z_iconst C (1 : Int32) dX6_addPair_37 rfl rfl ?_
    refine z_iadd C dX6_addPair_38 rfl ?_
    refine z_puti C 4 zOK6 rfl (by decide) w236 rfl rfl rfl rfl rfl dX6_addPair_39 rfl (fun M9 => ?_)
    refine z_aload_n C 1 dX6_addPair_42 rfl rfl rfl ?_
    refine z_iconst C (1 : Int32) dX6_addPair_43 rfl rfl ?_
    refine z_puti C 16 zOK6 rfl (by decide) w253 rfl rfl rfl rfl rfl dX6_addPair_44 rfl (fun M10 => ?_)
    refine z_aload_n C 1 dX6_addPair_47 rfl rfl rfl ?_
    refine z_get (v := .int (M10.1 34 4)) C 4 zOK6 rfl (by decide) w236 rfl rfl dX6_addPair_48 rfl ?_
    exact z_iret C rfl rfl dX6_addPair_51
  exact key b hF
set_option maxRecDepth 100000 in
set_option maxHeartbeats 4000000 in
theorem mX6_addSpot (Y : zY) (x0 : Int32) (x1 : Int32) (M : zMem) (b : Int32 × zMem) (hF : FX6_addSpot x0 x1 M = some b) : zMt Y yX6_addSpot cX6_addSpot 3 (some .int) 0 0 [.ref 34, .int x0, .int x1] M (zQi Y b.1 b.2) := by
  refine zMt_of (own := RX6) (by decide) rfl (Nat.le_of_ble_eq_true rfl) (fun X C => ?_)
  have key : zR Y X 3 (zFi Y X (fun b => b.1) (fun b => b.2)) (FX6_addSpot x0 x1 M) 0 [(0, .ref 34), (1, .int x0), (2, .int x1)] [] M := by
    unfold FX6_addSpot
    refine z_aload_n C 0 dX6_addSpot_0 rfl rfl rfl ?_
    refine z_get (v := .ref 46) C 3 zOK6 rfl (by decide) w235 rfl rfl dX6_addSpot_1 rfl ?_
    refine z_aload_n C 0 dX6_addSpot_4 rfl rfl rfl ?_
    refine z_get (v := .int (M.1 34 5)) C 5 zOK6 rfl (by decide) w238 rfl rfl dX6_addSpot_5 rfl ?_
    refine z_aaload C 8 rfl dX6_addSpot_8 rfl ?_
    refine z_iconst C (0 : Int32) dX6_addSpot_9 rfl rfl ?_
    refine z_iload_n C 1 dX6_addSpot_10 rfl rfl rfl ?_
    refine z_iastore C (zlenI (zrow 46 (M.1 34 5))) rfl dX6_addSpot_11 rfl (fun M3 => ?_)
    refine z_aload_n C 0 dX6_addSpot_12 rfl rfl rfl ?_
    refine z_get (v := .ref 46) C 3 zOK6 rfl (by decide) w235 rfl rfl dX6_addSpot_13 rfl ?_
    refine z_aload_n C 0 dX6_addSpot_16 rfl rfl rfl ?_
    refine z_get (v := .int (M3.1 34 5)) C 5 zOK6 rfl (by decide) w238 rfl rfl dX6_addSpot_17 rfl ?_
    refine z_aaload C 8 rfl dX6_addSpot_20 rfl ?_
    refine z_iconst C (1 : Int32) dX6_addSpot_21 rfl rfl ?_
    refine z_iload_n C 2 dX6_addSpot_22 rfl rfl rfl ?_
    refine z_iastore C (zlenI (zrow 46 (M3.1 34 5))) rfl dX6_addSpot_23 rfl (fun M4 => ?_)
    refine z_aload_n C 0 dX6_addSpot_24 rfl rfl rfl ?_
    refine z_dup C dX6_addSpot_25 rfl rfl ?_
    refine z_get (v := .int (M4.1 34 5)) C 5 zOK6 rfl (by decide) w238 rfl rfl dX6_addSpot_26 rfl ?_
    refine z_iconst C (1 : Int32) dX6_addSpot_29 rfl rfl ?_
    refine z_iadd C dX6_addSpot_30 rfl ?_
    refine z_puti C 5 zOK6 rfl (by decide) w238 rfl rfl rfl rfl rfl dX6_addSpot_31 rfl (fun M5 => ?_)
    refine z_aload_n C 0 dX6_addSpot_34 rfl rfl rfl ?_
    refine z_iconst C (1 : Int32) dX6_addSpot_35 rfl rfl ?_
    refine z_puti C 16 zOK6 rfl (by decide) w253 rfl rfl rfl rfl rfl dX6_addSpot_36 rfl (fun M6 => ?_)
    refine z_aload_n C 0 dX6_addSpot_39 rfl rfl rfl ?_
    refine z_get (v := .int (M6.1 34 5)) C 5 zOK6 rfl (by decide) w238 rfl rfl dX6_addSpot_40 rfl ?_
    exact z_iret C rfl rfl dX6_addSpot_43
  exact key b hF
set_option maxRecDepth 100000 in
set_option maxHeartbeats 4000000 in
theorem mX6_startRow (Y : zY) (x0 : Int32) (M : zMem) (b : zMem) (hF : FX6_startRow x0 M = some b) : zMt Y yX6_startRow cX6_startRow 2 none 1 23 [.ref 34, .int x0] M (zQv Y b) := by
  refine zMt_of (own := RX6) (by decide) rfl (Nat.le_of_ble_eq_true rfl) (fun X C => ?_)
  have key : zR Y X 2 (zFv Y X (fun b => b)) (FX6_startRow x0 M) 0 [(0, .ref 34), (1, .int x0)] [] M := by
    unfold FX6_startRow
    refine z_aload_n C 0 dX6_startRow_0 rfl rfl rfl ?_
    refine z_get (v := .ref 55) C 7 zOK6 rfl (by decide) w242 rfl rfl dX6_startRow_1 rfl ?_
    refine z_iload_n C 1 dX6_startRow_4 rfl rfl rfl ?_
    refine z_iconst C (0 : Int32) dX6_startRow_5 rfl rfl ?_
    refine z_iastore C 36 rfl dX6_startRow_6 rfl (fun M2 => ?_)
    refine z_aload_n C 0 dX6_startRow_7 rfl rfl rfl ?_
    refine z_get (v := .ref 56) C 8 zOK6 rfl (by decide) w243 rfl rfl dX6_startRow_8 rfl ?_
    refine z_iload_n C 1 dX6_startRow_11 rfl rfl rfl ?_
    refine z_aaload C 36 rfl dX6_startRow_12 rfl ?_
    refine z_iconst C (0 : Int32) dX6_startRow_13 rfl rfl ?_
    refine z_cv (fun b => b) (fun b hb => z_S (na := 2) C [.ref (zrow 56 x0), .int (0 : Int32)] rfl (mJ7_fill_53178 Y (zrow 56 x0) (0 : Int32) M2 b hb) w659 w300 w87 w301 hdJ7_fill_53178 ⟨Nat.le_of_ble_eq_true rfl, Nat.le_of_ble_eq_true rfl⟩ (Nat.le_of_ble_eq_true rfl) rfl dX6_startRow_14) rfl (fun b3 => ?_)
    exact z_vret C rfl dX6_startRow_17
  exact key b hF
set_option maxRecDepth 100000 in
set_option maxHeartbeats 4000000 in
theorem mX6_addToRow (Y : zY) (x0 : Int32) (x1 : Int32) (x2 : Int32) (x3 : Int32) (x4 : Int32) (M : zMem) (b : zMem) (hF : FX6_addToRow x0 x1 x2 x3 x4 M = some b) : zMt Y yX6_addToRow cX6_addToRow 9 none 3 77 [.ref 34, .int x0, .int x1, .int x2, .int x3, .int x4] M (zQv Y b) := by
  refine zMt_of (own := RX6) (by decide) rfl (Nat.le_of_ble_eq_true rfl) (fun X C => ?_)
  have key : zR Y X 9 (zFv Y X (fun b => b)) (FX6_addToRow x0 x1 x2 x3 x4 M) 0 [(0, .ref 34), (1, .int x0), (2, .int x1), (3, .int x2), (4, .int x3), (5, .int x4)] [] M := by
    unfold FX6_addToRow
    refine z_aload_n C 0 dX6_addToRow_0 rfl rfl rfl ?_
    refine z_get (v := .ref 55) C 7 zOK6 rfl (by decide) w242 rfl rfl dX6_addToRow_1 rfl ?_
    refine z_iload_n C 1 dX6_addToRow_4 rfl rfl rfl ?_
    refine z_dup2 C dX6_addToRow_5 rfl rfl rfl ?_
    refine z_iaload C 36 rfl dX6_addToRow_6 rfl ?_
    refine z_iload_n C 2 dX6_addToRow_7 rfl rfl rfl ?_
    refine z_aload_n C 0 dX6_addToRow_8 rfl rfl rfl ?_
    refine z_get (v := .ref 1) C 0 zOK6 rfl (by decide) w232 rfl rfl dX6_addToRow_9 rfl ?_
    refine z_aload_n C 0 dX6_addToRow_12 rfl rfl rfl ?_
    refine z_get (v := .int (M.1 34 12)) C 12 zOK6 rfl (by decide) w247 rfl rfl dX6_addToRow_13 rfl ?_
    refine z_iload_n C 3 dX6_addToRow_16 rfl rfl rfl ?_
    refine z_iload C 4 dX6_addToRow_17 rfl rfl ?_
    refine z_iload C 5 dX6_addToRow_19 rfl rfl ?_
    refine z_ci (fun b => b) (fun _ => M) (fun b hb => z_VN (na := 4) (ci := 2) (r := (RX2, TX2, 4)) C [.int (M.1 34 12), .int x2, .int x3, .int x4] rfl (mX2_lightPast Y (M.1 34 12) x2 x3 x4 M b hb) rfl rfl (List.mem_of_getElem? (i := 32) rfl) w420 w4 w80 w421 hdX2_lightPastN ⟨Nat.le_of_ble_eq_true rfl, Nat.le_of_ble_eq_true rfl⟩ (Nat.le_of_ble_eq_true rfl) rfl dX6_addToRow_21) rfl (fun b6 => ?_)
    refine z_imul C dX6_addToRow_24 rfl ?_
    refine z_iadd C dX6_addToRow_25 rfl ?_
    refine z_iastore C 36 rfl dX6_addToRow_26 rfl (fun M7 => ?_)
    refine z_iconst C (0 : Int32) dX6_addToRow_27 rfl rfl ?_
    refine z_istoreP (lo' := [(6, .int (0 : Int32)), (0, .ref 34), (1, .int x0), (2, .int x1), (3, .int x2), (4, .int x3), (5, .int x4)]) C dX6_addToRow_28 (by decide) rfl rfl ?_
    refine z_loop (sM := fun s => s.2) (sl := fun s => [(0, .ref 34), (1, .int x0), (2, .int x1), (3, .int x2), (4, .int x3), (5, .int x4), (6, .int s.1)]) [1, 2, 3, 4, 5, 6, 0] rfl rfl (fun r8 hr8 s9 => ?_)
    unfold FX6_addToRow_L30
    refine z_iload C 6 dX6_addToRow_30 rfl rfl ?_
    refine z_aload_n C 0 dX6_addToRow_32 rfl rfl rfl ?_
    refine z_get (v := .int (s9.2.1 34 12)) C 12 zOK6 rfl (by decide) w247 rfl rfl dX6_addToRow_33 rfl ?_
    refine z_icmpge C dX6_addToRow_36 rfl rfl ?_ ?_
    · exact z_vret C rfl dX6_addToRow_111
    · refine z_aload_n C 0 dX6_addToRow_39 rfl rfl rfl ?_
      refine z_get (v := .ref 1) C 0 zOK6 rfl (by decide) w232 rfl rfl dX6_addToRow_40 rfl ?_
      refine z_getN (v := .ref (zcl (s9.2.1 1 0))) C 0 zOK2 rfl (by decide) (List.mem_of_getElem? (i := 1) rfl) rfl rfl dX6_addToRow_43 rfl ?_
      refine z_iload C 6 dX6_addToRow_46 rfl rfl ?_
      refine z_aaload C (zlenR (zcl (s9.2.1 1 0))) rfl dX6_addToRow_48 rfl ?_
      refine z_astore (lo' := [(7, .ref (zrow (zcl (s9.2.1 1 0)) s9.1)), (0, .ref 34), (1, .int x0), (2, .int x1), (3, .int x2), (4, .int x3), (5, .int x4), (6, .int s9.1)]) C dX6_addToRow_49 (by decide) rfl rfl ?_
      refine z_iconst C (0 : Int32) dX6_addToRow_51 rfl rfl ?_
      refine z_istoreP (lo' := [(8, .int (0 : Int32)), (7, .ref (zrow (zcl (s9.2.1 1 0)) s9.1)), (0, .ref 34), (1, .int x0), (2, .int x1), (3, .int x2), (4, .int x3), (5, .int x4), (6, .int s9.1)]) C dX6_addToRow_52 (by decide) rfl rfl ?_
      refine z_loop (sM := fun s => s.2) (sl := fun s => [(0, .ref 34), (1, .int x0), (2, .int x1), (3, .int x2), (4, .int x3), (5, .int x4), (6, .int s9.1), (7, .ref (zrow (zcl (s9.2.1 1 0)) s9.1)), (8, .int s.1)]) [2, 3, 4, 5, 6, 7, 8, 1, 0] rfl rfl (fun r10 hr10 s11 => ?_)
      unfold FX6_addToRow_L54
      refine z_iload C 8 dX6_addToRow_54 rfl rfl ?_
      refine z_aload_n C 0 dX6_addToRow_56 rfl rfl rfl ?_
      refine z_get (v := .int (s11.2.1 34 13)) C 13 zOK6 rfl (by decide) w248 rfl rfl dX6_addToRow_57 rfl ?_
      refine z_icmpge C dX6_addToRow_60 rfl rfl ?_ ?_
      · refine z_iinc (v := (s9.1 + (1 : Int32))) C 6 (fun z => [(6, .int z), (0, .ref 34), (1, .int x0), (2, .int x1), (3, .int x2), (4, .int x3), (5, .int x4), (7, .ref (zrow (zcl (s9.2.1 1 0)) s9.1)), (8, .int s11.1)]) dX6_addToRow_105 rfl rfl (by decide) (fun _ => rfl) rfl (fun x12 => ?_)
        refine z_goto C dX6_addToRow_108 rfl ?_
        exact z_perm [1, 2, 3, 4, 5, 6, 0] rfl (hr8 (x12, s11.2))
      · refine z_aload_n C 0 dX6_addToRow_63 rfl rfl rfl ?_
        refine z_get (v := .ref 56) C 8 zOK6 rfl (by decide) w243 rfl rfl dX6_addToRow_64 rfl ?_
        refine z_iload_n C 1 dX6_addToRow_67 rfl rfl rfl ?_
        refine z_aaload C 36 rfl dX6_addToRow_68 rfl ?_
        refine z_iload C 6 dX6_addToRow_69 rfl rfl ?_
        refine z_bipush C (16 : Int32) dX6_addToRow_71 rfl rfl ?_
        refine z_imul C dX6_addToRow_73 rfl ?_
        refine z_iload C 8 dX6_addToRow_74 rfl rfl ?_
        refine z_iadd C dX6_addToRow_76 rfl ?_
        refine z_dup2 C dX6_addToRow_77 rfl rfl rfl ?_
        refine z_iaload C (zlenI (zrow 56 x0)) rfl dX6_addToRow_78 rfl ?_
        refine z_iload_n C 2 dX6_addToRow_79 rfl rfl rfl ?_
        refine z_aload C 7 dX6_addToRow_80 rfl rfl ?_
        refine z_iconst C (0 : Int32) dX6_addToRow_82 rfl rfl ?_
        refine z_iaload C (zlenI (zrow (zcl (s9.2.1 1 0)) s9.1)) rfl dX6_addToRow_83 rfl ?_
        refine z_aload C 7 dX6_addToRow_84 rfl rfl ?_
        refine z_iload C 8 dX6_addToRow_86 rfl rfl ?_
        refine z_iload_n C 3 dX6_addToRow_88 rfl rfl rfl ?_
        refine z_iload C 4 dX6_addToRow_89 rfl rfl ?_
        refine z_iload C 5 dX6_addToRow_91 rfl rfl ?_
        refine z_ci (fun b => b) (fun _ => s11.2) (fun b hb => z_SN (na := 6) C [.int (zrd s11.2 (zrow (zcl (s9.2.1 1 0)) s9.1) (0 : Int32)), .ref (zrow (zcl (s9.2.1 1 0)) s9.1), .int s11.1, .int x2, .int x3, .int x4] rfl (mX2_bendBy Y (zrd s11.2 (zrow (zcl (s9.2.1 1 0)) s9.1) (0 : Int32)) (zrow (zcl (s9.2.1 1 0)) s9.1) s11.1 x2 x3 x4 s11.2 b hb) (List.mem_of_getElem? (i := 33) rfl) w402 w80 w403 hdX2_bendBy ⟨Nat.le_of_ble_eq_true rfl, Nat.le_of_ble_eq_true rfl⟩ (Nat.le_of_ble_eq_true rfl) rfl dX6_addToRow_93) rfl (fun b13 => ?_)
        refine z_imul C dX6_addToRow_96 rfl ?_
        refine z_iadd C dX6_addToRow_97 rfl ?_
        refine z_iastore C (zlenI (zrow 56 x0)) rfl dX6_addToRow_98 rfl (fun M14 => ?_)
        refine z_iinc (v := (s11.1 + (1 : Int32))) C 8 (fun z => [(8, .int z), (0, .ref 34), (1, .int x0), (2, .int x1), (3, .int x2), (4, .int x3), (5, .int x4), (6, .int s9.1), (7, .ref (zrow (zcl (s9.2.1 1 0)) s9.1))]) dX6_addToRow_99 rfl rfl (by decide) (fun _ => rfl) rfl (fun x15 => ?_)
        refine z_goto C dX6_addToRow_102 rfl ?_
        exact z_perm [1, 2, 3, 4, 5, 6, 7, 8, 0] rfl (hr10 (x15, M14))
  exact key b hF
set_option maxRecDepth 100000 in
set_option maxHeartbeats 4000000 in
theorem mX6_load (Y : zY) (x0 : Int32) (x1 : Int32) (M : zMem) (b : zMem) (hF : FX6_load x0 x1 M = some b) : zMt Y yX6_load cX6_load 5 none 4 105 [.ref 34, .int x0, .int x1] M (zQv Y b) := by
  refine zMt_of (own := RX6) (by decide) rfl (Nat.le_of_ble_eq_true rfl) (fun X C => ?_)
  have key : zR Y X 5 (zFv Y X (fun b => b)) (FX6_load x0 x1 M) 0 [(0, .ref 34), (1, .int x0), (2, .int x1)] [] M := by
    unfold FX6_load
    refine z_aload_n C 0 dX6_load_0 rfl rfl rfl ?_
    refine z_get (v := .int (M.1 34 16)) C 16 zOK6 rfl (by decide) w253 rfl rfl dX6_load_1 rfl ?_
    refine z_join (fun k4 => ∀ (u3 : Unit), zR Y X 5 (zFv Y X (fun b => b)) (k4 u3) 26 [(0, .ref 34), (1, .int x0), (2, .int x1)] [] M) (fun u3 => ?_) (fun k4 hk4 => ?_)
    · refine z_aload_n C 0 dX6_load_26 rfl rfl rfl ?_
      refine z_iload_n C 1 dX6_load_27 rfl rfl rfl ?_
      refine z_puti C 12 zOK6 rfl (by decide) w247 rfl rfl rfl rfl rfl dX6_load_28 rfl (fun M5 => ?_)
      refine z_aload_n C 0 dX6_load_31 rfl rfl rfl ?_
      refine z_iload_n C 2 dX6_load_32 rfl rfl rfl ?_
      refine z_iconst C (1 : Int32) dX6_load_33 rfl rfl ?_
      refine z_iadd C dX6_load_34 rfl ?_
      refine z_puti C 13 zOK6 rfl (by decide) w248 rfl rfl rfl rfl rfl dX6_load_35 rfl (fun M6 => ?_)
      refine z_aload_n C 0 dX6_load_38 rfl rfl rfl ?_
      refine z_iconst C (1 : Int32) dX6_load_39 rfl rfl ?_
      refine z_puti C 14 zOK6 rfl (by decide) w249 rfl rfl rfl rfl rfl dX6_load_40 rfl (fun M7 => ?_)
      refine z_iconst C (0 : Int32) dX6_load_43 rfl rfl ?_
      refine z_istoreP_n (lo' := [(3, .int (0 : Int32)), (0, .ref 34), (1, .int x0), (2, .int x1)]) C dX6_load_44 rfl (by decide) rfl rfl ?_
      refine z_loop (sM := fun s => s.2) (sl := fun s => [(0, .ref 34), (1, .int x0), (3, .int s.1)]) [1, 2, 0] rfl rfl (fun r8 hr8 s9 => ?_)
      unfold FX6_load_L45
      refine z_iload_n C 2 dX6_load_45 rfl rfl rfl ?_
      refine z_iload_n C 1 dX6_load_46 rfl rfl rfl ?_
      refine z_icmpge C dX6_load_47 rfl rfl ?_ ?_
      · refine z_iconst C (0 : Int32) dX6_load_69 rfl rfl ?_
        refine z_istoreP_n (lo' := [(3, .int (0 : Int32)), (0, .ref 34), (1, .int x0)]) C dX6_load_70 rfl (by decide) rfl rfl ?_
        refine z_loop (sM := fun s => s.2) (sl := fun s => [(0, .ref 34), (3, .int s.1)]) [1, 0] rfl rfl (fun r10 hr10 s11 => ?_)
        unfold FX6_load_L71
        refine z_iload_n C 1 dX6_load_71 rfl rfl rfl ?_
        refine z_iconst C (2 : Int32) dX6_load_72 rfl rfl ?_
        refine z_icmpge C dX6_load_73 rfl rfl ?_ ?_
        · refine z_aload_n C 0 dX6_load_234 rfl rfl rfl ?_
          refine z_iconst C (0 : Int32) dX6_load_235 rfl rfl ?_
          refine z_puti C 16 zOK6 rfl (by decide) w253 rfl rfl rfl rfl rfl dX6_load_236 rfl (fun M12 => ?_)
          refine z_aload_n C 0 dX6_load_239 rfl rfl rfl ?_
          refine z_iconst C (0 : Int32) dX6_load_240 rfl rfl ?_
          refine z_puti C 17 zOK6 rfl (by decide) w255 rfl rfl rfl rfl rfl dX6_load_241 rfl (fun M13 => ?_)
          exact z_vret C rfl dX6_load_244
        · refine z_iconst C (0 : Int32) dX6_load_76 rfl rfl ?_
          refine z_istoreP (lo' := [(4, .int (0 : Int32)), (0, .ref 34), (3, .int s11.1)]) C dX6_load_77 (by decide) rfl rfl ?_
          refine z_loop (sM := fun s => s.2) (sl := fun s => [(0, .ref 34), (3, .int s11.1), (4, .int s.1)]) [1, 2, 0] rfl rfl (fun r14 hr14 s15 => ?_)
          unfold FX6_load_L79
          refine z_iload C 2 dX6_load_79 rfl rfl ?_
          refine z_aload_n C 0 dX6_load_81 rfl rfl rfl ?_
          refine z_get (v := .int (s15.2.1 34 4)) C 4 zOK6 rfl (by decide) w236 rfl rfl dX6_load_82 rfl ?_
          refine z_icmpge C dX6_load_85 rfl rfl ?_ ?_
          · refine z_iconst C (0 : Int32) dX6_load_164 rfl rfl ?_
            refine z_istoreP (lo' := [(4, .int (0 : Int32)), (0, .ref 34), (3, .int s11.1)]) C dX6_load_165 (by decide) rfl rfl ?_
            refine z_loop (sM := fun s => s.2) (sl := fun s => [(0, .ref 34), (3, .int s11.1), (4, .int s.1)]) [1, 2, 0] rfl rfl (fun r16 hr16 s17 => ?_)
            unfold FX6_load_L167
            refine z_iload C 2 dX6_load_167 rfl rfl ?_
            refine z_aload_n C 0 dX6_load_169 rfl rfl rfl ?_
            refine z_get (v := .int (s17.2.1 34 5)) C 5 zOK6 rfl (by decide) w238 rfl rfl dX6_load_170 rfl ?_
            refine z_icmpge C dX6_load_173 rfl rfl ?_ ?_
            · refine z_iinc (v := (s11.1 + (1 : Int32))) C 1 (fun z => [(3, .int z), (0, .ref 34), (4, .int s17.1)]) dX6_load_228 rfl rfl (by decide) (fun _ => rfl) rfl (fun x18 => ?_)
              refine z_goto C dX6_load_231 rfl ?_
              exact z_perm [1, 0] rfl (hr10 (x18, s17.2))
            · refine z_aload_n C 0 dX6_load_176 rfl rfl rfl ?_
              refine z_bipush C (20 : Int32) dX6_load_177 rfl rfl ?_
              refine z_iconst C (2 : Int32) dX6_load_179 rfl rfl ?_
              refine z_iload C 2 dX6_load_180 rfl rfl ?_
              refine z_imul C dX6_load_182 rfl ?_
              refine z_iadd C dX6_load_183 rfl ?_
              refine z_iload_n C 1 dX6_load_184 rfl rfl rfl ?_
              refine z_iadd C dX6_load_185 rfl ?_
              refine z_cv (fun b => b) (fun b hb => z_V (na := 1) (ci := 6) (r := (RX6, TX6, 18)) C [.int (((20 : Int32) + ((2 : Int32) * s17.1)) + s11.1)] rfl (mX6_startRow Y (((20 : Int32) + ((2 : Int32) * s17.1)) + s11.1) s17.2 b hb) rfl rfl w655 w657 w31 w85 w658 hdX6_startRow ⟨Nat.le_of_ble_eq_true rfl, Nat.le_of_ble_eq_true rfl⟩ (Nat.le_of_ble_eq_true rfl) rfl dX6_load_186) rfl (fun b19 => ?_)
              refine z_aload_n C 0 dX6_load_189 rfl rfl rfl ?_
              refine z_bipush C (20 : Int32) dX6_load_190 rfl rfl ?_
              refine z_iconst C (2 : Int32) dX6_load_192 rfl rfl ?_
              refine z_iload C 2 dX6_load_193 rfl rfl ?_
              refine z_imul C dX6_load_195 rfl ?_
              refine z_iadd C dX6_load_196 rfl ?_
              refine z_iload_n C 1 dX6_load_197 rfl rfl rfl ?_
              refine z_iadd C dX6_load_198 rfl ?_
              refine z_iconst C (1 : Int32) dX6_load_199 rfl rfl ?_
              refine z_aload_n C 0 dX6_load_200 rfl rfl rfl ?_
              refine z_get (v := .ref 46) C 3 zOK6 rfl (by decide) w235 rfl rfl dX6_load_201 rfl ?_
              refine z_iload C 2 dX6_load_204 rfl rfl ?_
              refine z_aaload C 8 rfl dX6_load_206 rfl ?_
              refine z_iconst C (0 : Int32) dX6_load_207 rfl rfl ?_
              refine z_iaload C (zlenI (zrow 46 s17.1)) rfl dX6_load_208 rfl ?_
              refine z_aload_n C 0 dX6_load_209 rfl rfl rfl ?_
              refine z_get (v := .ref 46) C 3 zOK6 rfl (by decide) w235 rfl rfl dX6_load_210 rfl ?_
              refine z_iload C 2 dX6_load_213 rfl rfl ?_
              refine z_aaload C 8 rfl dX6_load_215 rfl ?_
              refine z_iconst C (1 : Int32) dX6_load_216 rfl rfl ?_
              refine z_iaload C (zlenI (zrow 46 s17.1)) rfl dX6_load_217 rfl ?_
              refine z_iload_n C 1 dX6_load_218 rfl rfl rfl ?_
              refine z_cv (fun b => b) (fun b hb => z_V (na := 5) (ci := 6) (r := (RX6, TX6, 18)) C [.int (((20 : Int32) + ((2 : Int32) * s17.1)) + s11.1), .int (1 : Int32), .int (zrd b19 (zrow 46 s17.1) (0 : Int32)), .int (zrd b19 (zrow 46 s17.1) (1 : Int32)), .int s11.1] rfl (mX6_addToRow Y (((20 : Int32) + ((2 : Int32) * s17.1)) + s11.1) (1 : Int32) (zrd b19 (zrow 46 s17.1) (0 : Int32)) (zrd b19 (zrow 46 s17.1) (1 : Int32)) s11.1 b19 b hb) rfl rfl w660 w662 w32 w85 w663 hdX6_addToRow ⟨Nat.le_of_ble_eq_true rfl, Nat.le_of_ble_eq_true rfl⟩ (Nat.le_of_ble_eq_true rfl) rfl dX6_load_219) rfl (fun b20 => ?_)
              refine z_iinc (v := (s17.1 + (1 : Int32))) C 2 (fun z => [(4, .int z), (0, .ref 34), (3, .int s11.1)]) dX6_load_222 rfl rfl (by decide) (fun _ => rfl) rfl (fun x21 => ?_)
              refine z_goto C dX6_load_225 rfl ?_
              exact z_perm [1, 2, 0] rfl (hr16 (x21, b20))
          · refine z_aload_n C 0 dX6_load_88 rfl rfl rfl ?_
            refine z_iconst C (2 : Int32) dX6_load_89 rfl rfl ?_
            refine z_iload C 2 dX6_load_90 rfl rfl ?_
            refine z_imul C dX6_load_92 rfl ?_
            refine z_iload_n C 1 dX6_load_93 rfl rfl rfl ?_
            refine z_iadd C dX6_load_94 rfl ?_
            refine z_cv (fun b => b) (fun b hb => z_V (na := 1) (ci := 6) (r := (RX6, TX6, 18)) C [.int (((2 : Int32) * s15.1) + s11.1)] rfl (mX6_startRow Y (((2 : Int32) * s15.1) + s11.1) s15.2 b hb) rfl rfl w655 w657 w31 w85 w658 hdX6_startRow ⟨Nat.le_of_ble_eq_true rfl, Nat.le_of_ble_eq_true rfl⟩ (Nat.le_of_ble_eq_true rfl) rfl dX6_load_95) rfl (fun b22 => ?_)
            refine z_aload_n C 0 dX6_load_98 rfl rfl rfl ?_
            refine z_iconst C (2 : Int32) dX6_load_99 rfl rfl ?_
            refine z_iload C 2 dX6_load_100 rfl rfl ?_
            refine z_imul C dX6_load_102 rfl ?_
            refine z_iload_n C 1 dX6_load_103 rfl rfl rfl ?_
            refine z_iadd C dX6_load_104 rfl ?_
            refine z_iconst C (1 : Int32) dX6_load_105 rfl rfl ?_
            refine z_aload_n C 0 dX6_load_106 rfl rfl rfl ?_
            refine z_get (v := .ref 35) C 2 zOK6 rfl (by decide) w234 rfl rfl dX6_load_107 rfl ?_
            refine z_iload C 2 dX6_load_110 rfl rfl ?_
            refine z_aaload C 10 rfl dX6_load_112 rfl ?_
            refine z_iconst C (0 : Int32) dX6_load_113 rfl rfl ?_
            refine z_iaload C (zlenI (zrow 35 s15.1)) rfl dX6_load_114 rfl ?_
            refine z_aload_n C 0 dX6_load_115 rfl rfl rfl ?_
            refine z_get (v := .ref 35) C 2 zOK6 rfl (by decide) w234 rfl rfl dX6_load_116 rfl ?_
            refine z_iload C 2 dX6_load_119 rfl rfl ?_
            refine z_aaload C 10 rfl dX6_load_121 rfl ?_
            refine z_iconst C (1 : Int32) dX6_load_122 rfl rfl ?_
            refine z_iaload C (zlenI (zrow 35 s15.1)) rfl dX6_load_123 rfl ?_
            refine z_iload_n C 1 dX6_load_124 rfl rfl rfl ?_
            refine z_cv (fun b => b) (fun b hb => z_V (na := 5) (ci := 6) (r := (RX6, TX6, 18)) C [.int (((2 : Int32) * s15.1) + s11.1), .int (1 : Int32), .int (zrd b22 (zrow 35 s15.1) (0 : Int32)), .int (zrd b22 (zrow 35 s15.1) (1 : Int32)), .int s11.1] rfl (mX6_addToRow Y (((2 : Int32) * s15.1) + s11.1) (1 : Int32) (zrd b22 (zrow 35 s15.1) (0 : Int32)) (zrd b22 (zrow 35 s15.1) (1 : Int32)) s11.1 b22 b hb) rfl rfl w660 w662 w32 w85 w663 hdX6_addToRow ⟨Nat.le_of_ble_eq_true rfl, Nat.le_of_ble_eq_true rfl⟩ (Nat.le_of_ble_eq_true rfl) rfl dX6_load_125) rfl (fun b23 => ?_)
            refine z_aload_n C 0 dX6_load_128 rfl rfl rfl ?_
            refine z_iconst C (2 : Int32) dX6_load_129 rfl rfl ?_
            refine z_iload C 2 dX6_load_130 rfl rfl ?_
            refine z_imul C dX6_load_132 rfl ?_
            refine z_iload_n C 1 dX6_load_133 rfl rfl rfl ?_
            refine z_iadd C dX6_load_134 rfl ?_
            refine z_iconst C (-1 : Int32) dX6_load_135 rfl rfl ?_
            refine z_aload_n C 0 dX6_load_136 rfl rfl rfl ?_
            refine z_get (v := .ref 35) C 2 zOK6 rfl (by decide) w234 rfl rfl dX6_load_137 rfl ?_
            refine z_iload C 2 dX6_load_140 rfl rfl ?_
            refine z_aaload C 10 rfl dX6_load_142 rfl ?_
            refine z_iconst C (2 : Int32) dX6_load_143 rfl rfl ?_
            refine z_iaload C (zlenI (zrow 35 s15.1)) rfl dX6_load_144 rfl ?_
            refine z_aload_n C 0 dX6_load_145 rfl rfl rfl ?_
            refine z_get (v := .ref 35) C 2 zOK6 rfl (by decide) w234 rfl rfl dX6_load_146 rfl ?_
            refine z_iload C 2 dX6_load_149 rfl rfl ?_
            refine z_aaload C 10 rfl dX6_load_151 rfl ?_
            refine z_iconst C (3 : Int32) dX6_load_152 rfl rfl ?_
            refine z_iaload C (zlenI (zrow 35 s15.1)) rfl dX6_load_153 rfl ?_
            refine z_iload_n C 1 dX6_load_154 rfl rfl rfl ?_
            refine z_cv (fun b => b) (fun b hb => z_V (na := 5) (ci := 6) (r := (RX6, TX6, 18)) C [.int (((2 : Int32) * s15.1) + s11.1), .int (-1 : Int32), .int (zrd b23 (zrow 35 s15.1) (2 : Int32)), .int (zrd b23 (zrow 35 s15.1) (3 : Int32)), .int s11.1] rfl (mX6_addToRow Y (((2 : Int32) * s15.1) + s11.1) (-1 : Int32) (zrd b23 (zrow 35 s15.1) (2 : Int32)) (zrd b23 (zrow 35 s15.1) (3 : Int32)) s11.1 b23 b hb) rfl rfl w660 w662 w32 w85 w663 hdX6_addToRow ⟨Nat.le_of_ble_eq_true rfl, Nat.le_of_ble_eq_true rfl⟩ (Nat.le_of_ble_eq_true rfl) rfl dX6_load_155) rfl (fun b24 => ?_)
            refine z_iinc (v := (s15.1 + (1 : Int32))) C 2 (fun z => [(4, .int z), (0, .ref 34), (3, .int s11.1)]) dX6_load_158 rfl rfl (by decide) (fun _ => rfl) rfl (fun x25 => ?_)
            refine z_goto C dX6_load_161 rfl ?_
            exact z_perm [1, 2, 0] rfl (hr14 (x25, b24))
      · refine z_aload_n C 0 dX6_load_50 rfl rfl rfl ?_
        refine z_dup C dX6_load_51 rfl rfl ?_
        refine z_get (v := .int (s9.2.1 34 14)) C 14 zOK6 rfl (by decide) w249 rfl rfl dX6_load_52 rfl ?_
        refine z_aload_n C 0 dX6_load_55 rfl rfl rfl ?_
        refine z_get (v := .int (s9.2.1 34 13)) C 13 zOK6 rfl (by decide) w248 rfl rfl dX6_load_56 rfl ?_
        refine z_imul C dX6_load_59 rfl ?_
        refine z_puti C 14 zOK6 rfl (by decide) w249 rfl rfl rfl rfl rfl dX6_load_60 rfl (fun M26 => ?_)
        refine z_iinc (v := (s9.1 + (1 : Int32))) C 2 (fun z => [(3, .int z), (0, .ref 34), (1, .int x0)]) dX6_load_63 rfl rfl (by decide) (fun _ => rfl) rfl (fun x27 => ?_)
        refine z_goto C dX6_load_66 rfl ?_
        exact z_perm [1, 2, 0] rfl (hr8 (x27, M26))
    · refine z_ifne C dX6_load_4 rfl rfl ?_ ?_
      · exact z_perm [0, 1, 2] rfl (hk4 ())
      · refine z_aload_n C 0 dX6_load_7 rfl rfl rfl ?_
        refine z_get (v := .int (M.1 34 12)) C 12 zOK6 rfl (by decide) w247 rfl rfl dX6_load_8 rfl ?_
        refine z_iload_n C 1 dX6_load_11 rfl rfl rfl ?_
        refine z_icmpne C dX6_load_12 rfl rfl ?_ ?_
        · exact z_perm [0, 1, 2] rfl (hk4 ())
        · refine z_aload_n C 0 dX6_load_15 rfl rfl rfl ?_
          refine z_get (v := .int (M.1 34 13)) C 13 zOK6 rfl (by decide) w248 rfl rfl dX6_load_16 rfl ?_
          refine z_iload_n C 2 dX6_load_19 rfl rfl rfl ?_
          refine z_iconst C (1 : Int32) dX6_load_20 rfl rfl ?_
          refine z_iadd C dX6_load_21 rfl ?_
          refine z_icmpne C dX6_load_22 rfl rfl ?_ ?_
          · exact z_perm [0, 1, 2] rfl (hk4 ())
          · exact z_vret C rfl dX6_load_25
  exact key b hF
set_option maxRecDepth 100000 in
set_option maxHeartbeats 4000000 in
theorem mX6_aim (Y : zY) (x0 : Int32) (M : zMem) (b : zMem) (hF : FX6_aim x0 M = some b) : zMt Y yX6_aim cX6_aim 4 none 0 0 [.ref 34, .int x0] M (zQv Y b) := by
  refine zMt_of (own := RX6) (by decide) rfl (Nat.le_of_ble_eq_true rfl) (fun X C => ?_)
  have key : zR Y X 4 (zFv Y X (fun b => b)) (FX6_aim x0 M) 0 [(0, .ref 34), (1, .int x0)] [] M := by
    unfold FX6_aim
    refine z_iload_n C 1 dX6_aim_0 rfl rfl rfl ?_
    refine z_istoreP_n (lo' := [(2, .int x0), (0, .ref 34), (1, .int x0)]) C dX6_aim_1 rfl (by decide) rfl rfl ?_
    refine z_iconst C (0 : Int32) dX6_aim_2 rfl rfl ?_
    refine z_istoreP_n (lo' := [(3, .int (0 : Int32)), (2, .int x0), (0, .ref 34), (1, .int x0)]) C dX6_aim_3 rfl (by decide) rfl rfl ?_
    refine z_loop (sM := fun s => s.2.2) (sl := fun s => [(0, .ref 34), (2, .int s.1), (3, .int s.2.1)]) [2, 1, 0] rfl rfl (fun r2 hr2 s3 => ?_)
    unfold FX6_aim_L4
    refine z_iload_n C 2 dX6_aim_4 rfl rfl rfl ?_
    refine z_aload_n C 0 dX6_aim_5 rfl rfl rfl ?_
    refine z_get (v := .int (s3.2.2.1 34 12)) C 12 zOK6 rfl (by decide) w247 rfl rfl dX6_aim_6 rfl ?_
    refine z_icmpge C dX6_aim_9 rfl rfl ?_ ?_
    · exact z_vret C rfl dX6_aim_42
    · refine z_aload_n C 0 dX6_aim_12 rfl rfl rfl ?_
      refine z_get (v := .ref 93) C 9 zOK6 rfl (by decide) w244 rfl rfl dX6_aim_13 rfl ?_
      refine z_iload_n C 2 dX6_aim_16 rfl rfl rfl ?_
      refine z_iload_n C 2 dX6_aim_17 rfl rfl rfl ?_
      refine z_bipush C (16 : Int32) dX6_aim_18 rfl rfl ?_
      refine z_imul C dX6_aim_20 rfl ?_
      refine z_iload_n C 1 dX6_aim_21 rfl rfl rfl ?_
      refine z_aload_n C 0 dX6_aim_22 rfl rfl rfl ?_
      refine z_get (v := .int (s3.2.2.1 34 13)) C 13 zOK6 rfl (by decide) w248 rfl rfl dX6_aim_23 rfl ?_
      refine z_irem C dX6_aim_26 rfl ?_
      refine z_iadd C dX6_aim_27 rfl ?_
      refine z_iastore C 3 rfl dX6_aim_28 rfl (fun M4 => ?_)
      refine z_iload_n C 1 dX6_aim_29 rfl rfl rfl ?_
      refine z_aload_n C 0 dX6_aim_30 rfl rfl rfl ?_
      refine z_get (v := .int (M4.1 34 13)) C 13 zOK6 rfl (by decide) w248 rfl rfl dX6_aim_31 rfl ?_
      refine z_idiv C dX6_aim_34 rfl ?_
      refine z_istore_n C (fun z => [(2, .int z), (0, .ref 34), (3, .int s3.2.1)]) dX6_aim_35 rfl (by decide) (fun _ => rfl) rfl (fun x5 => ?_)
      refine z_iinc (v := (s3.2.1 + (1 : Int32))) C 2 (fun z => [(3, .int z), (2, .int x5), (0, .ref 34)]) dX6_aim_36 rfl rfl (by decide) (fun _ => rfl) rfl (fun x6 => ?_)
      refine z_goto C dX6_aim_39 rfl ?_
      exact z_perm [2, 1, 0] rfl (hr2 (x5, x6, M4))
  exact key b hF
set_option maxRecDepth 100000 in
set_option maxHeartbeats 4000000 in
theorem mX6_shownBy (Y : zY) (x0 : Int32) (M : zMem) (b : Int32) (hF : FX6_shownBy x0 M = some b) : zMt Y yX6_shownBy cX6_shownBy 4 (some .int) 0 0 [.ref 34, .int x0] M (zQi Y b M) := by
  refine zMt_of (own := RX6) (by decide) rfl (Nat.le_of_ble_eq_true rfl) (fun X C => ?_)
  have key : zR Y X 4 (zFi Y X (fun b => b) (fun _ => M)) (FX6_shownBy x0 M) 0 [(0, .ref 34), (1, .int x0)] [] M := by
    unfold FX6_shownBy
    refine z_aload_n C 0 dX6_shownBy_0 rfl rfl rfl ?_
    refine z_get (v := .ref 55) C 7 zOK6 rfl (by decide) w242 rfl rfl dX6_shownBy_1 rfl ?_
    refine z_iload_n C 1 dX6_shownBy_4 rfl rfl rfl ?_
    refine z_iaload C 36 rfl dX6_shownBy_5 rfl ?_
    refine z_istore_n C (fun z => [(2, .int z), (0, .ref 34), (1, .int x0)]) dX6_shownBy_6 rfl (by decide) (fun _ => rfl) rfl (fun x2 => ?_)
    refine z_iconst C (0 : Int32) dX6_shownBy_7 rfl rfl ?_
    refine z_istoreP_n (lo' := [(3, .int (0 : Int32)), (2, .int x2), (0, .ref 34), (1, .int x0)]) C dX6_shownBy_8 rfl (by decide) rfl rfl ?_
    refine z_loop (sM := fun s => M) (sl := fun s => [(0, .ref 34), (1, .int x0), (2, .int s.1), (3, .int s.2)]) [2, 3, 1, 0] rfl rfl (fun r3 hr3 s4 => ?_)
    unfold FX6_shownBy_L9
    refine z_iload_n C 3 dX6_shownBy_9 rfl rfl rfl ?_
    refine z_aload_n C 0 dX6_shownBy_10 rfl rfl rfl ?_
    refine z_get (v := .int (M.1 34 12)) C 12 zOK6 rfl (by decide) w247 rfl rfl dX6_shownBy_11 rfl ?_
    refine z_icmpge C dX6_shownBy_14 rfl rfl ?_ ?_
    · refine z_iload_n C 2 dX6_shownBy_39 rfl rfl rfl ?_
      exact z_iret C rfl rfl dX6_shownBy_40
    · refine z_iload_n C 2 dX6_shownBy_17 rfl rfl rfl ?_
      refine z_aload_n C 0 dX6_shownBy_18 rfl rfl rfl ?_
      refine z_get (v := .ref 56) C 8 zOK6 rfl (by decide) w243 rfl rfl dX6_shownBy_19 rfl ?_
      refine z_iload_n C 1 dX6_shownBy_22 rfl rfl rfl ?_
      refine z_aaload C 36 rfl dX6_shownBy_23 rfl ?_
      refine z_aload_n C 0 dX6_shownBy_24 rfl rfl rfl ?_
      refine z_get (v := .ref 93) C 9 zOK6 rfl (by decide) w244 rfl rfl dX6_shownBy_25 rfl ?_
      refine z_iload_n C 3 dX6_shownBy_28 rfl rfl rfl ?_
      refine z_iaload C 3 rfl dX6_shownBy_29 rfl ?_
      refine z_iaload C (zlenI (zrow 56 x0)) rfl dX6_shownBy_30 rfl ?_
      refine z_isub C dX6_shownBy_31 rfl ?_
      refine z_istore_n C (fun z => [(2, .int z), (0, .ref 34), (1, .int x0), (3, .int s4.2)]) dX6_shownBy_32 rfl (by decide) (fun _ => rfl) rfl (fun x5 => ?_)
      refine z_iinc (v := (s4.2 + (1 : Int32))) C 3 (fun z => [(3, .int z), (2, .int x5), (0, .ref 34), (1, .int x0)]) dX6_shownBy_33 rfl rfl (by decide) (fun _ => rfl) rfl (fun x6 => ?_)
      refine z_goto C dX6_shownBy_36 rfl ?_
      exact z_perm [2, 3, 1, 0] rfl (hr3 (x5, x6))
  exact key b hF
set_option maxRecDepth 100000 in
set_option maxHeartbeats 4000000 in
theorem mX6_holds (Y : zY) (x0 : Int32) (M : zMem) (b : Int32 × zMem) (hF : FX6_holds x0 M = some b) : zMt Y yX6_holds cX6_holds 3 (some .boolean) 1 23 [.ref 34, .int x0] M (zQi Y b.1 b.2) := by
  refine zMt_of (own := RX6) (by decide) rfl (Nat.le_of_ble_eq_true rfl) (fun X C => ?_)
  have key : zR Y X 3 (zFi Y X (fun b => b.1) (fun b => b.2)) (FX6_holds x0 M) 0 [(0, .ref 34), (1, .int x0)] [] M := by
    unfold FX6_holds
    refine z_aload_n C 0 dX6_holds_0 rfl rfl rfl ?_
    refine z_iload_n C 1 dX6_holds_1 rfl rfl rfl ?_
    refine z_cv (fun b => b) (fun b hb => z_V (na := 1) (ci := 6) (r := (RX6, TX6, 18)) C [.int x0] rfl (mX6_aim Y x0 M b hb) rfl rfl w670 w672 w34 w85 w673 hdX6_aim ⟨Nat.le_of_ble_eq_true rfl, Nat.le_of_ble_eq_true rfl⟩ (Nat.le_of_ble_eq_true rfl) rfl dX6_holds_2) rfl (fun b2 => ?_)
    refine z_iconst C (0 : Int32) dX6_holds_5 rfl rfl ?_
    refine z_istoreP_n (lo' := [(2, .int (0 : Int32)), (0, .ref 34), (1, .int x0)]) C dX6_holds_6 rfl (by decide) rfl rfl ?_
    refine z_loop (sM := fun s => b2) (sl := fun s => [(0, .ref 34), (2, .int s)]) [1, 0] rfl rfl (fun r3 hr3 s4 => ?_)
    unfold FX6_holds_L7
    refine z_iload_n C 1 dX6_holds_7 rfl rfl rfl ?_
    refine z_iconst C (2 : Int32) dX6_holds_8 rfl rfl ?_
    refine z_aload_n C 0 dX6_holds_9 rfl rfl rfl ?_
    refine z_get (v := .int (b2.1 34 4)) C 4 zOK6 rfl (by decide) w236 rfl rfl dX6_holds_10 rfl ?_
    refine z_imul C dX6_holds_13 rfl ?_
    refine z_icmpge C dX6_holds_14 rfl rfl ?_ ?_
    · refine z_iconst C (1 : Int32) dX6_holds_40 rfl rfl ?_
      exact z_zretK C rfl rfl rfl dX6_holds_41
    · refine z_aload_n C 0 dX6_holds_17 rfl rfl rfl ?_
      refine z_iload_n C 1 dX6_holds_18 rfl rfl rfl ?_
      refine z_ci (fun b => b) (fun _ => b2) (fun b hb => z_V (na := 1) (ci := 6) (r := (RX6, TX6, 18)) C [.int s4] rfl (mX6_shownBy Y s4 b2 b hb) rfl rfl w674 w676 w35 w85 w677 hdX6_shownBy ⟨Nat.le_of_ble_eq_true rfl, Nat.le_of_ble_eq_true rfl⟩ (Nat.le_of_ble_eq_true rfl) rfl dX6_holds_19) rfl (fun b5 => ?_)
      refine z_ci (fun b => b) (fun _ => b2) (fun b hb => z_S (na := 1) C [.int b5] rfl (mJ9_abs_0f7a4 Y b5 b2 b hb) w678 w567 w89 w568 hdJ9_abs_0f7a4 ⟨Nat.le_of_ble_eq_true rfl, Nat.le_of_ble_eq_true rfl⟩ (Nat.le_of_ble_eq_true rfl) rfl dX6_holds_22) rfl (fun b6 => ?_)
      refine z_aload_n C 0 dX6_holds_25 rfl rfl rfl ?_
      refine z_get (v := .int (b2.1 34 6)) C 6 zOK6 rfl (by decide) w240 rfl rfl dX6_holds_26 rfl ?_
      refine z_icmple C dX6_holds_29 rfl rfl ?_ ?_
      · refine z_iinc (v := (s4 + (1 : Int32))) C 1 (fun z => [(2, .int z), (0, .ref 34)]) dX6_holds_34 rfl rfl (by decide) (fun _ => rfl) rfl (fun x7 => ?_)
        refine z_goto C dX6_holds_37 rfl ?_
        exact z_perm [1, 0] rfl (hr3 x7)
      · refine z_iconst C (0 : Int32) dX6_holds_32 rfl rfl ?_
        exact z_zretK C rfl rfl rfl dX6_holds_33
  exact key b hF
set_option maxRecDepth 100000 in
set_option maxHeartbeats 4000000 in
theorem mX6_gather (Y : zY) (M : zMem) (b : zMem) (hF : FX6_gather M = some b) : zMt Y yX6_gather cX6_gather 2 none 2 45 [.ref 34] M (zQv Y b) := by
  refine zMt_of (own := RX6) (by decide) rfl (Nat.le_of_ble_eq_true rfl) (fun X C => ?_)
  have key : zR Y X 2 (zFv Y X (fun b => b)) (FX6_gather M) 0 [(0, .ref 34)] [] M := by
    unfold FX6_gather
    refine z_aload_n C 0 dX6_gather_0 rfl rfl rfl ?_
    refine z_get (v := .int (M.1 34 17)) C 17 zOK6 rfl (by decide) w255 rfl rfl dX6_gather_1 rfl ?_
    refine z_ifeq C dX6_gather_4 rfl rfl ?_ ?_
    · refine z_aload_n C 0 dX6_gather_8 rfl rfl rfl ?_
      refine z_iconst C (0 : Int32) dX6_gather_9 rfl rfl ?_
      refine z_puti C 15 zOK6 rfl (by decide) w251 rfl rfl rfl rfl rfl dX6_gather_10 rfl (fun M1 => ?_)
      refine z_iconst C (0 : Int32) dX6_gather_13 rfl rfl ?_
      refine z_istoreP_n (lo' := [(1, .int (0 : Int32)), (0, .ref 34)]) C dX6_gather_14 rfl (by decide) rfl rfl ?_
      refine z_loop (sM := fun s => s.2) (sl := fun s => [(0, .ref 34), (1, .int s.1)]) [1, 0] rfl rfl (fun r2 hr2 s3 => ?_)
      unfold FX6_gather_L15
      refine z_iload_n C 1 dX6_gather_15 rfl rfl rfl ?_
      refine z_aload_n C 0 dX6_gather_16 rfl rfl rfl ?_
      refine z_get (v := .int (s3.2.1 34 14)) C 14 zOK6 rfl (by decide) w249 rfl rfl dX6_gather_17 rfl ?_
      refine z_join (fun k5 => ∀ (u4 : Unit), zR Y X 2 (zFv Y X (fun b => b)) (k5 u4) 64 [(0, .ref 34)] [] s3.2) (fun u4 => ?_) (fun k5 hk5 => ?_)
      · refine z_aload_n C 0 dX6_gather_64 rfl rfl rfl ?_
        refine z_iconst C (1 : Int32) dX6_gather_65 rfl rfl ?_
        refine z_puti C 17 zOK6 rfl (by decide) w255 rfl rfl rfl rfl rfl dX6_gather_66 rfl (fun M6 => ?_)
        exact z_vret C rfl dX6_gather_69
      · refine z_icmpge C dX6_gather_20 rfl rfl ?_ ?_
        · exact z_perm [0] rfl (hk5 ())
        · refine z_iload_n C 1 dX6_gather_23 rfl rfl rfl ?_
          refine z_sipush C (4096 : Int32) dX6_gather_24 rfl rfl ?_
          refine z_icmpge C dX6_gather_27 rfl rfl ?_ ?_
          · exact z_perm [0] rfl (hk5 ())
          · refine z_aload_n C 0 dX6_gather_30 rfl rfl rfl ?_
            refine z_iload_n C 1 dX6_gather_31 rfl rfl rfl ?_
            refine z_ci (fun b => b.1) (fun b => b.2) (fun b hb => z_V (na := 1) (ci := 6) (r := (RX6, TX6, 18)) C [.int s3.1] rfl (mX6_holds Y s3.1 s3.2 b hb) rfl rfl w687 w668 w33 w85 w669 hdX6_holds ⟨Nat.le_of_ble_eq_true rfl, Nat.le_of_ble_eq_true rfl⟩ (Nat.le_of_ble_eq_true rfl) rfl dX6_gather_32) rfl (fun b7 => ?_)
            refine z_ifeq C dX6_gather_35 rfl rfl ?_ ?_
            · refine z_iinc (v := (s3.1 + (1 : Int32))) C 1 (fun z => [(1, .int z), (0, .ref 34)]) dX6_gather_58 rfl rfl (by decide) (fun _ => rfl) rfl (fun x8 => ?_)
              refine z_goto C dX6_gather_61 rfl ?_
              exact z_perm [1, 0] rfl (hr2 (x8, b7.2))
            · refine z_aload_n C 0 dX6_gather_38 rfl rfl rfl ?_
              refine z_get (v := .ref 94) C 10 zOK6 rfl (by decide) w245 rfl rfl dX6_gather_39 rfl ?_
              refine z_aload_n C 0 dX6_gather_42 rfl rfl rfl ?_
              refine z_get (v := .int (b7.2.1 34 15)) C 15 zOK6 rfl (by decide) w251 rfl rfl dX6_gather_43 rfl ?_
              refine z_iload_n C 1 dX6_gather_46 rfl rfl rfl ?_
              refine z_iastore C 4096 rfl dX6_gather_47 rfl (fun M9 => ?_)
              refine z_aload_n C 0 dX6_gather_48 rfl rfl rfl ?_
              refine z_dup C dX6_gather_49 rfl rfl ?_
              refine z_get (v := .int (M9.1 34 15)) C 15 zOK6 rfl (by decide) w251 rfl rfl dX6_gather_50 rfl ?_
              refine z_iconst C (1 : Int32) dX6_gather_53 rfl rfl ?_
              refine z_iadd C dX6_gather_54 rfl ?_
              refine z_puti C 15 zOK6 rfl (by decide) w251 rfl rfl rfl rfl rfl dX6_gather_55 rfl (fun M10 => ?_)
              refine z_iinc (v := (s3.1 + (1 : Int32))) C 1 (fun z => [(1, .int z), (0, .ref 34)]) dX6_gather_58 rfl rfl (by decide) (fun _ => rfl) rfl (fun x11 => ?_)
              refine z_goto C dX6_gather_61 rfl ?_
              exact z_perm [1, 0] rfl (hr2 (x11, M10))
    · exact z_vret C rfl dX6_gather_7
  exact key b hF
set_option maxRecDepth 100000 in
set_option maxHeartbeats 4000000 in
theorem mX6_weightOf (Y : zY) (x0 : Int32) (x1 : Int32) (M : zMem) (b : Int32) (hF : FX6_weightOf x0 x1 M = some b) : zMt Y yX6_weightOf cX6_weightOf 5 (some .int) 0 0 [.ref 34, .int x0, .int x1] M (zQi Y b M) := by
  refine zMt_of (own := RX6) (by decide) rfl (Nat.le_of_ble_eq_true rfl) (fun X C => ?_)
  have key : zR Y X 5 (zFi Y X (fun b => b) (fun _ => M)) (FX6_weightOf x0 x1 M) 0 [(0, .ref 34), (1, .int x0), (2, .int x1)] [] M := by
    unfold FX6_weightOf
    refine z_iload_n C 1 dX6_weightOf_0 rfl rfl rfl ?_
    refine z_istoreP_n (lo' := [(3, .int x0), (0, .ref 34), (1, .int x0), (2, .int x1)]) C dX6_weightOf_1 rfl (by decide) rfl rfl ?_
    refine z_iconst C (0 : Int32) dX6_weightOf_2 rfl rfl ?_
    refine z_istoreP (lo' := [(4, .int (0 : Int32)), (3, .int x0), (0, .ref 34), (1, .int x0), (2, .int x1)]) C dX6_weightOf_3 (by decide) rfl rfl ?_
    refine z_loop (sM := fun s => M) (sl := fun s => [(0, .ref 34), (2, .int x1), (3, .int s.1), (4, .int s.2)]) [2, 4, 1, 0] rfl rfl (fun r3 hr3 s4 => ?_)
    unfold FX6_weightOf_L5
    refine z_iload C 3 dX6_weightOf_5 rfl rfl ?_
    refine z_iload_n C 1 dX6_weightOf_7 rfl rfl rfl ?_
    refine z_icmpge C dX6_weightOf_8 rfl rfl ?_ ?_
    · refine z_iload_n C 2 dX6_weightOf_24 rfl rfl rfl ?_
      refine z_aload_n C 0 dX6_weightOf_25 rfl rfl rfl ?_
      refine z_get (v := .int (M.1 34 13)) C 13 zOK6 rfl (by decide) w248 rfl rfl dX6_weightOf_26 rfl ?_
      refine z_irem C dX6_weightOf_29 rfl ?_
      exact z_iret C rfl rfl dX6_weightOf_30
    · refine z_iload_n C 2 dX6_weightOf_11 rfl rfl rfl ?_
      refine z_aload_n C 0 dX6_weightOf_12 rfl rfl rfl ?_
      refine z_get (v := .int (M.1 34 13)) C 13 zOK6 rfl (by decide) w248 rfl rfl dX6_weightOf_13 rfl ?_
      refine z_idiv C dX6_weightOf_16 rfl ?_
      refine z_istore_n C (fun z => [(3, .int z), (0, .ref 34), (2, .int x1), (4, .int s4.2)]) dX6_weightOf_17 rfl (by decide) (fun _ => rfl) rfl (fun x5 => ?_)
      refine z_iinc (v := (s4.2 + (1 : Int32))) C 3 (fun z => [(4, .int z), (3, .int x5), (0, .ref 34), (2, .int x1)]) dX6_weightOf_18 rfl rfl (by decide) (fun _ => rfl) rfl (fun x6 => ?_)
      refine z_goto C dX6_weightOf_21 rfl ?_
      exact z_perm [2, 3, 1, 0] rfl (hr3 (x5, x6))
  exact key b hF
set_option maxRecDepth 100000 in
set_option maxHeartbeats 4000000 in
theorem mX6_least (Y : zY) (M : zMem) (b : Int32) (hF : FX6_least M = some b) : zMt Y yX6_least cX6_least 6 (some .int) 1 24 [.ref 34] M (zQi Y b M) := by
  refine zMt_of (own := RX6) (by decide) rfl (Nat.le_of_ble_eq_true rfl) (fun X C => ?_)
  have key : zR Y X 6 (zFi Y X (fun b => b) (fun _ => M)) (FX6_least M) 0 [(0, .ref 34)] [] M := by
    unfold FX6_least
    refine z_bipush C (-9 : Int32) dX6_least_0 rfl rfl ?_
    refine z_istoreP_n (lo' := [(1, .int (-9 : Int32)), (0, .ref 34)]) C dX6_least_2 rfl (by decide) rfl rfl ?_
    refine z_iconst C (0 : Int32) dX6_least_3 rfl rfl ?_
    refine z_istoreP_n (lo' := [(2, .int (0 : Int32)), (1, .int (-9 : Int32)), (0, .ref 34)]) C dX6_least_4 rfl (by decide) rfl rfl ?_
    refine z_iconst C (0 : Int32) dX6_least_5 rfl rfl ?_
    refine z_istoreP_n (lo' := [(3, .int (0 : Int32)), (2, .int (0 : Int32)), (1, .int (-9 : Int32)), (0, .ref 34)]) C dX6_least_6 rfl (by decide) rfl rfl ?_
    refine z_loop (sM := fun s => M) (sl := fun s => [(0, .ref 34), (1, .int s.1), (2, .int s.2.1), (3, .int s.2.2)]) [3, 2, 1, 0] rfl rfl (fun r1 hr1 s2 => ?_)
    unfold FX6_least_L7
    refine z_iload_n C 3 dX6_least_7 rfl rfl rfl ?_
    refine z_aload_n C 0 dX6_least_8 rfl rfl rfl ?_
    refine z_get (v := .int (M.1 34 15)) C 15 zOK6 rfl (by decide) w251 rfl rfl dX6_least_9 rfl ?_
    refine z_icmpge C dX6_least_12 rfl rfl ?_ ?_
    · refine z_iload_n C 1 dX6_least_81 rfl rfl rfl ?_
      exact z_iret C rfl rfl dX6_least_82
    · refine z_iconst C (0 : Int32) dX6_least_15 rfl rfl ?_
      refine z_istoreP (lo' := [(4, .int (0 : Int32)), (0, .ref 34), (1, .int s2.1), (2, .int s2.2.1), (3, .int s2.2.2)]) C dX6_least_16 (by decide) rfl rfl ?_
      refine z_iconst C (0 : Int32) dX6_least_18 rfl rfl ?_
      refine z_istoreP (lo' := [(5, .int (0 : Int32)), (4, .int (0 : Int32)), (0, .ref 34), (1, .int s2.1), (2, .int s2.2.1), (3, .int s2.2.2)]) C dX6_least_19 (by decide) rfl rfl ?_
      refine z_loop (sM := fun s => M) (sl := fun s => [(0, .ref 34), (1, .int s2.1), (2, .int s2.2.1), (3, .int s2.2.2), (4, .int s.1), (5, .int s.2)]) [2, 3, 4, 5, 1, 0] rfl rfl (fun r3 hr3 s4 => ?_)
      unfold FX6_least_L21
      refine z_iload C 5 dX6_least_21 rfl rfl ?_
      refine z_aload_n C 0 dX6_least_23 rfl rfl rfl ?_
      refine z_get (v := .int (M.1 34 12)) C 12 zOK6 rfl (by decide) w247 rfl rfl dX6_least_24 rfl ?_
      refine z_icmpge C dX6_least_27 rfl rfl ?_ ?_
      · refine z_iload_n C 1 dX6_least_53 rfl rfl rfl ?_
        refine z_bipush C (-9 : Int32) dX6_least_54 rfl rfl ?_
        refine z_join (fun k6 => ∀ (u5 : Unit), zR Y X 6 (zFi Y X (fun b => b) (fun _ => M)) (k6 u5) 65 [(0, .ref 34), (3, .int s2.2.2), (4, .int s4.1)] [] M) (fun u5 => ?_) (fun k6 hk6 => ?_)
        · refine z_aload_n C 0 dX6_least_65 rfl rfl rfl ?_
          refine z_get (v := .ref 94) C 10 zOK6 rfl (by decide) w245 rfl rfl dX6_least_66 rfl ?_
          refine z_iload_n C 1 dX6_least_69 rfl rfl rfl ?_
          refine z_iaload C 4096 rfl dX6_least_70 rfl ?_
          refine z_istore_n C (fun z => [(1, .int z), (0, .ref 34), (3, .int s2.2.2), (4, .int s4.1)]) dX6_least_71 rfl (by decide) (fun _ => rfl) rfl (fun x7 => ?_)
          refine z_iload C 3 dX6_least_72 rfl rfl ?_
          refine z_istoreP_n (lo' := [(2, .int s4.1), (1, .int x7), (0, .ref 34), (3, .int s2.2.2), (4, .int s4.1)]) C dX6_least_74 rfl (by decide) rfl rfl ?_
          refine z_iinc (v := (s2.2.2 + (1 : Int32))) C 3 (fun z => [(3, .int z), (2, .int s4.1), (1, .int x7), (0, .ref 34), (4, .int s4.1)]) dX6_least_75 rfl rfl (by decide) (fun _ => rfl) rfl (fun x8 => ?_)
          refine z_goto C dX6_least_78 rfl ?_
          exact z_perm [3, 2, 1, 0] rfl (hr1 (x7, s4.1, x8))
        · refine z_icmpeq C dX6_least_56 rfl rfl ?_ ?_
          · exact z_perm [0, 3, 4] rfl (hk6 ())
          · refine z_iload C 4 dX6_least_59 rfl rfl ?_
            refine z_iload_n C 2 dX6_least_61 rfl rfl rfl ?_
            refine z_icmpge C dX6_least_62 rfl rfl ?_ ?_
            · refine z_iinc (v := (s2.2.2 + (1 : Int32))) C 3 (fun z => [(3, .int z), (0, .ref 34), (1, .int s2.1), (2, .int s2.2.1), (4, .int s4.1), (5, .int s4.2)]) dX6_least_75 rfl rfl (by decide) (fun _ => rfl) rfl (fun x9 => ?_)
              refine z_goto C dX6_least_78 rfl ?_
              exact z_perm [1, 2, 3, 0] rfl (hr1 (s2.1, s2.2.1, x9))
            · exact z_perm [0, 3, 4] rfl (hk6 ())
      · refine z_iload C 4 dX6_least_30 rfl rfl ?_
        refine z_aload_n C 0 dX6_least_32 rfl rfl rfl ?_
        refine z_aload_n C 0 dX6_least_33 rfl rfl rfl ?_
        refine z_get (v := .ref 94) C 10 zOK6 rfl (by decide) w245 rfl rfl dX6_least_34 rfl ?_
        refine z_iload_n C 3 dX6_least_37 rfl rfl rfl ?_
        refine z_iaload C 4096 rfl dX6_least_38 rfl ?_
        refine z_iload C 5 dX6_least_39 rfl rfl ?_
        refine z_ci (fun b => b) (fun _ => M) (fun b hb => z_V (na := 2) (ci := 6) (r := (RX6, TX6, 18)) C [.int (zrd M 94 s2.2.2), .int s4.2] rfl (mX6_weightOf Y (zrd M 94 s2.2.2) s4.2 M b hb) rfl rfl w692 w694 w38 w85 w695 hdX6_weightOf ⟨Nat.le_of_ble_eq_true rfl, Nat.le_of_ble_eq_true rfl⟩ (Nat.le_of_ble_eq_true rfl) rfl dX6_least_41) rfl (fun b10 => ?_)
        refine z_iadd C dX6_least_44 rfl ?_
        refine z_istore C (fun z => [(4, .int z), (0, .ref 34), (1, .int s2.1), (2, .int s2.2.1), (3, .int s2.2.2), (5, .int s4.2)]) dX6_least_45 (by decide) (fun _ => rfl) rfl (fun x11 => ?_)
        refine z_iinc (v := (s4.2 + (1 : Int32))) C 5 (fun z => [(5, .int z), (4, .int x11), (0, .ref 34), (1, .int s2.1), (2, .int s2.2.1), (3, .int s2.2.2)]) dX6_least_47 rfl rfl (by decide) (fun _ => rfl) rfl (fun x12 => ?_)
        refine z_goto C dX6_least_50 rfl ?_
        exact z_perm [2, 3, 4, 5, 1, 0] rfl (hr3 (x11, x12))
  exact key b hF
set_option maxRecDepth 100000 in
set_option maxHeartbeats 4000000 in
theorem mX6_sureWeight (Y : zY) (x0 : Int32) (M : zMem) (b : Int32) (hF : FX6_sureWeight x0 M = some b) : zMt Y yX6_sureWeight cX6_sureWeight 4 (some .int) 1 24 [.ref 34, .int x0] M (zQi Y b M) := by
  refine zMt_of (own := RX6) (by decide) rfl (Nat.le_of_ble_eq_true rfl) (fun X C => ?_)
  have key : zR Y X 4 (zFi Y X (fun b => b) (fun _ => M)) (FX6_sureWeight x0 M) 0 [(0, .ref 34), (1, .int x0)] [] M := by
    unfold FX6_sureWeight
    refine z_aload_n C 0 dX6_sureWeight_0 rfl rfl rfl ?_
    refine z_get (v := .int (M.1 34 15)) C 15 zOK6 rfl (by decide) w251 rfl rfl dX6_sureWeight_1 rfl ?_
    refine z_ifne C dX6_sureWeight_4 rfl rfl ?_ ?_
    · refine z_aload_n C 0 dX6_sureWeight_10 rfl rfl rfl ?_
      refine z_aload_n C 0 dX6_sureWeight_11 rfl rfl rfl ?_
      refine z_get (v := .ref 94) C 10 zOK6 rfl (by decide) w245 rfl rfl dX6_sureWeight_12 rfl ?_
      refine z_iconst C (0 : Int32) dX6_sureWeight_15 rfl rfl ?_
      refine z_iaload C 4096 rfl dX6_sureWeight_16 rfl ?_
      refine z_iload_n C 1 dX6_sureWeight_17 rfl rfl rfl ?_
      refine z_ci (fun b => b) (fun _ => M) (fun b hb => z_V (na := 2) (ci := 6) (r := (RX6, TX6, 18)) C [.int (zrd M 94 (0 : Int32)), .int x0] rfl (mX6_weightOf Y (zrd M 94 (0 : Int32)) x0 M b hb) rfl rfl w692 w694 w38 w85 w695 hdX6_weightOf ⟨Nat.le_of_ble_eq_true rfl, Nat.le_of_ble_eq_true rfl⟩ (Nat.le_of_ble_eq_true rfl) rfl dX6_sureWeight_18) rfl (fun b2 => ?_)
      refine z_istoreP_n (lo' := [(2, .int b2), (0, .ref 34), (1, .int x0)]) C dX6_sureWeight_21 rfl (by decide) rfl rfl ?_
      refine z_iconst C (1 : Int32) dX6_sureWeight_22 rfl rfl ?_
      refine z_istoreP_n (lo' := [(3, .int (1 : Int32)), (2, .int b2), (0, .ref 34), (1, .int x0)]) C dX6_sureWeight_23 rfl (by decide) rfl rfl ?_
      refine z_loop (sM := fun s => M) (sl := fun s => [(0, .ref 34), (1, .int x0), (2, .int b2), (3, .int s)]) [2, 3, 1, 0] rfl rfl (fun r3 hr3 s4 => ?_)
      unfold FX6_sureWeight_L24
      refine z_iload_n C 3 dX6_sureWeight_24 rfl rfl rfl ?_
      refine z_aload_n C 0 dX6_sureWeight_25 rfl rfl rfl ?_
      refine z_get (v := .int (M.1 34 15)) C 15 zOK6 rfl (by decide) w251 rfl rfl dX6_sureWeight_26 rfl ?_
      refine z_icmpge C dX6_sureWeight_29 rfl rfl ?_ ?_
      · refine z_iload_n C 2 dX6_sureWeight_56 rfl rfl rfl ?_
        exact z_iret C rfl rfl dX6_sureWeight_57
      · refine z_aload_n C 0 dX6_sureWeight_32 rfl rfl rfl ?_
        refine z_aload_n C 0 dX6_sureWeight_33 rfl rfl rfl ?_
        refine z_get (v := .ref 94) C 10 zOK6 rfl (by decide) w245 rfl rfl dX6_sureWeight_34 rfl ?_
        refine z_iload_n C 3 dX6_sureWeight_37 rfl rfl rfl ?_
        refine z_iaload C 4096 rfl dX6_sureWeight_38 rfl ?_
        refine z_iload_n C 1 dX6_sureWeight_39 rfl rfl rfl ?_
        refine z_ci (fun b => b) (fun _ => M) (fun b hb => z_V (na := 2) (ci := 6) (r := (RX6, TX6, 18)) C [.int (zrd M 94 s4), .int x0] rfl (mX6_weightOf Y (zrd M 94 s4) x0 M b hb) rfl rfl w692 w694 w38 w85 w695 hdX6_weightOf ⟨Nat.le_of_ble_eq_true rfl, Nat.le_of_ble_eq_true rfl⟩ (Nat.le_of_ble_eq_true rfl) rfl dX6_sureWeight_40) rfl (fun b5 => ?_)
        refine z_iload_n C 2 dX6_sureWeight_43 rfl rfl rfl ?_
        refine z_icmpeq C dX6_sureWeight_44 rfl rfl ?_ ?_
        · refine z_iinc (v := (s4 + (1 : Int32))) C 3 (fun z => [(3, .int z), (0, .ref 34), (1, .int x0), (2, .int b2)]) dX6_sureWeight_50 rfl rfl (by decide) (fun _ => rfl) rfl (fun x6 => ?_)
          refine z_goto C dX6_sureWeight_53 rfl ?_
          exact z_perm [1, 2, 3, 0] rfl (hr3 x6)
        · refine z_bipush C (-9 : Int32) dX6_sureWeight_47 rfl rfl ?_
          exact z_iret C rfl rfl dX6_sureWeight_49
    · refine z_bipush C (-9 : Int32) dX6_sureWeight_7 rfl rfl ?_
      exact z_iret C rfl rfl dX6_sureWeight_9
  exact key b hF
set_option maxRecDepth 100000 in
set_option maxHeartbeats 4000000 in
theorem mX6_splitHeaps (Y : zY) (x0 : Int32) (M : zMem) (b : zMem) (hF : FX6_splitHeaps x0 M = some b) : zMt Y yX6_splitHeaps cX6_splitHeaps 3 none 2 47 [.ref 34, .int x0] M (zQv Y b) := by
  refine zMt_of (own := RX6) (by decide) rfl (Nat.le_of_ble_eq_true rfl) (fun X C => ?_)
  have key : zR Y X 3 (zFv Y X (fun b => b)) (FX6_splitHeaps x0 M) 0 [(0, .ref 34), (1, .int x0)] [] M := by
    unfold FX6_splitHeaps
    refine z_aload_n C 0 dX6_splitHeaps_0 rfl rfl rfl ?_
    refine z_get (v := .ref 19) C 1 zOK6 rfl (by decide) w233 rfl rfl dX6_splitHeaps_1 rfl ?_
    refine z_cv (fun b => b) (fun b hb => z_VN (na := 0) (ci := 4) (r := (RX4, TX4, 4)) C [] rfl (mX4_start Y M b hb) rfl rfl (List.mem_of_getElem? (i := 38) rfl) w535 w15 w81 w536 hdX4_startN ⟨Nat.le_of_ble_eq_true rfl, Nat.le_of_ble_eq_true rfl⟩ (Nat.le_of_ble_eq_true rfl) rfl dX6_splitHeaps_4) rfl (fun b2 => ?_)
    refine z_iconst C (0 : Int32) dX6_splitHeaps_7 rfl rfl ?_
    refine z_istoreP_n (lo' := [(2, .int (0 : Int32)), (0, .ref 34), (1, .int x0)]) C dX6_splitHeaps_8 rfl (by decide) rfl rfl ?_
    refine z_loop (sM := fun s => s.2) (sl := fun s => [(0, .ref 34), (1, .int x0), (2, .int s.1)]) [1, 2, 0] rfl rfl (fun r3 hr3 s4 => ?_)
    unfold FX6_splitHeaps_L9
    refine z_iload_n C 2 dX6_splitHeaps_9 rfl rfl rfl ?_
    refine z_aload_n C 0 dX6_splitHeaps_10 rfl rfl rfl ?_
    refine z_get (v := .int (s4.2.1 34 15)) C 15 zOK6 rfl (by decide) w251 rfl rfl dX6_splitHeaps_11 rfl ?_
    refine z_icmpge C dX6_splitHeaps_14 rfl rfl ?_ ?_
    · exact z_vret C rfl dX6_splitHeaps_69
    · refine z_aload_n C 0 dX6_splitHeaps_17 rfl rfl rfl ?_
      refine z_aload_n C 0 dX6_splitHeaps_18 rfl rfl rfl ?_
      refine z_get (v := .ref 94) C 10 zOK6 rfl (by decide) w245 rfl rfl dX6_splitHeaps_19 rfl ?_
      refine z_iload_n C 2 dX6_splitHeaps_22 rfl rfl rfl ?_
      refine z_iaload C 4096 rfl dX6_splitHeaps_23 rfl ?_
      refine z_cv (fun b => b) (fun b hb => z_V (na := 1) (ci := 6) (r := (RX6, TX6, 18)) C [.int (zrd s4.2 94 s4.1)] rfl (mX6_aim Y (zrd s4.2 94 s4.1) s4.2 b hb) rfl rfl w670 w672 w34 w85 w673 hdX6_aim ⟨Nat.le_of_ble_eq_true rfl, Nat.le_of_ble_eq_true rfl⟩ (Nat.le_of_ble_eq_true rfl) rfl dX6_splitHeaps_24) rfl (fun b5 => ?_)
      refine z_aload_n C 0 dX6_splitHeaps_27 rfl rfl rfl ?_
      refine z_get (v := .ref 95) C 11 zOK6 rfl (by decide) w246 rfl rfl dX6_splitHeaps_28 rfl ?_
      refine z_iload_n C 2 dX6_splitHeaps_31 rfl rfl rfl ?_
      refine z_aload_n C 0 dX6_splitHeaps_32 rfl rfl rfl ?_
      refine z_get (v := .ref 19) C 1 zOK6 rfl (by decide) w233 rfl rfl dX6_splitHeaps_33 rfl ?_
      refine z_aload_n C 0 dX6_splitHeaps_36 rfl rfl rfl ?_
      refine z_get (v := .ref 95) C 11 zOK6 rfl (by decide) w246 rfl rfl dX6_splitHeaps_37 rfl ?_
      refine z_iload_n C 2 dX6_splitHeaps_40 rfl rfl rfl ?_
      refine z_iaload C 4096 rfl dX6_splitHeaps_41 rfl ?_
      refine z_sipush C (8192 : Int32) dX6_splitHeaps_42 rfl rfl ?_
      refine z_imul C dX6_splitHeaps_45 rfl ?_
      refine z_aload_n C 0 dX6_splitHeaps_46 rfl rfl rfl ?_
      refine z_iload_n C 1 dX6_splitHeaps_47 rfl rfl rfl ?_
      refine z_ci (fun b => b) (fun _ => b5) (fun b hb => z_V (na := 1) (ci := 6) (r := (RX6, TX6, 18)) C [.int x0] rfl (mX6_shownBy Y x0 b5 b hb) rfl rfl w674 w676 w35 w85 w677 hdX6_shownBy ⟨Nat.le_of_ble_eq_true rfl, Nat.le_of_ble_eq_true rfl⟩ (Nat.le_of_ble_eq_true rfl) rfl dX6_splitHeaps_48) rfl (fun b6 => ?_)
      refine z_ci (fun b => b) (fun _ => b5) (fun b hb => z_SN (na := 1) C [.int b6] rfl (mX7_cellOf Y b6 b5 b hb) (List.mem_of_getElem? (i := 39) rfl) w428 w79 w429 hdX7_cellOf ⟨Nat.le_of_ble_eq_true rfl, Nat.le_of_ble_eq_true rfl⟩ (Nat.le_of_ble_eq_true rfl) rfl dX6_splitHeaps_51) rfl (fun b7 => ?_)
      refine z_iadd C dX6_splitHeaps_54 rfl ?_
      refine z_sipush C (4096 : Int32) dX6_splitHeaps_55 rfl rfl ?_
      refine z_iadd C dX6_splitHeaps_58 rfl ?_
      refine z_ci (fun b => b.1) (fun b => b.2) (fun b hb => z_VN (na := 1) (ci := 4) (r := (RX4, TX4, 4)) C [.int ((((zrd b5 95 s4.1) * (8192 : Int32)) + b7) + (4096 : Int32))] rfl (mX4_numberOf Y ((((zrd b5 95 s4.1) * (8192 : Int32)) + b7) + (4096 : Int32)) b5 b hb) rfl rfl (List.mem_of_getElem? (i := 40) rfl) w540 w16 w81 w541 hdX4_numberOfN ⟨Nat.le_of_ble_eq_true rfl, Nat.le_of_ble_eq_true rfl⟩ (Nat.le_of_ble_eq_true rfl) rfl dX6_splitHeaps_59) rfl (fun b8 => ?_)
      refine z_iastore C 4096 rfl dX6_splitHeaps_62 rfl (fun M9 => ?_)
      refine z_iinc (v := (s4.1 + (1 : Int32))) C 2 (fun z => [(2, .int z), (0, .ref 34), (1, .int x0)]) dX6_splitHeaps_63 rfl rfl (by decide) (fun _ => rfl) rfl (fun x10 => ?_)
      refine z_goto C dX6_splitHeaps_66 rfl ?_
      exact z_perm [1, 2, 0] rfl (hr3 (x10, M9))
  exact key b hF
set_option maxRecDepth 100000 in
set_option maxHeartbeats 4000000 in
theorem mX6_twins (Y : zY) (M : zMem) (b : Int32 × zMem) (hF : FX6_twins M = some b) : zMt Y yX6_twins cX6_twins 3 (some .int) 3 69 [.ref 34] M (zQi Y b.1 b.2) := by
  refine zMt_of (own := RX6) (by decide) rfl (Nat.le_of_ble_eq_true rfl) (fun X C => ?_)
  have key : zR Y X 3 (zFi Y X (fun b => b.1) (fun b => b.2)) (FX6_twins M) 0 [(0, .ref 34)] [] M := by
    unfold FX6_twins
    refine z_aload_n C 0 dX6_twins_0 rfl rfl rfl ?_
    refine z_get (v := .int (M.1 34 15)) C 15 zOK6 rfl (by decide) w251 rfl rfl dX6_twins_1 rfl ?_
    refine z_join (fun k2 => ∀ (x1 : Int32), zR Y X 3 (zFi Y X (fun b => b.1) (fun b => b.2)) (k2 x1) 12 [(0, .ref 34)] [.int x1] M) (fun x1 => ?_) (fun k2 hk2 => ?_)
    · refine z_istoreP_n (lo' := [(1, .int x1), (0, .ref 34)]) C dX6_twins_12 rfl (by decide) rfl rfl ?_
      refine z_aload_n C 1 dX6_twins_13 rfl rfl rfl ?_
      refine z_get (v := .ref 95) C 11 zOK6 rfl (by decide) w246 rfl rfl dX6_twins_14 rfl ?_
      refine z_iconst C (0 : Int32) dX6_twins_17 rfl rfl ?_
      refine z_cv (fun b => b) (fun b hb => z_S (na := 2) C [.ref 95, .int (0 : Int32)] rfl (mJ7_fill_53178 Y 95 (0 : Int32) M b hb) w659 w300 w87 w301 hdJ7_fill_53178 ⟨Nat.le_of_ble_eq_true rfl, Nat.le_of_ble_eq_true rfl⟩ (Nat.le_of_ble_eq_true rfl) rfl dX6_twins_18) rfl (fun b3 => ?_)
      refine z_iconst C (0 : Int32) dX6_twins_21 rfl rfl ?_
      refine z_istoreP_n (lo' := [(2, .int (0 : Int32)), (1, .int x1), (0, .ref 34)]) C dX6_twins_22 rfl (by decide) rfl rfl ?_
      refine z_loop (sM := fun s => s.2.2) (sl := fun s => [(0, .ref 34), (1, .int s.1), (2, .int s.2.1)]) [2, 1, 0] rfl rfl (fun r4 hr4 s5 => ?_)
      unfold FX6_twins_L23
      refine z_iload_n C 2 dX6_twins_23 rfl rfl rfl ?_
      refine z_aload_n C 0 dX6_twins_24 rfl rfl rfl ?_
      refine z_get (v := .int (s5.2.2.1 34 5)) C 5 zOK6 rfl (by decide) w238 rfl rfl dX6_twins_25 rfl ?_
      refine z_icmpge C dX6_twins_28 rfl rfl ?_ ?_
      · refine z_iload_n C 1 dX6_twins_67 rfl rfl rfl ?_
        exact z_iret C rfl rfl dX6_twins_68
      · refine z_aload_n C 0 dX6_twins_31 rfl rfl rfl ?_
        refine z_bipush C (20 : Int32) dX6_twins_32 rfl rfl ?_
        refine z_iconst C (2 : Int32) dX6_twins_34 rfl rfl ?_
        refine z_iload_n C 2 dX6_twins_35 rfl rfl rfl ?_
        refine z_imul C dX6_twins_36 rfl ?_
        refine z_iadd C dX6_twins_37 rfl ?_
        refine z_cv (fun b => b) (fun b hb => z_V (na := 1) (ci := 6) (r := (RX6, TX6, 18)) C [.int ((20 : Int32) + ((2 : Int32) * s5.2.1))] rfl (mX6_splitHeaps Y ((20 : Int32) + ((2 : Int32) * s5.2.1)) s5.2.2 b hb) rfl rfl w700 w702 w40 w85 w703 hdX6_splitHeaps ⟨Nat.le_of_ble_eq_true rfl, Nat.le_of_ble_eq_true rfl⟩ (Nat.le_of_ble_eq_true rfl) rfl dX6_twins_38) rfl (fun b6 => ?_)
        refine z_aload_n C 0 dX6_twins_41 rfl rfl rfl ?_
        refine z_bipush C (20 : Int32) dX6_twins_42 rfl rfl ?_
        refine z_iconst C (2 : Int32) dX6_twins_44 rfl rfl ?_
        refine z_iload_n C 2 dX6_twins_45 rfl rfl rfl ?_
        refine z_imul C dX6_twins_46 rfl ?_
        refine z_iadd C dX6_twins_47 rfl ?_
        refine z_iconst C (1 : Int32) dX6_twins_48 rfl rfl ?_
        refine z_iadd C dX6_twins_49 rfl ?_
        refine z_cv (fun b => b) (fun b hb => z_V (na := 1) (ci := 6) (r := (RX6, TX6, 18)) C [.int (((20 : Int32) + ((2 : Int32) * s5.2.1)) + (1 : Int32))] rfl (mX6_splitHeaps Y (((20 : Int32) + ((2 : Int32) * s5.2.1)) + (1 : Int32)) b6 b hb) rfl rfl w700 w702 w40 w85 w703 hdX6_splitHeaps ⟨Nat.le_of_ble_eq_true rfl, Nat.le_of_ble_eq_true rfl⟩ (Nat.le_of_ble_eq_true rfl) rfl dX6_twins_50) rfl (fun b7 => ?_)
        refine z_aload_n C 0 dX6_twins_53 rfl rfl rfl ?_
        refine z_get (v := .ref 19) C 1 zOK6 rfl (by decide) w233 rfl rfl dX6_twins_54 rfl ?_
        refine z_getN (v := .int (b7.1 19 3)) C 3 zOK4 rfl (by decide) (List.mem_of_getElem? (i := 9) rfl) rfl rfl dX6_twins_57 rfl ?_
        refine z_istore_n C (fun z => [(1, .int z), (0, .ref 34), (2, .int s5.2.1)]) dX6_twins_60 rfl (by decide) (fun _ => rfl) rfl (fun x8 => ?_)
        refine z_iinc (v := (s5.2.1 + (1 : Int32))) C 2 (fun z => [(2, .int z), (1, .int x8), (0, .ref 34)]) dX6_twins_61 rfl rfl (by decide) (fun _ => rfl) rfl (fun x9 => ?_)
        refine z_goto C dX6_twins_64 rfl ?_
        exact z_perm [2, 1, 0] rfl (hr4 (x8, x9, b7))
    · refine z_ifle C dX6_twins_4 rfl rfl ?_ ?_
      · refine z_iconst C (0 : Int32) dX6_twins_11 rfl rfl ?_
        exact z_perm [0] rfl (hk2 (0 : Int32))
      · refine z_iconst C (1 : Int32) dX6_twins_7 rfl rfl ?_
        refine z_goto C dX6_twins_8 rfl ?_
        exact z_perm [0] rfl (hk2 (1 : Int32))
  exact key b hF
set_option maxRecDepth 100000 in
set_option maxHeartbeats 4000000 in
theorem mX6_nextLook (Y : zY) (M : zMem) (b : Int32 × zMem) (hF : FX6_nextLook M = some b) : zMt Y yX6_nextLook cX6_nextLook 5 (some .int) 3 69 [.ref 34] M (zQi Y b.1 b.2) := by
  refine zMt_of (own := RX6) (by decide) rfl (Nat.le_of_ble_eq_true rfl) (fun X C => ?_)
  have key : zR Y X 5 (zFi Y X (fun b => b.1) (fun b => b.2)) (FX6_nextLook M) 0 [(0, .ref 34)] [] M := by
    unfold FX6_nextLook
    refine z_bipush C (-9 : Int32) dX6_nextLook_0 rfl rfl ?_
    refine z_istoreP_n (lo' := [(1, .int (-9 : Int32)), (0, .ref 34)]) C dX6_nextLook_2 rfl (by decide) rfl rfl ?_
    refine z_iconst C (0 : Int32) dX6_nextLook_3 rfl rfl ?_
    refine z_istoreP_n (lo' := [(2, .int (0 : Int32)), (1, .int (-9 : Int32)), (0, .ref 34)]) C dX6_nextLook_4 rfl (by decide) rfl rfl ?_
    refine z_iconst C (0 : Int32) dX6_nextLook_5 rfl rfl ?_
    refine z_istoreP_n (lo' := [(3, .int (0 : Int32)), (2, .int (0 : Int32)), (1, .int (-9 : Int32)), (0, .ref 34)]) C dX6_nextLook_6 rfl (by decide) rfl rfl ?_
    refine z_loop (sM := fun s => s.2.2.2) (sl := fun s => [(0, .ref 34), (1, .int s.1), (2, .int s.2.1), (3, .int s.2.2.1)]) [3, 2, 1, 0] rfl rfl (fun r1 hr1 s2 => ?_)
    unfold FX6_nextLook_L7
    refine z_iload_n C 3 dX6_nextLook_7 rfl rfl rfl ?_
    refine z_aload_n C 0 dX6_nextLook_8 rfl rfl rfl ?_
    refine z_get (v := .int (s2.2.2.2.1 34 5)) C 5 zOK6 rfl (by decide) w238 rfl rfl dX6_nextLook_9 rfl ?_
    refine z_icmpge C dX6_nextLook_12 rfl rfl ?_ ?_
    · refine z_iload_n C 1 dX6_nextLook_92 rfl rfl rfl ?_
      exact z_iret C rfl rfl dX6_nextLook_93
    · refine z_aload_n C 0 dX6_nextLook_15 rfl rfl rfl ?_
      refine z_get (v := .int (s2.2.2.2.1 34 15)) C 15 zOK6 rfl (by decide) w251 rfl rfl dX6_nextLook_16 rfl ?_
      refine z_ifle C dX6_nextLook_19 rfl rfl ?_ ?_
      · refine z_iload_n C 1 dX6_nextLook_92 rfl rfl rfl ?_
        exact z_iret C rfl rfl dX6_nextLook_93
      · refine z_aload_n C 0 dX6_nextLook_22 rfl rfl rfl ?_
        refine z_get (v := .ref 95) C 11 zOK6 rfl (by decide) w246 rfl rfl dX6_nextLook_23 rfl ?_
        refine z_iconst C (0 : Int32) dX6_nextLook_26 rfl rfl ?_
        refine z_cv (fun b => b) (fun b hb => z_S (na := 2) C [.ref 95, .int (0 : Int32)] rfl (mJ7_fill_53178 Y 95 (0 : Int32) s2.2.2.2 b hb) w659 w300 w87 w301 hdJ7_fill_53178 ⟨Nat.le_of_ble_eq_true rfl, Nat.le_of_ble_eq_true rfl⟩ (Nat.le_of_ble_eq_true rfl) rfl dX6_nextLook_27) rfl (fun b3 => ?_)
        refine z_aload_n C 0 dX6_nextLook_30 rfl rfl rfl ?_
        refine z_bipush C (20 : Int32) dX6_nextLook_31 rfl rfl ?_
        refine z_iconst C (2 : Int32) dX6_nextLook_33 rfl rfl ?_
        refine z_iload_n C 3 dX6_nextLook_34 rfl rfl rfl ?_
        refine z_imul C dX6_nextLook_35 rfl ?_
        refine z_iadd C dX6_nextLook_36 rfl ?_
        refine z_cv (fun b => b) (fun b hb => z_V (na := 1) (ci := 6) (r := (RX6, TX6, 18)) C [.int ((20 : Int32) + ((2 : Int32) * s2.2.2.1))] rfl (mX6_splitHeaps Y ((20 : Int32) + ((2 : Int32) * s2.2.2.1)) b3 b hb) rfl rfl w700 w702 w40 w85 w703 hdX6_splitHeaps ⟨Nat.le_of_ble_eq_true rfl, Nat.le_of_ble_eq_true rfl⟩ (Nat.le_of_ble_eq_true rfl) rfl dX6_nextLook_37) rfl (fun b4 => ?_)
        refine z_aload_n C 0 dX6_nextLook_40 rfl rfl rfl ?_
        refine z_bipush C (20 : Int32) dX6_nextLook_41 rfl rfl ?_
        refine z_iconst C (2 : Int32) dX6_nextLook_43 rfl rfl ?_
        refine z_iload_n C 3 dX6_nextLook_44 rfl rfl rfl ?_
        refine z_imul C dX6_nextLook_45 rfl ?_
        refine z_iadd C dX6_nextLook_46 rfl ?_
        refine z_iconst C (1 : Int32) dX6_nextLook_47 rfl rfl ?_
        refine z_iadd C dX6_nextLook_48 rfl ?_
        refine z_cv (fun b => b) (fun b hb => z_V (na := 1) (ci := 6) (r := (RX6, TX6, 18)) C [.int (((20 : Int32) + ((2 : Int32) * s2.2.2.1)) + (1 : Int32))] rfl (mX6_splitHeaps Y (((20 : Int32) + ((2 : Int32) * s2.2.2.1)) + (1 : Int32)) b4 b hb) rfl rfl w700 w702 w40 w85 w703 hdX6_splitHeaps ⟨Nat.le_of_ble_eq_true rfl, Nat.le_of_ble_eq_true rfl⟩ (Nat.le_of_ble_eq_true rfl) rfl dX6_nextLook_49) rfl (fun b5 => ?_)
        refine z_aload_n C 0 dX6_nextLook_52 rfl rfl rfl ?_
        refine z_get (v := .ref 19) C 1 zOK6 rfl (by decide) w233 rfl rfl dX6_nextLook_53 rfl ?_
        refine z_getN (v := .ref 22) C 2 zOK4 rfl (by decide) (List.mem_of_getElem? (i := 7) rfl) rfl rfl dX6_nextLook_56 rfl ?_
        refine z_aload_n C 0 dX6_nextLook_59 rfl rfl rfl ?_
        refine z_get (v := .ref 19) C 1 zOK6 rfl (by decide) w233 rfl rfl dX6_nextLook_60 rfl ?_
        refine z_ci (fun b => b) (fun _ => b5) (fun b hb => z_VN (na := 0) (ci := 4) (r := (RX4, TX4, 4)) C [] rfl (mX4_greatest Y b5 b hb) rfl rfl (List.mem_of_getElem? (i := 42) rfl) w549 w18 w81 w550 hdX4_greatestN ⟨Nat.le_of_ble_eq_true rfl, Nat.le_of_ble_eq_true rfl⟩ (Nat.le_of_ble_eq_true rfl) rfl dX6_nextLook_63) rfl (fun b6 => ?_)
        refine z_iaload C 4096 rfl dX6_nextLook_66 rfl ?_
        refine z_istore C (fun z => [(4, .int z), (0, .ref 34), (1, .int s2.1), (2, .int s2.2.1), (3, .int s2.2.2.1)]) dX6_nextLook_67 (by decide) (fun _ => rfl) rfl (fun x7 => ?_)
        refine z_iload_n C 2 dX6_nextLook_69 rfl rfl rfl ?_
        refine z_bipush C (-9 : Int32) dX6_nextLook_70 rfl rfl ?_
        refine z_join (fun k9 => ∀ (u8 : Unit), zR Y X 5 (zFi Y X (fun b => b.1) (fun b => b.2)) (k9 u8) 81 [(0, .ref 34), (3, .int s2.2.2.1), (4, .int x7)] [] b5) (fun u8 => ?_) (fun k9 hk9 => ?_)
        · refine z_iload_n C 1 dX6_nextLook_81 rfl rfl rfl ?_
          refine z_istoreP_n (lo' := [(1, .int s2.2.2.1), (0, .ref 34), (3, .int s2.2.2.1), (4, .int x7)]) C dX6_nextLook_82 rfl (by decide) rfl rfl ?_
          refine z_iload C 3 dX6_nextLook_83 rfl rfl ?_
          refine z_istoreP_n (lo' := [(2, .int x7), (1, .int s2.2.2.1), (0, .ref 34), (3, .int s2.2.2.1), (4, .int x7)]) C dX6_nextLook_85 rfl (by decide) rfl rfl ?_
          refine z_iinc (v := (s2.2.2.1 + (1 : Int32))) C 3 (fun z => [(3, .int z), (2, .int x7), (1, .int s2.2.2.1), (0, .ref 34), (4, .int x7)]) dX6_nextLook_86 rfl rfl (by decide) (fun _ => rfl) rfl (fun x10 => ?_)
          refine z_goto C dX6_nextLook_89 rfl ?_
          exact z_perm [3, 2, 1, 0] rfl (hr1 (s2.2.2.1, x7, x10, b5))
        · refine z_icmpeq C dX6_nextLook_72 rfl rfl ?_ ?_
          · exact z_perm [1, 4, 0] rfl (hk9 ())
          · refine z_iload C 0 dX6_nextLook_75 rfl rfl ?_
            refine z_iload_n C 3 dX6_nextLook_77 rfl rfl rfl ?_
            refine z_icmpge C dX6_nextLook_78 rfl rfl ?_ ?_
            · refine z_iinc (v := (s2.2.2.1 + (1 : Int32))) C 4 (fun z => [(3, .int z), (4, .int x7), (0, .ref 34), (1, .int s2.1), (2, .int s2.2.1)]) dX6_nextLook_86 rfl rfl (by decide) (fun _ => rfl) rfl (fun x11 => ?_)
              refine z_goto C dX6_nextLook_89 rfl ?_
              exact z_perm [2, 3, 4, 0] rfl (hr1 (s2.1, s2.2.1, x11, b5))
            · exact z_perm [1, 4, 0] rfl (hk9 ())
  exact key b hF
set_option maxRecDepth 100000 in
set_option maxHeartbeats 4000000 in
theorem mX7_isFeature (Y : zY) (x0 : Int32) (x1 : Int32) (M : zMem) (b : Int32) (hF : FX7_isFeature x0 x1 M = some b) : zMt Y yX7_isFeature cX7_isFeature 2 (some .boolean) 1 22 [.int x0, .int x1] M (zQi Y b M) := by
  refine zMt_of (own := RX7) (by decide) rfl (Nat.le_of_ble_eq_true rfl) (fun X C => ?_)
  have key : zR Y X 2 (zFi Y X (fun b => b) (fun _ => M)) (FX7_isFeature x0 x1 M) 0 [(0, .int x0), (1, .int x1)] [] M := by
    unfold FX7_isFeature
    refine z_iload_n C 1 dX7_isFeature_0 rfl rfl rfl ?_
    refine z_getsL C w355 dX7_isFeature_1 rfl ?_
    refine z_iload_n C 0 dX7_isFeature_4 rfl rfl rfl ?_
    refine z_ialoadL C dX7_isFeature_5 rfl ?_
    refine z_getsM C w357 dX7_isFeature_6 rfl ?_
    refine z_iload_n C 0 dX7_isFeature_9 rfl rfl rfl ?_
    refine z_ialoadM C dX7_isFeature_10 rfl ?_
    refine z_ci (fun b => b) (fun _ => M) (fun b hb => z_S (na := 3) C [.int x1, .int (zLO (zcl x0)), .int (zMO (zcl x0))] rfl (mX7_within Y x1 (zLO (zcl x0)) (zMO (zcl x0)) M b hb) w359 w360 w79 w361 hdX7_within ⟨Nat.le_of_ble_eq_true rfl, Nat.le_of_ble_eq_true rfl⟩ (Nat.le_of_ble_eq_true rfl) rfl dX7_isFeature_11) rfl (fun b3 => ?_)
    exact z_zret C rfl rfl dX7_isFeature_14
  exact key b hF
set_option maxRecDepth 100000 in
set_option maxHeartbeats 4000000 in
theorem mX7_lensChanges (Y : zY) (M : zMem) (b : zMem) (hF : FX7_lensChanges M = some b) : zMt Y yX7_lensChanges cX7_lensChanges 1 none 0 0 [.ref 0] M (zQv Y b) := by
  refine zMt_of (own := RX7) (by decide) rfl (Nat.le_of_ble_eq_true rfl) (fun X C => ?_)
  have key : zR Y X 1 (zFv Y X (fun b => b)) (FX7_lensChanges M) 0 [(0, .ref 0)] [] M := by
    unfold FX7_lensChanges
    refine z_aload_n C 0 dX7_lensChanges_0 rfl rfl rfl ?_
    refine z_get (v := .ref 11) C 1 zOK7 rfl (by decide) w324 rfl rfl dX7_lensChanges_1 rfl ?_
    refine z_iconst C (1 : Int32) dX7_lensChanges_4 rfl rfl ?_
    refine z_putiN C 5 zOK3 rfl (by decide) (List.mem_of_getElem? (i := 12) rfl) rfl rfl rfl rfl rfl dX7_lensChanges_5 rfl (fun M1 => ?_)
    refine z_aload_n C 0 dX7_lensChanges_8 rfl rfl rfl ?_
    refine z_get (v := .ref 34) C 5 zOK7 rfl (by decide) w328 rfl rfl dX7_lensChanges_9 rfl ?_
    refine z_iconst C (1 : Int32) dX7_lensChanges_12 rfl rfl ?_
    refine z_putiN C 16 zOK6 rfl (by decide) (List.mem_of_getElem? (i := 24) rfl) rfl rfl rfl rfl rfl dX7_lensChanges_13 rfl (fun M2 => ?_)
    exact z_vret C rfl dX7_lensChanges_16
  exact key b hF
set_option maxRecDepth 100000 in
set_option maxHeartbeats 4000000 in
theorem mX7_body (Y : zY) (x0 : Int32) (x1 : Int32) (x2 : Int32) (x3 : Int32) (M : zMem) (b : Int32 × zMem) (hF : FX7_body x0 x1 x2 x3 M = some b) : zMt Y yX7_body cX7_body 5 (some .int) 2 43 [.ref 0, .int x0, .int x1, .int x2, .int x3] M (zQi Y b.1 b.2) := by
  refine zMt_of (own := RX7) (by decide) rfl (Nat.le_of_ble_eq_true rfl) (fun X C => ?_)
  have key : zR Y X 5 (zFi Y X (fun b => b.1) (fun b => b.2)) (FX7_body x0 x1 x2 x3 M) 0 [(0, .ref 0), (1, .int x0), (2, .int x1), (3, .int x2), (4, .int x3)] [] M := by
    unfold FX7_body
    refine z_iconst C (0 : Int32) dX7_body_0 rfl rfl ?_
    refine z_iload_n C 1 dX7_body_1 rfl rfl rfl ?_
    refine z_ci (fun b => b) (fun _ => M) (fun b hb => z_S (na := 2) C [.int (0 : Int32), .int x0] rfl (mX7_isFeature Y (0 : Int32) x0 M b hb) w352 w353 w79 w354 hdX7_isFeature ⟨Nat.le_of_ble_eq_true rfl, Nat.le_of_ble_eq_true rfl⟩ (Nat.le_of_ble_eq_true rfl) rfl dX7_body_2) rfl (fun b5 => ?_)
    refine z_ifeq C dX7_body_5 rfl rfl ?_ ?_
    · refine z_iconst C (-1 : Int32) dX7_body_33 rfl rfl ?_
      exact z_iret C rfl rfl dX7_body_34
    · refine z_iconst C (1 : Int32) dX7_body_8 rfl rfl ?_
      refine z_iload_n C 2 dX7_body_9 rfl rfl rfl ?_
      refine z_ci (fun b => b) (fun _ => M) (fun b hb => z_S (na := 2) C [.int (1 : Int32), .int x1] rfl (mX7_isFeature Y (1 : Int32) x1 M b hb) w352 w353 w79 w354 hdX7_isFeature ⟨Nat.le_of_ble_eq_true rfl, Nat.le_of_ble_eq_true rfl⟩ (Nat.le_of_ble_eq_true rfl) rfl dX7_body_10) rfl (fun b6 => ?_)
      refine z_ifeq C dX7_body_13 rfl rfl ?_ ?_
      · refine z_iconst C (-1 : Int32) dX7_body_33 rfl rfl ?_
        exact z_iret C rfl rfl dX7_body_34
      · refine z_iconst C (2 : Int32) dX7_body_16 rfl rfl ?_
        refine z_iload_n C 3 dX7_body_17 rfl rfl rfl ?_
        refine z_ci (fun b => b) (fun _ => M) (fun b hb => z_S (na := 2) C [.int (2 : Int32), .int x2] rfl (mX7_isFeature Y (2 : Int32) x2 M b hb) w352 w353 w79 w354 hdX7_isFeature ⟨Nat.le_of_ble_eq_true rfl, Nat.le_of_ble_eq_true rfl⟩ (Nat.le_of_ble_eq_true rfl) rfl dX7_body_18) rfl (fun b7 => ?_)
        refine z_ifeq C dX7_body_21 rfl rfl ?_ ?_
        · refine z_iconst C (-1 : Int32) dX7_body_33 rfl rfl ?_
          exact z_iret C rfl rfl dX7_body_34
        · refine z_iconst C (3 : Int32) dX7_body_24 rfl rfl ?_
          refine z_iload C 4 dX7_body_25 rfl rfl ?_
          refine z_ci (fun b => b) (fun _ => M) (fun b hb => z_S (na := 2) C [.int (3 : Int32), .int x3] rfl (mX7_isFeature Y (3 : Int32) x3 M b hb) w352 w353 w79 w354 hdX7_isFeature ⟨Nat.le_of_ble_eq_true rfl, Nat.le_of_ble_eq_true rfl⟩ (Nat.le_of_ble_eq_true rfl) rfl dX7_body_27) rfl (fun b8 => ?_)
          refine z_ifne C dX7_body_30 rfl rfl ?_ ?_
          · refine z_aload_n C 0 dX7_body_35 rfl rfl rfl ?_
            refine z_get (v := .ref 1) C 0 zOK7 rfl (by decide) w323 rfl rfl dX7_body_36 rfl ?_
            refine z_getN (v := .int (M.1 1 1)) C 1 zOK2 rfl (by decide) (List.mem_of_getElem? (i := 2) rfl) rfl rfl dX7_body_39 rfl ?_
            refine z_bipush C (8 : Int32) dX7_body_42 rfl rfl ?_
            refine z_icmplt C dX7_body_44 rfl rfl ?_ ?_
            · refine z_aload_n C 0 dX7_body_50 rfl rfl rfl ?_
              refine z_cv (fun b => b) (fun b hb => z_V (na := 0) (ci := 7) (r := (RX7, TX7, 8)) C [] rfl (mX7_lensChanges Y M b hb) rfl rfl w362 w364 w0 w79 w365 hdX7_lensChanges ⟨Nat.le_of_ble_eq_true rfl, Nat.le_of_ble_eq_true rfl⟩ (Nat.le_of_ble_eq_true rfl) rfl dX7_body_51) rfl (fun b9 => ?_)
              refine z_aload_n C 0 dX7_body_54 rfl rfl rfl ?_
              refine z_get (v := .ref 1) C 0 zOK7 rfl (by decide) w323 rfl rfl dX7_body_55 rfl ?_
              refine z_iload_n C 1 dX7_body_58 rfl rfl rfl ?_
              refine z_iload_n C 2 dX7_body_59 rfl rfl rfl ?_
              refine z_iload_n C 3 dX7_body_60 rfl rfl rfl ?_
              refine z_iload C 4 dX7_body_61 rfl rfl ?_
              refine z_ci (fun b => b.1) (fun b => b.2) (fun b hb => z_VN (na := 4) (ci := 2) (r := (RX2, TX2, 4)) C [.int x0, .int x1, .int x2, .int x3] rfl (mX2_add Y x0 x1 x2 x3 b9 b hb) rfl rfl (List.mem_of_getElem? (i := 7) rfl) w368 w1 w80 w369 hdX2_addN ⟨Nat.le_of_ble_eq_true rfl, Nat.le_of_ble_eq_true rfl⟩ (Nat.le_of_ble_eq_true rfl) rfl dX7_body_63) rfl (fun b10 => ?_)
              exact z_iret C rfl rfl dX7_body_66
            · refine z_bipush C (-3 : Int32) dX7_body_47 rfl rfl ?_
              exact z_iret C rfl rfl dX7_body_49
          · refine z_iconst C (-1 : Int32) dX7_body_33 rfl rfl ?_
            exact z_iret C rfl rfl dX7_body_34
  exact key b hF
set_option maxRecDepth 100000 in
set_option maxHeartbeats 4000000 in
theorem mX7_isBody (Y : zY) (x0 : Int32) (M : zMem) (b : Int32) (hF : FX7_isBody x0 M = some b) : zMt Y yX7_isBody cX7_isBody 2 (some .boolean) 1 22 [.ref 0, .int x0] M (zQi Y b M) := by
  refine zMt_of (own := RX7) (by decide) rfl (Nat.le_of_ble_eq_true rfl) (fun X C => ?_)
  have key : zR Y X 2 (zFi Y X (fun b => b) (fun _ => M)) (FX7_isBody x0 M) 0 [(0, .ref 0), (1, .int x0)] [] M := by
    unfold FX7_isBody
    refine z_iload_n C 1 dX7_isBody_0 rfl rfl rfl ?_
    refine z_iconst C (0 : Int32) dX7_isBody_1 rfl rfl ?_
    refine z_aload_n C 0 dX7_isBody_2 rfl rfl rfl ?_
    refine z_get (v := .ref 1) C 0 zOK7 rfl (by decide) w323 rfl rfl dX7_isBody_3 rfl ?_
    refine z_getN (v := .int (M.1 1 1)) C 1 zOK2 rfl (by decide) (List.mem_of_getElem? (i := 2) rfl) rfl rfl dX7_isBody_6 rfl ?_
    refine z_iconst C (1 : Int32) dX7_isBody_9 rfl rfl ?_
    refine z_isub C dX7_isBody_10 rfl ?_
    refine z_ci (fun b => b) (fun _ => M) (fun b hb => z_S (na := 3) C [.int x0, .int (0 : Int32), .int ((M.1 1 1) - (1 : Int32))] rfl (mX7_within Y x0 (0 : Int32) ((M.1 1 1) - (1 : Int32)) M b hb) w359 w360 w79 w361 hdX7_within ⟨Nat.le_of_ble_eq_true rfl, Nat.le_of_ble_eq_true rfl⟩ (Nat.le_of_ble_eq_true rfl) rfl dX7_isBody_11) rfl (fun b2 => ?_)
    exact z_zret C rfl rfl dX7_isBody_14
  exact key b hF
set_option maxRecDepth 100000 in
set_option maxHeartbeats 4000000 in
theorem mX7_set (Y : zY) (x0 : Int32) (x1 : Int32) (x2 : Int32) (M : zMem) (b : Int32 × zMem) (hF : FX7_set x0 x1 x2 M = some b) : zMt Y yX7_set cX7_set 5 (some .int) 2 43 [.ref 0, .int x0, .int x1, .int x2] M (zQi Y b.1 b.2) := by
  refine zMt_of (own := RX7) (by decide) rfl (Nat.le_of_ble_eq_true rfl) (fun X C => ?_)
  have key : zR Y X 5 (zFi Y X (fun b => b.1) (fun b => b.2)) (FX7_set x0 x1 x2 M) 0 [(0, .ref 0), (1, .int x0), (2, .int x1), (3, .int x2)] [] M := by
    unfold FX7_set
    refine z_aload_n C 0 dX7_set_0 rfl rfl rfl ?_
    refine z_iload_n C 1 dX7_set_1 rfl rfl rfl ?_
    refine z_ci (fun b => b) (fun _ => M) (fun b hb => z_V (na := 1) (ci := 7) (r := (RX7, TX7, 8)) C [.int x0] rfl (mX7_isBody Y x0 M b hb) rfl rfl w375 w377 w2 w79 w378 hdX7_isBody ⟨Nat.le_of_ble_eq_true rfl, Nat.le_of_ble_eq_true rfl⟩ (Nat.le_of_ble_eq_true rfl) rfl dX7_set_2) rfl (fun b4 => ?_)
    refine z_ifeq C dX7_set_5 rfl rfl ?_ ?_
    · refine z_ldc C w379 dX7_set_25 rfl ?_
      exact z_iret C rfl rfl dX7_set_27
    · refine z_iload_n C 2 dX7_set_8 rfl rfl rfl ?_
      refine z_iconst C (0 : Int32) dX7_set_9 rfl rfl ?_
      refine z_iconst C (5 : Int32) dX7_set_10 rfl rfl ?_
      refine z_ci (fun b => b) (fun _ => M) (fun b hb => z_S (na := 3) C [.int x1, .int (0 : Int32), .int (5 : Int32)] rfl (mX7_within Y x1 (0 : Int32) (5 : Int32) M b hb) w359 w360 w79 w361 hdX7_within ⟨Nat.le_of_ble_eq_true rfl, Nat.le_of_ble_eq_true rfl⟩ (Nat.le_of_ble_eq_true rfl) rfl dX7_set_11) rfl (fun b5 => ?_)
      refine z_ifeq C dX7_set_14 rfl rfl ?_ ?_
      · refine z_ldc C w379 dX7_set_25 rfl ?_
        exact z_iret C rfl rfl dX7_set_27
      · refine z_iload_n C 2 dX7_set_17 rfl rfl rfl ?_
        refine z_iload_n C 3 dX7_set_18 rfl rfl rfl ?_
        refine z_ci (fun b => b) (fun _ => M) (fun b hb => z_S (na := 2) C [.int x1, .int x2] rfl (mX7_isFeature Y x1 x2 M b hb) w352 w353 w79 w354 hdX7_isFeature ⟨Nat.le_of_ble_eq_true rfl, Nat.le_of_ble_eq_true rfl⟩ (Nat.le_of_ble_eq_true rfl) rfl dX7_set_19) rfl (fun b6 => ?_)
        refine z_ifne C dX7_set_22 rfl rfl ?_ ?_
        · refine z_aload_n C 0 dX7_set_28 rfl rfl rfl ?_
          refine z_cv (fun b => b) (fun b hb => z_V (na := 0) (ci := 7) (r := (RX7, TX7, 8)) C [] rfl (mX7_lensChanges Y M b hb) rfl rfl w362 w364 w0 w79 w365 hdX7_lensChanges ⟨Nat.le_of_ble_eq_true rfl, Nat.le_of_ble_eq_true rfl⟩ (Nat.le_of_ble_eq_true rfl) rfl dX7_set_29) rfl (fun b7 => ?_)
          refine z_aload_n C 0 dX7_set_32 rfl rfl rfl ?_
          refine z_get (v := .ref 1) C 0 zOK7 rfl (by decide) w323 rfl rfl dX7_set_33 rfl ?_
          refine z_getN (v := .ref (zcl (b7.1 1 0))) C 0 zOK2 rfl (by decide) (List.mem_of_getElem? (i := 0) rfl) rfl rfl dX7_set_36 rfl ?_
          refine z_iload_n C 1 dX7_set_39 rfl rfl rfl ?_
          refine z_aaload C (zlenR (zcl (b7.1 1 0))) rfl dX7_set_40 rfl ?_
          refine z_iload_n C 2 dX7_set_41 rfl rfl rfl ?_
          refine z_iaload C (zlenI (zrow (zcl (b7.1 1 0)) x0)) rfl dX7_set_42 rfl ?_
          refine z_istore C (fun z => [(4, .int z), (0, .ref 0), (1, .int x0), (2, .int x1), (3, .int x2)]) dX7_set_43 (by decide) (fun _ => rfl) rfl (fun x8 => ?_)
          refine z_aload_n C 1 dX7_set_45 rfl rfl rfl ?_
          refine z_get (v := .ref 1) C 0 zOK7 rfl (by decide) w323 rfl rfl dX7_set_46 rfl ?_
          refine z_getN (v := .ref (zcl (b7.1 1 0))) C 0 zOK2 rfl (by decide) (List.mem_of_getElem? (i := 0) rfl) rfl rfl dX7_set_49 rfl ?_
          refine z_iload_n C 2 dX7_set_52 rfl rfl rfl ?_
          refine z_aaload C (zlenR (zcl (b7.1 1 0))) rfl dX7_set_53 rfl ?_
          refine z_iload_n C 3 dX7_set_54 rfl rfl rfl ?_
          refine z_iload_n C 4 dX7_set_55 rfl rfl rfl ?_
          refine z_iastore C (zlenI (zrow (zcl (b7.1 1 0)) x0)) rfl dX7_set_56 rfl (fun M9 => ?_)
          refine z_iload C 0 dX7_set_57 rfl rfl ?_
          exact z_iret C rfl rfl dX7_set_59
        · refine z_ldc C w379 dX7_set_25 rfl ?_
          exact z_iret C rfl rfl dX7_set_27
  exact key b hF
set_option maxRecDepth 100000 in
set_option maxHeartbeats 4000000 in
theorem mX7_drop (Y : zY) (M : zMem) (b : Int32 × zMem) (hF : FX7_drop M = some b) : zMt Y yX7_drop cX7_drop 1 (some .int) 1 20 [.ref 0] M (zQi Y b.1 b.2) := by
  refine zMt_of (own := RX7) (by decide) rfl (Nat.le_of_ble_eq_true rfl) (fun X C => ?_)
  have key : zR Y X 1 (zFi Y X (fun b => b.1) (fun b => b.2)) (FX7_drop M) 0 [(0, .ref 0)] [] M := by
    unfold FX7_drop
    refine z_aload_n C 0 dX7_drop_0 rfl rfl rfl ?_
    refine z_get (v := .ref 1) C 0 zOK7 rfl (by decide) w323 rfl rfl dX7_drop_1 rfl ?_
    refine z_getN (v := .int (M.1 1 1)) C 1 zOK2 rfl (by decide) (List.mem_of_getElem? (i := 2) rfl) rfl rfl dX7_drop_4 rfl ?_
    refine z_ifgt C dX7_drop_7 rfl rfl ?_ ?_
    · refine z_aload_n C 0 dX7_drop_13 rfl rfl rfl ?_
      refine z_cv (fun b => b) (fun b hb => z_V (na := 0) (ci := 7) (r := (RX7, TX7, 8)) C [] rfl (mX7_lensChanges Y M b hb) rfl rfl w362 w364 w0 w79 w365 hdX7_lensChanges ⟨Nat.le_of_ble_eq_true rfl, Nat.le_of_ble_eq_true rfl⟩ (Nat.le_of_ble_eq_true rfl) rfl dX7_drop_14) rfl (fun b1 => ?_)
      refine z_aload_n C 0 dX7_drop_17 rfl rfl rfl ?_
      refine z_get (v := .ref 1) C 0 zOK7 rfl (by decide) w323 rfl rfl dX7_drop_18 rfl ?_
      refine z_dup C dX7_drop_21 rfl rfl ?_
      refine z_getN (v := .int (b1.1 1 1)) C 1 zOK2 rfl (by decide) (List.mem_of_getElem? (i := 2) rfl) rfl rfl dX7_drop_22 rfl ?_
      refine z_iconst C (1 : Int32) dX7_drop_25 rfl rfl ?_
      refine z_isub C dX7_drop_26 rfl ?_
      refine z_putiN C 1 zOK2 rfl (by decide) (List.mem_of_getElem? (i := 2) rfl) rfl rfl rfl rfl rfl dX7_drop_27 rfl (fun M2 => ?_)
      refine z_aload_n C 0 dX7_drop_30 rfl rfl rfl ?_
      refine z_get (v := .ref 1) C 0 zOK7 rfl (by decide) w323 rfl rfl dX7_drop_31 rfl ?_
      refine z_getN (v := .int (M2.1 1 1)) C 1 zOK2 rfl (by decide) (List.mem_of_getElem? (i := 2) rfl) rfl rfl dX7_drop_34 rfl ?_
      exact z_iret C rfl rfl dX7_drop_37
    · refine z_bipush C (-2 : Int32) dX7_drop_10 rfl rfl ?_
      exact z_iret C rfl rfl dX7_drop_12
  exact key b hF
set_option maxRecDepth 100000 in
set_option maxHeartbeats 4000000 in
theorem mX7_field (Y : zY) (x0 : Int32) (x1 : Int32) (M : zMem) (b : Int32 × zMem) (hF : FX7_field x0 x1 M = some b) : zMt Y yX7_field cX7_field 4 (some .int) 1 22 [.ref 0, .int x0, .int x1] M (zQi Y b.1 b.2) := by
  refine zMt_of (own := RX7) (by decide) rfl (Nat.le_of_ble_eq_true rfl) (fun X C => ?_)
  have key : zR Y X 4 (zFi Y X (fun b => b.1) (fun b => b.2)) (FX7_field x0 x1 M) 0 [(0, .ref 0), (1, .int x0), (2, .int x1)] [] M := by
    unfold FX7_field
    refine z_iload_n C 1 dX7_field_0 rfl rfl rfl ?_
    refine z_iconst C (0 : Int32) dX7_field_1 rfl rfl ?_
    refine z_iconst C (1 : Int32) dX7_field_2 rfl rfl ?_
    refine z_ci (fun b => b) (fun _ => M) (fun b hb => z_S (na := 3) C [.int x0, .int (0 : Int32), .int (1 : Int32)] rfl (mX7_within Y x0 (0 : Int32) (1 : Int32) M b hb) w359 w360 w79 w361 hdX7_within ⟨Nat.le_of_ble_eq_true rfl, Nat.le_of_ble_eq_true rfl⟩ (Nat.le_of_ble_eq_true rfl) rfl dX7_field_3) rfl (fun b3 => ?_)
    refine z_ifeq C dX7_field_6 rfl rfl ?_ ?_
    · refine z_ldc C w379 dX7_field_20 rfl ?_
      exact z_iret C rfl rfl dX7_field_22
    · refine z_iload_n C 2 dX7_field_9 rfl rfl rfl ?_
      refine z_bipush C (-8 : Int32) dX7_field_10 rfl rfl ?_
      refine z_bipush C (8 : Int32) dX7_field_12 rfl rfl ?_
      refine z_ci (fun b => b) (fun _ => M) (fun b hb => z_S (na := 3) C [.int x1, .int (-8 : Int32), .int (8 : Int32)] rfl (mX7_within Y x1 (-8 : Int32) (8 : Int32) M b hb) w359 w360 w79 w361 hdX7_within ⟨Nat.le_of_ble_eq_true rfl, Nat.le_of_ble_eq_true rfl⟩ (Nat.le_of_ble_eq_true rfl) rfl dX7_field_14) rfl (fun b4 => ?_)
      refine z_ifne C dX7_field_17 rfl rfl ?_ ?_
      · refine z_aload_n C 0 dX7_field_23 rfl rfl rfl ?_
        refine z_cv (fun b => b) (fun b hb => z_V (na := 0) (ci := 7) (r := (RX7, TX7, 8)) C [] rfl (mX7_lensChanges Y M b hb) rfl rfl w362 w364 w0 w79 w365 hdX7_lensChanges ⟨Nat.le_of_ble_eq_true rfl, Nat.le_of_ble_eq_true rfl⟩ (Nat.le_of_ble_eq_true rfl) rfl dX7_field_24) rfl (fun b5 => ?_)
        refine z_iload_n C 1 dX7_field_27 rfl rfl rfl ?_
        refine z_join (fun k7 => ∀ (x6 : Int32), zR Y X 4 (zFi Y X (fun b => b.1) (fun b => b.2)) (k7 x6) 48 [(0, .ref 0), (1, .int x0), (2, .int x1)] [.int x6] b5) (fun x6 => ?_) (fun k7 hk7 => ?_)
        · refine z_istoreP_n (lo' := [(3, .int x6), (0, .ref 0), (1, .int x0), (2, .int x1)]) C dX7_field_48 rfl (by decide) rfl rfl ?_
          refine z_iload_n C 2 dX7_field_49 rfl rfl rfl ?_
          refine z_ifne C dX7_field_50 rfl rfl ?_ ?_
          · refine z_aload_n C 1 dX7_field_64 rfl rfl rfl ?_
            refine z_get (v := .ref 1) C 0 zOK7 rfl (by decide) w323 rfl rfl dX7_field_65 rfl ?_
            refine z_iload_n C 3 dX7_field_68 rfl rfl rfl ?_
            refine z_putiN C 3 zOK2 rfl (by decide) (List.mem_of_getElem? (i := 4) rfl) rfl rfl rfl rfl rfl dX7_field_69 rfl (fun M8 => ?_)
            refine z_iload_n C 0 dX7_field_72 rfl rfl rfl ?_
            exact z_iret C rfl rfl dX7_field_73
          · refine z_aload_n C 1 dX7_field_53 rfl rfl rfl ?_
            refine z_get (v := .ref 1) C 0 zOK7 rfl (by decide) w323 rfl rfl dX7_field_54 rfl ?_
            refine z_iload_n C 3 dX7_field_57 rfl rfl rfl ?_
            refine z_putiN C 2 zOK2 rfl (by decide) (List.mem_of_getElem? (i := 3) rfl) rfl rfl rfl rfl rfl dX7_field_58 rfl (fun M9 => ?_)
            refine z_goto C dX7_field_61 rfl ?_
            refine z_iload_n C 0 dX7_field_72 rfl rfl rfl ?_
            exact z_iret C rfl rfl dX7_field_73
        · refine z_ifne C dX7_field_28 rfl rfl ?_ ?_
          · refine z_aload_n C 0 dX7_field_41 rfl rfl rfl ?_
            refine z_get (v := .ref 1) C 0 zOK7 rfl (by decide) w323 rfl rfl dX7_field_42 rfl ?_
            refine z_getN (v := .int (b5.1 1 3)) C 3 zOK2 rfl (by decide) (List.mem_of_getElem? (i := 4) rfl) rfl rfl dX7_field_45 rfl ?_
            exact z_perm [0, 1, 2] rfl (hk7 (b5.1 1 3))
          · refine z_aload_n C 0 dX7_field_31 rfl rfl rfl ?_
            refine z_get (v := .ref 1) C 0 zOK7 rfl (by decide) w323 rfl rfl dX7_field_32 rfl ?_
            refine z_getN (v := .int (b5.1 1 2)) C 2 zOK2 rfl (by decide) (List.mem_of_getElem? (i := 3) rfl) rfl rfl dX7_field_35 rfl ?_
            refine z_goto C dX7_field_38 rfl ?_
            exact z_perm [0, 1, 2] rfl (hk7 (b5.1 1 2))
      · refine z_ldc C w379 dX7_field_20 rfl ?_
        exact z_iret C rfl rfl dX7_field_22
  exact key b hF
set_option maxRecDepth 100000 in
set_option maxHeartbeats 4000000 in
theorem mX7_isWithin (Y : zY) (x0 : Int32) (x1 : Int32) (x2 : Int32) (M : zMem) (b : Int32) (hF : FX7_isWithin x0 x1 x2 = some b) : zMt Y yX7_isWithin cX7_isWithin 3 (some .boolean) 1 22 [.int x0, .int x1, .int x2] M (zQi Y b M) := by
  refine zMt_of (own := RX7) (by decide) rfl (Nat.le_of_ble_eq_true rfl) (fun X C => ?_)
  have key : zR Y X 3 (zFi Y X (fun b => b) (fun _ => M)) (FX7_isWithin x0 x1 x2) 0 [(0, .int x0), (1, .int x1), (2, .int x2)] [] M := by
    unfold FX7_isWithin
    refine z_iload_n C 0 dX7_isWithin_0 rfl rfl rfl ?_
    refine z_iload_n C 2 dX7_isWithin_1 rfl rfl rfl ?_
    refine z_ineg C dX7_isWithin_2 rfl ?_
    refine z_iload_n C 2 dX7_isWithin_3 rfl rfl rfl ?_
    refine z_ci (fun b => b) (fun _ => M) (fun b hb => z_S (na := 3) C [.int x0, .int (-x2), .int x2] rfl (mX7_within Y x0 (-x2) x2 M b hb) w359 w360 w79 w361 hdX7_within ⟨Nat.le_of_ble_eq_true rfl, Nat.le_of_ble_eq_true rfl⟩ (Nat.le_of_ble_eq_true rfl) rfl dX7_isWithin_4) rfl (fun b4 => ?_)
    refine z_ifeq C dX7_isWithin_7 rfl rfl ?_ ?_
    · refine z_iconst C (0 : Int32) dX7_isWithin_24 rfl rfl ?_
      exact z_zretK C rfl rfl rfl dX7_isWithin_25
    · refine z_iload_n C 1 dX7_isWithin_10 rfl rfl rfl ?_
      refine z_iload_n C 2 dX7_isWithin_11 rfl rfl rfl ?_
      refine z_ineg C dX7_isWithin_12 rfl ?_
      refine z_iload_n C 2 dX7_isWithin_13 rfl rfl rfl ?_
      refine z_ci (fun b => b) (fun _ => M) (fun b hb => z_S (na := 3) C [.int x1, .int (-x2), .int x2] rfl (mX7_within Y x1 (-x2) x2 M b hb) w359 w360 w79 w361 hdX7_within ⟨Nat.le_of_ble_eq_true rfl, Nat.le_of_ble_eq_true rfl⟩ (Nat.le_of_ble_eq_true rfl) rfl dX7_isWithin_14) rfl (fun b5 => ?_)
      refine z_ifeq C dX7_isWithin_17 rfl rfl ?_ ?_
      · refine z_iconst C (0 : Int32) dX7_isWithin_24 rfl rfl ?_
        exact z_zretK C rfl rfl rfl dX7_isWithin_25
      · refine z_iconst C (1 : Int32) dX7_isWithin_20 rfl rfl ?_
        refine z_goto C dX7_isWithin_21 rfl ?_
        exact z_zretK C rfl rfl rfl dX7_isWithin_25
  exact key b hF
