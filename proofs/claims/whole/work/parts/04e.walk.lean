set_option maxRecDepth 100000 in
set_option maxHeartbeats 4000000 in
theorem mX8_delay (Y : zY) (x0 : Int32) (x1 : Int32) (x2 : Int32) (x3 : Int32) (x4 : Int32) (x5 : Int32) (M : zMem) (b : Int64) (hF : FX8_delay x0 x1 x2 x3 x4 x5 M = some b) : zMt Y yX8_delay cX8_delay 11 (some .long) 3 65 [.ref 100, .int x0, .int x1, .int x2, .int x3, .int x4, .int x5] M (zQl Y b M) := by
  refine zMt_of (own := RX8) (by decide) rfl (Nat.le_of_ble_eq_true rfl) (fun X C => ?_)
  have key : zR Y X 11 (zFl Y X (fun b => b) (fun _ => M)) (FX8_delay x0 x1 x2 x3 x4 x5 M) 0 [(0, .ref 100), (1, .int x0), (2, .int x1), (3, .int x2), (4, .int x3), (5, .int x4), (6, .int x5)] [] M := by
    unfold FX8_delay
    refine z_iload_n C 1 dX8_delay_0 rfl rfl rfl ?_
    refine z_iload_n C 2 dX8_delay_1 rfl rfl rfl ?_
    refine z_ci (fun b => b) (fun _ => M) (fun b hb => z_S (na := 2) C [.int x0, .int x1] rfl (mX8_isPixel Y x0 x1 M b hb) w983 w984 w88 w985 hdX8_isPixel ⟨Nat.le_of_ble_eq_true rfl, Nat.le_of_ble_eq_true rfl⟩ (Nat.le_of_ble_eq_true rfl) rfl dX8_delay_2) rfl (fun b7 => ?_)
    refine z_join (fun k9 => ∀ (u8 : Unit), zR Y X 11 (zFl Y X (fun b => b) (fun _ => M)) (k9 u8) 30 [] [] M) (fun u8 => ?_) (fun k9 hk9 => ?_)
    · refine z_ldc2 C w1028 dX8_delay_30 rfl ?_
      exact z_lret C rfl rfl dX8_delay_33
    · refine z_ifeq C dX8_delay_5 rfl rfl ?_ ?_
      · exact z_perm [] rfl (hk9 ())
      · refine z_iload_n C 3 dX8_delay_8 rfl rfl rfl ?_
        refine z_iload C 4 dX8_delay_9 rfl rfl ?_
        refine z_ci (fun b => b) (fun _ => M) (fun b hb => z_S (na := 2) C [.int x2, .int x3] rfl (mX8_isPixel Y x2 x3 M b hb) w983 w984 w88 w985 hdX8_isPixel ⟨Nat.le_of_ble_eq_true rfl, Nat.le_of_ble_eq_true rfl⟩ (Nat.le_of_ble_eq_true rfl) rfl dX8_delay_11) rfl (fun b10 => ?_)
        refine z_ifeq C dX8_delay_14 rfl rfl ?_ ?_
        · exact z_perm [] rfl (hk9 ())
        · refine z_iload C 5 dX8_delay_17 rfl rfl ?_
          refine z_iload C 6 dX8_delay_19 rfl rfl ?_
          refine z_sipush C (2000 : Int32) dX8_delay_21 rfl rfl ?_
          refine z_ci (fun b => b) (fun _ => M) (fun b hb => z_S (na := 3) C [.int x4, .int x5, .int (2000 : Int32)] rfl (mX8_isNear Y x4 x5 (2000 : Int32) M b hb) w899 w900 w88 w901 hdX8_isNear ⟨Nat.le_of_ble_eq_true rfl, Nat.le_of_ble_eq_true rfl⟩ (Nat.le_of_ble_eq_true rfl) rfl dX8_delay_24) rfl (fun b11 => ?_)
          refine z_ifne C dX8_delay_27 rfl rfl ?_ ?_
          · refine z_lconst C (0 : Int64) dX8_delay_34 rfl rfl ?_
            refine z_lstore C (fun z => [(7, .long z), (0, .ref 100), (1, .int x0), (2, .int x1), (3, .int x2), (4, .int x3), (5, .int x4), (6, .int x5)]) dX8_delay_35 (by decide) (fun _ => rfl) rfl (fun y12 => ?_)
            refine z_iload_n C 4 dX8_delay_37 rfl rfl rfl ?_
            refine z_iload_n C 2 dX8_delay_38 rfl rfl rfl ?_
            refine z_join (fun k14 => ∀ (x13 : Int32), zR Y X 11 (zFl Y X (fun b => b) (fun _ => M)) (k14 x13) 47 [(0, .ref 100), (1, .int x0), (2, .int x1), (3, .int x2), (4, .int x3), (5, .int x4), (6, .int x5), (7, .long y12)] [.int x13] M) (fun x13 => ?_) (fun k14 hk14 => ?_)
            · refine z_istoreP (lo' := [(9, .int x13), (0, .ref 100), (1, .int x0), (2, .int x1), (3, .int x2), (4, .int x3), (5, .int x4), (6, .int x5), (7, .long y12)]) C dX8_delay_47 (by decide) rfl rfl ?_
              refine z_iload_n C 2 dX8_delay_49 rfl rfl rfl ?_
              refine z_istoreP (lo' := [(10, .int x0), (9, .int x13), (0, .ref 100), (1, .int x0), (2, .int x1), (3, .int x2), (4, .int x3), (5, .int x4), (6, .int x5), (7, .long y12)]) C dX8_delay_50 (by decide) rfl rfl ?_
              refine z_loop (sM := fun s => M) (sl := fun s => [(0, .ref 100), (2, .int x1), (3, .int x2), (4, .int x3), (5, .int x4), (6, .int x5), (7, .long s.1), (9, .int x13), (10, .int s.2)]) [2, 4, 5, 6, 7, 8, 9, 1, 0] rfl rfl (fun r15 hr15 s16 => ?_)
              unfold FX8_delay_L52
              refine z_iload C 8 dX8_delay_52 rfl rfl ?_
              refine z_iload_n C 2 dX8_delay_54 rfl rfl rfl ?_
              refine z_icmpeq C dX8_delay_55 rfl rfl ?_ ?_
              · refine z_iload C 3 dX8_delay_107 rfl rfl ?_
                refine z_iload_n C 1 dX8_delay_109 rfl rfl rfl ?_
                refine z_join (fun k18 => ∀ (x17 : Int32), zR Y X 11 (zFl Y X (fun b => b) (fun _ => M)) (k18 x17) 118 [(0, .ref 100), (2, .int x1), (3, .int x2), (4, .int x3), (6, .int x5), (7, .long s16.1)] [.int x17] M) (fun x17 => ?_) (fun k18 hk18 => ?_)
                · refine z_istoreP (lo' := [(9, .int x17), (0, .ref 100), (2, .int x1), (3, .int x2), (4, .int x3), (6, .int x5), (7, .long s16.1)]) C dX8_delay_118 (by decide) rfl rfl ?_
                  refine z_iload_n C 2 dX8_delay_120 rfl rfl rfl ?_
                  refine z_istoreP (lo' := [(10, .int x1), (9, .int x17), (0, .ref 100), (2, .int x1), (3, .int x2), (4, .int x3), (6, .int x5), (7, .long s16.1)]) C dX8_delay_121 (by decide) rfl rfl ?_
                  refine z_loop (sM := fun s => M) (sl := fun s => [(0, .ref 100), (3, .int x2), (4, .int x3), (6, .int x5), (7, .long s.1), (9, .int x17), (10, .int s.2)]) [2, 4, 5, 6, 7, 1, 0] rfl rfl (fun r19 hr19 s20 => ?_)
                  unfold FX8_delay_L123
                  refine z_iload C 6 dX8_delay_123 rfl rfl ?_
                  refine z_iload C 2 dX8_delay_125 rfl rfl ?_
                  refine z_icmpeq C dX8_delay_127 rfl rfl ?_ ?_
                  · refine z_lload C 4 dX8_delay_179 rfl rfl ?_
                    exact z_lret C rfl rfl dX8_delay_181
                  · refine z_lload C 4 dX8_delay_130 rfl rfl ?_
                    refine z_iload C 5 dX8_delay_132 rfl rfl ?_
                    refine z_i2l C dX8_delay_134 rfl ?_
                    refine z_aload_n C 0 dX8_delay_135 rfl rfl rfl ?_
                    refine z_iload_n C 1 dX8_delay_136 rfl rfl rfl ?_
                    refine z_iload C 6 dX8_delay_137 rfl rfl ?_
                    refine z_iconst C (1 : Int32) dX8_delay_139 rfl rfl ?_
                    refine z_ci (fun b => b) (fun _ => M) (fun b hb => z_V (na := 3) (ci := 8) (r := (RX8, TX8, 34)) C [.int x2, .int s20.2, .int (1 : Int32)] rfl (mX8_fromOf Y x2 s20.2 (1 : Int32) M b hb) rfl rfl w936 w938 w51 w88 w939 hdX8_fromOf ⟨Nat.le_of_ble_eq_true rfl, Nat.le_of_ble_eq_true rfl⟩ (Nat.le_of_ble_eq_true rfl) rfl dX8_delay_140) rfl (fun b21 => ?_)
                    refine z_i2l C dX8_delay_143 rfl ?_
                    refine z_aload_n C 0 dX8_delay_144 rfl rfl rfl ?_
                    refine z_iload_n C 1 dX8_delay_145 rfl rfl rfl ?_
                    refine z_iload C 6 dX8_delay_146 rfl rfl ?_
                    refine z_iload C 5 dX8_delay_148 rfl rfl ?_
                    refine z_iadd C dX8_delay_150 rfl ?_
                    refine z_iconst C (1 : Int32) dX8_delay_151 rfl rfl ?_
                    refine z_ci (fun b => b) (fun _ => M) (fun b hb => z_V (na := 3) (ci := 8) (r := (RX8, TX8, 34)) C [.int x2, .int (s20.2 + x17), .int (1 : Int32)] rfl (mX8_fromOf Y x2 (s20.2 + x17) (1 : Int32) M b hb) rfl rfl w936 w938 w51 w88 w939 hdX8_fromOf ⟨Nat.le_of_ble_eq_true rfl, Nat.le_of_ble_eq_true rfl⟩ (Nat.le_of_ble_eq_true rfl) rfl dX8_delay_152) rfl (fun b22 => ?_)
                    refine z_i2l C dX8_delay_155 rfl ?_
                    refine z_ladd C dX8_delay_156 rfl ?_
                    refine z_ldc2 C w1029 dX8_delay_157 rfl ?_
                    refine z_iload C 3 dX8_delay_160 rfl rfl ?_
                    refine z_i2l C dX8_delay_162 rfl ?_
                    refine z_lmul C dX8_delay_163 rfl ?_
                    refine z_lsub C dX8_delay_164 rfl ?_
                    refine z_lmul C dX8_delay_165 rfl ?_
                    refine z_ladd C dX8_delay_166 rfl ?_
                    refine z_lstore C (fun z => [(7, .long z), (0, .ref 100), (3, .int x2), (4, .int x3), (6, .int x5), (9, .int x17), (10, .int s20.2)]) dX8_delay_167 (by decide) (fun _ => rfl) rfl (fun y23 => ?_)
                    refine z_iload C 6 dX8_delay_169 rfl rfl ?_
                    refine z_iload C 5 dX8_delay_171 rfl rfl ?_
                    refine z_iadd C dX8_delay_173 rfl ?_
                    refine z_istore C (fun z => [(10, .int z), (7, .long y23), (0, .ref 100), (3, .int x2), (4, .int x3), (6, .int x5), (9, .int x17)]) dX8_delay_174 (by decide) (fun _ => rfl) rfl (fun x24 => ?_)
                    refine z_goto C dX8_delay_176 rfl ?_
                    exact z_perm [2, 3, 4, 5, 1, 6, 0] rfl (hr19 (y23, x24))
                · refine z_icmple C dX8_delay_110 rfl rfl ?_ ?_
                  · refine z_iconst C (-1 : Int32) dX8_delay_117 rfl rfl ?_
                    exact z_perm [0, 1, 2, 3, 5, 6] rfl (hk18 (-1 : Int32))
                  · refine z_iconst C (1 : Int32) dX8_delay_113 rfl rfl ?_
                    refine z_goto C dX8_delay_114 rfl ?_
                    exact z_perm [0, 1, 2, 3, 5, 6] rfl (hk18 (1 : Int32))
              · refine z_lload C 6 dX8_delay_58 rfl rfl ?_
                refine z_iload C 7 dX8_delay_60 rfl rfl ?_
                refine z_i2l C dX8_delay_62 rfl ?_
                refine z_aload_n C 0 dX8_delay_63 rfl rfl rfl ?_
                refine z_iload C 8 dX8_delay_64 rfl rfl ?_
                refine z_iload_n C 1 dX8_delay_66 rfl rfl rfl ?_
                refine z_iconst C (0 : Int32) dX8_delay_67 rfl rfl ?_
                refine z_ci (fun b => b) (fun _ => M) (fun b hb => z_V (na := 3) (ci := 8) (r := (RX8, TX8, 34)) C [.int s16.2, .int x1, .int (0 : Int32)] rfl (mX8_fromOf Y s16.2 x1 (0 : Int32) M b hb) rfl rfl w936 w938 w51 w88 w939 hdX8_fromOf ⟨Nat.le_of_ble_eq_true rfl, Nat.le_of_ble_eq_true rfl⟩ (Nat.le_of_ble_eq_true rfl) rfl dX8_delay_68) rfl (fun b25 => ?_)
                refine z_i2l C dX8_delay_71 rfl ?_
                refine z_aload_n C 0 dX8_delay_72 rfl rfl rfl ?_
                refine z_iload C 8 dX8_delay_73 rfl rfl ?_
                refine z_iload C 7 dX8_delay_75 rfl rfl ?_
                refine z_iadd C dX8_delay_77 rfl ?_
                refine z_iload_n C 1 dX8_delay_78 rfl rfl rfl ?_
                refine z_iconst C (0 : Int32) dX8_delay_79 rfl rfl ?_
                refine z_ci (fun b => b) (fun _ => M) (fun b hb => z_V (na := 3) (ci := 8) (r := (RX8, TX8, 34)) C [.int (s16.2 + x13), .int x1, .int (0 : Int32)] rfl (mX8_fromOf Y (s16.2 + x13) x1 (0 : Int32) M b hb) rfl rfl w936 w938 w51 w88 w939 hdX8_fromOf ⟨Nat.le_of_ble_eq_true rfl, Nat.le_of_ble_eq_true rfl⟩ (Nat.le_of_ble_eq_true rfl) rfl dX8_delay_80) rfl (fun b26 => ?_)
                refine z_i2l C dX8_delay_83 rfl ?_
                refine z_ladd C dX8_delay_84 rfl ?_
                refine z_ldc2 C w1029 dX8_delay_85 rfl ?_
                refine z_iload C 4 dX8_delay_88 rfl rfl ?_
                refine z_i2l C dX8_delay_90 rfl ?_
                refine z_lmul C dX8_delay_91 rfl ?_
                refine z_lsub C dX8_delay_92 rfl ?_
                refine z_lmul C dX8_delay_93 rfl ?_
                refine z_ladd C dX8_delay_94 rfl ?_
                refine z_lstore C (fun z => [(7, .long z), (0, .ref 100), (2, .int x1), (3, .int x2), (4, .int x3), (5, .int x4), (6, .int x5), (9, .int x13), (10, .int s16.2)]) dX8_delay_95 (by decide) (fun _ => rfl) rfl (fun y27 => ?_)
                refine z_iload C 8 dX8_delay_97 rfl rfl ?_
                refine z_iload C 7 dX8_delay_99 rfl rfl ?_
                refine z_iadd C dX8_delay_101 rfl ?_
                refine z_istore C (fun z => [(10, .int z), (7, .long y27), (0, .ref 100), (2, .int x1), (3, .int x2), (4, .int x3), (5, .int x4), (6, .int x5), (9, .int x13)]) dX8_delay_102 (by decide) (fun _ => rfl) rfl (fun x28 => ?_)
                refine z_goto C dX8_delay_104 rfl ?_
                exact z_perm [2, 3, 4, 5, 6, 7, 1, 8, 0] rfl (hr15 (y27, x28))
            · refine z_icmple C dX8_delay_39 rfl rfl ?_ ?_
              · refine z_iconst C (-1 : Int32) dX8_delay_46 rfl rfl ?_
                exact z_perm [1, 2, 3, 4, 5, 6, 7, 0] rfl (hk14 (-1 : Int32))
              · refine z_iconst C (1 : Int32) dX8_delay_42 rfl rfl ?_
                refine z_goto C dX8_delay_43 rfl ?_
                exact z_perm [1, 2, 3, 4, 5, 6, 7, 0] rfl (hk14 (1 : Int32))
          · exact z_perm [] rfl (hk9 ())
  exact key b hF
set_option maxRecDepth 100000 in
set_option maxHeartbeats 4000000 in
theorem mX8_stretch (Y : zY) (x0 : Int32) (M : zMem) (b : Int32 × zMem) (hF : FX8_stretch x0 M = some b) : zMt Y yX8_stretch cX8_stretch 14 (some .int) 3 77 [.ref 100, .int x0] M (zQi Y b.1 b.2) := by
  refine zMt_of (own := RX8) (by decide) rfl (Nat.le_of_ble_eq_true rfl) (fun X C => ?_)
  have key : zR Y X 14 (zFi Y X (fun b => b.1) (fun b => b.2)) (FX8_stretch x0 M) 0 [(0, .ref 100), (1, .int x0)] [] M := by
    unfold FX8_stretch
    refine z_iload_n C 1 dX8_stretch_0 rfl rfl rfl ?_
    refine z_iconst C (1 : Int32) dX8_stretch_1 rfl rfl ?_
    refine z_bipush C (24 : Int32) dX8_stretch_2 rfl rfl ?_
    refine z_ci (fun b => b) (fun _ => M) (fun b hb => z_S (na := 3) C [.int x0, .int (1 : Int32), .int (24 : Int32)] rfl (mX8_in Y x0 (1 : Int32) (24 : Int32) M b hb) w896 w897 w88 w898 hdX8_in ⟨Nat.le_of_ble_eq_true rfl, Nat.le_of_ble_eq_true rfl⟩ (Nat.le_of_ble_eq_true rfl) rfl dX8_stretch_4) rfl (fun b2 => ?_)
    refine z_ifne C dX8_stretch_7 rfl rfl ?_ ?_
    · refine z_aload_n C 0 dX8_stretch_13 rfl rfl rfl ?_
      refine z_cv (fun b => b) (fun b hb => z_V (na := 0) (ci := 8) (r := (RX8, TX8, 34)) C [] rfl (mX8_findPlane Y M b hb) rfl rfl w960 w962 w54 w88 w963 hdX8_findPlane ⟨Nat.le_of_ble_eq_true rfl, Nat.le_of_ble_eq_true rfl⟩ (Nat.le_of_ble_eq_true rfl) rfl dX8_stretch_14) rfl (fun b3 => ?_)
      refine z_lconst C (0 : Int64) dX8_stretch_17 rfl rfl ?_
      refine z_lstore_n C (fun z => [(2, .long z), (0, .ref 100), (1, .int x0)]) dX8_stretch_18 rfl (by decide) (fun _ => rfl) rfl (fun y4 => ?_)
      refine z_iload_n C 2 dX8_stretch_19 rfl rfl rfl ?_
      refine z_ineg C dX8_stretch_20 rfl ?_
      refine z_istore C (fun z => [(4, .int z), (2, .long y4), (0, .ref 100), (1, .int x0)]) dX8_stretch_21 (by decide) (fun _ => rfl) rfl (fun x5 => ?_)
      refine z_loop (sM := fun s => b3) (sl := fun s => [(0, .ref 100), (1, .int x0), (2, .long s.1), (4, .int s.2)]) [2, 3, 1, 0] rfl rfl (fun r6 hr6 s7 => ?_)
      unfold FX8_stretch_L23
      refine z_iload C 3 dX8_stretch_23 rfl rfl ?_
      refine z_iload_n C 1 dX8_stretch_25 rfl rfl rfl ?_
      refine z_icmpgt C dX8_stretch_26 rfl rfl ?_ ?_
      · refine z_lload_n C 2 dX8_stretch_244 rfl rfl rfl ?_
        refine z_sipush C (128 : Int32) dX8_stretch_245 rfl rfl ?_
        refine z_ci (fun b => b) (fun _ => b3) (fun b hb => z_S (na := 2) C [.long s7.1, .int (128 : Int32)] rfl (mX8_floored Y s7.1 (128 : Int32) b3 b hb) w949 w950 w88 w951 hdX8_floored ⟨Nat.le_of_ble_eq_true rfl, Nat.le_of_ble_eq_true rfl⟩ (Nat.le_of_ble_eq_true rfl) rfl dX8_stretch_248) rfl (fun b8 => ?_)
        exact z_iret C rfl rfl dX8_stretch_251
      · refine z_iload_n C 1 dX8_stretch_29 rfl rfl rfl ?_
        refine z_ineg C dX8_stretch_30 rfl ?_
        refine z_istore C (fun z => [(5, .int z), (0, .ref 100), (1, .int x0), (2, .long s7.1), (4, .int s7.2)]) dX8_stretch_31 (by decide) (fun _ => rfl) rfl (fun x9 => ?_)
        refine z_loop (sM := fun s => b3) (sl := fun s => [(0, .ref 100), (1, .int x0), (2, .long s.1), (4, .int s7.2), (5, .int s.2)]) [1, 2, 3, 4, 0] rfl rfl (fun r10 hr10 s11 => ?_)
        unfold FX8_stretch_L33
        refine z_iload C 4 dX8_stretch_33 rfl rfl ?_
        refine z_iload_n C 1 dX8_stretch_35 rfl rfl rfl ?_
        refine z_icmpgt C dX8_stretch_36 rfl rfl ?_ ?_
        · refine z_iinc (v := (s7.2 + (1 : Int32))) C 3 (fun z => [(4, .int z), (0, .ref 100), (1, .int x0), (2, .long s11.1), (5, .int s11.2)]) dX8_stretch_238 rfl rfl (by decide) (fun _ => rfl) rfl (fun x12 => ?_)
          refine z_goto C dX8_stretch_241 rfl ?_
          exact z_perm [1, 2, 3, 0] rfl (hr6 (s11.1, x12))
        · refine z_iload C 4 dX8_stretch_39 rfl rfl ?_
          refine z_iload_n C 1 dX8_stretch_41 rfl rfl rfl ?_
          refine z_join (fun k14 => ∀ (u13 : Unit), zR Y X 14 (zFi Y X (fun b => b.1) (fun b => b.2)) (k14 u13) 65 [(0, .ref 100), (1, .int x0), (2, .long s11.1), (4, .int s7.2), (5, .int s11.2)] [] b3) (fun u13 => ?_) (fun k14 hk14 => ?_)
          · refine z_aload_n C 0 dX8_stretch_65 rfl rfl rfl ?_
            refine z_get (v := .ref 107) C 15 zOK8 rfl (by decide) w803 rfl rfl dX8_stretch_66 rfl ?_
            refine z_iload C 4 dX8_stretch_69 rfl rfl ?_
            refine z_iconst C (1 : Int32) dX8_stretch_71 rfl rfl ?_
            refine z_iadd C dX8_stretch_72 rfl ?_
            refine z_iload C 3 dX8_stretch_73 rfl rfl ?_
            refine z_ci (fun b => b) (fun _ => b3) (fun b hb => z_S (na := 2) C [.int (s11.2 + (1 : Int32)), .int s7.2] rfl (mX8_at Y (s11.2 + (1 : Int32)) s7.2 b3 b hb) w964 w965 w88 w966 hdX8_at ⟨Nat.le_of_ble_eq_true rfl, Nat.le_of_ble_eq_true rfl⟩ (Nat.le_of_ble_eq_true rfl) rfl dX8_stretch_75) rfl (fun b15 => ?_)
            refine z_iaload C 2601 rfl dX8_stretch_78 rfl ?_
            refine z_aload_n C 0 dX8_stretch_79 rfl rfl rfl ?_
            refine z_get (v := .ref 107) C 15 zOK8 rfl (by decide) w803 rfl rfl dX8_stretch_80 rfl ?_
            refine z_iload C 4 dX8_stretch_83 rfl rfl ?_
            refine z_iconst C (1 : Int32) dX8_stretch_85 rfl rfl ?_
            refine z_isub C dX8_stretch_86 rfl ?_
            refine z_iload C 3 dX8_stretch_87 rfl rfl ?_
            refine z_ci (fun b => b) (fun _ => b3) (fun b hb => z_S (na := 2) C [.int (s11.2 - (1 : Int32)), .int s7.2] rfl (mX8_at Y (s11.2 - (1 : Int32)) s7.2 b3 b hb) w964 w965 w88 w966 hdX8_at ⟨Nat.le_of_ble_eq_true rfl, Nat.le_of_ble_eq_true rfl⟩ (Nat.le_of_ble_eq_true rfl) rfl dX8_stretch_89) rfl (fun b16 => ?_)
            refine z_iaload C 2601 rfl dX8_stretch_92 rfl ?_
            refine z_isub C dX8_stretch_93 rfl ?_
            refine z_i2l C dX8_stretch_94 rfl ?_
            refine z_lstore C (fun z => [(6, .long z), (0, .ref 100), (1, .int x0), (2, .long s11.1), (4, .int s7.2), (5, .int s11.2)]) dX8_stretch_95 (by decide) (fun _ => rfl) rfl (fun y17 => ?_)
            refine z_aload_n C 1 dX8_stretch_97 rfl rfl rfl ?_
            refine z_get (v := .ref 108) C 16 zOK8 rfl (by decide) w804 rfl rfl dX8_stretch_98 rfl ?_
            refine z_iload C 5 dX8_stretch_101 rfl rfl ?_
            refine z_iconst C (1 : Int32) dX8_stretch_103 rfl rfl ?_
            refine z_iadd C dX8_stretch_104 rfl ?_
            refine z_iload C 4 dX8_stretch_105 rfl rfl ?_
            refine z_ci (fun b => b) (fun _ => b3) (fun b hb => z_S (na := 2) C [.int (s11.2 + (1 : Int32)), .int s7.2] rfl (mX8_at Y (s11.2 + (1 : Int32)) s7.2 b3 b hb) w964 w965 w88 w966 hdX8_at ⟨Nat.le_of_ble_eq_true rfl, Nat.le_of_ble_eq_true rfl⟩ (Nat.le_of_ble_eq_true rfl) rfl dX8_stretch_107) rfl (fun b18 => ?_)
            refine z_iaload C 2601 rfl dX8_stretch_110 rfl ?_
            refine z_aload_n C 1 dX8_stretch_111 rfl rfl rfl ?_
            refine z_get (v := .ref 108) C 16 zOK8 rfl (by decide) w804 rfl rfl dX8_stretch_112 rfl ?_
            refine z_iload C 5 dX8_stretch_115 rfl rfl ?_
            refine z_iconst C (1 : Int32) dX8_stretch_117 rfl rfl ?_
            refine z_isub C dX8_stretch_118 rfl ?_
            refine z_iload C 4 dX8_stretch_119 rfl rfl ?_
            refine z_ci (fun b => b) (fun _ => b3) (fun b hb => z_S (na := 2) C [.int (s11.2 - (1 : Int32)), .int s7.2] rfl (mX8_at Y (s11.2 - (1 : Int32)) s7.2 b3 b hb) w964 w965 w88 w966 hdX8_at ⟨Nat.le_of_ble_eq_true rfl, Nat.le_of_ble_eq_true rfl⟩ (Nat.le_of_ble_eq_true rfl) rfl dX8_stretch_121) rfl (fun b19 => ?_)
            refine z_iaload C 2601 rfl dX8_stretch_124 rfl ?_
            refine z_isub C dX8_stretch_125 rfl ?_
            refine z_i2l C dX8_stretch_126 rfl ?_
            refine z_lstore C (fun z => [(8, .long z), (6, .long y17), (0, .ref 100), (1, .int x0), (2, .long s11.1), (4, .int s7.2), (5, .int s11.2)]) dX8_stretch_127 (by decide) (fun _ => rfl) rfl (fun y20 => ?_)
            refine z_aload_n C 2 dX8_stretch_129 rfl rfl rfl ?_
            refine z_get (v := .ref 107) C 15 zOK8 rfl (by decide) w803 rfl rfl dX8_stretch_130 rfl ?_
            refine z_iload C 6 dX8_stretch_133 rfl rfl ?_
            refine z_iload C 5 dX8_stretch_135 rfl rfl ?_
            refine z_iconst C (1 : Int32) dX8_stretch_137 rfl rfl ?_
            refine z_iadd C dX8_stretch_138 rfl ?_
            refine z_ci (fun b => b) (fun _ => b3) (fun b hb => z_S (na := 2) C [.int s11.2, .int (s7.2 + (1 : Int32))] rfl (mX8_at Y s11.2 (s7.2 + (1 : Int32)) b3 b hb) w964 w965 w88 w966 hdX8_at ⟨Nat.le_of_ble_eq_true rfl, Nat.le_of_ble_eq_true rfl⟩ (Nat.le_of_ble_eq_true rfl) rfl dX8_stretch_139) rfl (fun b21 => ?_)
            refine z_iaload C 2601 rfl dX8_stretch_142 rfl ?_
            refine z_aload_n C 2 dX8_stretch_143 rfl rfl rfl ?_
            refine z_get (v := .ref 107) C 15 zOK8 rfl (by decide) w803 rfl rfl dX8_stretch_144 rfl ?_
            refine z_iload C 6 dX8_stretch_147 rfl rfl ?_
            refine z_iload C 5 dX8_stretch_149 rfl rfl ?_
            refine z_iconst C (1 : Int32) dX8_stretch_151 rfl rfl ?_
            refine z_isub C dX8_stretch_152 rfl ?_
            refine z_ci (fun b => b) (fun _ => b3) (fun b hb => z_S (na := 2) C [.int s11.2, .int (s7.2 - (1 : Int32))] rfl (mX8_at Y s11.2 (s7.2 - (1 : Int32)) b3 b hb) w964 w965 w88 w966 hdX8_at ⟨Nat.le_of_ble_eq_true rfl, Nat.le_of_ble_eq_true rfl⟩ (Nat.le_of_ble_eq_true rfl) rfl dX8_stretch_153) rfl (fun b22 => ?_)
            refine z_iaload C 2601 rfl dX8_stretch_156 rfl ?_
            refine z_isub C dX8_stretch_157 rfl ?_
            refine z_i2l C dX8_stretch_158 rfl ?_
            refine z_lstore C (fun z => [(10, .long z), (8, .long y20), (6, .long y17), (0, .ref 100), (1, .int x0), (2, .long s11.1), (4, .int s7.2), (5, .int s11.2)]) dX8_stretch_159 (by decide) (fun _ => rfl) rfl (fun y23 => ?_)
            refine z_aload_n C 3 dX8_stretch_161 rfl rfl rfl ?_
            refine z_get (v := .ref 108) C 16 zOK8 rfl (by decide) w804 rfl rfl dX8_stretch_162 rfl ?_
            refine z_iload C 7 dX8_stretch_165 rfl rfl ?_
            refine z_iload C 6 dX8_stretch_167 rfl rfl ?_
            refine z_iconst C (1 : Int32) dX8_stretch_169 rfl rfl ?_
            refine z_iadd C dX8_stretch_170 rfl ?_
            refine z_ci (fun b => b) (fun _ => b3) (fun b hb => z_S (na := 2) C [.int s11.2, .int (s7.2 + (1 : Int32))] rfl (mX8_at Y s11.2 (s7.2 + (1 : Int32)) b3 b hb) w964 w965 w88 w966 hdX8_at ⟨Nat.le_of_ble_eq_true rfl, Nat.le_of_ble_eq_true rfl⟩ (Nat.le_of_ble_eq_true rfl) rfl dX8_stretch_171) rfl (fun b24 => ?_)
            refine z_iaload C 2601 rfl dX8_stretch_174 rfl ?_
            refine z_aload_n C 3 dX8_stretch_175 rfl rfl rfl ?_
            refine z_get (v := .ref 108) C 16 zOK8 rfl (by decide) w804 rfl rfl dX8_stretch_176 rfl ?_
            refine z_iload C 7 dX8_stretch_179 rfl rfl ?_
            refine z_iload C 6 dX8_stretch_181 rfl rfl ?_
            refine z_iconst C (1 : Int32) dX8_stretch_183 rfl rfl ?_
            refine z_isub C dX8_stretch_184 rfl ?_
            refine z_ci (fun b => b) (fun _ => b3) (fun b hb => z_S (na := 2) C [.int s11.2, .int (s7.2 - (1 : Int32))] rfl (mX8_at Y s11.2 (s7.2 - (1 : Int32)) b3 b hb) w964 w965 w88 w966 hdX8_at ⟨Nat.le_of_ble_eq_true rfl, Nat.le_of_ble_eq_true rfl⟩ (Nat.le_of_ble_eq_true rfl) rfl dX8_stretch_185) rfl (fun b25 => ?_)
            refine z_iaload C 2601 rfl dX8_stretch_188 rfl ?_
            refine z_isub C dX8_stretch_189 rfl ?_
            refine z_i2l C dX8_stretch_190 rfl ?_
            refine z_lstore C (fun z => [(12, .long z), (10, .long y23), (8, .long y20), (6, .long y17), (0, .ref 100), (1, .int x0), (2, .long s11.1), (4, .int s7.2), (5, .int s11.2)]) dX8_stretch_191 (by decide) (fun _ => rfl) rfl (fun y26 => ?_)
            refine z_lload_n C 6 dX8_stretch_193 rfl rfl rfl ?_
            refine z_ldc2 C w1029 dX8_stretch_194 rfl ?_
            refine z_lload C 2 dX8_stretch_197 rfl rfl ?_
            refine z_lload C 1 dX8_stretch_199 rfl rfl ?_
            refine z_ladd C dX8_stretch_201 rfl ?_
            refine z_lmul C dX8_stretch_202 rfl ?_
            refine z_iload C 8 dX8_stretch_203 rfl rfl ?_
            refine z_i2l C dX8_stretch_205 rfl ?_
            refine z_lmul C dX8_stretch_206 rfl ?_
            refine z_iload C 7 dX8_stretch_207 rfl rfl ?_
            refine z_i2l C dX8_stretch_209 rfl ?_
            refine z_lmul C dX8_stretch_210 rfl ?_
            refine z_lload C 3 dX8_stretch_211 rfl rfl ?_
            refine z_lload C 0 dX8_stretch_213 rfl rfl ?_
            refine z_lsub C dX8_stretch_215 rfl ?_
            refine z_iload C 8 dX8_stretch_216 rfl rfl ?_
            refine z_iload C 8 dX8_stretch_218 rfl rfl ?_
            refine z_imul C dX8_stretch_220 rfl ?_
            refine z_iload C 7 dX8_stretch_221 rfl rfl ?_
            refine z_iload C 7 dX8_stretch_223 rfl rfl ?_
            refine z_imul C dX8_stretch_225 rfl ?_
            refine z_isub C dX8_stretch_226 rfl ?_
            refine z_i2l C dX8_stretch_227 rfl ?_
            refine z_lmul C dX8_stretch_228 rfl ?_
            refine z_lsub C dX8_stretch_229 rfl ?_
            refine z_ladd C dX8_stretch_230 rfl ?_
            refine z_lstore_n C (fun z => [(2, .long z), (12, .long y26), (10, .long y23), (8, .long y20), (6, .long y17), (0, .ref 100), (1, .int x0), (4, .int s7.2), (5, .int s11.2)]) dX8_stretch_231 rfl (by decide) (fun _ => rfl) rfl (fun y27 => ?_)
            refine z_iinc (v := (s11.2 + (1 : Int32))) C 8 (fun z => [(5, .int z), (2, .long y27), (12, .long y26), (10, .long y23), (8, .long y20), (6, .long y17), (0, .ref 100), (1, .int x0), (4, .int s7.2)]) dX8_stretch_232 rfl rfl (by decide) (fun _ => rfl) rfl (fun x28 => ?_)
            refine z_goto C dX8_stretch_235 rfl ?_
            exact z_perm [6, 7, 1, 8, 0] rfl (hr10 (y27, x28))
          · refine z_icmpeq C dX8_stretch_42 rfl rfl ?_ ?_
            · exact z_perm [0, 1, 2, 3, 4] rfl (hk14 ())
            · refine z_iload C 4 dX8_stretch_45 rfl rfl ?_
              refine z_iload_n C 1 dX8_stretch_47 rfl rfl rfl ?_
              refine z_ineg C dX8_stretch_48 rfl ?_
              refine z_icmpeq C dX8_stretch_49 rfl rfl ?_ ?_
              · exact z_perm [0, 1, 2, 3, 4] rfl (hk14 ())
              · refine z_iload C 3 dX8_stretch_52 rfl rfl ?_
                refine z_iload_n C 1 dX8_stretch_54 rfl rfl rfl ?_
                refine z_icmpeq C dX8_stretch_55 rfl rfl ?_ ?_
                · exact z_perm [0, 1, 2, 3, 4] rfl (hk14 ())
                · refine z_iload C 3 dX8_stretch_58 rfl rfl ?_
                  refine z_iload_n C 1 dX8_stretch_60 rfl rfl rfl ?_
                  refine z_ineg C dX8_stretch_61 rfl ?_
                  refine z_icmpne C dX8_stretch_62 rfl rfl ?_ ?_
                  · refine z_iinc (v := (s11.2 + (1 : Int32))) C 4 (fun z => [(5, .int z), (0, .ref 100), (1, .int x0), (2, .long s11.1), (4, .int s7.2)]) dX8_stretch_232 rfl rfl (by decide) (fun _ => rfl) rfl (fun x29 => ?_)
                    refine z_goto C dX8_stretch_235 rfl ?_
                    exact z_perm [1, 2, 3, 4, 0] rfl (hr10 (s11.1, x29))
                  · exact z_perm [0, 1, 2, 3, 4] rfl (hk14 ())
    · refine z_ldc C w913 dX8_stretch_10 rfl ?_
      exact z_iret C rfl rfl dX8_stretch_12
  exact key b hF
set_option maxRecDepth 100000 in
set_option maxHeartbeats 4000000 in
theorem mX8_type (Y : zY) (y0 : Int64) (x1 : Int32) (M : zMem) (b : Int32 × zMem) (hF : FX8_type y0 x1 M = some b) : zMt Y yX8_type cX8_type 5 (some .int) 1 22 [.ref 100, .long y0, .int x1] M (zQi Y b.1 b.2) := by
  refine zMt_of (own := RX8) (by decide) rfl (Nat.le_of_ble_eq_true rfl) (fun X C => ?_)
  have key : zR Y X 5 (zFi Y X (fun b => b.1) (fun b => b.2)) (FX8_type y0 x1 M) 0 [(0, .ref 100), (1, .long y0), (3, .int x1)] [] M := by
    unfold FX8_type
    refine z_iload_n C 2 dX8_type_0 rfl rfl rfl ?_
    refine z_iconst C (1 : Int32) dX8_type_1 rfl rfl ?_
    refine z_bipush C (8 : Int32) dX8_type_2 rfl rfl ?_
    refine z_ci (fun b => b) (fun _ => M) (fun b hb => z_S (na := 3) C [.int x1, .int (1 : Int32), .int (8 : Int32)] rfl (mX8_in Y x1 (1 : Int32) (8 : Int32) M b hb) w896 w897 w88 w898 hdX8_in ⟨Nat.le_of_ble_eq_true rfl, Nat.le_of_ble_eq_true rfl⟩ (Nat.le_of_ble_eq_true rfl) rfl dX8_type_4) rfl (fun b3 => ?_)
    refine z_ifne C dX8_type_7 rfl rfl ?_ ?_
    · refine z_aload_n C 0 dX8_type_12 rfl rfl rfl ?_
      refine z_get (v := .int (M.1 100 5)) C 5 zOK8 rfl (by decide) w793 rfl rfl dX8_type_13 rfl ?_
      refine z_iload_n C 2 dX8_type_16 rfl rfl rfl ?_
      refine z_iadd C dX8_type_17 rfl ?_
      refine z_sipush C (200 : Int32) dX8_type_18 rfl rfl ?_
      refine z_icmple C dX8_type_21 rfl rfl ?_ ?_
      · refine z_iload_n C 2 dX8_type_27 rfl rfl rfl ?_
        refine z_iconst C (1 : Int32) dX8_type_28 rfl rfl ?_
        refine z_isub C dX8_type_29 rfl ?_
        refine z_istore C (fun z => [(4, .int z), (0, .ref 100), (1, .long y0), (3, .int x1)]) dX8_type_30 (by decide) (fun _ => rfl) rfl (fun x4 => ?_)
        refine z_loop (sM := fun s => s.2) (sl := fun s => [(0, .ref 100), (1, .long y0), (4, .int s.1)]) [1, 2, 0] rfl rfl (fun r5 hr5 s6 => ?_)
        unfold FX8_type_L32
        refine z_iload C 2 dX8_type_32 rfl rfl ?_
        refine z_iflt C dX8_type_34 rfl rfl ?_ ?_
        · refine z_aload_n C 0 dX8_type_75 rfl rfl rfl ?_
          refine z_get (v := .int (s6.2.1 100 5)) C 5 zOK8 rfl (by decide) w793 rfl rfl dX8_type_76 rfl ?_
          exact z_iret C rfl rfl dX8_type_79
        · refine z_aload_n C 0 dX8_type_37 rfl rfl rfl ?_
          refine z_get (v := .ref 102) C 4 zOK8 rfl (by decide) w792 rfl rfl dX8_type_38 rfl ?_
          refine z_aload_n C 0 dX8_type_41 rfl rfl rfl ?_
          refine z_get (v := .int (s6.2.1 100 5)) C 5 zOK8 rfl (by decide) w793 rfl rfl dX8_type_42 rfl ?_
          refine z_lload_n C 1 dX8_type_45 rfl rfl rfl ?_
          refine z_bipush C (8 : Int32) dX8_type_46 rfl rfl ?_
          refine z_iload C 2 dX8_type_48 rfl rfl ?_
          refine z_imul C dX8_type_50 rfl ?_
          refine z_lshr C dX8_type_51 rfl ?_
          refine z_ldc2 C w1038 dX8_type_52 rfl ?_
          refine z_land C dX8_type_55 rfl ?_
          refine z_l2i C dX8_type_56 rfl ?_
          refine z_i2b C dX8_type_57 rfl ?_
          refine z_bastore C 200 rfl dX8_type_58 rfl (fun M7 => ?_)
          refine z_aload_n C 0 dX8_type_59 rfl rfl rfl ?_
          refine z_dup C dX8_type_60 rfl rfl ?_
          refine z_get (v := .int (M7.1 100 5)) C 5 zOK8 rfl (by decide) w793 rfl rfl dX8_type_61 rfl ?_
          refine z_iconst C (1 : Int32) dX8_type_64 rfl rfl ?_
          refine z_iadd C dX8_type_65 rfl ?_
          refine z_puti C 5 zOK8 rfl (by decide) w793 rfl rfl rfl rfl rfl dX8_type_66 rfl (fun M8 => ?_)
          refine z_iinc (v := (s6.1 + (-1 : Int32))) C 2 (fun z => [(4, .int z), (0, .ref 100), (1, .long y0)]) dX8_type_69 rfl rfl (by decide) (fun _ => rfl) rfl (fun x9 => ?_)
          refine z_goto C dX8_type_72 rfl ?_
          exact z_perm [1, 2, 0] rfl (hr5 (x9, M8))
      · refine z_bipush C (-3 : Int32) dX8_type_24 rfl rfl ?_
        exact z_iret C rfl rfl dX8_type_26
    · refine z_iconst C (-1 : Int32) dX8_type_10 rfl rfl ?_
      exact z_iret C rfl rfl dX8_type_11
  exact key b hF
set_option maxRecDepth 100000 in
set_option maxHeartbeats 4000000 in
theorem mX8_clear (Y : zY) (M : zMem) (b : Int32 × zMem) (hF : FX8_clear M = some b) : zMt Y yX8_clear cX8_clear 2 (some .int) 0 0 [.ref 100] M (zQi Y b.1 b.2) := by
  refine zMt_of (own := RX8) (by decide) rfl (Nat.le_of_ble_eq_true rfl) (fun X C => ?_)
  have key : zR Y X 2 (zFi Y X (fun b => b.1) (fun b => b.2)) (FX8_clear M) 0 [(0, .ref 100)] [] M := by
    unfold FX8_clear
    refine z_aload_n C 0 dX8_clear_0 rfl rfl rfl ?_
    refine z_get (v := .int (M.1 100 5)) C 5 zOK8 rfl (by decide) w793 rfl rfl dX8_clear_1 rfl ?_
    refine z_istore_n C (fun z => [(1, .int z), (0, .ref 100)]) dX8_clear_4 rfl (by decide) (fun _ => rfl) rfl (fun x1 => ?_)
    refine z_aload_n C 1 dX8_clear_5 rfl rfl rfl ?_
    refine z_iconst C (0 : Int32) dX8_clear_6 rfl rfl ?_
    refine z_puti C 5 zOK8 rfl (by decide) w793 rfl rfl rfl rfl rfl dX8_clear_7 rfl (fun M2 => ?_)
    refine z_iload_n C 0 dX8_clear_10 rfl rfl rfl ?_
    exact z_iret C rfl rfl dX8_clear_11
  exact key b hF
set_option maxRecDepth 100000 in
set_option maxHeartbeats 4000000 in
theorem mX8_here (Y : zY) (M : zMem) (b : Int32) (hF : FX8_here M = some b) : zMt Y yX8_here cX8_here 1 (some .int) 0 0 [.ref 100] M (zQi Y b M) := by
  refine zMt_of (own := RX8) (by decide) rfl (Nat.le_of_ble_eq_true rfl) (fun X C => ?_)
  have key : zR Y X 1 (zFi Y X (fun b => b) (fun _ => M)) (FX8_here M) 0 [(0, .ref 100)] [] M := by
    unfold FX8_here
    refine z_aload_n C 0 dX8_here_0 rfl rfl rfl ?_
    refine z_get (v := .int (M.1 100 23)) C 23 zOK8 rfl (by decide) w811 rfl rfl dX8_here_1 rfl ?_
    refine z_aload_n C 0 dX8_here_4 rfl rfl rfl ?_
    refine z_get (v := .int (M.1 100 5)) C 5 zOK8 rfl (by decide) w793 rfl rfl dX8_here_5 rfl ?_
    refine z_icmpge C dX8_here_8 rfl rfl ?_ ?_
    · refine z_iconst C (-1 : Int32) dX8_here_23 rfl rfl ?_
      exact z_iret C rfl rfl dX8_here_24
    · refine z_aload_n C 0 dX8_here_11 rfl rfl rfl ?_
      refine z_get (v := .ref 102) C 4 zOK8 rfl (by decide) w792 rfl rfl dX8_here_12 rfl ?_
      refine z_aload_n C 0 dX8_here_15 rfl rfl rfl ?_
      refine z_get (v := .int (M.1 100 23)) C 23 zOK8 rfl (by decide) w811 rfl rfl dX8_here_16 rfl ?_
      refine z_baload C 200 rfl dX8_here_19 rfl ?_
      refine z_goto C dX8_here_20 rfl ?_
      exact z_iret C rfl rfl dX8_here_24
  exact key b hF
set_option maxRecDepth 100000 in
set_option maxHeartbeats 4000000 in
theorem mX8_isDigit (Y : zY) (M : zMem) (b : Int32) (hF : FX8_isDigit M = some b) : zMt Y yX8_isDigit cX8_isDigit 1 (some .boolean) 1 22 [.ref 100] M (zQi Y b M) := by
  refine zMt_of (own := RX8) (by decide) rfl (Nat.le_of_ble_eq_true rfl) (fun X C => ?_)
  have key : zR Y X 1 (zFi Y X (fun b => b) (fun _ => M)) (FX8_isDigit M) 0 [(0, .ref 100)] [] M := by
    unfold FX8_isDigit
    refine z_aload_n C 0 dX8_isDigit_0 rfl rfl rfl ?_
    refine z_ci (fun b => b) (fun _ => M) (fun b hb => z_V (na := 0) (ci := 8) (r := (RX8, TX8, 34)) C [] rfl (mX8_here Y M b hb) rfl rfl w1051 w1053 w63 w88 w1054 hdX8_here ⟨Nat.le_of_ble_eq_true rfl, Nat.le_of_ble_eq_true rfl⟩ (Nat.le_of_ble_eq_true rfl) rfl dX8_isDigit_1) rfl (fun b1 => ?_)
    refine z_bipush C (48 : Int32) dX8_isDigit_4 rfl rfl ?_
    refine z_bipush C (57 : Int32) dX8_isDigit_6 rfl rfl ?_
    refine z_ci (fun b => b) (fun _ => M) (fun b hb => z_S (na := 3) C [.int b1, .int (48 : Int32), .int (57 : Int32)] rfl (mX8_in Y b1 (48 : Int32) (57 : Int32) M b hb) w896 w897 w88 w898 hdX8_in ⟨Nat.le_of_ble_eq_true rfl, Nat.le_of_ble_eq_true rfl⟩ (Nat.le_of_ble_eq_true rfl) rfl dX8_isDigit_8) rfl (fun b2 => ?_)
    exact z_zret C rfl rfl dX8_isDigit_11
  exact key b hF
set_option maxRecDepth 100000 in
set_option maxHeartbeats 4000000 in
theorem mX8_sign (Y : zY) (x0 : Int32) (M : zMem) (b : zMem) (hF : FX8_sign x0 M = some b) : zMt Y yX8_sign cX8_sign 2 none 1 20 [.ref 100, .int x0] M (zQv Y b) := by
  refine zMt_of (own := RX8) (by decide) rfl (Nat.le_of_ble_eq_true rfl) (fun X C => ?_)
  have key : zR Y X 2 (zFv Y X (fun b => b)) (FX8_sign x0 M) 0 [(0, .ref 100), (1, .int x0)] [] M := by
    unfold FX8_sign
    refine z_aload_n C 0 dX8_sign_0 rfl rfl rfl ?_
    refine z_get (v := .int (M.1 100 24)) C 24 zOK8 rfl (by decide) w812 rfl rfl dX8_sign_1 rfl ?_
    refine z_bipush C (-9 : Int32) dX8_sign_4 rfl rfl ?_
    refine z_icmpne C dX8_sign_6 rfl rfl ?_ ?_
    · exact z_vret C rfl dX8_sign_40
    · refine z_aload_n C 0 dX8_sign_9 rfl rfl rfl ?_
      refine z_aload_n C 0 dX8_sign_10 rfl rfl rfl ?_
      refine z_ci (fun b => b) (fun _ => M) (fun b hb => z_V (na := 0) (ci := 8) (r := (RX8, TX8, 34)) C [] rfl (mX8_here Y M b hb) rfl rfl w1051 w1053 w63 w88 w1054 hdX8_here ⟨Nat.le_of_ble_eq_true rfl, Nat.le_of_ble_eq_true rfl⟩ (Nat.le_of_ble_eq_true rfl) rfl dX8_sign_11) rfl (fun b2 => ?_)
      refine z_iload_n C 1 dX8_sign_14 rfl rfl rfl ?_
      refine z_join (fun k4 => ∀ (x3 : Int32), zR Y X 2 (zFv Y X (fun b => b)) (k4 x3) 27 [(0, .ref 100)] [.int x3, .ref 100] M) (fun x3 => ?_) (fun k4 hk4 => ?_)
      · refine z_puti C 24 zOK8 rfl (by decide) w812 rfl rfl rfl rfl rfl dX8_sign_27 rfl (fun M5 => ?_)
        refine z_aload_n C 0 dX8_sign_30 rfl rfl rfl ?_
        refine z_dup C dX8_sign_31 rfl rfl ?_
        refine z_get (v := .int (M5.1 100 23)) C 23 zOK8 rfl (by decide) w811 rfl rfl dX8_sign_32 rfl ?_
        refine z_iconst C (1 : Int32) dX8_sign_35 rfl rfl ?_
        refine z_iadd C dX8_sign_36 rfl ?_
        refine z_puti C 23 zOK8 rfl (by decide) w811 rfl rfl rfl rfl rfl dX8_sign_37 rfl (fun M6 => ?_)
        exact z_vret C rfl dX8_sign_40
      · refine z_icmpne C dX8_sign_15 rfl rfl ?_ ?_
        · refine z_aload_n C 0 dX8_sign_23 rfl rfl rfl ?_
          refine z_get (v := .int (M.1 100 23)) C 23 zOK8 rfl (by decide) w811 rfl rfl dX8_sign_24 rfl ?_
          exact z_perm [0] rfl (hk4 (M.1 100 23))
        · refine z_bipush C (-9 : Int32) dX8_sign_18 rfl rfl ?_
          refine z_goto C dX8_sign_20 rfl ?_
          exact z_perm [0] rfl (hk4 (-9 : Int32))
  exact key b hF
set_option maxRecDepth 100000 in
set_option maxHeartbeats 4000000 in
theorem mX8_number (Y : zY) (x0 : Int32) (x1 : Int32) (M : zMem) (b : Int32 × zMem) (hF : FX8_number x0 x1 M = some b) : zMt Y yX8_number cX8_number 7 (some .int) 2 42 [.ref 100, .int x0, .int x1] M (zQi Y b.1 b.2) := by
  refine zMt_of (own := RX8) (by decide) rfl (Nat.le_of_ble_eq_true rfl) (fun X C => ?_)
  have key : zR Y X 7 (zFi Y X (fun b => b.1) (fun b => b.2)) (FX8_number x0 x1 M) 0 [(0, .ref 100), (1, .int x0), (2, .int x1)] [] M := by
    unfold FX8_number
    refine z_aload_n C 0 dX8_number_0 rfl rfl rfl ?_
    refine z_get (v := .int (M.1 100 24)) C 24 zOK8 rfl (by decide) w812 rfl rfl dX8_number_1 rfl ?_
    refine z_bipush C (-9 : Int32) dX8_number_4 rfl rfl ?_
    refine z_icmpeq C dX8_number_6 rfl rfl ?_ ?_
    · refine z_iload_n C 2 dX8_number_11 rfl rfl rfl ?_
      refine z_join (fun k4 => ∀ (x3 : Int32), zR Y X 7 (zFi Y X (fun b => b.1) (fun b => b.2)) (k4 x3) 29 [(0, .ref 100), (1, .int x0)] [.int x3] M) (fun x3 => ?_) (fun k4 hk4 => ?_)
      · refine z_istoreP_n (lo' := [(3, .int x3), (0, .ref 100), (1, .int x0)]) C dX8_number_29 rfl (by decide) rfl rfl ?_
        refine z_aload_n C 1 dX8_number_30 rfl rfl rfl ?_
        refine z_dup C dX8_number_31 rfl rfl ?_
        refine z_get (v := .int (M.1 100 23)) C 23 zOK8 rfl (by decide) w811 rfl rfl dX8_number_32 rfl ?_
        refine z_iload_n C 0 dX8_number_35 rfl rfl rfl ?_
        refine z_join (fun k6 => ∀ (x5 : Int32), zR Y X 7 (zFi Y X (fun b => b.1) (fun b => b.2)) (k6 x5) 44 [(0, .ref 100), (1, .int x0), (3, .int x3)] [.int x5, .int (M.1 100 23), .ref 100] M) (fun x5 => ?_) (fun k6 hk6 => ?_)
        · refine z_iadd C dX8_number_44 rfl ?_
          refine z_puti C 23 zOK8 rfl (by decide) w811 rfl rfl rfl rfl rfl dX8_number_45 rfl (fun M7 => ?_)
          refine z_aload_n C 0 dX8_number_48 rfl rfl rfl ?_
          refine z_ci (fun b => b) (fun _ => M7) (fun b hb => z_V (na := 0) (ci := 8) (r := (RX8, TX8, 34)) C [] rfl (mX8_isDigit Y M7 b hb) rfl rfl w1059 w1061 w65 w88 w1062 hdX8_isDigit ⟨Nat.le_of_ble_eq_true rfl, Nat.le_of_ble_eq_true rfl⟩ (Nat.le_of_ble_eq_true rfl) rfl dX8_number_49) rfl (fun b8 => ?_)
          refine z_join (fun k10 => ∀ (u9 : Unit), zR Y X 7 (zFi Y X (fun b => b.1) (fun b => b.2)) (k10 u9) 68 [(0, .ref 100)] [] M7) (fun u9 => ?_) (fun k10 hk10 => ?_)
          · refine z_aload_n C 0 dX8_number_68 rfl rfl rfl ?_
            refine z_aload_n C 0 dX8_number_69 rfl rfl rfl ?_
            refine z_get (v := .int (M7.1 100 23)) C 23 zOK8 rfl (by decide) w811 rfl rfl dX8_number_70 rfl ?_
            refine z_puti C 24 zOK8 rfl (by decide) w812 rfl rfl rfl rfl rfl dX8_number_73 rfl (fun M11 => ?_)
            refine z_iconst C (0 : Int32) dX8_number_76 rfl rfl ?_
            exact z_iret C rfl rfl dX8_number_77
          · refine z_ifeq C dX8_number_52 rfl rfl ?_ ?_
            · exact z_perm [0] rfl (hk10 ())
            · refine z_iload_n C 2 dX8_number_55 rfl rfl rfl ?_
              refine z_join (fun k13 => ∀ (u12 : Unit), zR Y X 7 (zFi Y X (fun b => b.1) (fun b => b.2)) (k13 u12) 78 [(0, .ref 100), (1, .int x0), (3, .int x3)] [] M7) (fun u12 => ?_) (fun k13 hk13 => ?_)
              · refine z_aload_n C 0 dX8_number_78 rfl rfl rfl ?_
                refine z_ci (fun b => b) (fun _ => M7) (fun b hb => z_V (na := 0) (ci := 8) (r := (RX8, TX8, 34)) C [] rfl (mX8_here Y M7 b hb) rfl rfl w1051 w1053 w63 w88 w1054 hdX8_here ⟨Nat.le_of_ble_eq_true rfl, Nat.le_of_ble_eq_true rfl⟩ (Nat.le_of_ble_eq_true rfl) rfl dX8_number_79) rfl (fun b14 => ?_)
                refine z_bipush C (48 : Int32) dX8_number_82 rfl rfl ?_
                refine z_join (fun k16 => ∀ (x15 : Int32), zR Y X 7 (zFi Y X (fun b => b.1) (fun b => b.2)) (k16 x15) 92 [(0, .ref 100), (1, .int x0), (3, .int x3)] [.int x15] M7) (fun x15 => ?_) (fun k16 hk16 => ?_)
                · refine z_istoreP (lo' := [(4, .int x15), (0, .ref 100), (1, .int x0), (3, .int x3)]) C dX8_number_92 (by decide) rfl rfl ?_
                  refine z_iconst C (0 : Int32) dX8_number_94 rfl rfl ?_
                  refine z_istoreP (lo' := [(5, .int (0 : Int32)), (4, .int x15), (0, .ref 100), (1, .int x0), (3, .int x3)]) C dX8_number_95 (by decide) rfl rfl ?_
                  refine z_iconst C (1 : Int32) dX8_number_97 rfl rfl ?_
                  refine z_istoreP (lo' := [(6, .int (1 : Int32)), (5, .int (0 : Int32)), (4, .int x15), (0, .ref 100), (1, .int x0), (3, .int x3)]) C dX8_number_98 (by decide) rfl rfl ?_
                  refine z_loop (sM := fun s => s.2.2) (sl := fun s => [(0, .ref 100), (1, .int x0), (3, .int x3), (4, .int x15), (5, .int s.1), (6, .int s.2.1)]) [3, 4, 5, 2, 1, 0] rfl rfl (fun r17 hr17 s18 => ?_)
                  unfold FX8_number_L100
                  refine z_iload C 5 dX8_number_100 rfl rfl ?_
                  refine z_ifeq C dX8_number_102 rfl rfl ?_ ?_
                  · refine z_iload_n C 2 dX8_number_180 rfl rfl rfl ?_
                    refine z_ifeq C dX8_number_181 rfl rfl ?_ ?_
                    · refine z_iload C 4 dX8_number_190 rfl rfl ?_
                      exact z_iret C rfl rfl dX8_number_192
                    · refine z_iload C 4 dX8_number_184 rfl rfl ?_
                      refine z_ineg C dX8_number_186 rfl ?_
                      refine z_goto C dX8_number_187 rfl ?_
                      exact z_iret C rfl rfl dX8_number_192
                  · refine z_bipush C (10 : Int32) dX8_number_105 rfl rfl ?_
                    refine z_iload C 4 dX8_number_107 rfl rfl ?_
                    refine z_imul C dX8_number_109 rfl ?_
                    refine z_aload_n C 0 dX8_number_110 rfl rfl rfl ?_
                    refine z_ci (fun b => b) (fun _ => s18.2.2) (fun b hb => z_V (na := 0) (ci := 8) (r := (RX8, TX8, 34)) C [] rfl (mX8_here Y s18.2.2 b hb) rfl rfl w1051 w1053 w63 w88 w1054 hdX8_here ⟨Nat.le_of_ble_eq_true rfl, Nat.le_of_ble_eq_true rfl⟩ (Nat.le_of_ble_eq_true rfl) rfl dX8_number_111) rfl (fun b19 => ?_)
                    refine z_iadd C dX8_number_114 rfl ?_
                    refine z_bipush C (48 : Int32) dX8_number_115 rfl rfl ?_
                    refine z_isub C dX8_number_117 rfl ?_
                    refine z_istore C (fun z => [(5, .int z), (0, .ref 100), (1, .int x0), (3, .int x3), (4, .int x15), (6, .int s18.2.1)]) dX8_number_118 (by decide) (fun _ => rfl) rfl (fun x20 => ?_)
                    refine z_aload_n C 1 dX8_number_120 rfl rfl rfl ?_
                    refine z_iload C 0 dX8_number_121 rfl rfl ?_
                    refine z_iload_n C 2 dX8_number_123 rfl rfl rfl ?_
                    refine z_join (fun k22 => ∀ (x21 : Int32), zR Y X 7 (zFi Y X (fun b => b.1) (fun b => b.2)) (k22 x21) 136 [(0, .ref 100), (1, .int x0), (3, .int x3), (4, .int x15), (5, .int x20)] [.int x21, .ref 100] s18.2.2) (fun x21 => ?_) (fun k22 hk22 => ?_)
                    · refine z_puti C 24 zOK8 rfl (by decide) w812 rfl rfl rfl rfl rfl dX8_number_136 rfl (fun M23 => ?_)
                      refine z_aload_n C 0 dX8_number_139 rfl rfl rfl ?_
                      refine z_dup C dX8_number_140 rfl rfl ?_
                      refine z_get (v := .int (M23.1 100 23)) C 23 zOK8 rfl (by decide) w811 rfl rfl dX8_number_141 rfl ?_
                      refine z_iconst C (1 : Int32) dX8_number_144 rfl rfl ?_
                      refine z_iadd C dX8_number_145 rfl ?_
                      refine z_puti C 23 zOK8 rfl (by decide) w811 rfl rfl rfl rfl rfl dX8_number_146 rfl (fun M24 => ?_)
                      refine z_aload_n C 0 dX8_number_149 rfl rfl rfl ?_
                      refine z_get (v := .int (M24.1 100 24)) C 24 zOK8 rfl (by decide) w812 rfl rfl dX8_number_150 rfl ?_
                      refine z_bipush C (-9 : Int32) dX8_number_153 rfl rfl ?_
                      refine z_join (fun k26 => ∀ (x25 : Int32), zR Y X 7 (zFi Y X (fun b => b.1) (fun b => b.2)) (k26 x25) 175 [(0, .ref 100), (1, .int x0), (3, .int x3), (4, .int x15), (5, .int x20)] [.int x25] M24) (fun x25 => ?_) (fun k26 hk26 => ?_)
                      · refine z_istoreP (lo' := [(6, .int x25), (0, .ref 100), (1, .int x0), (3, .int x3), (4, .int x15), (5, .int x20)]) C dX8_number_175 (by decide) rfl rfl ?_
                        refine z_goto C dX8_number_177 rfl ?_
                        exact z_perm [1, 2, 3, 4, 5, 0] rfl (hr17 (x20, x25, M24))
                      · refine z_join (fun k28 => ∀ (u27 : Unit), zR Y X 7 (zFi Y X (fun b => b.1) (fun b => b.2)) (k28 u27) 174 [(0, .ref 100), (1, .int x0), (3, .int x3), (4, .int x15), (5, .int x20)] [] M24) (fun u27 => ?_) (fun k28 hk28 => ?_)
                        · refine z_iconst C (0 : Int32) dX8_number_174 rfl rfl ?_
                          exact z_perm [0, 1, 2, 3, 4] rfl (hk26 (0 : Int32))
                        · refine z_icmpne C dX8_number_155 rfl rfl ?_ ?_
                          · exact z_perm [0, 1, 2, 3, 4] rfl (hk28 ())
                          · refine z_iload C 3 dX8_number_158 rfl rfl ?_
                            refine z_ifne C dX8_number_160 rfl rfl ?_ ?_
                            · exact z_perm [0, 1, 2, 3, 4] rfl (hk28 ())
                            · refine z_aload_n C 0 dX8_number_163 rfl rfl rfl ?_
                              refine z_ci (fun b => b) (fun _ => M24) (fun b hb => z_V (na := 0) (ci := 8) (r := (RX8, TX8, 34)) C [] rfl (mX8_isDigit Y M24 b hb) rfl rfl w1059 w1061 w65 w88 w1062 hdX8_isDigit ⟨Nat.le_of_ble_eq_true rfl, Nat.le_of_ble_eq_true rfl⟩ (Nat.le_of_ble_eq_true rfl) rfl dX8_number_164) rfl (fun b29 => ?_)
                              refine z_ifeq C dX8_number_167 rfl rfl ?_ ?_
                              · exact z_perm [0, 1, 2, 3, 4] rfl (hk28 ())
                              · refine z_iconst C (1 : Int32) dX8_number_170 rfl rfl ?_
                                refine z_goto C dX8_number_171 rfl ?_
                                exact z_perm [0, 1, 2, 3, 4] rfl (hk26 (1 : Int32))
                    · refine z_icmple C dX8_number_124 rfl rfl ?_ ?_
                      · refine z_bipush C (-9 : Int32) dX8_number_134 rfl rfl ?_
                        exact z_perm [1, 2, 3, 4, 0] rfl (hk22 (-9 : Int32))
                      · refine z_aload_n C 1 dX8_number_127 rfl rfl rfl ?_
                        refine z_get (v := .int (s18.2.2.1 100 23)) C 23 zOK8 rfl (by decide) w811 rfl rfl dX8_number_128 rfl ?_
                        refine z_goto C dX8_number_131 rfl ?_
                        exact z_perm [1, 2, 3, 4, 0] rfl (hk22 (s18.2.2.1 100 23))
                · refine z_icmpne C dX8_number_84 rfl rfl ?_ ?_
                  · refine z_iconst C (0 : Int32) dX8_number_91 rfl rfl ?_
                    exact z_perm [0, 1, 2] rfl (hk16 (0 : Int32))
                  · refine z_iconst C (1 : Int32) dX8_number_87 rfl rfl ?_
                    refine z_goto C dX8_number_88 rfl ?_
                    exact z_perm [0, 1, 2] rfl (hk16 (1 : Int32))
              · refine z_ifeq C dX8_number_56 rfl rfl ?_ ?_
                · exact z_perm [0, 1, 2] rfl (hk13 ())
                · refine z_aload_n C 0 dX8_number_59 rfl rfl rfl ?_
                  refine z_ci (fun b => b) (fun _ => M7) (fun b hb => z_V (na := 0) (ci := 8) (r := (RX8, TX8, 34)) C [] rfl (mX8_here Y M7 b hb) rfl rfl w1051 w1053 w63 w88 w1054 hdX8_here ⟨Nat.le_of_ble_eq_true rfl, Nat.le_of_ble_eq_true rfl⟩ (Nat.le_of_ble_eq_true rfl) rfl dX8_number_60) rfl (fun b30 => ?_)
                  refine z_bipush C (48 : Int32) dX8_number_63 rfl rfl ?_
                  refine z_icmpne C dX8_number_65 rfl rfl ?_ ?_
                  · exact z_perm [0, 1, 2] rfl (hk13 ())
                  · exact z_perm [0] rfl (hk10 ())
        · refine z_ifeq C dX8_number_36 rfl rfl ?_ ?_
          · refine z_iconst C (0 : Int32) dX8_number_43 rfl rfl ?_
            exact z_perm [1, 2, 0] rfl (hk6 (0 : Int32))
          · refine z_iconst C (1 : Int32) dX8_number_39 rfl rfl ?_
            refine z_goto C dX8_number_40 rfl ?_
            exact z_perm [1, 2, 0] rfl (hk6 (1 : Int32))
      · refine z_join (fun k32 => ∀ (u31 : Unit), zR Y X 7 (zFi Y X (fun b => b.1) (fun b => b.2)) (k32 u31) 28 [(0, .ref 100), (1, .int x0)] [] M) (fun u31 => ?_) (fun k32 hk32 => ?_)
        · refine z_iconst C (0 : Int32) dX8_number_28 rfl rfl ?_
          exact z_perm [0, 1] rfl (hk4 (0 : Int32))
        · refine z_ifeq C dX8_number_12 rfl rfl ?_ ?_
          · exact z_perm [0, 1] rfl (hk32 ())
          · refine z_aload_n C 0 dX8_number_15 rfl rfl rfl ?_
            refine z_ci (fun b => b) (fun _ => M) (fun b hb => z_V (na := 0) (ci := 8) (r := (RX8, TX8, 34)) C [] rfl (mX8_here Y M b hb) rfl rfl w1051 w1053 w63 w88 w1054 hdX8_here ⟨Nat.le_of_ble_eq_true rfl, Nat.le_of_ble_eq_true rfl⟩ (Nat.le_of_ble_eq_true rfl) rfl dX8_number_16) rfl (fun b33 => ?_)
            refine z_bipush C (45 : Int32) dX8_number_19 rfl rfl ?_
            refine z_icmpne C dX8_number_21 rfl rfl ?_ ?_
            · exact z_perm [0, 1] rfl (hk32 ())
            · refine z_iconst C (1 : Int32) dX8_number_24 rfl rfl ?_
              refine z_goto C dX8_number_25 rfl ?_
              exact z_perm [0, 1] rfl (hk4 (1 : Int32))
    · refine z_iconst C (0 : Int32) dX8_number_9 rfl rfl ?_
      exact z_iret C rfl rfl dX8_number_10
  exact key b hF
set_option maxRecDepth 100000 in
set_option maxHeartbeats 4000000 in
theorem mX8_item (Y : zY) (x0 : Int32) (M : zMem) (b : zMem) (hF : FX8_item x0 M = some b) : zMt Y yX8_item cX8_item 4 none 3 68 [.ref 100, .int x0] M (zQv Y b) := by
  refine zMt_of (own := RX8) (by decide) rfl (Nat.le_of_ble_eq_true rfl) (fun X C => ?_)
  have key : zR Y X 4 (zFv Y X (fun b => b)) (FX8_item x0 M) 0 [(0, .ref 100), (1, .int x0)] [] M := by
    unfold FX8_item
    refine z_bipush C (48 : Int32) dX8_item_0 rfl rfl ?_
    refine z_bipush C (6 : Int32) dX8_item_2 rfl rfl ?_
    refine z_iload_n C 1 dX8_item_4 rfl rfl rfl ?_
    refine z_imul C dX8_item_5 rfl ?_
    refine z_iadd C dX8_item_6 rfl ?_
    refine z_istore_n C (fun z => [(2, .int z), (0, .ref 100), (1, .int x0)]) dX8_item_7 rfl (by decide) (fun _ => rfl) rfl (fun x2 => ?_)
    refine z_aload_n C 1 dX8_item_8 rfl rfl rfl ?_
    refine z_ci (fun b => b) (fun _ => M) (fun b hb => z_V (na := 0) (ci := 8) (r := (RX8, TX8, 34)) C [] rfl (mX8_here Y M b hb) rfl rfl w1051 w1053 w63 w88 w1054 hdX8_here ⟨Nat.le_of_ble_eq_true rfl, Nat.le_of_ble_eq_true rfl⟩ (Nat.le_of_ble_eq_true rfl) rfl dX8_item_9) rfl (fun b3 => ?_)
    refine z_istoreP_n (lo' := [(3, .int b3), (2, .int x2), (0, .ref 100), (1, .int x0)]) C dX8_item_12 rfl (by decide) rfl rfl ?_
    refine z_iload_n C 3 dX8_item_13 rfl rfl rfl ?_
    refine z_bipush C (8 : Int32) dX8_item_14 rfl rfl ?_
    refine z_join (fun k5 => ∀ (u4 : Unit), zR Y X 4 (zFv Y X (fun b => b)) (k5 u4) 37 [(0, .ref 100)] [] M) (fun u4 => ?_) (fun k5 hk5 => ?_)
    · refine z_aload_n C 0 dX8_item_37 rfl rfl rfl ?_
      refine z_aload_n C 0 dX8_item_38 rfl rfl rfl ?_
      refine z_get (v := .int (M.1 100 23)) C 23 zOK8 rfl (by decide) w811 rfl rfl dX8_item_39 rfl ?_
      refine z_puti C 24 zOK8 rfl (by decide) w812 rfl rfl rfl rfl rfl dX8_item_42 rfl (fun M6 => ?_)
      exact z_vret C rfl dX8_item_45
    · refine z_icmpeq C dX8_item_16 rfl rfl ?_ ?_
      · exact z_perm [2] rfl (hk5 ())
      · refine z_iload_n C 0 dX8_item_19 rfl rfl rfl ?_
        refine z_bipush C (112 : Int32) dX8_item_20 rfl rfl ?_
        refine z_join (fun k8 => ∀ (u7 : Unit), zR Y X 4 (zFv Y X (fun b => b)) (k8 u7) 46 [(0, .ref 100), (2, .int x2), (3, .int b3)] [] M) (fun u7 => ?_) (fun k8 hk8 => ?_)
        · refine z_aload_n C 0 dX8_item_46 rfl rfl rfl ?_
          refine z_dup C dX8_item_47 rfl rfl ?_
          refine z_get (v := .int (M.1 100 23)) C 23 zOK8 rfl (by decide) w811 rfl rfl dX8_item_48 rfl ?_
          refine z_iconst C (1 : Int32) dX8_item_51 rfl rfl ?_
          refine z_iadd C dX8_item_52 rfl ?_
          refine z_puti C 23 zOK8 rfl (by decide) w811 rfl rfl rfl rfl rfl dX8_item_53 rfl (fun M9 => ?_)
          refine z_aload_n C 0 dX8_item_56 rfl rfl rfl ?_
          refine z_get (v := .ref 101) C 0 zOK8 rfl (by decide) w788 rfl rfl dX8_item_57 rfl ?_
          refine z_iload_n C 1 dX8_item_60 rfl rfl rfl ?_
          refine z_iload_n C 2 dX8_item_61 rfl rfl rfl ?_
          refine z_bipush C (112 : Int32) dX8_item_62 rfl rfl ?_
          refine z_join (fun k11 => ∀ (x10 : Int32), zR Y X 4 (zFv Y X (fun b => b)) (k11 x10) 82 [(0, .ref 100), (2, .int x2), (3, .int b3)] [.int x10, .int x2, .ref 101] M9) (fun x10 => ?_) (fun k11 hk11 => ?_)
          · refine z_iastore C 96 rfl dX8_item_82 rfl (fun M12 => ?_)
            refine z_aload_n C 0 dX8_item_83 rfl rfl rfl ?_
            refine z_get (v := .ref 101) C 0 zOK8 rfl (by decide) w788 rfl rfl dX8_item_84 rfl ?_
            refine z_iload_n C 1 dX8_item_87 rfl rfl rfl ?_
            refine z_iconst C (1 : Int32) dX8_item_88 rfl rfl ?_
            refine z_iadd C dX8_item_89 rfl ?_
            refine z_aload_n C 0 dX8_item_90 rfl rfl rfl ?_
            refine z_bipush C (40 : Int32) dX8_item_91 rfl rfl ?_
            refine z_iconst C (1 : Int32) dX8_item_93 rfl rfl ?_
            refine z_ci (fun b => b.1) (fun b => b.2) (fun b hb => z_V (na := 2) (ci := 8) (r := (RX8, TX8, 34)) C [.int (40 : Int32), .int (1 : Int32)] rfl (mX8_number Y (40 : Int32) (1 : Int32) M12 b hb) rfl rfl w1055 w1057 w64 w88 w1058 hdX8_number ⟨Nat.le_of_ble_eq_true rfl, Nat.le_of_ble_eq_true rfl⟩ (Nat.le_of_ble_eq_true rfl) rfl dX8_item_94) rfl (fun b13 => ?_)
            refine z_iastore C 96 rfl dX8_item_97 rfl (fun M14 => ?_)
            refine z_aload_n C 0 dX8_item_98 rfl rfl rfl ?_
            refine z_bipush C (44 : Int32) dX8_item_99 rfl rfl ?_
            refine z_cv (fun b => b) (fun b hb => z_V (na := 1) (ci := 8) (r := (RX8, TX8, 34)) C [.int (44 : Int32)] rfl (mX8_sign Y (44 : Int32) M14 b hb) rfl rfl w1063 w1065 w66 w88 w1066 hdX8_sign ⟨Nat.le_of_ble_eq_true rfl, Nat.le_of_ble_eq_true rfl⟩ (Nat.le_of_ble_eq_true rfl) rfl dX8_item_101) rfl (fun b15 => ?_)
            refine z_aload_n C 0 dX8_item_104 rfl rfl rfl ?_
            refine z_get (v := .ref 101) C 0 zOK8 rfl (by decide) w788 rfl rfl dX8_item_105 rfl ?_
            refine z_iload_n C 1 dX8_item_108 rfl rfl rfl ?_
            refine z_iconst C (2 : Int32) dX8_item_109 rfl rfl ?_
            refine z_iadd C dX8_item_110 rfl ?_
            refine z_aload_n C 0 dX8_item_111 rfl rfl rfl ?_
            refine z_bipush C (40 : Int32) dX8_item_112 rfl rfl ?_
            refine z_iconst C (1 : Int32) dX8_item_114 rfl rfl ?_
            refine z_ci (fun b => b.1) (fun b => b.2) (fun b hb => z_V (na := 2) (ci := 8) (r := (RX8, TX8, 34)) C [.int (40 : Int32), .int (1 : Int32)] rfl (mX8_number Y (40 : Int32) (1 : Int32) b15 b hb) rfl rfl w1055 w1057 w64 w88 w1058 hdX8_number ⟨Nat.le_of_ble_eq_true rfl, Nat.le_of_ble_eq_true rfl⟩ (Nat.le_of_ble_eq_true rfl) rfl dX8_item_115) rfl (fun b16 => ?_)
            refine z_iastore C 96 rfl dX8_item_118 rfl (fun M17 => ?_)
            refine z_aload_n C 0 dX8_item_119 rfl rfl rfl ?_
            refine z_bipush C (119 : Int32) dX8_item_120 rfl rfl ?_
            refine z_cv (fun b => b) (fun b hb => z_V (na := 1) (ci := 8) (r := (RX8, TX8, 34)) C [.int (119 : Int32)] rfl (mX8_sign Y (119 : Int32) M17 b hb) rfl rfl w1063 w1065 w66 w88 w1066 hdX8_sign ⟨Nat.le_of_ble_eq_true rfl, Nat.le_of_ble_eq_true rfl⟩ (Nat.le_of_ble_eq_true rfl) rfl dX8_item_122) rfl (fun b18 => ?_)
            refine z_aload_n C 0 dX8_item_125 rfl rfl rfl ?_
            refine z_get (v := .ref 101) C 0 zOK8 rfl (by decide) w788 rfl rfl dX8_item_126 rfl ?_
            refine z_iload_n C 1 dX8_item_129 rfl rfl rfl ?_
            refine z_iconst C (3 : Int32) dX8_item_130 rfl rfl ?_
            refine z_iadd C dX8_item_131 rfl ?_
            refine z_aload_n C 0 dX8_item_132 rfl rfl rfl ?_
            refine z_sipush C (400 : Int32) dX8_item_133 rfl rfl ?_
            refine z_iconst C (0 : Int32) dX8_item_136 rfl rfl ?_
            refine z_ci (fun b => b.1) (fun b => b.2) (fun b hb => z_V (na := 2) (ci := 8) (r := (RX8, TX8, 34)) C [.int (400 : Int32), .int (0 : Int32)] rfl (mX8_number Y (400 : Int32) (0 : Int32) b18 b hb) rfl rfl w1055 w1057 w64 w88 w1058 hdX8_number ⟨Nat.le_of_ble_eq_true rfl, Nat.le_of_ble_eq_true rfl⟩ (Nat.le_of_ble_eq_true rfl) rfl dX8_item_137) rfl (fun b19 => ?_)
            refine z_iastore C 96 rfl dX8_item_140 rfl (fun M20 => ?_)
            refine z_aload_n C 0 dX8_item_141 rfl rfl rfl ?_
            refine z_get (v := .ref 101) C 0 zOK8 rfl (by decide) w788 rfl rfl dX8_item_142 rfl ?_
            refine z_iload_n C 1 dX8_item_145 rfl rfl rfl ?_
            refine z_iconst C (4 : Int32) dX8_item_146 rfl rfl ?_
            refine z_iadd C dX8_item_147 rfl ?_
            refine z_iconst C (0 : Int32) dX8_item_148 rfl rfl ?_
            refine z_iastore C 96 rfl dX8_item_149 rfl (fun M21 => ?_)
            refine z_aload_n C 0 dX8_item_150 rfl rfl rfl ?_
            refine z_get (v := .ref 101) C 0 zOK8 rfl (by decide) w788 rfl rfl dX8_item_151 rfl ?_
            refine z_iload_n C 1 dX8_item_154 rfl rfl rfl ?_
            refine z_iconst C (5 : Int32) dX8_item_155 rfl rfl ?_
            refine z_iadd C dX8_item_156 rfl ?_
            refine z_bipush C (90 : Int32) dX8_item_157 rfl rfl ?_
            refine z_iastore C 96 rfl dX8_item_159 rfl (fun M22 => ?_)
            refine z_iload_n C 2 dX8_item_160 rfl rfl rfl ?_
            refine z_bipush C (112 : Int32) dX8_item_161 rfl rfl ?_
            refine z_join (fun k24 => ∀ (M23 : zMem), zR Y X 4 (zFv Y X (fun b => b)) (k24 M23) 188 [(0, .ref 100), (2, .int x2), (3, .int b3)] [] M23) (fun M23 => ?_) (fun k24 hk24 => ?_)
            · refine z_iload_n C 2 dX8_item_188 rfl rfl rfl ?_
              refine z_bipush C (99 : Int32) dX8_item_189 rfl rfl ?_
              refine z_join (fun k26 => ∀ (M25 : zMem), zR Y X 4 (zFv Y X (fun b => b)) (k26 M25) 215 [(0, .ref 100)] [] M25) (fun M25 => ?_) (fun k26 hk26 => ?_)
              · refine z_aload_n C 0 dX8_item_215 rfl rfl rfl ?_
                refine z_bipush C (59 : Int32) dX8_item_216 rfl rfl ?_
                refine z_cv (fun b => b) (fun b hb => z_V (na := 1) (ci := 8) (r := (RX8, TX8, 34)) C [.int (59 : Int32)] rfl (mX8_sign Y (59 : Int32) M25 b hb) rfl rfl w1063 w1065 w66 w88 w1066 hdX8_sign ⟨Nat.le_of_ble_eq_true rfl, Nat.le_of_ble_eq_true rfl⟩ (Nat.le_of_ble_eq_true rfl) rfl dX8_item_218) rfl (fun b27 => ?_)
                exact z_vret C rfl dX8_item_221
              · refine z_icmpne C dX8_item_191 rfl rfl ?_ ?_
                · exact z_perm [0] rfl (hk26 M23)
                · refine z_aload_n C 0 dX8_item_194 rfl rfl rfl ?_
                  refine z_bipush C (101 : Int32) dX8_item_195 rfl rfl ?_
                  refine z_cv (fun b => b) (fun b hb => z_V (na := 1) (ci := 8) (r := (RX8, TX8, 34)) C [.int (101 : Int32)] rfl (mX8_sign Y (101 : Int32) M23 b hb) rfl rfl w1063 w1065 w66 w88 w1066 hdX8_sign ⟨Nat.le_of_ble_eq_true rfl, Nat.le_of_ble_eq_true rfl⟩ (Nat.le_of_ble_eq_true rfl) rfl dX8_item_197) rfl (fun b28 => ?_)
                  refine z_aload_n C 0 dX8_item_200 rfl rfl rfl ?_
                  refine z_get (v := .ref 101) C 0 zOK8 rfl (by decide) w788 rfl rfl dX8_item_201 rfl ?_
                  refine z_iload_n C 1 dX8_item_204 rfl rfl rfl ?_
                  refine z_iconst C (5 : Int32) dX8_item_205 rfl rfl ?_
                  refine z_iadd C dX8_item_206 rfl ?_
                  refine z_aload_n C 0 dX8_item_207 rfl rfl rfl ?_
                  refine z_bipush C (90 : Int32) dX8_item_208 rfl rfl ?_
                  refine z_iconst C (0 : Int32) dX8_item_210 rfl rfl ?_
                  refine z_ci (fun b => b.1) (fun b => b.2) (fun b hb => z_V (na := 2) (ci := 8) (r := (RX8, TX8, 34)) C [.int (90 : Int32), .int (0 : Int32)] rfl (mX8_number Y (90 : Int32) (0 : Int32) b28 b hb) rfl rfl w1055 w1057 w64 w88 w1058 hdX8_number ⟨Nat.le_of_ble_eq_true rfl, Nat.le_of_ble_eq_true rfl⟩ (Nat.le_of_ble_eq_true rfl) rfl dX8_item_211) rfl (fun b29 => ?_)
                  refine z_iastore C 96 rfl dX8_item_214 rfl (fun M30 => ?_)
                  exact z_perm [0] rfl (hk26 M30)
            · refine z_icmpeq C dX8_item_163 rfl rfl ?_ ?_
              · exact z_perm [0, 1, 2] rfl (hk24 M22)
              · refine z_aload_n C 0 dX8_item_166 rfl rfl rfl ?_
                refine z_bipush C (111 : Int32) dX8_item_167 rfl rfl ?_
                refine z_cv (fun b => b) (fun b hb => z_V (na := 1) (ci := 8) (r := (RX8, TX8, 34)) C [.int (111 : Int32)] rfl (mX8_sign Y (111 : Int32) M22 b hb) rfl rfl w1063 w1065 w66 w88 w1066 hdX8_sign ⟨Nat.le_of_ble_eq_true rfl, Nat.le_of_ble_eq_true rfl⟩ (Nat.le_of_ble_eq_true rfl) rfl dX8_item_169) rfl (fun b31 => ?_)
                refine z_aload_n C 0 dX8_item_172 rfl rfl rfl ?_
                refine z_get (v := .ref 101) C 0 zOK8 rfl (by decide) w788 rfl rfl dX8_item_173 rfl ?_
                refine z_iload_n C 1 dX8_item_176 rfl rfl rfl ?_
                refine z_iconst C (4 : Int32) dX8_item_177 rfl rfl ?_
                refine z_iadd C dX8_item_178 rfl ?_
                refine z_aload_n C 0 dX8_item_179 rfl rfl rfl ?_
                refine z_sipush C (900 : Int32) dX8_item_180 rfl rfl ?_
                refine z_iconst C (0 : Int32) dX8_item_183 rfl rfl ?_
                refine z_ci (fun b => b.1) (fun b => b.2) (fun b hb => z_V (na := 2) (ci := 8) (r := (RX8, TX8, 34)) C [.int (900 : Int32), .int (0 : Int32)] rfl (mX8_number Y (900 : Int32) (0 : Int32) b31 b hb) rfl rfl w1055 w1057 w64 w88 w1058 hdX8_number ⟨Nat.le_of_ble_eq_true rfl, Nat.le_of_ble_eq_true rfl⟩ (Nat.le_of_ble_eq_true rfl) rfl dX8_item_184) rfl (fun b32 => ?_)
                refine z_iastore C 96 rfl dX8_item_187 rfl (fun M33 => ?_)
                exact z_perm [0, 1, 2] rfl (hk24 M33)
          · refine z_icmpne C dX8_item_64 rfl rfl ?_ ?_
            · refine z_iload_n C 2 dX8_item_71 rfl rfl rfl ?_
              refine z_bipush C (115 : Int32) dX8_item_72 rfl rfl ?_
              refine z_icmpne C dX8_item_74 rfl rfl ?_ ?_
              · refine z_iconst C (2 : Int32) dX8_item_81 rfl rfl ?_
                exact z_perm [0, 1, 2] rfl (hk11 (2 : Int32))
              · refine z_iconst C (1 : Int32) dX8_item_77 rfl rfl ?_
                refine z_goto C dX8_item_78 rfl ?_
                exact z_perm [0, 1, 2] rfl (hk11 (1 : Int32))
            · refine z_iconst C (0 : Int32) dX8_item_67 rfl rfl ?_
              refine z_goto C dX8_item_68 rfl ?_
              exact z_perm [0, 1, 2] rfl (hk11 (0 : Int32))
        · refine z_icmpeq C dX8_item_22 rfl rfl ?_ ?_
          · exact z_perm [2, 1, 0] rfl (hk8 ())
          · refine z_iload_n C 0 dX8_item_25 rfl rfl rfl ?_
            refine z_bipush C (115 : Int32) dX8_item_26 rfl rfl ?_
            refine z_icmpeq C dX8_item_28 rfl rfl ?_ ?_
            · exact z_perm [2, 1, 0] rfl (hk8 ())
            · refine z_iload_n C 0 dX8_item_31 rfl rfl rfl ?_
              refine z_bipush C (99 : Int32) dX8_item_32 rfl rfl ?_
              refine z_icmpeq C dX8_item_34 rfl rfl ?_ ?_
              · exact z_perm [2, 1, 0] rfl (hk8 ())
              · exact z_perm [2] rfl (hk5 ())
  exact key b hF
set_option maxRecDepth 100000 in
set_option maxHeartbeats 4000000 in
theorem mX8_read (Y : zY) (M : zMem) (b : Int32 × zMem) (hF : FX8_read M = some b) : zMt Y yX8_read cX8_read 3 (some .int) 4 91 [.ref 100] M (zQi Y b.1 b.2) := by
  refine zMt_of (own := RX8) (by decide) rfl (Nat.le_of_ble_eq_true rfl) (fun X C => ?_)
  have key : zR Y X 3 (zFi Y X (fun b => b.1) (fun b => b.2)) (FX8_read M) 0 [(0, .ref 100)] [] M := by
    unfold FX8_read
    refine z_aload_n C 0 dX8_read_0 rfl rfl rfl ?_
    refine z_iconst C (0 : Int32) dX8_read_1 rfl rfl ?_
    refine z_puti C 23 zOK8 rfl (by decide) w811 rfl rfl rfl rfl rfl dX8_read_2 rfl (fun M1 => ?_)
    refine z_aload_n C 0 dX8_read_5 rfl rfl rfl ?_
    refine z_bipush C (-9 : Int32) dX8_read_6 rfl rfl ?_
    refine z_puti C 24 zOK8 rfl (by decide) w812 rfl rfl rfl rfl rfl dX8_read_8 rfl (fun M2 => ?_)
    refine z_iconst C (0 : Int32) dX8_read_11 rfl rfl ?_
    refine z_istoreP_n (lo' := [(1, .int (0 : Int32)), (0, .ref 100)]) C dX8_read_12 rfl (by decide) rfl rfl ?_
    refine z_loop (sM := fun s => s.2) (sl := fun s => [(0, .ref 100), (1, .int s.1)]) [1, 0] rfl rfl (fun r3 hr3 s4 => ?_)
    unfold FX8_read_L13
    refine z_aload_n C 0 dX8_read_13 rfl rfl rfl ?_
    refine z_get (v := .int (s4.2.1 100 24)) C 24 zOK8 rfl (by decide) w812 rfl rfl dX8_read_14 rfl ?_
    refine z_bipush C (-9 : Int32) dX8_read_17 rfl rfl ?_
    refine z_join (fun k6 => ∀ (u5 : Unit), zR Y X 3 (zFi Y X (fun b => b.1) (fun b => b.2)) (k6 u5) 44 [(0, .ref 100), (1, .int s4.1)] [] s4.2) (fun u5 => ?_) (fun k6 hk6 => ?_)
    · refine z_aload_n C 0 dX8_read_44 rfl rfl rfl ?_
      refine z_get (v := .int (s4.2.1 100 24)) C 24 zOK8 rfl (by decide) w812 rfl rfl dX8_read_45 rfl ?_
      refine z_bipush C (-9 : Int32) dX8_read_48 rfl rfl ?_
      refine z_icmpeq C dX8_read_50 rfl rfl ?_ ?_
      · refine z_iconst C (0 : Int32) dX8_read_61 rfl rfl ?_
        refine z_istoreP_n (lo' := [(2, .int (0 : Int32)), (0, .ref 100), (1, .int s4.1)]) C dX8_read_62 rfl (by decide) rfl rfl ?_
        refine z_loop (sM := fun s => s.2) (sl := fun s => [(0, .ref 100), (1, .int s4.1), (2, .int s.1)]) [1, 2, 0] rfl rfl (fun r7 hr7 s8 => ?_)
        unfold FX8_read_L63
        refine z_iload_n C 2 dX8_read_63 rfl rfl rfl ?_
        refine z_bipush C (48 : Int32) dX8_read_64 rfl rfl ?_
        refine z_icmpge C dX8_read_66 rfl rfl ?_ ?_
        · refine z_aload_n C 0 dX8_read_90 rfl rfl rfl ?_
          refine z_iload_n C 1 dX8_read_91 rfl rfl rfl ?_
          refine z_puti C 1 zOK8 rfl (by decide) w789 rfl rfl rfl rfl rfl dX8_read_92 rfl (fun M9 => ?_)
          refine z_aload_n C 0 dX8_read_95 rfl rfl rfl ?_
          refine z_iconst C (0 : Int32) dX8_read_96 rfl rfl ?_
          refine z_puti C 5 zOK8 rfl (by decide) w793 rfl rfl rfl rfl rfl dX8_read_97 rfl (fun M10 => ?_)
          refine z_iload_n C 1 dX8_read_100 rfl rfl rfl ?_
          exact z_iret C rfl rfl dX8_read_101
        · refine z_aload_n C 0 dX8_read_69 rfl rfl rfl ?_
          refine z_get (v := .ref 101) C 0 zOK8 rfl (by decide) w788 rfl rfl dX8_read_70 rfl ?_
          refine z_iload_n C 2 dX8_read_73 rfl rfl rfl ?_
          refine z_aload_n C 0 dX8_read_74 rfl rfl rfl ?_
          refine z_get (v := .ref 101) C 0 zOK8 rfl (by decide) w788 rfl rfl dX8_read_75 rfl ?_
          refine z_bipush C (48 : Int32) dX8_read_78 rfl rfl ?_
          refine z_iload_n C 2 dX8_read_80 rfl rfl rfl ?_
          refine z_iadd C dX8_read_81 rfl ?_
          refine z_iaload C 96 rfl dX8_read_82 rfl ?_
          refine z_iastore C 96 rfl dX8_read_83 rfl (fun M11 => ?_)
          refine z_iinc (v := (s8.1 + (1 : Int32))) C 2 (fun z => [(2, .int z), (0, .ref 100), (1, .int s4.1)]) dX8_read_84 rfl rfl (by decide) (fun _ => rfl) rfl (fun x12 => ?_)
          refine z_goto C dX8_read_87 rfl ?_
          exact z_perm [1, 2, 0] rfl (hr7 (x12, M11))
      · refine z_bipush C (-10 : Int32) dX8_read_53 rfl rfl ?_
        refine z_aload_n C 0 dX8_read_55 rfl rfl rfl ?_
        refine z_get (v := .int (s4.2.1 100 24)) C 24 zOK8 rfl (by decide) w812 rfl rfl dX8_read_56 rfl ?_
        refine z_isub C dX8_read_59 rfl ?_
        exact z_iret C rfl rfl dX8_read_60
    · refine z_icmpne C dX8_read_19 rfl rfl ?_ ?_
      · exact z_perm [0, 1] rfl (hk6 ())
      · refine z_aload_n C 0 dX8_read_22 rfl rfl rfl ?_
        refine z_get (v := .int (s4.2.1 100 23)) C 23 zOK8 rfl (by decide) w811 rfl rfl dX8_read_23 rfl ?_
        refine z_aload_n C 0 dX8_read_26 rfl rfl rfl ?_
        refine z_get (v := .int (s4.2.1 100 5)) C 5 zOK8 rfl (by decide) w793 rfl rfl dX8_read_27 rfl ?_
        refine z_icmpge C dX8_read_30 rfl rfl ?_ ?_
        · exact z_perm [0, 1] rfl (hk6 ())
        · refine z_aload_n C 0 dX8_read_33 rfl rfl rfl ?_
          refine z_iload_n C 1 dX8_read_34 rfl rfl rfl ?_
          refine z_cv (fun b => b) (fun b hb => z_V (na := 1) (ci := 8) (r := (RX8, TX8, 34)) C [.int s4.1] rfl (mX8_item Y s4.1 s4.2 b hb) rfl rfl w1047 w1049 w62 w88 w1050 hdX8_item ⟨Nat.le_of_ble_eq_true rfl, Nat.le_of_ble_eq_true rfl⟩ (Nat.le_of_ble_eq_true rfl) rfl dX8_read_35) rfl (fun b13 => ?_)
          refine z_iinc (v := (s4.1 + (1 : Int32))) C 1 (fun z => [(1, .int z), (0, .ref 100)]) dX8_read_38 rfl rfl (by decide) (fun _ => rfl) rfl (fun x14 => ?_)
          refine z_goto C dX8_read_41 rfl ?_
          exact z_perm [1, 0] rfl (hr3 (x14, b13))
  exact key b hF
set_option maxRecDepth 100000 in
set_option maxHeartbeats 4000000 in
theorem mX8_pair (Y : zY) (x0 : Int32) (x1 : Int32) (x2 : Int32) (x3 : Int32) (M : zMem) (b : Int32 × zMem) (hF : FX8_pair x0 x1 x2 x3 M = some b) : zMt Y yX8_pair cX8_pair 5 (some .int) 2 44 [.ref 100, .int x0, .int x1, .int x2, .int x3] M (zQi Y b.1 b.2) := by
  refine zMt_of (own := RX8) (by decide) rfl (Nat.le_of_ble_eq_true rfl) (fun X C => ?_)
  have key : zR Y X 5 (zFi Y X (fun b => b.1) (fun b => b.2)) (FX8_pair x0 x1 x2 x3 M) 0 [(0, .ref 100), (1, .int x0), (2, .int x1), (3, .int x2), (4, .int x3)] [] M := by
    unfold FX8_pair
    refine z_iload_n C 1 dX8_pair_0 rfl rfl rfl ?_
    refine z_iload_n C 2 dX8_pair_1 rfl rfl rfl ?_
    refine z_bipush C (30 : Int32) dX8_pair_2 rfl rfl ?_
    refine z_ci (fun b => b) (fun _ => M) (fun b hb => z_S (na := 3) C [.int x0, .int x1, .int (30 : Int32)] rfl (mX8_isNear Y x0 x1 (30 : Int32) M b hb) w899 w900 w88 w901 hdX8_isNear ⟨Nat.le_of_ble_eq_true rfl, Nat.le_of_ble_eq_true rfl⟩ (Nat.le_of_ble_eq_true rfl) rfl dX8_pair_4) rfl (fun b5 => ?_)
    refine z_ifeq C dX8_pair_7 rfl rfl ?_ ?_
    · refine z_iconst C (-1 : Int32) dX8_pair_21 rfl rfl ?_
      exact z_iret C rfl rfl dX8_pair_22
    · refine z_iload_n C 3 dX8_pair_10 rfl rfl rfl ?_
      refine z_iload C 4 dX8_pair_11 rfl rfl ?_
      refine z_bipush C (30 : Int32) dX8_pair_13 rfl rfl ?_
      refine z_ci (fun b => b) (fun _ => M) (fun b hb => z_S (na := 3) C [.int x2, .int x3, .int (30 : Int32)] rfl (mX8_isNear Y x2 x3 (30 : Int32) M b hb) w899 w900 w88 w901 hdX8_isNear ⟨Nat.le_of_ble_eq_true rfl, Nat.le_of_ble_eq_true rfl⟩ (Nat.le_of_ble_eq_true rfl) rfl dX8_pair_15) rfl (fun b6 => ?_)
      refine z_ifne C dX8_pair_18 rfl rfl ?_ ?_
      · refine z_aload_n C 0 dX8_pair_23 rfl rfl rfl ?_
        refine z_get (v := .int (M.1 100 6)) C 6 zOK8 rfl (by decide) w794 rfl rfl dX8_pair_24 rfl ?_
        refine z_bipush C (10 : Int32) dX8_pair_27 rfl rfl ?_
        refine z_icmpne C dX8_pair_29 rfl rfl ?_ ?_
        · refine z_aload_n C 0 dX8_pair_35 rfl rfl rfl ?_
          refine z_get (v := .ref 103) C 7 zOK8 rfl (by decide) w795 rfl rfl dX8_pair_36 rfl ?_
          refine z_iconst C (4 : Int32) dX8_pair_39 rfl rfl ?_
          refine z_aload_n C 0 dX8_pair_40 rfl rfl rfl ?_
          refine z_get (v := .int (M.1 100 6)) C 6 zOK8 rfl (by decide) w794 rfl rfl dX8_pair_41 rfl ?_
          refine z_imul C dX8_pair_44 rfl ?_
          refine z_iload_n C 1 dX8_pair_45 rfl rfl rfl ?_
          refine z_iastore C 40 rfl dX8_pair_46 rfl (fun M7 => ?_)
          refine z_aload_n C 0 dX8_pair_47 rfl rfl rfl ?_
          refine z_get (v := .ref 103) C 7 zOK8 rfl (by decide) w795 rfl rfl dX8_pair_48 rfl ?_
          refine z_iconst C (4 : Int32) dX8_pair_51 rfl rfl ?_
          refine z_aload_n C 0 dX8_pair_52 rfl rfl rfl ?_
          refine z_get (v := .int (M7.1 100 6)) C 6 zOK8 rfl (by decide) w794 rfl rfl dX8_pair_53 rfl ?_
          refine z_imul C dX8_pair_56 rfl ?_
          refine z_iconst C (1 : Int32) dX8_pair_57 rfl rfl ?_
          refine z_iadd C dX8_pair_58 rfl ?_
          refine z_iload_n C 2 dX8_pair_59 rfl rfl rfl ?_
          refine z_iastore C 40 rfl dX8_pair_60 rfl (fun M8 => ?_)
          refine z_aload_n C 0 dX8_pair_61 rfl rfl rfl ?_
          refine z_get (v := .ref 103) C 7 zOK8 rfl (by decide) w795 rfl rfl dX8_pair_62 rfl ?_
          refine z_iconst C (4 : Int32) dX8_pair_65 rfl rfl ?_
          refine z_aload_n C 0 dX8_pair_66 rfl rfl rfl ?_
          refine z_get (v := .int (M8.1 100 6)) C 6 zOK8 rfl (by decide) w794 rfl rfl dX8_pair_67 rfl ?_
          refine z_imul C dX8_pair_70 rfl ?_
          refine z_iconst C (2 : Int32) dX8_pair_71 rfl rfl ?_
          refine z_iadd C dX8_pair_72 rfl ?_
          refine z_iload_n C 3 dX8_pair_73 rfl rfl rfl ?_
          refine z_iastore C 40 rfl dX8_pair_74 rfl (fun M9 => ?_)
          refine z_aload_n C 0 dX8_pair_75 rfl rfl rfl ?_
          refine z_get (v := .ref 103) C 7 zOK8 rfl (by decide) w795 rfl rfl dX8_pair_76 rfl ?_
          refine z_iconst C (4 : Int32) dX8_pair_79 rfl rfl ?_
          refine z_aload_n C 0 dX8_pair_80 rfl rfl rfl ?_
          refine z_get (v := .int (M9.1 100 6)) C 6 zOK8 rfl (by decide) w794 rfl rfl dX8_pair_81 rfl ?_
          refine z_imul C dX8_pair_84 rfl ?_
          refine z_iconst C (3 : Int32) dX8_pair_85 rfl rfl ?_
          refine z_iadd C dX8_pair_86 rfl ?_
          refine z_iload C 4 dX8_pair_87 rfl rfl ?_
          refine z_iastore C 40 rfl dX8_pair_89 rfl (fun M10 => ?_)
          refine z_aload_n C 0 dX8_pair_90 rfl rfl rfl ?_
          refine z_dup C dX8_pair_91 rfl rfl ?_
          refine z_get (v := .int (M10.1 100 6)) C 6 zOK8 rfl (by decide) w794 rfl rfl dX8_pair_92 rfl ?_
          refine z_iconst C (1 : Int32) dX8_pair_95 rfl rfl ?_
          refine z_iadd C dX8_pair_96 rfl ?_
          refine z_puti C 6 zOK8 rfl (by decide) w794 rfl rfl rfl rfl rfl dX8_pair_97 rfl (fun M11 => ?_)
          refine z_aload_n C 0 dX8_pair_100 rfl rfl rfl ?_
          refine z_get (v := .int (M11.1 100 6)) C 6 zOK8 rfl (by decide) w794 rfl rfl dX8_pair_101 rfl ?_
          exact z_iret C rfl rfl dX8_pair_104
        · refine z_bipush C (-3 : Int32) dX8_pair_32 rfl rfl ?_
          exact z_iret C rfl rfl dX8_pair_34
      · refine z_iconst C (-1 : Int32) dX8_pair_21 rfl rfl ?_
        exact z_iret C rfl rfl dX8_pair_22
  exact key b hF
set_option maxRecDepth 100000 in
set_option maxHeartbeats 4000000 in
theorem mX8_wipe (Y : zY) (M : zMem) (b : Int32 × zMem) (hF : FX8_wipe M = some b) : zMt Y yX8_wipe cX8_wipe 2 (some .int) 0 0 [.ref 100] M (zQi Y b.1 b.2) := by
  refine zMt_of (own := RX8) (by decide) rfl (Nat.le_of_ble_eq_true rfl) (fun X C => ?_)
  have key : zR Y X 2 (zFi Y X (fun b => b.1) (fun b => b.2)) (FX8_wipe M) 0 [(0, .ref 100)] [] M := by
    unfold FX8_wipe
    refine z_aload_n C 0 dX8_wipe_0 rfl rfl rfl ?_
    refine z_get (v := .int (M.1 100 6)) C 6 zOK8 rfl (by decide) w794 rfl rfl dX8_wipe_1 rfl ?_
    refine z_istore_n C (fun z => [(1, .int z), (0, .ref 100)]) dX8_wipe_4 rfl (by decide) (fun _ => rfl) rfl (fun x1 => ?_)
    refine z_aload_n C 1 dX8_wipe_5 rfl rfl rfl ?_
    refine z_iconst C (0 : Int32) dX8_wipe_6 rfl rfl ?_
    refine z_puti C 6 zOK8 rfl (by decide) w794 rfl rfl rfl rfl rfl dX8_wipe_7 rfl (fun M2 => ?_)
    refine z_iload_n C 0 dX8_wipe_10 rfl rfl rfl ?_
    exact z_iret C rfl rfl dX8_wipe_11
  exact key b hF
set_option maxRecDepth 100000 in
set_option maxHeartbeats 4000000 in
theorem mX8_tolerance (Y : zY) (x0 : Int32) (x1 : Int32) (M : zMem) (b : Int32 × zMem) (hF : FX8_tolerance x0 x1 M = some b) : zMt Y yX8_tolerance cX8_tolerance 4 (some .int) 1 22 [.ref 100, .int x0, .int x1] M (zQi Y b.1 b.2) := by
  refine zMt_of (own := RX8) (by decide) rfl (Nat.le_of_ble_eq_true rfl) (fun X C => ?_)
  have key : zR Y X 4 (zFi Y X (fun b => b.1) (fun b => b.2)) (FX8_tolerance x0 x1 M) 0 [(0, .ref 100), (1, .int x0), (2, .int x1)] [] M := by
    unfold FX8_tolerance
    refine z_iload_n C 1 dX8_tolerance_0 rfl rfl rfl ?_
    refine z_iconst C (0 : Int32) dX8_tolerance_1 rfl rfl ?_
    refine z_iconst C (1 : Int32) dX8_tolerance_2 rfl rfl ?_
    refine z_ci (fun b => b) (fun _ => M) (fun b hb => z_S (na := 3) C [.int x0, .int (0 : Int32), .int (1 : Int32)] rfl (mX8_in Y x0 (0 : Int32) (1 : Int32) M b hb) w896 w897 w88 w898 hdX8_in ⟨Nat.le_of_ble_eq_true rfl, Nat.le_of_ble_eq_true rfl⟩ (Nat.le_of_ble_eq_true rfl) rfl dX8_tolerance_3) rfl (fun b3 => ?_)
    refine z_ifeq C dX8_tolerance_6 rfl rfl ?_ ?_
    · refine z_iconst C (-1 : Int32) dX8_tolerance_28 rfl rfl ?_
      exact z_iret C rfl rfl dX8_tolerance_29
    · refine z_iload_n C 2 dX8_tolerance_9 rfl rfl rfl ?_
      refine z_iconst C (0 : Int32) dX8_tolerance_10 rfl rfl ?_
      refine z_iload_n C 1 dX8_tolerance_11 rfl rfl rfl ?_
      refine z_join (fun k5 => ∀ (x4 : Int32), zR Y X 4 (zFi Y X (fun b => b.1) (fun b => b.2)) (k5 x4) 22 [(0, .ref 100), (1, .int x0), (2, .int x1)] [.int x4, .int (0 : Int32), .int x1] M) (fun x4 => ?_) (fun k5 hk5 => ?_)
      · refine z_ci (fun b => b) (fun _ => M) (fun b hb => z_S (na := 3) C [.int x1, .int (0 : Int32), .int x4] rfl (mX8_in Y x1 (0 : Int32) x4 M b hb) w896 w897 w88 w898 hdX8_in ⟨Nat.le_of_ble_eq_true rfl, Nat.le_of_ble_eq_true rfl⟩ (Nat.le_of_ble_eq_true rfl) rfl dX8_tolerance_22) rfl (fun b6 => ?_)
        refine z_ifne C dX8_tolerance_25 rfl rfl ?_ ?_
        · refine z_iload_n C 1 dX8_tolerance_30 rfl rfl rfl ?_
          refine z_join (fun k8 => ∀ (x7 : Int32), zR Y X 4 (zFi Y X (fun b => b.1) (fun b => b.2)) (k8 x7) 45 [(0, .ref 100), (1, .int x0), (2, .int x1)] [.int x7] M) (fun x7 => ?_) (fun k8 hk8 => ?_)
          · refine z_istoreP_n (lo' := [(3, .int x7), (0, .ref 100), (1, .int x0), (2, .int x1)]) C dX8_tolerance_45 rfl (by decide) rfl rfl ?_
            refine z_aload_n C 1 dX8_tolerance_46 rfl rfl rfl ?_
            refine z_iload_n C 2 dX8_tolerance_47 rfl rfl rfl ?_
            refine z_join (fun k10 => ∀ (x9 : Int32), zR Y X 4 (zFi Y X (fun b => b.1) (fun b => b.2)) (k10 x9) 59 [(0, .ref 100), (1, .int x0), (2, .int x1), (3, .int x7)] [.int x9, .ref 100] M) (fun x9 => ?_) (fun k10 hk10 => ?_)
            · refine z_puti C 8 zOK8 rfl (by decide) w796 rfl rfl rfl rfl rfl dX8_tolerance_59 rfl (fun M11 => ?_)
              refine z_aload_n C 0 dX8_tolerance_62 rfl rfl rfl ?_
              refine z_iload_n C 1 dX8_tolerance_63 rfl rfl rfl ?_
              refine z_iconst C (1 : Int32) dX8_tolerance_64 rfl rfl ?_
              refine z_join (fun k13 => ∀ (x12 : Int32), zR Y X 4 (zFi Y X (fun b => b.1) (fun b => b.2)) (k13 x12) 76 [(3, .int x7)] [.int x12, .ref 100] M11) (fun x12 => ?_) (fun k13 hk13 => ?_)
              · refine z_puti C 9 zOK8 rfl (by decide) w797 rfl rfl rfl rfl rfl dX8_tolerance_76 rfl (fun M14 => ?_)
                refine z_iload_n C 0 dX8_tolerance_79 rfl rfl rfl ?_
                exact z_iret C rfl rfl dX8_tolerance_80
              · refine z_icmpne C dX8_tolerance_65 rfl rfl ?_ ?_
                · refine z_aload_n C 0 dX8_tolerance_72 rfl rfl rfl ?_
                  refine z_get (v := .int (M11.1 100 9)) C 9 zOK8 rfl (by decide) w797 rfl rfl dX8_tolerance_73 rfl ?_
                  exact z_perm [3] rfl (hk13 (M11.1 100 9))
                · refine z_iload_n C 2 dX8_tolerance_68 rfl rfl rfl ?_
                  refine z_goto C dX8_tolerance_69 rfl ?_
                  exact z_perm [3] rfl (hk13 x1)
            · refine z_ifne C dX8_tolerance_48 rfl rfl ?_ ?_
              · refine z_aload_n C 1 dX8_tolerance_55 rfl rfl rfl ?_
                refine z_get (v := .int (M.1 100 8)) C 8 zOK8 rfl (by decide) w796 rfl rfl dX8_tolerance_56 rfl ?_
                exact z_perm [1, 2, 3, 0] rfl (hk10 (M.1 100 8))
              · refine z_iload_n C 3 dX8_tolerance_51 rfl rfl rfl ?_
                refine z_goto C dX8_tolerance_52 rfl ?_
                exact z_perm [1, 2, 3, 0] rfl (hk10 x1)
          · refine z_ifne C dX8_tolerance_31 rfl rfl ?_ ?_
            · refine z_aload_n C 0 dX8_tolerance_41 rfl rfl rfl ?_
              refine z_get (v := .int (M.1 100 9)) C 9 zOK8 rfl (by decide) w797 rfl rfl dX8_tolerance_42 rfl ?_
              exact z_perm [0, 1, 2] rfl (hk8 (M.1 100 9))
            · refine z_aload_n C 0 dX8_tolerance_34 rfl rfl rfl ?_
              refine z_get (v := .int (M.1 100 8)) C 8 zOK8 rfl (by decide) w796 rfl rfl dX8_tolerance_35 rfl ?_
              refine z_goto C dX8_tolerance_38 rfl ?_
              exact z_perm [0, 1, 2] rfl (hk8 (M.1 100 8))
        · refine z_iconst C (-1 : Int32) dX8_tolerance_28 rfl rfl ?_
          exact z_iret C rfl rfl dX8_tolerance_29
      · refine z_ifne C dX8_tolerance_12 rfl rfl ?_ ?_
        · refine z_bipush C (99 : Int32) dX8_tolerance_20 rfl rfl ?_
          exact z_perm [0, 1, 2] rfl (hk5 (99 : Int32))
        · refine z_bipush C (64 : Int32) dX8_tolerance_15 rfl rfl ?_
          refine z_goto C dX8_tolerance_17 rfl ?_
          exact z_perm [0, 1, 2] rfl (hk5 (64 : Int32))
  exact key b hF
set_option maxRecDepth 100000 in
set_option maxHeartbeats 4000000 in
theorem mX8_modelsOf (Y : zY) (x0 : Int32) (x1 : Int32) (M : zMem) (b : Int32) (hF : FX8_modelsOf x0 x1 = some b) : zMt Y yX8_modelsOf cX8_modelsOf 4 (some .int) 0 0 [.int x0, .int x1] M (zQi Y b M) := by
  refine zMt_of (own := RX8) (by decide) rfl (Nat.le_of_ble_eq_true rfl) (fun X C => ?_)
  have key : zR Y X 4 (zFi Y X (fun b => b) (fun _ => M)) (FX8_modelsOf x0 x1) 0 [(0, .int x0), (1, .int x1)] [] M := by
    unfold FX8_modelsOf
    refine z_iconst C (1 : Int32) dX8_modelsOf_0 rfl rfl ?_
    refine z_istoreP_n (lo' := [(2, .int (1 : Int32)), (0, .int x0), (1, .int x1)]) C dX8_modelsOf_1 rfl (by decide) rfl rfl ?_
    refine z_iconst C (0 : Int32) dX8_modelsOf_2 rfl rfl ?_
    refine z_istoreP_n (lo' := [(3, .int (0 : Int32)), (2, .int (1 : Int32)), (0, .int x0), (1, .int x1)]) C dX8_modelsOf_3 rfl (by decide) rfl rfl ?_
    refine z_loop (sM := fun s => M) (sl := fun s => [(0, .int x0), (1, .int x1), (2, .int s.1), (3, .int s.2)]) [2, 3, 1, 0] rfl rfl (fun r3 hr3 s4 => ?_)
    unfold FX8_modelsOf_L4
    refine z_iload_n C 3 dX8_modelsOf_4 rfl rfl rfl ?_
    refine z_iload_n C 0 dX8_modelsOf_5 rfl rfl rfl ?_
    refine z_icmpge C dX8_modelsOf_6 rfl rfl ?_ ?_
    · refine z_iload_n C 2 dX8_modelsOf_21 rfl rfl rfl ?_
      exact z_iret C rfl rfl dX8_modelsOf_22
    · refine z_iload_n C 2 dX8_modelsOf_9 rfl rfl rfl ?_
      refine z_iload_n C 1 dX8_modelsOf_10 rfl rfl rfl ?_
      refine z_iconst C (1 : Int32) dX8_modelsOf_11 rfl rfl ?_
      refine z_iadd C dX8_modelsOf_12 rfl ?_
      refine z_imul C dX8_modelsOf_13 rfl ?_
      refine z_istore_n C (fun z => [(2, .int z), (0, .int x0), (1, .int x1), (3, .int s4.2)]) dX8_modelsOf_14 rfl (by decide) (fun _ => rfl) rfl (fun x5 => ?_)
      refine z_iinc (v := (s4.2 + (1 : Int32))) C 3 (fun z => [(3, .int z), (2, .int x5), (0, .int x0), (1, .int x1)]) dX8_modelsOf_15 rfl rfl (by decide) (fun _ => rfl) rfl (fun x6 => ?_)
      refine z_goto C dX8_modelsOf_18 rfl ?_
      exact z_perm [2, 3, 1, 0] rfl (hr3 (x5, x6))
  exact key b hF
set_option maxRecDepth 100000 in
set_option maxHeartbeats 4000000 in
theorem mX8_keepWeights (Y : zY) (M : zMem) (b : zMem) (hF : FX8_keepWeights M = some b) : zMt Y yX8_keepWeights cX8_keepWeights 1 none 0 0 [.ref 100] M (zQv Y b) := by
  refine zMt_of (own := RX8) (by decide) rfl (Nat.le_of_ble_eq_true rfl) (fun X C => ?_)
  have key : zR Y X 1 (zFv Y X (fun b => b)) (FX8_keepWeights M) 0 [(0, .ref 100)] [] M := by
    unfold FX8_keepWeights
    refine z_aload_n C 0 dX8_keepWeights_0 rfl rfl rfl ?_
    refine z_aload_n C 0 dX8_keepWeights_1 rfl rfl rfl ?_
    refine z_get (v := .ref 101) C 0 zOK8 rfl (by decide) w788 rfl rfl dX8_keepWeights_2 rfl ?_
    refine z_iconst C (3 : Int32) dX8_keepWeights_5 rfl rfl ?_
    refine z_iaload C 96 rfl dX8_keepWeights_6 rfl ?_
    refine z_puti C 25 zOK8 rfl (by decide) w813 rfl rfl rfl rfl rfl dX8_keepWeights_7 rfl (fun M1 => ?_)
    refine z_aload_n C 0 dX8_keepWeights_10 rfl rfl rfl ?_
    refine z_aload_n C 0 dX8_keepWeights_11 rfl rfl rfl ?_
    refine z_get (v := .ref 101) C 0 zOK8 rfl (by decide) w788 rfl rfl dX8_keepWeights_12 rfl ?_
    refine z_bipush C (9 : Int32) dX8_keepWeights_15 rfl rfl ?_
    refine z_iaload C 96 rfl dX8_keepWeights_17 rfl ?_
    refine z_puti C 26 zOK8 rfl (by decide) w814 rfl rfl rfl rfl rfl dX8_keepWeights_18 rfl (fun M2 => ?_)
    refine z_aload_n C 0 dX8_keepWeights_21 rfl rfl rfl ?_
    refine z_aload_n C 0 dX8_keepWeights_22 rfl rfl rfl ?_
    refine z_get (v := .ref 101) C 0 zOK8 rfl (by decide) w788 rfl rfl dX8_keepWeights_23 rfl ?_
    refine z_bipush C (15 : Int32) dX8_keepWeights_26 rfl rfl ?_
    refine z_iaload C 96 rfl dX8_keepWeights_28 rfl ?_
    refine z_puti C 27 zOK8 rfl (by decide) w815 rfl rfl rfl rfl rfl dX8_keepWeights_29 rfl (fun M3 => ?_)
    exact z_vret C rfl dX8_keepWeights_32
  exact key b hF
set_option maxRecDepth 100000 in
set_option maxHeartbeats 4000000 in
theorem mX8_giveBack (Y : zY) (M : zMem) (b : zMem) (hF : FX8_giveBack M = some b) : zMt Y yX8_giveBack cX8_giveBack 1 none 0 0 [.ref 100] M (zQv Y b) := by
  refine zMt_of (own := RX8) (by decide) rfl (Nat.le_of_ble_eq_true rfl) (fun X C => ?_)
  have key : zR Y X 1 (zFv Y X (fun b => b)) (FX8_giveBack M) 0 [(0, .ref 100)] [] M := by
    unfold FX8_giveBack
    refine z_aload_n C 0 dX8_giveBack_0 rfl rfl rfl ?_
    refine z_get (v := .ref 101) C 0 zOK8 rfl (by decide) w788 rfl rfl dX8_giveBack_1 rfl ?_
    refine z_iconst C (3 : Int32) dX8_giveBack_4 rfl rfl ?_
    refine z_aload_n C 0 dX8_giveBack_5 rfl rfl rfl ?_
    refine z_get (v := .int (M.1 100 25)) C 25 zOK8 rfl (by decide) w813 rfl rfl dX8_giveBack_6 rfl ?_
    refine z_iastore C 96 rfl dX8_giveBack_9 rfl (fun M1 => ?_)
    refine z_aload_n C 0 dX8_giveBack_10 rfl rfl rfl ?_
    refine z_get (v := .ref 101) C 0 zOK8 rfl (by decide) w788 rfl rfl dX8_giveBack_11 rfl ?_
    refine z_bipush C (9 : Int32) dX8_giveBack_14 rfl rfl ?_
    refine z_aload_n C 0 dX8_giveBack_16 rfl rfl rfl ?_
    refine z_get (v := .int (M1.1 100 26)) C 26 zOK8 rfl (by decide) w814 rfl rfl dX8_giveBack_17 rfl ?_
    refine z_iastore C 96 rfl dX8_giveBack_20 rfl (fun M2 => ?_)
    refine z_aload_n C 0 dX8_giveBack_21 rfl rfl rfl ?_
    refine z_get (v := .ref 101) C 0 zOK8 rfl (by decide) w788 rfl rfl dX8_giveBack_22 rfl ?_
    refine z_bipush C (15 : Int32) dX8_giveBack_25 rfl rfl ?_
    refine z_aload_n C 0 dX8_giveBack_27 rfl rfl rfl ?_
    refine z_get (v := .int (M2.1 100 27)) C 27 zOK8 rfl (by decide) w815 rfl rfl dX8_giveBack_28 rfl ?_
    refine z_iastore C 96 rfl dX8_giveBack_31 rfl (fun M3 => ?_)
    exact z_vret C rfl dX8_giveBack_32
  exact key b hF
set_option maxRecDepth 100000 in
set_option maxHeartbeats 4000000 in
theorem mX8_digit (Y : zY) (x0 : Int32) (x1 : Int32) (x2 : Int32) (M : zMem) (b : Int32) (hF : FX8_digit x0 x1 x2 = some b) : zMt Y yX8_digit cX8_digit 5 (some .int) 0 0 [.int x0, .int x1, .int x2] M (zQi Y b M) := by
  refine zMt_of (own := RX8) (by decide) rfl (Nat.le_of_ble_eq_true rfl) (fun X C => ?_)
  have key : zR Y X 5 (zFi Y X (fun b => b) (fun _ => M)) (FX8_digit x0 x1 x2) 0 [(0, .int x0), (1, .int x1), (2, .int x2)] [] M := by
    unfold FX8_digit
    refine z_iload_n C 1 dX8_digit_0 rfl rfl rfl ?_
    refine z_istoreP_n (lo' := [(3, .int x1), (0, .int x0), (1, .int x1), (2, .int x2)]) C dX8_digit_1 rfl (by decide) rfl rfl ?_
    refine z_iconst C (0 : Int32) dX8_digit_2 rfl rfl ?_
    refine z_istoreP (lo' := [(4, .int (0 : Int32)), (3, .int x1), (0, .int x0), (1, .int x1), (2, .int x2)]) C dX8_digit_3 (by decide) rfl rfl ?_
    refine z_loop (sM := fun s => M) (sl := fun s => [(0, .int x0), (2, .int x2), (3, .int s.1), (4, .int s.2)]) [2, 4, 1, 0] rfl rfl (fun r4 hr4 s5 => ?_)
    unfold FX8_digit_L5
    refine z_iload C 3 dX8_digit_5 rfl rfl ?_
    refine z_iload_n C 1 dX8_digit_7 rfl rfl rfl ?_
    refine z_icmpge C dX8_digit_8 rfl rfl ?_ ?_
    · refine z_iload_n C 2 dX8_digit_23 rfl rfl rfl ?_
      refine z_iload_n C 0 dX8_digit_24 rfl rfl rfl ?_
      refine z_iconst C (1 : Int32) dX8_digit_25 rfl rfl ?_
      refine z_iadd C dX8_digit_26 rfl ?_
      refine z_irem C dX8_digit_27 rfl ?_
      exact z_iret C rfl rfl dX8_digit_28
    · refine z_iload_n C 2 dX8_digit_11 rfl rfl rfl ?_
      refine z_iload_n C 0 dX8_digit_12 rfl rfl rfl ?_
      refine z_iconst C (1 : Int32) dX8_digit_13 rfl rfl ?_
      refine z_iadd C dX8_digit_14 rfl ?_
      refine z_idiv C dX8_digit_15 rfl ?_
      refine z_istore_n C (fun z => [(3, .int z), (0, .int x0), (2, .int x2), (4, .int s5.2)]) dX8_digit_16 rfl (by decide) (fun _ => rfl) rfl (fun x6 => ?_)
      refine z_iinc (v := (s5.2 + (1 : Int32))) C 3 (fun z => [(4, .int z), (3, .int x6), (0, .int x0), (2, .int x2)]) dX8_digit_17 rfl rfl (by decide) (fun _ => rfl) rfl (fun x7 => ?_)
      refine z_goto C dX8_digit_20 rfl ?_
      exact z_perm [2, 3, 1, 0] rfl (hr4 (x6, x7))
  exact key b hF
set_option maxRecDepth 100000 in
set_option maxHeartbeats 4000000 in
theorem mX8_weigh (Y : zY) (x0 : Int32) (x1 : Int32) (x2 : Int32) (M : zMem) (b : zMem) (hF : FX8_weigh x0 x1 x2 M = some b) : zMt Y yX8_weigh cX8_weigh 5 none 1 24 [.ref 100, .int x0, .int x1, .int x2] M (zQv Y b) := by
  refine zMt_of (own := RX8) (by decide) rfl (Nat.le_of_ble_eq_true rfl) (fun X C => ?_)
  have key : zR Y X 5 (zFv Y X (fun b => b)) (FX8_weigh x0 x1 x2 M) 0 [(0, .ref 100), (1, .int x0), (2, .int x1), (3, .int x2)] [] M := by
    unfold FX8_weigh
    refine z_iconst C (0 : Int32) dX8_weigh_0 rfl rfl ?_
    refine z_istoreP (lo' := [(4, .int (0 : Int32)), (0, .ref 100), (1, .int x0), (2, .int x1), (3, .int x2)]) C dX8_weigh_1 (by decide) rfl rfl ?_
    refine z_loop (sM := fun s => s.2) (sl := fun s => [(0, .ref 100), (1, .int x0), (2, .int x1), (3, .int x2), (4, .int s.1)]) [1, 2, 3, 4, 0] rfl rfl (fun r4 hr4 s5 => ?_)
    unfold FX8_weigh_L3
    refine z_iload C 4 dX8_weigh_3 rfl rfl ?_
    refine z_iload_n C 1 dX8_weigh_5 rfl rfl rfl ?_
    refine z_icmpge C dX8_weigh_6 rfl rfl ?_ ?_
    · exact z_vret C rfl dX8_weigh_34
    · refine z_aload_n C 0 dX8_weigh_9 rfl rfl rfl ?_
      refine z_get (v := .ref 101) C 0 zOK8 rfl (by decide) w788 rfl rfl dX8_weigh_10 rfl ?_
      refine z_bipush C (6 : Int32) dX8_weigh_13 rfl rfl ?_
      refine z_iload C 4 dX8_weigh_15 rfl rfl ?_
      refine z_imul C dX8_weigh_17 rfl ?_
      refine z_iconst C (3 : Int32) dX8_weigh_18 rfl rfl ?_
      refine z_iadd C dX8_weigh_19 rfl ?_
      refine z_iload_n C 2 dX8_weigh_20 rfl rfl rfl ?_
      refine z_iload_n C 3 dX8_weigh_21 rfl rfl rfl ?_
      refine z_iload C 4 dX8_weigh_22 rfl rfl ?_
      refine z_ci (fun b => b) (fun _ => s5.2) (fun b hb => z_S (na := 3) C [.int x1, .int x2, .int s5.1] rfl (mX8_digit Y x1 x2 s5.1 s5.2 b hb) w1098 w1099 w88 w1100 hdX8_digit ⟨Nat.le_of_ble_eq_true rfl, Nat.le_of_ble_eq_true rfl⟩ (Nat.le_of_ble_eq_true rfl) rfl dX8_weigh_24) rfl (fun b6 => ?_)
      refine z_iastore C 96 rfl dX8_weigh_27 rfl (fun M7 => ?_)
      refine z_iinc (v := (s5.1 + (1 : Int32))) C 4 (fun z => [(4, .int z), (0, .ref 100), (1, .int x0), (2, .int x1), (3, .int x2)]) dX8_weigh_28 rfl rfl (by decide) (fun _ => rfl) rfl (fun x8 => ?_)
      refine z_goto C dX8_weigh_31 rfl ?_
      exact z_perm [1, 2, 3, 4, 0] rfl (hr4 (x8, M7))
  exact key b hF
set_option maxRecDepth 100000 in
set_option maxHeartbeats 4000000 in
theorem mX8_isWithin (Y : zY) (x0 : Int32) (x1 : Int32) (M : zMem) (b : Int32) (hF : FX8_isWithin x0 x1 M = some b) : zMt Y yX8_isWithin cX8_isWithin 4 (some .boolean) 2 55 [.ref 100, .int x0, .int x1] M (zQi Y b M) := by
  refine zMt_of (own := RX8) (by decide) rfl (Nat.le_of_ble_eq_true rfl) (fun X C => ?_)
  have key : zR Y X 4 (zFi Y X (fun b => b) (fun _ => M)) (FX8_isWithin x0 x1 M) 0 [(0, .ref 100), (1, .int x0), (2, .int x1)] [] M := by
    unfold FX8_isWithin
    refine z_aload_n C 0 dX8_isWithin_0 rfl rfl rfl ?_
    refine z_aload_n C 0 dX8_isWithin_1 rfl rfl rfl ?_
    refine z_get (v := .ref 103) C 7 zOK8 rfl (by decide) w795 rfl rfl dX8_isWithin_2 rfl ?_
    refine z_iconst C (4 : Int32) dX8_isWithin_5 rfl rfl ?_
    refine z_iload_n C 1 dX8_isWithin_6 rfl rfl rfl ?_
    refine z_imul C dX8_isWithin_7 rfl ?_
    refine z_iaload C 40 rfl dX8_isWithin_8 rfl ?_
    refine z_aload_n C 0 dX8_isWithin_9 rfl rfl rfl ?_
    refine z_get (v := .ref 103) C 7 zOK8 rfl (by decide) w795 rfl rfl dX8_isWithin_10 rfl ?_
    refine z_iconst C (4 : Int32) dX8_isWithin_13 rfl rfl ?_
    refine z_iload_n C 1 dX8_isWithin_14 rfl rfl rfl ?_
    refine z_imul C dX8_isWithin_15 rfl ?_
    refine z_iconst C (1 : Int32) dX8_isWithin_16 rfl rfl ?_
    refine z_iadd C dX8_isWithin_17 rfl ?_
    refine z_iaload C 40 rfl dX8_isWithin_18 rfl ?_
    refine z_iload_n C 2 dX8_isWithin_19 rfl rfl rfl ?_
    refine z_ci (fun b => b) (fun _ => M) (fun b hb => z_V (na := 3) (ci := 8) (r := (RX8, TX8, 34)) C [.int (zrd M 103 ((4 : Int32) * x0)), .int (zrd M 103 (((4 : Int32) * x0) + (1 : Int32))), .int x1] rfl (mX8_fromOf Y (zrd M 103 ((4 : Int32) * x0)) (zrd M 103 (((4 : Int32) * x0) + (1 : Int32))) x1 M b hb) rfl rfl w936 w938 w51 w88 w939 hdX8_fromOf ⟨Nat.le_of_ble_eq_true rfl, Nat.le_of_ble_eq_true rfl⟩ (Nat.le_of_ble_eq_true rfl) rfl dX8_isWithin_20) rfl (fun b3 => ?_)
    refine z_aload_n C 0 dX8_isWithin_23 rfl rfl rfl ?_
    refine z_aload_n C 0 dX8_isWithin_24 rfl rfl rfl ?_
    refine z_get (v := .ref 103) C 7 zOK8 rfl (by decide) w795 rfl rfl dX8_isWithin_25 rfl ?_
    refine z_iconst C (4 : Int32) dX8_isWithin_28 rfl rfl ?_
    refine z_iload_n C 1 dX8_isWithin_29 rfl rfl rfl ?_
    refine z_imul C dX8_isWithin_30 rfl ?_
    refine z_iconst C (2 : Int32) dX8_isWithin_31 rfl rfl ?_
    refine z_iadd C dX8_isWithin_32 rfl ?_
    refine z_iaload C 40 rfl dX8_isWithin_33 rfl ?_
    refine z_aload_n C 0 dX8_isWithin_34 rfl rfl rfl ?_
    refine z_get (v := .ref 103) C 7 zOK8 rfl (by decide) w795 rfl rfl dX8_isWithin_35 rfl ?_
    refine z_iconst C (4 : Int32) dX8_isWithin_38 rfl rfl ?_
    refine z_iload_n C 1 dX8_isWithin_39 rfl rfl rfl ?_
    refine z_imul C dX8_isWithin_40 rfl ?_
    refine z_iconst C (3 : Int32) dX8_isWithin_41 rfl rfl ?_
    refine z_iadd C dX8_isWithin_42 rfl ?_
    refine z_iaload C 40 rfl dX8_isWithin_43 rfl ?_
    refine z_iload_n C 2 dX8_isWithin_44 rfl rfl rfl ?_
    refine z_ci (fun b => b) (fun _ => M) (fun b hb => z_V (na := 3) (ci := 8) (r := (RX8, TX8, 34)) C [.int (zrd M 103 (((4 : Int32) * x0) + (2 : Int32))), .int (zrd M 103 (((4 : Int32) * x0) + (3 : Int32))), .int x1] rfl (mX8_fromOf Y (zrd M 103 (((4 : Int32) * x0) + (2 : Int32))) (zrd M 103 (((4 : Int32) * x0) + (3 : Int32))) x1 M b hb) rfl rfl w936 w938 w51 w88 w939 hdX8_fromOf ⟨Nat.le_of_ble_eq_true rfl, Nat.le_of_ble_eq_true rfl⟩ (Nat.le_of_ble_eq_true rfl) rfl dX8_isWithin_45) rfl (fun b4 => ?_)
    refine z_isub C dX8_isWithin_48 rfl ?_
    refine z_istore_n C (fun z => [(3, .int z), (0, .ref 100), (1, .int x0), (2, .int x1)]) dX8_isWithin_49 rfl (by decide) (fun _ => rfl) rfl (fun x5 => ?_)
    refine z_iload_n C 0 dX8_isWithin_50 rfl rfl rfl ?_
    refine z_aload_n C 1 dX8_isWithin_51 rfl rfl rfl ?_
    refine z_get (v := .int (M.1 100 8)) C 8 zOK8 rfl (by decide) w796 rfl rfl dX8_isWithin_52 rfl ?_
    refine z_icmpgt C dX8_isWithin_55 rfl rfl ?_ ?_
    · refine z_iconst C (0 : Int32) dX8_isWithin_71 rfl rfl ?_
      exact z_zretK C rfl rfl rfl dX8_isWithin_72
    · refine z_iload_n C 0 dX8_isWithin_58 rfl rfl rfl ?_
      refine z_ineg C dX8_isWithin_59 rfl ?_
      refine z_aload_n C 1 dX8_isWithin_60 rfl rfl rfl ?_
      refine z_get (v := .int (M.1 100 8)) C 8 zOK8 rfl (by decide) w796 rfl rfl dX8_isWithin_61 rfl ?_
      refine z_icmpgt C dX8_isWithin_64 rfl rfl ?_ ?_
      · refine z_iconst C (0 : Int32) dX8_isWithin_71 rfl rfl ?_
        exact z_zretK C rfl rfl rfl dX8_isWithin_72
      · refine z_iconst C (1 : Int32) dX8_isWithin_67 rfl rfl ?_
        refine z_goto C dX8_isWithin_68 rfl ?_
        exact z_zretK C rfl rfl rfl dX8_isWithin_72
  exact key b hF
set_option maxRecDepth 100000 in
set_option maxHeartbeats 4000000 in
theorem mX8_doesFit (Y : zY) (M : zMem) (b : Int32) (hF : FX8_doesFit M = some b) : zMt Y yX8_doesFit cX8_doesFit 3 (some .boolean) 3 78 [.ref 100] M (zQi Y b M) := by
  refine zMt_of (own := RX8) (by decide) rfl (Nat.le_of_ble_eq_true rfl) (fun X C => ?_)
  have key : zR Y X 3 (zFi Y X (fun b => b) (fun _ => M)) (FX8_doesFit M) 0 [(0, .ref 100)] [] M := by
    unfold FX8_doesFit
    refine z_iconst C (1 : Int32) dX8_doesFit_0 rfl rfl ?_
    refine z_istoreP_n (lo' := [(1, .int (1 : Int32)), (0, .ref 100)]) C dX8_doesFit_1 rfl (by decide) rfl rfl ?_
    refine z_iconst C (0 : Int32) dX8_doesFit_2 rfl rfl ?_
    refine z_istoreP_n (lo' := [(2, .int (0 : Int32)), (1, .int (1 : Int32)), (0, .ref 100)]) C dX8_doesFit_3 rfl (by decide) rfl rfl ?_
    refine z_loop (sM := fun s => M) (sl := fun s => [(0, .ref 100), (1, .int s.1), (2, .int s.2)]) [2, 1, 0] rfl rfl (fun r1 hr1 s2 => ?_)
    unfold FX8_doesFit_L4
    refine z_iload_n C 2 dX8_doesFit_4 rfl rfl rfl ?_
    refine z_aload_n C 0 dX8_doesFit_5 rfl rfl rfl ?_
    refine z_get (v := .int (M.1 100 6)) C 6 zOK8 rfl (by decide) w794 rfl rfl dX8_doesFit_6 rfl ?_
    refine z_icmpge C dX8_doesFit_9 rfl rfl ?_ ?_
    · refine z_iload_n C 1 dX8_doesFit_46 rfl rfl rfl ?_
      exact z_zret C rfl rfl dX8_doesFit_47
    · refine z_iload_n C 1 dX8_doesFit_12 rfl rfl rfl ?_
      refine z_ifeq C dX8_doesFit_13 rfl rfl ?_ ?_
      · refine z_iload_n C 1 dX8_doesFit_46 rfl rfl rfl ?_
        exact z_zret C rfl rfl dX8_doesFit_47
      · refine z_aload_n C 0 dX8_doesFit_16 rfl rfl rfl ?_
        refine z_iload_n C 2 dX8_doesFit_17 rfl rfl rfl ?_
        refine z_iconst C (0 : Int32) dX8_doesFit_18 rfl rfl ?_
        refine z_ci (fun b => b) (fun _ => M) (fun b hb => z_V (na := 2) (ci := 8) (r := (RX8, TX8, 34)) C [.int s2.2, .int (0 : Int32)] rfl (mX8_isWithin Y s2.2 (0 : Int32) M b hb) rfl rfl w1105 w1107 w71 w88 w1108 hdX8_isWithin ⟨Nat.le_of_ble_eq_true rfl, Nat.le_of_ble_eq_true rfl⟩ (Nat.le_of_ble_eq_true rfl) rfl dX8_doesFit_19) rfl (fun b3 => ?_)
        refine z_join (fun k5 => ∀ (x4 : Int32), zR Y X 3 (zFi Y X (fun b => b) (fun _ => M)) (k5 x4) 39 [(0, .ref 100), (2, .int s2.2)] [.int x4] M) (fun x4 => ?_) (fun k5 hk5 => ?_)
        · refine z_istoreP_n (lo' := [(1, .int x4), (0, .ref 100), (2, .int s2.2)]) C dX8_doesFit_39 rfl (by decide) rfl rfl ?_
          refine z_iinc (v := (s2.2 + (1 : Int32))) C 2 (fun z => [(2, .int z), (1, .int x4), (0, .ref 100)]) dX8_doesFit_40 rfl rfl (by decide) (fun _ => rfl) rfl (fun x6 => ?_)
          refine z_goto C dX8_doesFit_43 rfl ?_
          exact z_perm [2, 1, 0] rfl (hr1 (x4, x6))
        · refine z_join (fun k8 => ∀ (u7 : Unit), zR Y X 3 (zFi Y X (fun b => b) (fun _ => M)) (k8 u7) 38 [(0, .ref 100), (2, .int s2.2)] [] M) (fun u7 => ?_) (fun k8 hk8 => ?_)
          · refine z_iconst C (0 : Int32) dX8_doesFit_38 rfl rfl ?_
            exact z_perm [0, 1] rfl (hk5 (0 : Int32))
          · refine z_ifeq C dX8_doesFit_22 rfl rfl ?_ ?_
            · exact z_perm [0, 2] rfl (hk8 ())
            · refine z_aload_n C 0 dX8_doesFit_25 rfl rfl rfl ?_
              refine z_iload_n C 2 dX8_doesFit_26 rfl rfl rfl ?_
              refine z_iconst C (1 : Int32) dX8_doesFit_27 rfl rfl ?_
              refine z_ci (fun b => b) (fun _ => M) (fun b hb => z_V (na := 2) (ci := 8) (r := (RX8, TX8, 34)) C [.int s2.2, .int (1 : Int32)] rfl (mX8_isWithin Y s2.2 (1 : Int32) M b hb) rfl rfl w1105 w1107 w71 w88 w1108 hdX8_isWithin ⟨Nat.le_of_ble_eq_true rfl, Nat.le_of_ble_eq_true rfl⟩ (Nat.le_of_ble_eq_true rfl) rfl dX8_doesFit_28) rfl (fun b9 => ?_)
              refine z_ifeq C dX8_doesFit_31 rfl rfl ?_ ?_
              · exact z_perm [0, 2] rfl (hk8 ())
              · refine z_iconst C (1 : Int32) dX8_doesFit_34 rfl rfl ?_
                refine z_goto C dX8_doesFit_35 rfl ?_
                exact z_perm [0, 2] rfl (hk5 (1 : Int32))
  exact key b hF
set_option maxRecDepth 100000 in
set_option maxHeartbeats 4000000 in
theorem mX8_isTry (Y : zY) (x0 : Int32) (x1 : Int32) (M : zMem) (b : Int32) (hF : FX8_isTry x0 x1 M = some b) : zMt Y yX8_isTry cX8_isTry 3 (some .boolean) 1 22 [.ref 100, .int x0, .int x1] M (zQi Y b M) := by
  refine zMt_of (own := RX8) (by decide) rfl (Nat.le_of_ble_eq_true rfl) (fun X C => ?_)
  have key : zR Y X 3 (zFi Y X (fun b => b) (fun _ => M)) (FX8_isTry x0 x1 M) 0 [(0, .ref 100), (1, .int x0), (2, .int x1)] [] M := by
    unfold FX8_isTry
    refine z_iload_n C 1 dX8_isTry_0 rfl rfl rfl ?_
    refine z_iconst C (1 : Int32) dX8_isTry_1 rfl rfl ?_
    refine z_iconst C (3 : Int32) dX8_isTry_2 rfl rfl ?_
    refine z_ci (fun b => b) (fun _ => M) (fun b hb => z_S (na := 3) C [.int x0, .int (1 : Int32), .int (3 : Int32)] rfl (mX8_in Y x0 (1 : Int32) (3 : Int32) M b hb) w896 w897 w88 w898 hdX8_in ⟨Nat.le_of_ble_eq_true rfl, Nat.le_of_ble_eq_true rfl⟩ (Nat.le_of_ble_eq_true rfl) rfl dX8_isTry_3) rfl (fun b3 => ?_)
    refine z_ifeq C dX8_isTry_6 rfl rfl ?_ ?_
    · refine z_iconst C (0 : Int32) dX8_isTry_31 rfl rfl ?_
      exact z_zretK C rfl rfl rfl dX8_isTry_32
    · refine z_iload_n C 1 dX8_isTry_9 rfl rfl rfl ?_
      refine z_aload_n C 0 dX8_isTry_10 rfl rfl rfl ?_
      refine z_get (v := .int (M.1 100 1)) C 1 zOK8 rfl (by decide) w789 rfl rfl dX8_isTry_11 rfl ?_
      refine z_icmpgt C dX8_isTry_14 rfl rfl ?_ ?_
      · refine z_iconst C (0 : Int32) dX8_isTry_31 rfl rfl ?_
        exact z_zretK C rfl rfl rfl dX8_isTry_32
      · refine z_iload_n C 2 dX8_isTry_17 rfl rfl rfl ?_
        refine z_iconst C (1 : Int32) dX8_isTry_18 rfl rfl ?_
        refine z_bipush C (15 : Int32) dX8_isTry_19 rfl rfl ?_
        refine z_ci (fun b => b) (fun _ => M) (fun b hb => z_S (na := 3) C [.int x1, .int (1 : Int32), .int (15 : Int32)] rfl (mX8_in Y x1 (1 : Int32) (15 : Int32) M b hb) w896 w897 w88 w898 hdX8_in ⟨Nat.le_of_ble_eq_true rfl, Nat.le_of_ble_eq_true rfl⟩ (Nat.le_of_ble_eq_true rfl) rfl dX8_isTry_21) rfl (fun b4 => ?_)
        refine z_ifeq C dX8_isTry_24 rfl rfl ?_ ?_
        · refine z_iconst C (0 : Int32) dX8_isTry_31 rfl rfl ?_
          exact z_zretK C rfl rfl rfl dX8_isTry_32
        · refine z_iconst C (1 : Int32) dX8_isTry_27 rfl rfl ?_
          refine z_goto C dX8_isTry_28 rfl ?_
          exact z_zretK C rfl rfl rfl dX8_isTry_32
  exact key b hF
set_option maxRecDepth 100000 in
set_option maxHeartbeats 4000000 in
theorem mX8_fits (Y : zY) (x0 : Int32) (x1 : Int32) (x2 : Int32) (M : zMem) (b : Int32 × zMem) (hF : FX8_fits x0 x1 x2 M = some b) : zMt Y yX8_fits cX8_fits 5 (some .int) 4 100 [.ref 100, .int x0, .int x1, .int x2] M (zQi Y b.1 b.2) := by
  refine zMt_of (own := RX8) (by decide) rfl (Nat.le_of_ble_eq_true rfl) (fun X C => ?_)
  have key : zR Y X 5 (zFi Y X (fun b => b.1) (fun b => b.2)) (FX8_fits x0 x1 x2 M) 0 [(0, .ref 100), (1, .int x0), (2, .int x1), (3, .int x2)] [] M := by
    unfold FX8_fits
    refine z_aload_n C 0 dX8_fits_0 rfl rfl rfl ?_
    refine z_iload_n C 1 dX8_fits_1 rfl rfl rfl ?_
    refine z_iload_n C 2 dX8_fits_2 rfl rfl rfl ?_
    refine z_ci (fun b => b) (fun _ => M) (fun b hb => z_V (na := 2) (ci := 8) (r := (RX8, TX8, 34)) C [.int x0, .int x1] rfl (mX8_isTry Y x0 x1 M b hb) rfl rfl w1083 w1085 w67 w88 w1086 hdX8_isTry ⟨Nat.le_of_ble_eq_true rfl, Nat.le_of_ble_eq_true rfl⟩ (Nat.le_of_ble_eq_true rfl) rfl dX8_fits_3) rfl (fun b4 => ?_)
    refine z_ifeq C dX8_fits_6 rfl rfl ?_ ?_
    · refine z_iconst C (-1 : Int32) dX8_fits_24 rfl rfl ?_
      exact z_iret C rfl rfl dX8_fits_25
    · refine z_iload_n C 3 dX8_fits_9 rfl rfl rfl ?_
      refine z_iconst C (0 : Int32) dX8_fits_10 rfl rfl ?_
      refine z_iload_n C 1 dX8_fits_11 rfl rfl rfl ?_
      refine z_iload_n C 2 dX8_fits_12 rfl rfl rfl ?_
      refine z_ci (fun b => b) (fun _ => M) (fun b hb => z_S (na := 2) C [.int x0, .int x1] rfl (mX8_modelsOf Y x0 x1 M b hb) w1087 w1088 w88 w1089 hdX8_modelsOf ⟨Nat.le_of_ble_eq_true rfl, Nat.le_of_ble_eq_true rfl⟩ (Nat.le_of_ble_eq_true rfl) rfl dX8_fits_13) rfl (fun b5 => ?_)
      refine z_iconst C (1 : Int32) dX8_fits_16 rfl rfl ?_
      refine z_isub C dX8_fits_17 rfl ?_
      refine z_ci (fun b => b) (fun _ => M) (fun b hb => z_S (na := 3) C [.int x2, .int (0 : Int32), .int (b5 - (1 : Int32))] rfl (mX8_in Y x2 (0 : Int32) (b5 - (1 : Int32)) M b hb) w896 w897 w88 w898 hdX8_in ⟨Nat.le_of_ble_eq_true rfl, Nat.le_of_ble_eq_true rfl⟩ (Nat.le_of_ble_eq_true rfl) rfl dX8_fits_18) rfl (fun b6 => ?_)
      refine z_ifne C dX8_fits_21 rfl rfl ?_ ?_
      · refine z_aload_n C 0 dX8_fits_26 rfl rfl rfl ?_
        refine z_cv (fun b => b) (fun b hb => z_V (na := 0) (ci := 8) (r := (RX8, TX8, 34)) C [] rfl (mX8_keepWeights Y M b hb) rfl rfl w1090 w1092 w68 w88 w1093 hdX8_keepWeights ⟨Nat.le_of_ble_eq_true rfl, Nat.le_of_ble_eq_true rfl⟩ (Nat.le_of_ble_eq_true rfl) rfl dX8_fits_27) rfl (fun b7 => ?_)
        refine z_aload_n C 0 dX8_fits_30 rfl rfl rfl ?_
        refine z_iload_n C 1 dX8_fits_31 rfl rfl rfl ?_
        refine z_iload_n C 2 dX8_fits_32 rfl rfl rfl ?_
        refine z_iload_n C 3 dX8_fits_33 rfl rfl rfl ?_
        refine z_cv (fun b => b) (fun b hb => z_V (na := 3) (ci := 8) (r := (RX8, TX8, 34)) C [.int x0, .int x1, .int x2] rfl (mX8_weigh Y x0 x1 x2 b7 b hb) rfl rfl w1094 w1096 w69 w88 w1097 hdX8_weigh ⟨Nat.le_of_ble_eq_true rfl, Nat.le_of_ble_eq_true rfl⟩ (Nat.le_of_ble_eq_true rfl) rfl dX8_fits_34) rfl (fun b8 => ?_)
        refine z_aload_n C 0 dX8_fits_37 rfl rfl rfl ?_
        refine z_ci (fun b => b) (fun _ => b8) (fun b hb => z_V (na := 0) (ci := 8) (r := (RX8, TX8, 34)) C [] rfl (mX8_doesFit Y b8 b hb) rfl rfl w1101 w1103 w70 w88 w1104 hdX8_doesFit ⟨Nat.le_of_ble_eq_true rfl, Nat.le_of_ble_eq_true rfl⟩ (Nat.le_of_ble_eq_true rfl) rfl dX8_fits_38) rfl (fun b9 => ?_)
        refine z_istoreP (lo' := [(4, .int b9), (0, .ref 100), (1, .int x0), (2, .int x1), (3, .int x2)]) C dX8_fits_41 (by decide) rfl rfl ?_
        refine z_aload_n C 1 dX8_fits_43 rfl rfl rfl ?_
        refine z_cv (fun b => b) (fun b hb => z_V (na := 0) (ci := 8) (r := (RX8, TX8, 34)) C [] rfl (mX8_giveBack Y b8 b hb) rfl rfl w1109 w1111 w72 w88 w1112 hdX8_giveBack ⟨Nat.le_of_ble_eq_true rfl, Nat.le_of_ble_eq_true rfl⟩ (Nat.le_of_ble_eq_true rfl) rfl dX8_fits_44) rfl (fun b10 => ?_)
        refine z_iload C 0 dX8_fits_47 rfl rfl ?_
        refine z_ifeq C dX8_fits_49 rfl rfl ?_ ?_
        · refine z_iconst C (0 : Int32) dX8_fits_56 rfl rfl ?_
          exact z_iret C rfl rfl dX8_fits_57
        · refine z_iconst C (1 : Int32) dX8_fits_52 rfl rfl ?_
          refine z_goto C dX8_fits_53 rfl ?_
          exact z_iret C rfl rfl dX8_fits_57
      · refine z_iconst C (-1 : Int32) dX8_fits_24 rfl rfl ?_
        exact z_iret C rfl rfl dX8_fits_25
  exact key b hF
set_option maxRecDepth 100000 in
set_option maxHeartbeats 4000000 in
theorem mX8_findFitting (Y : zY) (x0 : Int32) (x1 : Int32) (M : zMem) (b : Int32 × zMem) (hF : FX8_findFitting x0 x1 M = some b) : zMt Y yX8_findFitting cX8_findFitting 7 (some .int) 4 100 [.ref 100, .int x0, .int x1] M (zQi Y b.1 b.2) := by
  refine zMt_of (own := RX8) (by decide) rfl (Nat.le_of_ble_eq_true rfl) (fun X C => ?_)
  have key : zR Y X 7 (zFi Y X (fun b => b.1) (fun b => b.2)) (FX8_findFitting x0 x1 M) 0 [(0, .ref 100), (1, .int x0), (2, .int x1)] [] M := by
    unfold FX8_findFitting
    refine z_aload_n C 0 dX8_findFitting_0 rfl rfl rfl ?_
    refine z_cv (fun b => b) (fun b hb => z_V (na := 0) (ci := 8) (r := (RX8, TX8, 34)) C [] rfl (mX8_keepWeights Y M b hb) rfl rfl w1090 w1092 w68 w88 w1093 hdX8_keepWeights ⟨Nat.le_of_ble_eq_true rfl, Nat.le_of_ble_eq_true rfl⟩ (Nat.le_of_ble_eq_true rfl) rfl dX8_findFitting_1) rfl (fun b3 => ?_)
    refine z_iconst C (0 : Int32) dX8_findFitting_4 rfl rfl ?_
    refine z_istoreP_n (lo' := [(3, .int (0 : Int32)), (0, .ref 100), (1, .int x0), (2, .int x1)]) C dX8_findFitting_5 rfl (by decide) rfl rfl ?_
    refine z_iload_n C 2 dX8_findFitting_6 rfl rfl rfl ?_
    refine z_iload_n C 3 dX8_findFitting_7 rfl rfl rfl ?_
    refine z_ci (fun b => b) (fun _ => b3) (fun b hb => z_S (na := 2) C [.int x0, .int x1] rfl (mX8_modelsOf Y x0 x1 b3 b hb) w1087 w1088 w88 w1089 hdX8_modelsOf ⟨Nat.le_of_ble_eq_true rfl, Nat.le_of_ble_eq_true rfl⟩ (Nat.le_of_ble_eq_true rfl) rfl dX8_findFitting_8) rfl (fun b4 => ?_)
    refine z_istoreP (lo' := [(4, .int b4), (3, .int (0 : Int32)), (0, .ref 100), (1, .int x0), (2, .int x1)]) C dX8_findFitting_11 (by decide) rfl rfl ?_
    refine z_iconst C (0 : Int32) dX8_findFitting_13 rfl rfl ?_
    refine z_istoreP (lo' := [(5, .int (0 : Int32)), (4, .int b4), (3, .int (0 : Int32)), (0, .ref 100), (1, .int x0), (2, .int x1)]) C dX8_findFitting_14 (by decide) rfl rfl ?_
    refine z_loop (sM := fun s => s.2.2) (sl := fun s => [(0, .ref 100), (1, .int x0), (2, .int x1), (3, .int s.1), (4, .int b4), (5, .int s.2.1)]) [3, 4, 5, 2, 1, 0] rfl rfl (fun r5 hr5 s6 => ?_)
    unfold FX8_findFitting_L16
    refine z_iload C 5 dX8_findFitting_16 rfl rfl ?_
    refine z_iload C 4 dX8_findFitting_18 rfl rfl ?_
    refine z_icmpge C dX8_findFitting_20 rfl rfl ?_ ?_
    · refine z_aload_n C 0 dX8_findFitting_135 rfl rfl rfl ?_
      refine z_cv (fun b => b) (fun b hb => z_V (na := 0) (ci := 8) (r := (RX8, TX8, 34)) C [] rfl (mX8_giveBack Y s6.2.2 b hb) rfl rfl w1109 w1111 w72 w88 w1112 hdX8_giveBack ⟨Nat.le_of_ble_eq_true rfl, Nat.le_of_ble_eq_true rfl⟩ (Nat.le_of_ble_eq_true rfl) rfl dX8_findFitting_136) rfl (fun b7 => ?_)
      refine z_iload_n C 3 dX8_findFitting_139 rfl rfl rfl ?_
      exact z_iret C rfl rfl dX8_findFitting_140
    · refine z_aload_n C 0 dX8_findFitting_23 rfl rfl rfl ?_
      refine z_iload_n C 1 dX8_findFitting_24 rfl rfl rfl ?_
      refine z_iload_n C 2 dX8_findFitting_25 rfl rfl rfl ?_
      refine z_iload C 5 dX8_findFitting_26 rfl rfl ?_
      refine z_cv (fun b => b) (fun b hb => z_V (na := 3) (ci := 8) (r := (RX8, TX8, 34)) C [.int x0, .int x1, .int s6.2.1] rfl (mX8_weigh Y x0 x1 s6.2.1 s6.2.2 b hb) rfl rfl w1094 w1096 w69 w88 w1097 hdX8_weigh ⟨Nat.le_of_ble_eq_true rfl, Nat.le_of_ble_eq_true rfl⟩ (Nat.le_of_ble_eq_true rfl) rfl dX8_findFitting_28) rfl (fun b8 => ?_)
      refine z_aload_n C 0 dX8_findFitting_31 rfl rfl rfl ?_
      refine z_ci (fun b => b) (fun _ => b8) (fun b hb => z_V (na := 0) (ci := 8) (r := (RX8, TX8, 34)) C [] rfl (mX8_doesFit Y b8 b hb) rfl rfl w1101 w1103 w70 w88 w1104 hdX8_doesFit ⟨Nat.le_of_ble_eq_true rfl, Nat.le_of_ble_eq_true rfl⟩ (Nat.le_of_ble_eq_true rfl) rfl dX8_findFitting_32) rfl (fun b9 => ?_)
      refine z_ifeq C dX8_findFitting_35 rfl rfl ?_ ?_
      · refine z_iinc (v := (s6.2.1 + (1 : Int32))) C 5 (fun z => [(5, .int z), (0, .ref 100), (1, .int x0), (2, .int x1), (3, .int s6.1), (4, .int b4)]) dX8_findFitting_129 rfl rfl (by decide) (fun _ => rfl) rfl (fun x10 => ?_)
        refine z_goto C dX8_findFitting_132 rfl ?_
        exact z_perm [1, 2, 3, 4, 5, 0] rfl (hr5 (s6.1, x10, b8))
      · refine z_aload_n C 0 dX8_findFitting_38 rfl rfl rfl ?_
        refine z_get (v := .ref 114) C 28 zOK8 rfl (by decide) w816 rfl rfl dX8_findFitting_39 rfl ?_
        refine z_iload_n C 3 dX8_findFitting_42 rfl rfl rfl ?_
        refine z_iload C 5 dX8_findFitting_43 rfl rfl ?_
        refine z_iastore C 4096 rfl dX8_findFitting_45 rfl (fun M11 => ?_)
        refine z_iconst C (0 : Int32) dX8_findFitting_46 rfl rfl ?_
        refine z_istoreP (lo' := [(6, .int (0 : Int32)), (0, .ref 100), (1, .int x0), (2, .int x1), (3, .int s6.1), (4, .int b4), (5, .int s6.2.1)]) C dX8_findFitting_47 (by decide) rfl rfl ?_
        refine z_loop (sM := fun s => s.2) (sl := fun s => [(0, .ref 100), (1, .int x0), (2, .int x1), (3, .int s6.1), (4, .int b4), (5, .int s6.2.1), (6, .int s.1)]) [1, 2, 3, 4, 5, 6, 0] rfl rfl (fun r12 hr12 s13 => ?_)
        unfold FX8_findFitting_L49
        refine z_iload C 6 dX8_findFitting_49 rfl rfl ?_
        refine z_aload_n C 0 dX8_findFitting_51 rfl rfl rfl ?_
        refine z_get (v := .int (s13.2.1 100 10)) C 10 zOK8 rfl (by decide) w798 rfl rfl dX8_findFitting_52 rfl ?_
        refine z_icmpge C dX8_findFitting_55 rfl rfl ?_ ?_
        · refine z_iinc (v := (s6.1 + (1 : Int32))) C 3 (fun z => [(3, .int z), (0, .ref 100), (1, .int x0), (2, .int x1), (4, .int b4), (5, .int s6.2.1), (6, .int s13.1)]) dX8_findFitting_126 rfl rfl (by decide) (fun _ => rfl) rfl (fun x14 => ?_)
          refine z_iinc (v := (s6.2.1 + (1 : Int32))) C 5 (fun z => [(5, .int z), (3, .int x14), (0, .ref 100), (1, .int x0), (2, .int x1), (4, .int b4), (6, .int s13.1)]) dX8_findFitting_129 rfl rfl (by decide) (fun _ => rfl) rfl (fun x15 => ?_)
          refine z_goto C dX8_findFitting_132 rfl ?_
          exact z_perm [2, 3, 4, 1, 5, 0] rfl (hr5 (x14, x15, s13.2))
        · refine z_aload_n C 0 dX8_findFitting_58 rfl rfl rfl ?_
          refine z_get (v := .ref 115) C 29 zOK8 rfl (by decide) w817 rfl rfl dX8_findFitting_59 rfl ?_
          refine z_bipush C (8 : Int32) dX8_findFitting_62 rfl rfl ?_
          refine z_iload_n C 3 dX8_findFitting_64 rfl rfl rfl ?_
          refine z_imul C dX8_findFitting_65 rfl ?_
          refine z_iload C 6 dX8_findFitting_66 rfl rfl ?_
          refine z_iadd C dX8_findFitting_68 rfl ?_
          refine z_aload_n C 0 dX8_findFitting_69 rfl rfl rfl ?_
          refine z_aload_n C 0 dX8_findFitting_70 rfl rfl rfl ?_
          refine z_get (v := .ref 104) C 11 zOK8 rfl (by decide) w799 rfl rfl dX8_findFitting_71 rfl ?_
          refine z_iload C 6 dX8_findFitting_74 rfl rfl ?_
          refine z_iaload C 8 rfl dX8_findFitting_76 rfl ?_
          refine z_aload_n C 0 dX8_findFitting_77 rfl rfl rfl ?_
          refine z_get (v := .ref 105) C 12 zOK8 rfl (by decide) w800 rfl rfl dX8_findFitting_78 rfl ?_
          refine z_iload C 6 dX8_findFitting_81 rfl rfl ?_
          refine z_iaload C 8 rfl dX8_findFitting_83 rfl ?_
          refine z_iconst C (0 : Int32) dX8_findFitting_84 rfl rfl ?_
          refine z_ci (fun b => b) (fun _ => s13.2) (fun b hb => z_V (na := 3) (ci := 8) (r := (RX8, TX8, 34)) C [.int (zrd s13.2 104 s13.1), .int (zrd s13.2 105 s13.1), .int (0 : Int32)] rfl (mX8_cellOf Y (zrd s13.2 104 s13.1) (zrd s13.2 105 s13.1) (0 : Int32) s13.2 b hb) rfl rfl w944 w946 w52 w88 w947 hdX8_cellOf ⟨Nat.le_of_ble_eq_true rfl, Nat.le_of_ble_eq_true rfl⟩ (Nat.le_of_ble_eq_true rfl) rfl dX8_findFitting_85) rfl (fun b16 => ?_)
          refine z_iastore C 32768 rfl dX8_findFitting_88 rfl (fun M17 => ?_)
          refine z_aload_n C 0 dX8_findFitting_89 rfl rfl rfl ?_
          refine z_get (v := .ref 116) C 30 zOK8 rfl (by decide) w818 rfl rfl dX8_findFitting_90 rfl ?_
          refine z_bipush C (8 : Int32) dX8_findFitting_93 rfl rfl ?_
          refine z_iload_n C 3 dX8_findFitting_95 rfl rfl rfl ?_
          refine z_imul C dX8_findFitting_96 rfl ?_
          refine z_iload C 6 dX8_findFitting_97 rfl rfl ?_
          refine z_iadd C dX8_findFitting_99 rfl ?_
          refine z_aload_n C 0 dX8_findFitting_100 rfl rfl rfl ?_
          refine z_aload_n C 0 dX8_findFitting_101 rfl rfl rfl ?_
          refine z_get (v := .ref 104) C 11 zOK8 rfl (by decide) w799 rfl rfl dX8_findFitting_102 rfl ?_
          refine z_iload C 6 dX8_findFitting_105 rfl rfl ?_
          refine z_iaload C 8 rfl dX8_findFitting_107 rfl ?_
          refine z_aload_n C 0 dX8_findFitting_108 rfl rfl rfl ?_
          refine z_get (v := .ref 105) C 12 zOK8 rfl (by decide) w800 rfl rfl dX8_findFitting_109 rfl ?_
          refine z_iload C 6 dX8_findFitting_112 rfl rfl ?_
          refine z_iaload C 8 rfl dX8_findFitting_114 rfl ?_
          refine z_iconst C (1 : Int32) dX8_findFitting_115 rfl rfl ?_
          refine z_ci (fun b => b) (fun _ => M17) (fun b hb => z_V (na := 3) (ci := 8) (r := (RX8, TX8, 34)) C [.int (zrd M17 104 s13.1), .int (zrd M17 105 s13.1), .int (1 : Int32)] rfl (mX8_cellOf Y (zrd M17 104 s13.1) (zrd M17 105 s13.1) (1 : Int32) M17 b hb) rfl rfl w944 w946 w52 w88 w947 hdX8_cellOf ⟨Nat.le_of_ble_eq_true rfl, Nat.le_of_ble_eq_true rfl⟩ (Nat.le_of_ble_eq_true rfl) rfl dX8_findFitting_116) rfl (fun b18 => ?_)
          refine z_iastore C 32768 rfl dX8_findFitting_119 rfl (fun M19 => ?_)
          refine z_iinc (v := (s13.1 + (1 : Int32))) C 6 (fun z => [(6, .int z), (0, .ref 100), (1, .int x0), (2, .int x1), (3, .int s6.1), (4, .int b4), (5, .int s6.2.1)]) dX8_findFitting_120 rfl rfl (by decide) (fun _ => rfl) rfl (fun x20 => ?_)
          refine z_goto C dX8_findFitting_123 rfl ?_
          exact z_perm [1, 2, 3, 4, 5, 6, 0] rfl (hr12 (x20, M19))
  exact key b hF
set_option maxRecDepth 100000 in
set_option maxHeartbeats 4000000 in
theorem mX8_isAlike (Y : zY) (x0 : Int32) (x1 : Int32) (x2 : Int32) (x3 : Int32) (M : zMem) (b : Int32) (hF : FX8_isAlike x0 x1 x2 x3 M = some b) : zMt Y yX8_isAlike cX8_isAlike 7 (some .boolean) 0 0 [.ref 100, .int x0, .int x1, .int x2, .int x3] M (zQi Y b M) := by
  refine zMt_of (own := RX8) (by decide) rfl (Nat.le_of_ble_eq_true rfl) (fun X C => ?_)
  have key : zR Y X 7 (zFi Y X (fun b => b) (fun _ => M)) (FX8_isAlike x0 x1 x2 x3 M) 0 [(0, .ref 100), (1, .int x0), (2, .int x1), (3, .int x2), (4, .int x3)] [] M := by
    unfold FX8_isAlike
    refine z_iconst C (1 : Int32) dX8_isAlike_0 rfl rfl ?_
    refine z_istoreP (lo' := [(5, .int (1 : Int32)), (0, .ref 100), (1, .int x0), (2, .int x1), (3, .int x2), (4, .int x3)]) C dX8_isAlike_1 (by decide) rfl rfl ?_
    refine z_iload_n C 4 dX8_isAlike_3 rfl rfl rfl ?_
    refine z_istoreP (lo' := [(6, .int x2), (5, .int (1 : Int32)), (0, .ref 100), (1, .int x0), (2, .int x1), (3, .int x2), (4, .int x3)]) C dX8_isAlike_4 (by decide) rfl rfl ?_
    refine z_loop (sM := fun s => M) (sl := fun s => [(0, .ref 100), (1, .int x0), (2, .int x1), (4, .int x3), (5, .int s.1), (6, .int s.2)]) [2, 3, 4, 6, 1, 0] rfl rfl (fun r5 hr5 s6 => ?_)
    unfold FX8_isAlike_L6
    refine z_iload C 5 dX8_isAlike_6 rfl rfl ?_
    refine z_iload C 3 dX8_isAlike_8 rfl rfl ?_
    refine z_icmpge C dX8_isAlike_10 rfl rfl ?_ ?_
    · refine z_iload C 4 dX8_isAlike_85 rfl rfl ?_
      exact z_zret C rfl rfl dX8_isAlike_87
    · refine z_iload C 4 dX8_isAlike_13 rfl rfl ?_
      refine z_ifeq C dX8_isAlike_15 rfl rfl ?_ ?_
      · refine z_iload C 4 dX8_isAlike_85 rfl rfl ?_
        exact z_zret C rfl rfl dX8_isAlike_87
      · refine z_aload_n C 0 dX8_isAlike_18 rfl rfl rfl ?_
        refine z_get (v := .ref 115) C 29 zOK8 rfl (by decide) w817 rfl rfl dX8_isAlike_19 rfl ?_
        refine z_bipush C (8 : Int32) dX8_isAlike_22 rfl rfl ?_
        refine z_iload_n C 1 dX8_isAlike_24 rfl rfl rfl ?_
        refine z_imul C dX8_isAlike_25 rfl ?_
        refine z_iload C 5 dX8_isAlike_26 rfl rfl ?_
        refine z_iadd C dX8_isAlike_28 rfl ?_
        refine z_iaload C 32768 rfl dX8_isAlike_29 rfl ?_
        refine z_aload_n C 0 dX8_isAlike_30 rfl rfl rfl ?_
        refine z_get (v := .ref 115) C 29 zOK8 rfl (by decide) w817 rfl rfl dX8_isAlike_31 rfl ?_
        refine z_bipush C (8 : Int32) dX8_isAlike_34 rfl rfl ?_
        refine z_iload_n C 2 dX8_isAlike_36 rfl rfl rfl ?_
        refine z_imul C dX8_isAlike_37 rfl ?_
        refine z_iload C 5 dX8_isAlike_38 rfl rfl ?_
        refine z_iadd C dX8_isAlike_40 rfl ?_
        refine z_iaload C 32768 rfl dX8_isAlike_41 rfl ?_
        refine z_join (fun k8 => ∀ (x7 : Int32), zR Y X 7 (zFi Y X (fun b => b) (fun _ => M)) (k8 x7) 77 [(0, .ref 100), (1, .int x0), (2, .int x1), (4, .int x3), (6, .int s6.2)] [.int x7] M) (fun x7 => ?_) (fun k8 hk8 => ?_)
        · refine z_istoreP (lo' := [(5, .int x7), (0, .ref 100), (1, .int x0), (2, .int x1), (4, .int x3), (6, .int s6.2)]) C dX8_isAlike_77 (by decide) rfl rfl ?_
          refine z_iinc (v := (s6.2 + (1 : Int32))) C 5 (fun z => [(6, .int z), (5, .int x7), (0, .ref 100), (1, .int x0), (2, .int x1), (4, .int x3)]) dX8_isAlike_79 rfl rfl (by decide) (fun _ => rfl) rfl (fun x9 => ?_)
          refine z_goto C dX8_isAlike_82 rfl ?_
          exact z_perm [2, 3, 4, 5, 1, 0] rfl (hr5 (x7, x9))
        · refine z_join (fun k11 => ∀ (u10 : Unit), zR Y X 7 (zFi Y X (fun b => b) (fun _ => M)) (k11 u10) 76 [(0, .ref 100), (1, .int x0), (2, .int x1), (4, .int x3), (6, .int s6.2)] [] M) (fun u10 => ?_) (fun k11 hk11 => ?_)
          · refine z_iconst C (0 : Int32) dX8_isAlike_76 rfl rfl ?_
            exact z_perm [0, 1, 2, 3, 4] rfl (hk8 (0 : Int32))
          · refine z_icmpne C dX8_isAlike_42 rfl rfl ?_ ?_
            · exact z_perm [0, 1, 2, 3, 5] rfl (hk11 ())
            · refine z_aload_n C 0 dX8_isAlike_45 rfl rfl rfl ?_
              refine z_get (v := .ref 116) C 30 zOK8 rfl (by decide) w818 rfl rfl dX8_isAlike_46 rfl ?_
              refine z_bipush C (8 : Int32) dX8_isAlike_49 rfl rfl ?_
              refine z_iload_n C 1 dX8_isAlike_51 rfl rfl rfl ?_
              refine z_imul C dX8_isAlike_52 rfl ?_
              refine z_iload C 5 dX8_isAlike_53 rfl rfl ?_
              refine z_iadd C dX8_isAlike_55 rfl ?_
              refine z_iaload C 32768 rfl dX8_isAlike_56 rfl ?_
              refine z_aload_n C 0 dX8_isAlike_57 rfl rfl rfl ?_
              refine z_get (v := .ref 116) C 30 zOK8 rfl (by decide) w818 rfl rfl dX8_isAlike_58 rfl ?_
              refine z_bipush C (8 : Int32) dX8_isAlike_61 rfl rfl ?_
              refine z_iload_n C 2 dX8_isAlike_63 rfl rfl rfl ?_
              refine z_imul C dX8_isAlike_64 rfl ?_
              refine z_iload C 5 dX8_isAlike_65 rfl rfl ?_
              refine z_iadd C dX8_isAlike_67 rfl ?_
              refine z_iaload C 32768 rfl dX8_isAlike_68 rfl ?_
              refine z_icmpne C dX8_isAlike_69 rfl rfl ?_ ?_
              · exact z_perm [0, 1, 2, 3, 5] rfl (hk11 ())
              · refine z_iconst C (1 : Int32) dX8_isAlike_72 rfl rfl ?_
                refine z_goto C dX8_isAlike_73 rfl ?_
                exact z_perm [0, 1, 2, 3, 5] rfl (hk8 (1 : Int32))
  exact key b hF
