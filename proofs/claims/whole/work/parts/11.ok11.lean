set_option maxHeartbeats 4000000 in
set_option maxRecDepth 100000 in
theorem ok_X12_isAny (g : GG) (F : Nat)   (μ : Mm) : Ct g yX12_isAny cX12_isAny 1 (some (.boolean)) 10 cvZ [.ref (gb g + 141)] μ (f_X12_isAny F μ) := by
  refine ct_Z (by decide +kernel) (Nat.le_of_ble_eq_true rfl) (show Go g RX12 cX12_isAny 1 .ireturn 10 cvZ 0 [(0, .ref (gb g + 141))] [] μ (f_X12_isAny F μ) from ?_)
  unfold f_X12_isAny
  refine g_aload_n dX12_isAny_0 0 rfl ?_
  refine g_getR (b := 146) fl_X12_35 sh_141 (by decide) rfl rfl dX12_isAny_1 ?_
  refine g_iconst dX12_isAny_4 (v := 0) (by decide) ?_
  refine g_iaload sh_146 dX12_isAny_5 (fun x1 => ?_)
  refine g_if_ne (tgt := 11) dX12_isAny_6 (by decide) (fun _ => ?_) (fun _ => ?_)
  · refine g_aload_n dX12_isAny_11 0 rfl ?_
    refine g_bipush dX12_isAny_12 (v := 16) (by decide) ?_
    refine g_vI [.int 16] [] mw_X12_492 (ok_X12_draw g 16 μ) (by omega) sh_141 (by decide) rfl rfl (Nat.le_of_ble_eq_true rfl) dX12_isAny_14 (fun x2 μ3 _ => ?_)
    refine g_aload_n dX12_isAny_17 0 rfl ?_
    refine g_getR (b := 146) fl_X12_35 sh_141 (by decide) rfl rfl dX12_isAny_18 ?_
    refine g_iconst dX12_isAny_21 (v := 4) (by decide) ?_
    refine g_iaload sh_146 dX12_isAny_22 (fun x4 => ?_)
    refine g_icmp_ge (tgt := 34) dX12_isAny_23 (by decide) (fun _ => ?_) (fun _ => ?_)
    · refine g_aload_n dX12_isAny_34 0 rfl ?_
      refine g_aload_n dX12_isAny_35 0 rfl ?_
      refine g_iconst dX12_isAny_36 (v := 5) (by decide) ?_
      refine g_vI [.int 5] [.ref (gb g + 141)] mw_X12_492 (ok_X12_draw g 5 μ3) (by omega) sh_141 (by decide) rfl rfl (Nat.le_of_ble_eq_true rfl) dX12_isAny_37 (fun x5 μ6 _ => ?_)
      refine g_vZ [.int x5] [] mw_X12_498 (ok_X12_anyStep g F x5 μ6) (by omega) sh_141 (by decide) rfl rfl (Nat.le_of_ble_eq_true rfl) dX12_isAny_40 (fun x7 μ8 _ => ?_)
      exact g_ret dX12_isAny_43 rfl rfl
    · refine g_aload_n dX12_isAny_26 0 rfl ?_
      refine g_iconst dX12_isAny_27 (v := 1) (by decide) ?_
      refine g_vZ [.int 1] [] mw_X12_495 (ok_X12_anyDozes g F 1 μ3) (by omega) sh_141 (by decide) rfl rfl (Nat.le_of_ble_eq_true rfl) dX12_isAny_28 (fun x9 μ10 _ => ?_)
      refine g_goto (tgt := 43) dX12_isAny_31 (by decide) ?_
      exact g_ret dX12_isAny_43 rfl rfl
  · refine g_iconst dX12_isAny_9 (v := 0) (by decide) ?_
    exact g_ret dX12_isAny_10 rfl rfl
set_option maxHeartbeats 4000000 in
set_option maxRecDepth 100000 in
theorem ok_X12_does (g : GG) (F : Nat) (v1 : Int32)  (μ : Mm) : Ct g yX12_does cX12_does 4 (some (.boolean)) 11 cvZ [.ref (gb g + 141), .int v1] μ (f_X12_does F v1 μ) := by
  refine ct_Z (by decide +kernel) (Nat.le_of_ble_eq_true rfl) (show Go g RX12 cX12_does 4 .ireturn 11 cvZ 0 [(0, .ref (gb g + 141)), (1, .int v1)] [] μ (f_X12_does F v1 μ) from ?_)
  unfold f_X12_does
  refine g_aload_n dX12_does_0 0 rfl ?_
  refine g_getR (b := 146) fl_X12_35 sh_141 (by decide) rfl rfl dX12_does_1 ?_
  refine g_iload_n dX12_does_4 1 rfl ?_
  refine g_iaload sh_146 dX12_does_5 (fun x1 => ?_)
  refine g_istore_n dX12_does_6 rfl (by decide) (lv' := [(2, .int x1), (0, .ref (gb g + 141)), (1, .int v1)]) rfl ?_
  refine g_aload_n dX12_does_7 1 rfl ?_
  refine g_getR (b := 146) fl_X12_35 sh_141 (by decide) rfl rfl dX12_does_8 ?_
  refine g_iload_n dX12_does_11 2 rfl ?_
  refine g_iconst dX12_does_12 (v := 1) (by decide) ?_
  refine g_iadd dX12_does_13 ?_
  refine g_iaload sh_146 dX12_does_14 (fun x2 => ?_)
  refine g_istore_n dX12_does_15 rfl (by decide) (lv' := [(3, .int x2), (2, .int x1), (0, .ref (gb g + 141)), (1, .int v1)]) rfl ?_
  refine g_iload_n dX12_does_16 1 rfl ?_
  refine g_if_ne (tgt := 26) dX12_does_17 (by decide) (fun _ => ?_) (fun _ => ?_)
  · refine g_iload_n dX12_does_26 1 rfl ?_
    refine g_iconst dX12_does_27 (v := 1) (by decide) ?_
    refine g_icmp_ne (tgt := 37) dX12_does_28 (by decide) (fun _ => ?_) (fun _ => ?_)
    · refine g_iload_n dX12_does_37 1 rfl ?_
      refine g_iconst dX12_does_38 (v := 4) (by decide) ?_
      refine g_icmp_ne (tgt := 47) dX12_does_39 (by decide) (fun _ => ?_) (fun _ => ?_)
      · refine g_iload_n dX12_does_47 1 rfl ?_
        refine g_iconst dX12_does_48 (v := 2) (by decide) ?_
        refine g_icmp_ne (tgt := 63) dX12_does_49 (by decide) (fun _ => ?_) (fun _ => ?_)
        · refine g_aload_n dX12_does_63 2 rfl ?_
          refine g_getR (b := 146) fl_X12_35 sh_141 (by decide) rfl rfl dX12_does_64 ?_
          refine g_bipush dX12_does_67 (v := 13) (by decide) ?_
          refine g_iload_n dX12_does_69 0 rfl ?_
          refine g_iadd dX12_does_70 ?_
          refine g_iaload sh_146 dX12_does_71 (fun x3 => ?_)
          refine g_if_ne (tgt := 77) dX12_does_72 (by decide) (fun _ => ?_) (fun _ => ?_)
          · refine g_iload_n dX12_does_77 1 rfl ?_
            refine g_iconst dX12_does_78 (v := 2) (by decide) ?_
            refine g_icmp_ne (tgt := 91) dX12_does_79 (by decide) (fun _ => ?_) (fun _ => ?_)
            · refine g_aload_n dX12_does_91 2 rfl ?_
              refine g_dup dX12_does_92 rfl ?_
              refine g_getI fl_X12_504 sh_141 (by decide) rfl dX12_does_93 ?_
              refine g_aload_n dX12_does_96 2 rfl ?_
              refine g_iload_n dX12_does_97 0 rfl ?_
              refine g_vI [.int x2] [.int (mI μ 141 47), .ref (gb g + 141)] mw_X12_378 (ok_X12_takes g x2 μ) (by omega) sh_141 (by decide) rfl rfl (Nat.le_of_ble_eq_true rfl) dX12_does_98 (fun x5 μ6 _ => ?_)
              refine g_iadd dX12_does_101 ?_
              refine g_putI fl_X12_504 sh_141 (by decide) rfl dX12_does_102 ?_
              refine g_iconst dX12_does_105 (v := 1) (by decide) ?_
              exact g_ret dX12_does_106 rfl rfl
            · refine g_aload_n dX12_does_82 2 rfl ?_
              refine g_iload_n dX12_does_83 0 rfl ?_
              refine g_vI [.int x2] [] mw_X12_375 (ok_X12_mends g x2 μ) (by omega) sh_141 (by decide) rfl rfl (Nat.le_of_ble_eq_true rfl) dX12_does_84 (fun x7 μ8 _ => ?_)
              refine g_pop dX12_does_87 rfl ?_
              refine g_goto (tgt := 105) dX12_does_88 (by decide) ?_
              refine g_iconst dX12_does_105 (v := 1) (by decide) ?_
              exact g_ret dX12_does_106 rfl rfl
          · refine g_iconst dX12_does_75 (v := 0) (by decide) ?_
            exact g_ret dX12_does_76 rfl rfl
        · refine g_aload_n dX12_does_52 2 rfl ?_
          refine g_iload_n dX12_does_53 0 rfl ?_
          refine g_vZp [.int x2] [] mw_X12_304 (ok_X12_isWrong g x2 μ) (by omega) sh_141 (by decide) rfl rfl (Nat.le_of_ble_eq_true rfl) dX12_does_54 (fun x9 _ => ?_)
          refine g_ifneB (tgt := 77) dX12_does_57 (by decide) (fun _ => ?_) (fun _ => ?_)
          · refine g_iload_n dX12_does_77 1 rfl ?_
            refine g_iconst dX12_does_78 (v := 2) (by decide) ?_
            refine g_icmp_ne (tgt := 91) dX12_does_79 (by decide) (fun _ => ?_) (fun _ => ?_)
            · refine g_aload_n dX12_does_91 2 rfl ?_
              refine g_dup dX12_does_92 rfl ?_
              refine g_getI fl_X12_504 sh_141 (by decide) rfl dX12_does_93 ?_
              refine g_aload_n dX12_does_96 2 rfl ?_
              refine g_iload_n dX12_does_97 0 rfl ?_
              refine g_vI [.int x2] [.int (mI μ 141 47), .ref (gb g + 141)] mw_X12_378 (ok_X12_takes g x2 μ) (by omega) sh_141 (by decide) rfl rfl (Nat.le_of_ble_eq_true rfl) dX12_does_98 (fun x11 μ12 _ => ?_)
              refine g_iadd dX12_does_101 ?_
              refine g_putI fl_X12_504 sh_141 (by decide) rfl dX12_does_102 ?_
              refine g_iconst dX12_does_105 (v := 1) (by decide) ?_
              exact g_ret dX12_does_106 rfl rfl
            · refine g_aload_n dX12_does_82 2 rfl ?_
              refine g_iload_n dX12_does_83 0 rfl ?_
              refine g_vI [.int x2] [] mw_X12_375 (ok_X12_mends g x2 μ) (by omega) sh_141 (by decide) rfl rfl (Nat.le_of_ble_eq_true rfl) dX12_does_84 (fun x13 μ14 _ => ?_)
              refine g_pop dX12_does_87 rfl ?_
              refine g_goto (tgt := 105) dX12_does_88 (by decide) ?_
              refine g_iconst dX12_does_105 (v := 1) (by decide) ?_
              exact g_ret dX12_does_106 rfl rfl
          · refine g_goto (tgt := 75) dX12_does_60 (by decide) ?_
            refine g_iconst dX12_does_75 (v := 0) (by decide) ?_
            exact g_ret dX12_does_76 rfl rfl
      · refine g_aload_n dX12_does_42 2 rfl ?_
        refine g_vZ [] [] mw_X12_501 (ok_X12_isAny g F μ) (by omega) sh_141 (by decide) rfl rfl (Nat.le_of_ble_eq_true rfl) dX12_does_43 (fun x15 μ16 _ => ?_)
        exact g_ret dX12_does_46 rfl rfl
    · refine g_aload_n dX12_does_31 2 rfl ?_
      refine g_iload_n dX12_does_32 0 rfl ?_
      refine g_vZ [.int x2] [] mw_X12_495 (ok_X12_anyDozes g F x2 μ) (by omega) sh_141 (by decide) rfl rfl (Nat.le_of_ble_eq_true rfl) dX12_does_33 (fun x17 μ18 _ => ?_)
      exact g_ret dX12_does_36 rfl rfl
  · refine g_aload_n dX12_does_20 2 rfl ?_
    refine g_iload_n dX12_does_21 0 rfl ?_
    refine g_vZ [.int x2] [] mw_X12_498 (ok_X12_anyStep g F x2 μ) (by omega) sh_141 (by decide) rfl rfl (Nat.le_of_ble_eq_true rfl) dX12_does_22 (fun x19 μ20 _ => ?_)
    exact g_ret dX12_does_25 rfl rfl
set_option maxHeartbeats 4000000 in
set_option maxRecDepth 100000 in
theorem ok_X12_isSo (g : GG) (F : Nat) (v1 : Int32)  (μ : Mm) : Ct g yX12_isSo cX12_isSo 4 (some (.boolean)) 4 (cvZp μ) [.ref (gb g + 141), .int v1] μ (f_X12_isSo F v1 μ) := by
  refine ct_Zp (by decide +kernel) (Nat.le_of_ble_eq_true rfl) (show Go g RX12 cX12_isSo 4 .ireturn 4 (cvZp μ) 0 [(0, .ref (gb g + 141)), (1, .int v1)] [] μ (f_X12_isSo F v1 μ) from ?_)
  unfold f_X12_isSo
  refine g_aload_n dX12_isSo_0 0 rfl ?_
  refine g_getR (b := 146) fl_X12_35 sh_141 (by decide) rfl rfl dX12_isSo_1 ?_
  refine g_iload_n dX12_isSo_4 1 rfl ?_
  refine g_iconst dX12_isSo_5 (v := 5) (by decide) ?_
  refine g_iadd dX12_isSo_6 ?_
  refine g_iaload sh_146 dX12_isSo_7 (fun x1 => ?_)
  refine g_istore_n dX12_isSo_8 rfl (by decide) (lv' := [(2, .int x1), (0, .ref (gb g + 141)), (1, .int v1)]) rfl ?_
  refine g_iload_n dX12_isSo_9 0 rfl ?_
  refine g_iconst dX12_isSo_10 (v := 2) (by decide) ?_
  refine g_icmp_ne (tgt := 19) dX12_isSo_11 (by decide) (fun _ => ?_) (fun _ => ?_)
  · refine g_iload_n dX12_isSo_19 0 rfl ?_
    refine g_jn (fun (a4 : Int32) oo => Go g RX12 cX12_isSo 4 .ireturn 4 (cvZp μ) 46 [(0, .ref (gb g + 141)), (1, .int v1)] [.int a4] μ oo) (fun a4 => ?_) (fun K3 hF10 => ?_)
    · refine g_istore_n dX12_isSo_46 rfl (by decide) (lv' := [(3, .int a4), (0, .ref (gb g + 141)), (1, .int v1)]) rfl ?_
      refine g_aload_n dX12_isSo_47 1 rfl ?_
      refine g_getR (b := 146) fl_X12_35 sh_141 (by decide) rfl rfl dX12_isSo_48 ?_
      refine g_iload_n dX12_isSo_51 2 rfl ?_
      refine g_bipush dX12_isSo_52 (v := 7) (by decide) ?_
      refine g_iadd dX12_isSo_54 ?_
      refine g_iaload sh_146 dX12_isSo_55 (fun x5 => ?_)
      refine g_bipush dX12_isSo_56 (v := 60) (by decide) ?_
      refine g_icmp_ne (tgt := 82) dX12_isSo_58 (by decide) (fun _ => ?_) (fun _ => ?_)
      · refine g_aload_n dX12_isSo_82 1 rfl ?_
        refine g_getR (b := 146) fl_X12_35 sh_141 (by decide) rfl rfl dX12_isSo_83 ?_
        refine g_iload_n dX12_isSo_86 2 rfl ?_
        refine g_bipush dX12_isSo_87 (v := 7) (by decide) ?_
        refine g_iadd dX12_isSo_89 ?_
        refine g_iaload sh_146 dX12_isSo_90 (fun x6 => ?_)
        refine g_bipush dX12_isSo_91 (v := 62) (by decide) ?_
        refine g_icmp_ne (tgt := 117) dX12_isSo_93 (by decide) (fun _ => ?_) (fun _ => ?_)
        · refine g_iload_n dX12_isSo_117 0 rfl ?_
          refine g_aload_n dX12_isSo_118 1 rfl ?_
          refine g_getR (b := 146) fl_X12_35 sh_141 (by decide) rfl rfl dX12_isSo_119 ?_
          refine g_iload_n dX12_isSo_122 2 rfl ?_
          refine g_bipush dX12_isSo_123 (v := 6) (by decide) ?_
          refine g_iadd dX12_isSo_125 ?_
          refine g_iaload sh_146 dX12_isSo_126 (fun x7 => ?_)
          refine g_icmp_ne (tgt := 134) dX12_isSo_127 (by decide) (fun _ => ?_) (fun _ => ?_)
          · refine g_iconst dX12_isSo_134 (v := 0) (by decide) ?_
            exact g_ret dX12_isSo_135 rfl rfl
          · refine g_iconst dX12_isSo_130 (v := 1) (by decide) ?_
            refine g_goto (tgt := 135) dX12_isSo_131 (by decide) ?_
            exact g_ret dX12_isSo_135 rfl rfl
        · refine g_iload_n dX12_isSo_96 0 rfl ?_
          refine g_aload_n dX12_isSo_97 1 rfl ?_
          refine g_getR (b := 146) fl_X12_35 sh_141 (by decide) rfl rfl dX12_isSo_98 ?_
          refine g_iload_n dX12_isSo_101 2 rfl ?_
          refine g_bipush dX12_isSo_102 (v := 6) (by decide) ?_
          refine g_iadd dX12_isSo_104 ?_
          refine g_iaload sh_146 dX12_isSo_105 (fun x8 => ?_)
          refine g_icmp_le (tgt := 113) dX12_isSo_106 (by decide) (fun _ => ?_) (fun _ => ?_)
          · refine g_iconst dX12_isSo_113 (v := 0) (by decide) ?_
            refine g_goto (tgt := 135) dX12_isSo_114 (by decide) ?_
            exact g_ret dX12_isSo_135 rfl rfl
          · refine g_iconst dX12_isSo_109 (v := 1) (by decide) ?_
            refine g_goto (tgt := 135) dX12_isSo_110 (by decide) ?_
            exact g_ret dX12_isSo_135 rfl rfl
      · refine g_iload_n dX12_isSo_61 0 rfl ?_
        refine g_aload_n dX12_isSo_62 1 rfl ?_
        refine g_getR (b := 146) fl_X12_35 sh_141 (by decide) rfl rfl dX12_isSo_63 ?_
        refine g_iload_n dX12_isSo_66 2 rfl ?_
        refine g_bipush dX12_isSo_67 (v := 6) (by decide) ?_
        refine g_iadd dX12_isSo_69 ?_
        refine g_iaload sh_146 dX12_isSo_70 (fun x9 => ?_)
        refine g_icmp_ge (tgt := 78) dX12_isSo_71 (by decide) (fun _ => ?_) (fun _ => ?_)
        · refine g_iconst dX12_isSo_78 (v := 0) (by decide) ?_
          refine g_goto (tgt := 135) dX12_isSo_79 (by decide) ?_
          exact g_ret dX12_isSo_135 rfl rfl
        · refine g_iconst dX12_isSo_74 (v := 1) (by decide) ?_
          refine g_goto (tgt := 135) dX12_isSo_75 (by decide) ?_
          exact g_ret dX12_isSo_135 rfl rfl
    · refine g_if_ne (tgt := 30) dX12_isSo_20 (by decide) (fun _ => ?_) (fun _ => ?_)
      · refine g_aload_n dX12_isSo_30 1 rfl ?_
        refine g_getR (b := 146) fl_X12_35 sh_141 (by decide) rfl rfl dX12_isSo_31 ?_
        refine g_bipush dX12_isSo_34 (v := 13) (by decide) ?_
        refine g_aload_n dX12_isSo_36 1 rfl ?_
        refine g_getR (b := 146) fl_X12_35 sh_141 (by decide) rfl rfl dX12_isSo_37 ?_
        refine g_iload_n dX12_isSo_40 2 rfl ?_
        refine g_iconst dX12_isSo_41 (v := 1) (by decide) ?_
        refine g_iadd dX12_isSo_42 ?_
        refine g_iaload sh_146 dX12_isSo_43 (fun x11 => ?_)
        refine g_iadd dX12_isSo_44 ?_
        refine g_iaload sh_146 dX12_isSo_45 (fun x12 => ?_)
        refine g_lv [1, 2] rfl ?_
        exact hF10 x12
      · refine g_aload_n dX12_isSo_23 1 rfl ?_
        refine g_vIp [] [] mw_X12_321 (ok_X12_allWrong g F μ) (by omega) sh_141 (by decide) rfl rfl (Nat.le_of_ble_eq_true rfl) dX12_isSo_24 (fun x13 _ => ?_)
        refine g_goto (tgt := 46) dX12_isSo_27 (by decide) ?_
        refine g_lv [1, 2] rfl ?_
        exact hF10 x13
  · refine g_aload_n dX12_isSo_14 1 rfl ?_
    refine g_vZp [] [] mw_X12_327 (ok_X12_isEven g F μ) (by omega) sh_141 (by decide) rfl rfl (Nat.le_of_ble_eq_true rfl) dX12_isSo_15 (fun x14 _ => ?_)
    exact g_ret dX12_isSo_18 rfl rfl
set_option maxHeartbeats 4000000 in
set_option maxRecDepth 100000 in
theorem okL_X12_doOne_118 (g : GG) (dr : Nat) (F : Nat) (rc_X12_doAll : Int32 → Int32 → Mm → Option (Mm)) (v1 : Int32) (v2 : Int32) (k : Mm → Option (Mm))  (hr_X12_doAll : ∀ (v1 : Int32) (v2 : Int32) (μ : Mm), Ct g yX12_doAll cX12_doAll 4 none dr cvV [.ref (gb g + 141), .int v1, .int v2] μ (rc_X12_doAll v1 v2 μ)) (hk : ∀ (μ : Mm), Go g RX12 cX12_doOne 5 .return_ (dr + 12) cvV 160 [] [] μ (k μ)) : ∀ (n : Nat) (v4 : Int32) (μ : Mm), Go g RX12 cX12_doOne 5 .return_ (dr + 12) cvV 118 [(0, .ref (gb g + 141)), (1, .int v1), (2, .int v2), (4, .int v4)] [] μ (L_X12_doOne_118 F rc_X12_doAll v1 v2 k n v4 μ) := by
  intro n
  induction n with
  | zero =>
    intro v4 μ
    exact g_none
  | succ n ih =>
    intro v4 μ
    rw [L_X12_doOne_118_s]
    refine g_iload dX12_doOne_118 3 rfl ?_
    refine g_aload_n dX12_doOne_120 0 rfl ?_
    refine g_getR (b := 146) fl_X12_35 sh_141 (by decide) rfl rfl dX12_doOne_121 ?_
    refine g_iload_n dX12_doOne_124 2 rfl ?_
    refine g_iconst dX12_doOne_125 (v := 1) (by decide) ?_
    refine g_iadd dX12_doOne_126 ?_
    refine g_iaload sh_146 dX12_doOne_127 (fun x12 => ?_)
    refine g_icmp_ge (tgt := 160) dX12_doOne_128 (by decide) (fun _ => ?_) (fun _ => ?_)
    · refine g_lv [] rfl ?_
      exact hk μ
    · refine g_aload_n dX12_doOne_131 0 rfl ?_
      refine g_getI fl_X12_510 sh_141 (by decide) rfl dX12_doOne_132 ?_
      refine g_if_ne (tgt := 160) dX12_doOne_135 (by decide) (fun _ => ?_) (fun _ => ?_)
      · refine g_lv [] rfl ?_
        exact hk μ
      · refine g_aload_n dX12_doOne_138 0 rfl ?_
        refine g_iload_n dX12_doOne_139 1 rfl ?_
        refine g_iconst dX12_doOne_140 (v := 1) (by decide) ?_
        refine g_iadd dX12_doOne_141 ?_
        refine g_aload_n dX12_doOne_142 0 rfl ?_
        refine g_getR (b := 146) fl_X12_35 sh_141 (by decide) rfl rfl dX12_doOne_143 ?_
        refine g_iload_n dX12_doOne_146 2 rfl ?_
        refine g_bipush dX12_doOne_147 (v := 8) (by decide) ?_
        refine g_iadd dX12_doOne_149 ?_
        refine g_iaload sh_146 dX12_doOne_150 (fun x13 => ?_)
        refine g_vV [.int (v1 + (1 : Int32)), .int x13] [] mw_X12_526 (hr_X12_doAll (v1 + (1 : Int32)) x13 μ) (by omega) sh_141 (by decide) rfl rfl (Nat.le_of_ble_eq_true rfl) dX12_doOne_151 (fun μ15 _ => ?_)
        refine g_iinc dX12_doOne_154 3 rfl (v := (v4 + 1)) rfl (by decide) (lv' := [(4, .int (v4 + 1)), (0, .ref (gb g + 141)), (1, .int v1), (2, .int v2)]) rfl ?_
        refine g_goto (tgt := 118) dX12_doOne_157 (by decide) ?_
        refine g_lv [1, 2, 3, 0] rfl ?_
        exact ih (v4 + 1) μ15
set_option maxHeartbeats 4000000 in
set_option maxRecDepth 100000 in
theorem ok_X12_doOne (g : GG) (dr : Nat) (F : Nat) (rc_X12_doAll : Int32 → Int32 → Mm → Option (Mm)) (v1 : Int32)  (hr_X12_doAll : ∀ (v1 : Int32) (v2 : Int32) (μ : Mm), Ct g yX12_doAll cX12_doAll 4 none dr cvV [.ref (gb g + 141), .int v1, .int v2] μ (rc_X12_doAll v1 v2 μ)) (μ : Mm) : Ct g yX12_doOne cX12_doOne 5 none (dr + 12) cvV [.ref (gb g + 141), .int v1] μ (f_X12_doOne F rc_X12_doAll v1 μ) := by
  refine ct_V (by decide +kernel) (Nat.le_of_ble_eq_true rfl) (show Go g RX12 cX12_doOne 5 .return_ (dr + 12) cvV 0 [(0, .ref (gb g + 141)), (1, .int v1)] [] μ (f_X12_doOne F rc_X12_doAll v1 μ) from ?_)
  unfold f_X12_doOne
  refine g_aload_n dX12_doOne_0 0 rfl ?_
  refine g_getI fl_X12_507 sh_141 (by decide) rfl dX12_doOne_1 ?_
  refine g_sipush dX12_doOne_4 (v := 300) (by decide) ?_
  refine g_icmp_ne (tgt := 21) dX12_doOne_7 (by decide) (fun _ => ?_) (fun _ => ?_)
  · refine g_aload_n dX12_doOne_21 0 rfl ?_
    refine g_dup dX12_doOne_22 rfl ?_
    refine g_getI fl_X12_507 sh_141 (by decide) rfl dX12_doOne_23 ?_
    refine g_iconst dX12_doOne_26 (v := 1) (by decide) ?_
    refine g_iadd dX12_doOne_27 ?_
    refine g_putI fl_X12_507 sh_141 (by decide) rfl dX12_doOne_28 ?_
    refine g_sipush dX12_doOne_31 (v := 130) (by decide) ?_
    refine g_bipush dX12_doOne_34 (v := 9) (by decide) ?_
    refine g_iload_n dX12_doOne_36 1 rfl ?_
    refine g_imul dX12_doOne_37 ?_
    refine g_iadd dX12_doOne_38 ?_
    refine g_istore_n dX12_doOne_39 rfl (by decide) (lv' := [(2, .int ((130 : Int32) + ((9 : Int32) * v1))), (0, .ref (gb g + 141)), (1, .int v1)]) rfl ?_
    refine g_aload_n dX12_doOne_40 1 rfl ?_
    refine g_getR (b := 146) fl_X12_35 sh_141 (by decide) rfl rfl dX12_doOne_41 ?_
    refine g_iload_n dX12_doOne_44 0 rfl ?_
    refine g_iaload sh_146 dX12_doOne_45 (fun x1 => ?_)
    refine g_istore_n dX12_doOne_46 rfl (by decide) (lv' := [(3, .int x1), (2, .int ((130 : Int32) + ((9 : Int32) * v1))), (0, .ref (gb g + 141)), (1, .int v1)]) rfl ?_
    refine g_iload_n dX12_doOne_47 0 rfl ?_
    refine g_iconst dX12_doOne_48 (v := 5) (by decide) ?_
    refine g_icmp_ge (tgt := 77) dX12_doOne_49 (by decide) (fun _ => ?_) (fun _ => ?_)
    · refine g_iload_n dX12_doOne_77 0 rfl ?_
      refine g_iconst dX12_doOne_78 (v := 5) (by decide) ?_
      refine g_icmp_ne (tgt := 109) dX12_doOne_79 (by decide) (fun _ => ?_) (fun _ => ?_)
      · refine g_iload_n dX12_doOne_109 0 rfl ?_
        refine g_bipush dX12_doOne_110 (v := 6) (by decide) ?_
        refine g_icmp_ne (tgt := 163) dX12_doOne_112 (by decide) (fun _ => ?_) (fun _ => ?_)
        · refine g_iload_n dX12_doOne_163 0 rfl ?_
          refine g_bipush dX12_doOne_164 (v := 6) (by decide) ?_
          refine g_icmp_le (tgt := 174) dX12_doOne_166 (by decide) (fun _ => ?_) (fun _ => ?_)
          · exact g_ret dX12_doOne_174 rfl rfl
          · refine g_aload_n dX12_doOne_169 2 rfl ?_
            refine g_iconst dX12_doOne_170 (v := 1) (by decide) ?_
            refine g_putZ fl_X12_510 sh_141 (by decide) rfl dX12_doOne_171 ?_
            exact g_ret dX12_doOne_174 rfl rfl
        · refine g_iconst dX12_doOne_115 (v := 0) (by decide) ?_
          refine g_istore dX12_doOne_116 (by decide) (lv' := [(4, .int 0), (3, .int x1), (2, .int ((130 : Int32) + ((9 : Int32) * v1))), (0, .ref (gb g + 141)), (1, .int v1)]) rfl ?_
          refine g_lv [3, 4, 2, 0] rfl ?_
          refine okL_X12_doOne_118 g dr F rc_X12_doAll v1 ((130 : Int32) + ((9 : Int32) * v1)) _ hr_X12_doAll (fun μ16 => ?_) F 0 (sI μ 141 43 ((mI μ 141 43) + (1 : Int32)))
          refine g_goto (tgt := 174) dX12_doOne_160 (by decide) ?_
          exact g_ret dX12_doOne_174 rfl rfl
      · refine g_aload_n dX12_doOne_82 2 rfl ?_
        refine g_iload_n dX12_doOne_83 1 rfl ?_
        refine g_vZp [.int ((130 : Int32) + ((9 : Int32) * v1))] [] mw_X12_523 (ok_X12_isSo g F ((130 : Int32) + ((9 : Int32) * v1)) (sI μ 141 43 ((mI μ 141 43) + (1 : Int32)))) (by omega) sh_141 (by decide) rfl rfl (Nat.le_of_ble_eq_true rfl) dX12_doOne_84 (fun x17 _ => ?_)
        refine g_ifeqB (tgt := 109) dX12_doOne_87 (by decide) (fun _ => ?_) (fun _ => ?_)
        · refine g_iload_n dX12_doOne_109 0 rfl ?_
          refine g_bipush dX12_doOne_110 (v := 6) (by decide) ?_
          refine g_icmp_ne (tgt := 163) dX12_doOne_112 (by decide) (fun _ => ?_) (fun _ => ?_)
          · refine g_iload_n dX12_doOne_163 0 rfl ?_
            refine g_bipush dX12_doOne_164 (v := 6) (by decide) ?_
            refine g_icmp_le (tgt := 174) dX12_doOne_166 (by decide) (fun _ => ?_) (fun _ => ?_)
            · exact g_ret dX12_doOne_174 rfl rfl
            · refine g_aload_n dX12_doOne_169 2 rfl ?_
              refine g_iconst dX12_doOne_170 (v := 1) (by decide) ?_
              refine g_putZ fl_X12_510 sh_141 (by decide) rfl dX12_doOne_171 ?_
              exact g_ret dX12_doOne_174 rfl rfl
          · refine g_iconst dX12_doOne_115 (v := 0) (by decide) ?_
            refine g_istore dX12_doOne_116 (by decide) (lv' := [(4, .int 0), (3, .int x1), (2, .int ((130 : Int32) + ((9 : Int32) * v1))), (0, .ref (gb g + 141)), (1, .int v1)]) rfl ?_
            refine g_lv [3, 4, 2, 0] rfl ?_
            refine okL_X12_doOne_118 g dr F rc_X12_doAll v1 ((130 : Int32) + ((9 : Int32) * v1)) _ hr_X12_doAll (fun μ24 => ?_) F 0 (sI μ 141 43 ((mI μ 141 43) + (1 : Int32)))
            refine g_goto (tgt := 174) dX12_doOne_160 (by decide) ?_
            exact g_ret dX12_doOne_174 rfl rfl
        · refine g_aload_n dX12_doOne_90 2 rfl ?_
          refine g_iload_n dX12_doOne_91 3 rfl ?_
          refine g_iconst dX12_doOne_92 (v := 1) (by decide) ?_
          refine g_iadd dX12_doOne_93 ?_
          refine g_aload_n dX12_doOne_94 2 rfl ?_
          refine g_getR (b := 146) fl_X12_35 sh_141 (by decide) rfl rfl dX12_doOne_95 ?_
          refine g_iload_n dX12_doOne_98 1 rfl ?_
          refine g_bipush dX12_doOne_99 (v := 8) (by decide) ?_
          refine g_iadd dX12_doOne_101 ?_
          refine g_iaload sh_146 dX12_doOne_102 (fun x25 => ?_)
          refine g_vV [.int (v1 + (1 : Int32)), .int x25] [] mw_X12_526 (hr_X12_doAll (v1 + (1 : Int32)) x25 (sI μ 141 43 ((mI μ 141 43) + (1 : Int32)))) (by omega) sh_141 (by decide) rfl rfl (Nat.le_of_ble_eq_true rfl) dX12_doOne_103 (fun μ27 _ => ?_)
          refine g_goto (tgt := 174) dX12_doOne_106 (by decide) ?_
          exact g_ret dX12_doOne_174 rfl rfl
    · refine g_aload_n dX12_doOne_52 2 rfl ?_
      refine g_dup dX12_doOne_53 rfl ?_
      refine g_getI fl_X12_517 sh_141 (by decide) rfl dX12_doOne_54 ?_
      refine g_aload_n dX12_doOne_57 2 rfl ?_
      refine g_iload_n dX12_doOne_58 1 rfl ?_
      refine g_vZ [.int ((130 : Int32) + ((9 : Int32) * v1))] [.int (mI (sI μ 141 43 ((mI μ 141 43) + (1 : Int32))) 141 44), .ref (gb g + 141)] mw_X12_520 (ok_X12_does g F ((130 : Int32) + ((9 : Int32) * v1)) (sI μ 141 43 ((mI μ 141 43) + (1 : Int32)))) (by omega) sh_141 (by decide) rfl rfl (Nat.le_of_ble_eq_true rfl) dX12_doOne_59 (fun x28 μ29 _ => ?_)
      have hJ32 : ∀ (w31 : Int32), w31 = (if x28 = true then (0 : Int32) else 1) → Go g RX12 cX12_doOne 5 .return_ (dr + 12) cvV 70 [] [.int w31, .int (mI (sI μ 141 43 ((mI μ 141 43) + (1 : Int32))) 141 44), .ref (gb g + 141)] μ29 (some (sI μ29 141 44 ((mI (sI μ 141 43 ((mI μ 141 43) + (1 : Int32))) 141 44) + (if x28 = true then (0 : Int32) else 1)))) := by
        intro w31 ew31
        subst ew31
        refine g_iadd dX12_doOne_70 ?_
        refine g_putI fl_X12_517 sh_141 (by decide) rfl dX12_doOne_71 ?_
        refine g_goto (tgt := 174) dX12_doOne_74 (by decide) ?_
        exact g_ret dX12_doOne_174 rfl rfl
      refine g_same (g_ifeqB (tgt := 69) dX12_doOne_62 (by decide) (fun c30 => ?_) (fun c30 => ?_))
      · refine g_iconst dX12_doOne_69 (v := 1) (by decide) ?_
        refine g_lv [] rfl ?_
        exact hJ32 _ (by rw [if_neg c30])
      · refine g_iconst dX12_doOne_65 (v := 0) (by decide) ?_
        refine g_goto (tgt := 70) dX12_doOne_66 (by decide) ?_
        refine g_lv [] rfl ?_
        exact hJ32 _ (by rw [if_pos c30])
  · refine g_aload_n dX12_doOne_10 0 rfl ?_
    refine g_iconst dX12_doOne_11 (v := 1) (by decide) ?_
    refine g_putZ fl_X12_510 sh_141 (by decide) rfl dX12_doOne_12 ?_
    refine g_aload_n dX12_doOne_15 0 rfl ?_
    refine g_iconst dX12_doOne_16 (v := 1) (by decide) ?_
    refine g_putI fl_X12_514 sh_141 (by decide) rfl dX12_doOne_17 ?_
    exact g_ret dX12_doOne_20 rfl rfl
set_option maxHeartbeats 4000000 in
set_option maxRecDepth 100000 in
theorem okL_X12_doAll_2 (g : GG) (dr : Nat) (F : Nat) (rc_X12_doOne : Int32 → Mm → Option (Mm)) (v2 : Int32) (k : Mm → Option (Mm))  (hr_X12_doOne : ∀ (v1 : Int32) (μ : Mm), Ct g yX12_doOne cX12_doOne 5 none dr cvV [.ref (gb g + 141), .int v1] μ (rc_X12_doOne v1 μ)) (hk : ∀ (μ : Mm), Go g RX12 cX12_doAll 4 .return_ (dr + 1) cvV 39 [] [] μ (k μ)) : ∀ (n : Nat) (v3 : Int32) (μ : Mm), Go g RX12 cX12_doAll 4 .return_ (dr + 1) cvV 2 [(0, .ref (gb g + 141)), (2, .int v2), (3, .int v3)] [] μ (L_X12_doAll_2 F rc_X12_doOne v2 k n v3 μ) := by
  intro n
  induction n with
  | zero =>
    intro v3 μ
    exact g_none
  | succ n ih =>
    intro v3 μ
    rw [L_X12_doAll_2_s]
    refine g_iload_n dX12_doAll_2 2 rfl ?_
    refine g_iload_n dX12_doAll_3 1 rfl ?_
    refine g_icmp_ge (tgt := 39) dX12_doAll_4 (by decide) (fun _ => ?_) (fun _ => ?_)
    · refine g_lv [] rfl ?_
      exact hk μ
    · refine g_aload_n dX12_doAll_7 0 rfl ?_
      refine g_getI fl_X12_510 sh_141 (by decide) rfl dX12_doAll_8 ?_
      refine g_if_ne (tgt := 39) dX12_doAll_11 (by decide) (fun _ => ?_) (fun _ => ?_)
      · refine g_lv [] rfl ?_
        exact hk μ
      · refine g_aload_n dX12_doAll_14 0 rfl ?_
        refine g_iload_n dX12_doAll_15 2 rfl ?_
        refine g_vV [.int v3] [] mw_X12_529 (hr_X12_doOne v3 μ) (by omega) sh_141 (by decide) rfl rfl (Nat.le_of_ble_eq_true rfl) dX12_doAll_16 (fun μ2 _ => ?_)
        refine g_aload_n dX12_doAll_19 0 rfl ?_
        refine g_getR (b := 146) fl_X12_35 sh_141 (by decide) rfl rfl dX12_doAll_20 ?_
        refine g_sipush dX12_doAll_23 (v := 130) (by decide) ?_
        refine g_bipush dX12_doAll_26 (v := 9) (by decide) ?_
        refine g_iload_n dX12_doAll_28 2 rfl ?_
        refine g_imul dX12_doAll_29 ?_
        refine g_iadd dX12_doAll_30 ?_
        refine g_bipush dX12_doAll_31 (v := 8) (by decide) ?_
        refine g_iadd dX12_doAll_33 ?_
        refine g_iaload sh_146 dX12_doAll_34 (fun x3 => ?_)
        refine g_istore_n dX12_doAll_35 rfl (by decide) (lv' := [(3, .int x3), (0, .ref (gb g + 141)), (2, .int v2)]) rfl ?_
        refine g_goto (tgt := 2) dX12_doAll_36 (by decide) ?_
        refine g_lv [1, 2, 0] rfl ?_
        exact ih x3 μ2
set_option maxHeartbeats 4000000 in
set_option maxRecDepth 100000 in
theorem ok_X12_doAll (g : GG) (dr : Nat) (F : Nat) (rc_X12_doOne : Int32 → Mm → Option (Mm)) (v1 : Int32) (v2 : Int32)  (hr_X12_doOne : ∀ (v1 : Int32) (μ : Mm), Ct g yX12_doOne cX12_doOne 5 none dr cvV [.ref (gb g + 141), .int v1] μ (rc_X12_doOne v1 μ)) (μ : Mm) : Ct g yX12_doAll cX12_doAll 4 none (dr + 1) cvV [.ref (gb g + 141), .int v1, .int v2] μ (f_X12_doAll F rc_X12_doOne v1 v2 μ) := by
  refine ct_V (by decide +kernel) (Nat.le_of_ble_eq_true rfl) (show Go g RX12 cX12_doAll 4 .return_ (dr + 1) cvV 0 [(0, .ref (gb g + 141)), (1, .int v1), (2, .int v2)] [] μ (f_X12_doAll F rc_X12_doOne v1 v2 μ) from ?_)
  unfold f_X12_doAll
  refine g_iload_n dX12_doAll_0 1 rfl ?_
  refine g_istore_n dX12_doAll_1 rfl (by decide) (lv' := [(3, .int v1), (0, .ref (gb g + 141)), (1, .int v1), (2, .int v2)]) rfl ?_
  refine g_lv [1, 3, 0] rfl ?_
  refine okL_X12_doAll_2 g dr F rc_X12_doOne v2 _ hr_X12_doOne (fun μ4 => ?_) F v1 μ
  exact g_ret dX12_doAll_39 rfl rfl
theorem okt_X12_doAll (g : GG) (F : Nat) : ∀ (D : Nat) (v1 : Int32) (v2 : Int32)  (μ : Mm), Ct g yX12_doAll cX12_doAll 4 none (D * 13) cvV [.ref (gb g + 141), .int v1, .int v2] μ (t_X12_doAll F D v1 v2 μ) := by
  intro D
  induction D with
  | zero =>
    intro v1 v2 μ r hr
    cases hr
  | succ D ih =>
    intro v1 v2 μ
    rw [t_X12_doAll_s, show (D + 1) * 13 = D * 13 + 13 by omega]
    exact ok_X12_doAll g (D * 13 + 12) F (f_X12_doOne F (t_X12_doAll F D)) v1 v2 (fun v1 μ => ok_X12_doOne g (D * 13) F (t_X12_doAll F D) v1 (fun v1 v2 μ => ih v1 v2 μ) μ) μ
theorem okt_X12_doOne (g : GG) (F : Nat) (D : Nat) (v1 : Int32)  (μ : Mm) : Ct g yX12_doOne cX12_doOne 5 none (D * 13 + 12) cvV [.ref (gb g + 141), .int v1] μ (t_X12_doOne F D v1 μ) :=
  ok_X12_doOne g (D * 13) F (t_X12_doAll F D) v1 (fun v1 v2 μ => okt_X12_doAll g F D v1 v2 μ) μ
set_option maxHeartbeats 4000000 in
set_option maxRecDepth 100000 in
theorem ok_X12_runsNights (g : GG) (F : Nat) (v1 : Int32)  (μ : Mm) : Ct g yX12_runsNights cX12_runsNights 2 none 118 cvV [.ref (gb g + 141), .int v1] μ (f_X12_runsNights F v1 μ) := by
  refine ct_V (by decide +kernel) (Nat.le_of_ble_eq_true rfl) (show Go g RX12 cX12_runsNights 2 .return_ 118 cvV 0 [(0, .ref (gb g + 141)), (1, .int v1)] [] μ (f_X12_runsNights F v1 μ) from ?_)
  unfold f_X12_runsNights
  refine g_aload_n dX12_runsNights_0 0 rfl ?_
  refine g_iload_n dX12_runsNights_1 1 rfl ?_
  refine g_putI fl_X12_482 sh_141 (by decide) rfl dX12_runsNights_2 ?_
  refine g_aload_n dX12_runsNights_5 0 rfl ?_
  refine g_iconst dX12_runsNights_6 (v := 0) (by decide) ?_
  refine g_putI fl_X12_507 sh_141 (by decide) rfl dX12_runsNights_7 ?_
  refine g_aload_n dX12_runsNights_10 0 rfl ?_
  refine g_iconst dX12_runsNights_11 (v := 0) (by decide) ?_
  refine g_putI fl_X12_517 sh_141 (by decide) rfl dX12_runsNights_12 ?_
  refine g_aload_n dX12_runsNights_15 0 rfl ?_
  refine g_iconst dX12_runsNights_16 (v := 0) (by decide) ?_
  refine g_putI fl_X12_489 sh_141 (by decide) rfl dX12_runsNights_17 ?_
  refine g_aload_n dX12_runsNights_20 0 rfl ?_
  refine g_iconst dX12_runsNights_21 (v := 0) (by decide) ?_
  refine g_putI fl_X12_486 sh_141 (by decide) rfl dX12_runsNights_22 ?_
  refine g_aload_n dX12_runsNights_25 0 rfl ?_
  refine g_iconst dX12_runsNights_26 (v := 0) (by decide) ?_
  refine g_putI fl_X12_504 sh_141 (by decide) rfl dX12_runsNights_27 ?_
  refine g_aload_n dX12_runsNights_30 0 rfl ?_
  refine g_iconst dX12_runsNights_31 (v := 0) (by decide) ?_
  refine g_putI fl_X12_514 sh_141 (by decide) rfl dX12_runsNights_32 ?_
  refine g_aload_n dX12_runsNights_35 0 rfl ?_
  refine g_iconst dX12_runsNights_36 (v := 0) (by decide) ?_
  refine g_putZ fl_X12_510 sh_141 (by decide) rfl dX12_runsNights_37 ?_
  refine g_aload_n dX12_runsNights_40 0 rfl ?_
  refine g_iconst dX12_runsNights_41 (v := 0) (by decide) ?_
  refine g_aload_n dX12_runsNights_42 0 rfl ?_
  refine g_getR (b := 146) fl_X12_35 sh_141 (by decide) rfl rfl dX12_runsNights_43 ?_
  refine g_sipush dX12_runsNights_46 (v := 129) (by decide) ?_
  refine g_iaload sh_146 dX12_runsNights_49 (fun x1 => ?_)
  refine g_vV [.int 0, .int x1] [] mw_X12_526 (okt_X12_doAll g F 9 0 x1 (sI (sI (sI (sI (sI (sI (sI (sI μ 141 42 v1) 141 43 0) 141 44 0) 141 45 0) 141 46 0) 141 47 0) 141 48 0) 141 41 0)) (by omega) sh_141 (by decide) rfl rfl (Nat.le_of_ble_eq_true rfl) dX12_runsNights_50 (fun μ3 _ => ?_)
  exact g_ret dX12_runsNights_53 rfl rfl
set_option maxHeartbeats 4000000 in
set_option maxRecDepth 100000 in
theorem ok_X12_live (g : GG) (F : Nat) (v1 : Int32)  (μ : Mm) : Ct g yX12_live cX12_live 2 (some (.int)) 119 cvI [.ref (gb g + 141), .int v1] μ (f_X12_live F v1 μ) := by
  refine ct_I (by decide +kernel) (Nat.le_of_ble_eq_true rfl) (show Go g RX12 cX12_live 2 .ireturn 119 cvI 0 [(0, .ref (gb g + 141)), (1, .int v1)] [] μ (f_X12_live F v1 μ) from ?_)
  unfold f_X12_live
  refine g_aload_n dX12_live_0 0 rfl ?_
  refine g_iconst dX12_live_1 (v := 0) (by decide) ?_
  refine g_putI fl_X12_72 sh_141 (by decide) rfl dX12_live_2 ?_
  refine g_aload_n dX12_live_5 0 rfl ?_
  refine g_iconst dX12_live_6 (v := 0) (by decide) ?_
  refine g_putI fl_X12_75 sh_141 (by decide) rfl dX12_live_7 ?_
  refine g_iload_n dX12_live_10 1 rfl ?_
  refine g_i2l dX12_live_11 ?_
  refine g_lconst dX12_live_12 (v := 0) (by decide) ?_
  refine g_ldc2 kl_X12_532 dX12_live_13 ?_
  refine g_sZp [.long (v1.toInt64), .long 0, .long 9999] [] mw_X12_107 (ok_X12_isIn g (v1.toInt64) 0 9999 (sI (sI μ 141 1 0) 141 0 0)) (by omega) rfl rfl (Nat.le_of_ble_eq_true rfl) dX12_live_16 (fun x1 _ => ?_)
  refine g_ifneB (tgt := 28) dX12_live_19 (by decide) (fun _ => ?_) (fun _ => ?_)
  · refine g_aload_n dX12_live_28 0 rfl ?_
    refine g_getR (b := 146) fl_X12_35 sh_141 (by decide) rfl rfl dX12_live_29 ?_
    refine g_sipush dX12_live_32 (v := 128) (by decide) ?_
    refine g_iaload sh_146 dX12_live_35 (fun x2 => ?_)
    refine g_if_ne (tgt := 46) dX12_live_36 (by decide) (fun _ => ?_) (fun _ => ?_)
    · refine g_aload_n dX12_live_46 0 rfl ?_
      refine g_iload_n dX12_live_47 1 rfl ?_
      refine g_vV [.int v1] [] mw_X12_534 (ok_X12_runsNights g F v1 (sI (sI μ 141 1 0) 141 0 0)) (by omega) sh_141 (by decide) rfl rfl (Nat.le_of_ble_eq_true rfl) dX12_live_48 (fun μ4 _ => ?_)
      refine g_aload_n dX12_live_51 0 rfl ?_
      refine g_getR (b := 156) fl_X12_65 sh_141 (by decide) rfl rfl dX12_live_52 ?_
      refine g_iconst dX12_live_55 (v := 0) (by decide) ?_
      refine g_aload_n dX12_live_56 0 rfl ?_
      refine g_getI fl_X12_517 sh_141 (by decide) rfl dX12_live_57 ?_
      refine g_iastore sh_156 dX12_live_60 (fun μ5 => ?_)
      refine g_aload_n dX12_live_61 0 rfl ?_
      refine g_getR (b := 156) fl_X12_65 sh_141 (by decide) rfl rfl dX12_live_62 ?_
      refine g_iconst dX12_live_65 (v := 1) (by decide) ?_
      refine g_aload_n dX12_live_66 0 rfl ?_
      refine g_getI fl_X12_489 sh_141 (by decide) rfl dX12_live_67 ?_
      refine g_iastore sh_156 dX12_live_70 (fun μ6 => ?_)
      refine g_aload_n dX12_live_71 0 rfl ?_
      refine g_getR (b := 156) fl_X12_65 sh_141 (by decide) rfl rfl dX12_live_72 ?_
      refine g_iconst dX12_live_75 (v := 2) (by decide) ?_
      refine g_aload_n dX12_live_76 0 rfl ?_
      refine g_getI fl_X12_486 sh_141 (by decide) rfl dX12_live_77 ?_
      refine g_iastore sh_156 dX12_live_80 (fun μ7 => ?_)
      refine g_aload_n dX12_live_81 0 rfl ?_
      refine g_getR (b := 156) fl_X12_65 sh_141 (by decide) rfl rfl dX12_live_82 ?_
      refine g_iconst dX12_live_85 (v := 3) (by decide) ?_
      refine g_aload_n dX12_live_86 0 rfl ?_
      refine g_getI fl_X12_504 sh_141 (by decide) rfl dX12_live_87 ?_
      refine g_iastore sh_156 dX12_live_90 (fun μ8 => ?_)
      refine g_aload_n dX12_live_91 0 rfl ?_
      refine g_getR (b := 156) fl_X12_65 sh_141 (by decide) rfl rfl dX12_live_92 ?_
      refine g_iconst dX12_live_95 (v := 4) (by decide) ?_
      refine g_aload_n dX12_live_96 0 rfl ?_
      refine g_getI fl_X12_514 sh_141 (by decide) rfl dX12_live_97 ?_
      refine g_iastore sh_156 dX12_live_100 (fun μ9 => ?_)
      refine g_aload_n dX12_live_101 0 rfl ?_
      refine g_iconst dX12_live_102 (v := 1) (by decide) ?_
      refine g_putZ fl_X12_537 sh_141 (by decide) rfl dX12_live_103 ?_
      refine g_aload_n dX12_live_106 0 rfl ?_
      refine g_getI fl_X12_507 sh_141 (by decide) rfl dX12_live_107 ?_
      exact g_ret dX12_live_110 rfl rfl
    · refine g_aload_n dX12_live_39 0 rfl ?_
      refine g_bipush dX12_live_40 (v := 8) (by decide) ?_
      refine g_vI [.int 8] [] mw_X12_318 (ok_X12_refuse g 8 (sI (sI μ 141 1 0) 141 0 0)) (by omega) sh_141 (by decide) rfl rfl (Nat.le_of_ble_eq_true rfl) dX12_live_42 (fun x10 μ11 _ => ?_)
      exact g_ret dX12_live_45 rfl rfl
  · refine g_aload_n dX12_live_22 0 rfl ?_
    refine g_iconst dX12_live_23 (v := 5) (by decide) ?_
    refine g_vI [.int 5] [] mw_X12_318 (ok_X12_refuse g 5 (sI (sI μ 141 1 0) 141 0 0)) (by omega) sh_141 (by decide) rfl rfl (Nat.le_of_ble_eq_true rfl) dX12_live_24 (fun x12 μ13 _ => ?_)
    exact g_ret dX12_live_27 rfl rfl
set_option maxHeartbeats 4000000 in
set_option maxRecDepth 100000 in
theorem ok_X12_lived (g : GG) (v1 : Int32)  (μ : Mm) : Ct g yX12_lived cX12_lived 2 (some (.int)) 2 cvI [.ref (gb g + 141), .int v1] μ (f_X12_lived v1 μ) := by
  refine ct_I (by decide +kernel) (Nat.le_of_ble_eq_true rfl) (show Go g RX12 cX12_lived 2 .ireturn 2 cvI 0 [(0, .ref (gb g + 141)), (1, .int v1)] [] μ (f_X12_lived v1 μ) from ?_)
  unfold f_X12_lived
  refine g_aload_n dX12_lived_0 0 rfl ?_
  refine g_iconst dX12_lived_1 (v := 0) (by decide) ?_
  refine g_putI fl_X12_72 sh_141 (by decide) rfl dX12_lived_2 ?_
  refine g_aload_n dX12_lived_5 0 rfl ?_
  refine g_iconst dX12_lived_6 (v := 0) (by decide) ?_
  refine g_putI fl_X12_75 sh_141 (by decide) rfl dX12_lived_7 ?_
  refine g_iload_n dX12_lived_10 1 rfl ?_
  refine g_i2l dX12_lived_11 ?_
  refine g_lconst dX12_lived_12 (v := 0) (by decide) ?_
  refine g_ldc2 kl_X12_368 dX12_lived_13 ?_
  refine g_sZp [.long (v1.toInt64), .long 0, .long 4] [] mw_X12_107 (ok_X12_isIn g (v1.toInt64) 0 4 (sI (sI μ 141 1 0) 141 0 0)) (by omega) rfl rfl (Nat.le_of_ble_eq_true rfl) dX12_lived_16 (fun x1 _ => ?_)
  refine g_ifneB (tgt := 28) dX12_lived_19 (by decide) (fun _ => ?_) (fun _ => ?_)
  · refine g_aload_n dX12_lived_28 0 rfl ?_
    refine g_getI fl_X12_537 sh_141 (by decide) rfl dX12_lived_29 ?_
    refine g_if_eq (tgt := 44) dX12_lived_32 (by decide) (fun _ => ?_) (fun _ => ?_)
    · refine g_aload_n dX12_lived_44 0 rfl ?_
      refine g_bipush dX12_lived_45 (v := 8) (by decide) ?_
      refine g_vI [.int 8] [] mw_X12_318 (ok_X12_refuse g 8 (sI (sI μ 141 1 0) 141 0 0)) (by omega) sh_141 (by decide) rfl rfl (Nat.le_of_ble_eq_true rfl) dX12_lived_47 (fun x3 μ4 _ => ?_)
      exact g_ret dX12_lived_50 rfl rfl
    · refine g_aload_n dX12_lived_35 0 rfl ?_
      refine g_getR (b := 156) fl_X12_65 sh_141 (by decide) rfl rfl dX12_lived_36 ?_
      refine g_iload_n dX12_lived_39 1 rfl ?_
      refine g_iaload sh_156 dX12_lived_40 (fun x5 => ?_)
      refine g_goto (tgt := 50) dX12_lived_41 (by decide) ?_
      exact g_ret dX12_lived_50 rfl rfl
  · refine g_aload_n dX12_lived_22 0 rfl ?_
    refine g_iconst dX12_lived_23 (v := 5) (by decide) ?_
    refine g_vI [.int 5] [] mw_X12_318 (ok_X12_refuse g 5 (sI (sI μ 141 1 0) 141 0 0)) (by omega) sh_141 (by decide) rfl rfl (Nat.le_of_ble_eq_true rfl) dX12_lived_24 (fun x6 μ7 _ => ?_)
    exact g_ret dX12_lived_27 rfl rfl
set_option maxHeartbeats 4000000 in
set_option maxRecDepth 100000 in
theorem okL_X12_mean_63 (g : GG) (F : Nat) (v1 : Int32) (v2 : Int32) (k : Mm → Option (Bool × Mm))  (hk : ∀ (μ : Mm), Go g RX12 cX12_mean 7 .ireturn 119 cvZ 88 [(0, .ref (gb g + 141)), (1, .int v1), (2, .int v2)] [] μ (k μ)) : ∀ (n : Nat) (v3 : Int32) (μ : Mm), Go g RX12 cX12_mean 7 .ireturn 119 cvZ 63 [(0, .ref (gb g + 141)), (1, .int v1), (2, .int v2), (3, .int v3)] [] μ (L_X12_mean_63 F v1 v2 k n v3 μ) := by
  intro n
  induction n with
  | zero =>
    intro v3 μ
    exact g_none
  | succ n ih =>
    intro v3 μ
    rw [L_X12_mean_63_s]
    refine g_iload_n dX12_mean_63 3 rfl ?_
    refine g_sipush dX12_mean_64 (v := 128) (by decide) ?_
    refine g_icmp_ge (tgt := 88) dX12_mean_67 (by decide) (fun _ => ?_) (fun _ => ?_)
    · refine g_lv [0, 1, 2] rfl ?_
      exact hk μ
    · refine g_aload_n dX12_mean_70 0 rfl ?_
      refine g_getR (b := 148) fl_X12_41 sh_141 (by decide) rfl rfl dX12_mean_71 ?_
      refine g_iload_n dX12_mean_74 3 rfl ?_
      refine g_aload_n dX12_mean_75 0 rfl ?_
      refine g_getR (b := 146) fl_X12_35 sh_141 (by decide) rfl rfl dX12_mean_76 ?_
      refine g_iload_n dX12_mean_79 3 rfl ?_
      refine g_iaload sh_146 dX12_mean_80 (fun x6 => ?_)
      refine g_iastore sh_148 dX12_mean_81 (fun μ7 => ?_)
      refine g_iinc dX12_mean_82 3 rfl (v := (v3 + 1)) rfl (by decide) (lv' := [(3, .int (v3 + 1)), (0, .ref (gb g + 141)), (1, .int v1), (2, .int v2)]) rfl ?_
      refine g_goto (tgt := 63) dX12_mean_85 (by decide) ?_
      refine g_lv [1, 2, 3, 0] rfl ?_
      exact ih (v3 + 1) μ7
set_option maxHeartbeats 4000000 in
set_option maxRecDepth 100000 in
theorem okL_X12_mean_118 (g : GG) (F : Nat) (v1 : Int32) (v2 : Int32) (v3 : Int64) (v5 : Int32) (k : Mm → Option (Bool × Mm))  (hk : ∀ (μ : Mm), Go g RX12 cX12_mean 7 .ireturn 119 cvZ 146 [(0, .ref (gb g + 141)), (1, .int v1), (2, .int v2), (3, .long v3), (5, .int v5)] [] μ (k μ)) : ∀ (n : Nat) (v6 : Int32) (μ : Mm), Go g RX12 cX12_mean 7 .ireturn 119 cvZ 118 [(0, .ref (gb g + 141)), (1, .int v1), (2, .int v2), (3, .long v3), (5, .int v5), (6, .int v6)] [] μ (L_X12_mean_118 F v1 v2 v3 v5 k n v6 μ) := by
  intro n
  induction n with
  | zero =>
    intro v6 μ
    exact g_none
  | succ n ih =>
    intro v6 μ
    rw [L_X12_mean_118_s]
    refine g_iload dX12_mean_118 5 rfl ?_
    refine g_sipush dX12_mean_120 (v := 128) (by decide) ?_
    refine g_icmp_ge (tgt := 146) dX12_mean_123 (by decide) (fun _ => ?_) (fun _ => ?_)
    · refine g_lv [0, 1, 2, 3, 4] rfl ?_
      exact hk μ
    · refine g_aload_n dX12_mean_126 0 rfl ?_
      refine g_getR (b := 146) fl_X12_35 sh_141 (by decide) rfl rfl dX12_mean_127 ?_
      refine g_iload dX12_mean_130 5 rfl ?_
      refine g_aload_n dX12_mean_132 0 rfl ?_
      refine g_getR (b := 148) fl_X12_41 sh_141 (by decide) rfl rfl dX12_mean_133 ?_
      refine g_iload dX12_mean_136 5 rfl ?_
      refine g_iaload sh_148 dX12_mean_138 (fun x12 => ?_)
      refine g_iastore sh_146 dX12_mean_139 (fun μ13 => ?_)
      refine g_iinc dX12_mean_140 5 rfl (v := (v6 + 1)) rfl (by decide) (lv' := [(6, .int (v6 + 1)), (0, .ref (gb g + 141)), (1, .int v1), (2, .int v2), (3, .long v3), (5, .int v5)]) rfl ?_
      refine g_goto (tgt := 118) dX12_mean_143 (by decide) ?_
      refine g_lv [1, 2, 3, 4, 5, 0] rfl ?_
      exact ih (v6 + 1) μ13
set_option maxHeartbeats 4000000 in
set_option maxRecDepth 100000 in
theorem okL_X12_mean_93 (g : GG) (F : Nat) (v1 : Int32) (v2 : Int32) (k : Int64 → Mm → Option (Bool × Mm))  (hk : ∀ (v3 : Int64) (μ : Mm), Go g RX12 cX12_mean 7 .ireturn 119 cvZ 152 [(0, .ref (gb g + 141)), (2, .int v2), (3, .long v3)] [] μ (k v3 μ)) : ∀ (n : Nat) (v3 : Int64) (v5 : Int32) (μ : Mm), Go g RX12 cX12_mean 7 .ireturn 119 cvZ 93 [(0, .ref (gb g + 141)), (1, .int v1), (2, .int v2), (3, .long v3), (5, .int v5)] [] μ (L_X12_mean_93 F v1 v2 k n v3 v5 μ) := by
  intro n
  induction n with
  | zero =>
    intro v3 v5 μ
    exact g_none
  | succ n ih =>
    intro v3 v5 μ
    rw [L_X12_mean_93_s]
    refine g_iload dX12_mean_93 4 rfl ?_
    refine g_iload_n dX12_mean_95 2 rfl ?_
    refine g_icmp_ge (tgt := 152) dX12_mean_96 (by decide) (fun _ => ?_) (fun _ => ?_)
    · refine g_lv [0, 2, 3] rfl ?_
      exact hk v3 μ
    · refine g_aload_n dX12_mean_99 0 rfl ?_
      refine g_iload_n dX12_mean_100 1 rfl ?_
      refine g_iload dX12_mean_101 4 rfl ?_
      refine g_iadd dX12_mean_103 ?_
      refine g_vV [.int (v1 + v5)] [] mw_X12_534 (ok_X12_runsNights g F (v1 + v5) μ) (by omega) sh_141 (by decide) rfl rfl (Nat.le_of_ble_eq_true rfl) dX12_mean_104 (fun μ10 _ => ?_)
      refine g_lload_n dX12_mean_107 3 rfl ?_
      refine g_aload_n dX12_mean_108 0 rfl ?_
      refine g_vIp [] [.long v3] mw_X12_321 (ok_X12_allWrong g F μ10) (by omega) sh_141 (by decide) rfl rfl (Nat.le_of_ble_eq_true rfl) dX12_mean_109 (fun x11 _ => ?_)
      refine g_i2l dX12_mean_112 ?_
      refine g_ladd dX12_mean_113 ?_
      refine g_lstore_n dX12_mean_114 rfl (by decide) (lv' := [(3, .long (v3 + (x11.toInt64))), (0, .ref (gb g + 141)), (1, .int v1), (2, .int v2), (5, .int v5)]) rfl ?_
      refine g_iconst dX12_mean_115 (v := 0) (by decide) ?_
      refine g_istore dX12_mean_116 (by decide) (lv' := [(6, .int 0), (3, .long (v3 + (x11.toInt64))), (0, .ref (gb g + 141)), (1, .int v1), (2, .int v2), (5, .int v5)]) rfl ?_
      refine g_lv [2, 3, 4, 1, 5, 0] rfl ?_
      refine okL_X12_mean_118 g F v1 v2 (v3 + (x11.toInt64)) v5 _ (fun μ14 => ?_) F 0 μ10
      refine g_iinc dX12_mean_146 4 rfl (v := (v5 + 1)) rfl (by decide) (lv' := [(5, .int (v5 + 1)), (0, .ref (gb g + 141)), (1, .int v1), (2, .int v2), (3, .long (v3 + (x11.toInt64)))]) rfl ?_
      refine g_goto (tgt := 93) dX12_mean_149 (by decide) ?_
      refine g_lv [1, 2, 3, 4, 0] rfl ?_
      exact ih (v3 + (x11.toInt64)) (v5 + 1) μ14
set_option maxHeartbeats 4000000 in
set_option maxRecDepth 100000 in
theorem ok_X12_mean (g : GG) (F : Nat) (v1 : Int32) (v2 : Int32)  (μ : Mm) : Ct g yX12_mean cX12_mean 7 (some (.boolean)) 119 cvZ [.ref (gb g + 141), .int v1, .int v2] μ (f_X12_mean F v1 v2 μ) := by
  refine ct_Z (by decide +kernel) (Nat.le_of_ble_eq_true rfl) (show Go g RX12 cX12_mean 7 .ireturn 119 cvZ 0 [(0, .ref (gb g + 141)), (1, .int v1), (2, .int v2)] [] μ (f_X12_mean F v1 v2 μ) from ?_)
  unfold f_X12_mean
  refine g_aload_n dX12_mean_0 0 rfl ?_
  refine g_iconst dX12_mean_1 (v := 0) (by decide) ?_
  refine g_putI fl_X12_72 sh_141 (by decide) rfl dX12_mean_2 ?_
  refine g_aload_n dX12_mean_5 0 rfl ?_
  refine g_iconst dX12_mean_6 (v := 0) (by decide) ?_
  refine g_putI fl_X12_75 sh_141 (by decide) rfl dX12_mean_7 ?_
  refine g_iload_n dX12_mean_10 2 rfl ?_
  refine g_i2l dX12_mean_11 ?_
  refine g_lconst dX12_mean_12 (v := 1) (by decide) ?_
  refine g_ldc2 kl_X12_156 dX12_mean_13 ?_
  refine g_sZp [.long (v2.toInt64), .long 1, .long 20] [] mw_X12_107 (ok_X12_isIn g (v2.toInt64) 1 20 (sI (sI μ 141 1 0) 141 0 0)) (by omega) rfl rfl (Nat.le_of_ble_eq_true rfl) dX12_mean_16 (fun x1 _ => ?_)
  refine g_ifeqB (tgt := 37) dX12_mean_19 (by decide) (fun _ => ?_) (fun _ => ?_)
  · refine g_aload_n dX12_mean_37 0 rfl ?_
    refine g_iconst dX12_mean_38 (v := 5) (by decide) ?_
    refine g_vZ [.int 5] [] mw_X12_87 (ok_X12_no g 5 (sI (sI μ 141 1 0) 141 0 0)) (by omega) sh_141 (by decide) rfl rfl (Nat.le_of_ble_eq_true rfl) dX12_mean_39 (fun x2 μ3 _ => ?_)
    exact g_ret dX12_mean_42 rfl rfl
  · refine g_iload_n dX12_mean_22 1 rfl ?_
    refine g_i2l dX12_mean_23 ?_
    refine g_lconst dX12_mean_24 (v := 0) (by decide) ?_
    refine g_sipush dX12_mean_25 (v := 10000) (by decide) ?_
    refine g_iload_n dX12_mean_28 2 rfl ?_
    refine g_isub dX12_mean_29 ?_
    refine g_i2l dX12_mean_30 ?_
    refine g_sZp [.long (v1.toInt64), .long 0, .long (((10000 : Int32) - v2).toInt64)] [] mw_X12_107 (ok_X12_isIn g (v1.toInt64) 0 (((10000 : Int32) - v2).toInt64) (sI (sI μ 141 1 0) 141 0 0)) (by omega) rfl rfl (Nat.le_of_ble_eq_true rfl) dX12_mean_31 (fun x4 _ => ?_)
    refine g_ifneB (tgt := 43) dX12_mean_34 (by decide) (fun _ => ?_) (fun _ => ?_)
    · refine g_aload_n dX12_mean_43 0 rfl ?_
      refine g_getR (b := 146) fl_X12_35 sh_141 (by decide) rfl rfl dX12_mean_44 ?_
      refine g_sipush dX12_mean_47 (v := 128) (by decide) ?_
      refine g_iaload sh_146 dX12_mean_50 (fun x5 => ?_)
      refine g_if_ne (tgt := 61) dX12_mean_51 (by decide) (fun _ => ?_) (fun _ => ?_)
      · refine g_iconst dX12_mean_61 (v := 0) (by decide) ?_
        refine g_istore_n dX12_mean_62 rfl (by decide) (lv' := [(3, .int 0), (0, .ref (gb g + 141)), (1, .int v1), (2, .int v2)]) rfl ?_
        refine g_lv [1, 2, 3, 0] rfl ?_
        refine okL_X12_mean_63 g F v1 v2 _ (fun μ8 => ?_) F 0 (sI (sI μ 141 1 0) 141 0 0)
        refine g_lconst dX12_mean_88 (v := 0) (by decide) ?_
        refine g_lstore_n dX12_mean_89 rfl (by decide) (lv' := [(3, .long 0), (0, .ref (gb g + 141)), (1, .int v1), (2, .int v2)]) rfl ?_
        refine g_iconst dX12_mean_90 (v := 0) (by decide) ?_
        refine g_istore dX12_mean_91 (by decide) (lv' := [(5, .int 0), (3, .long 0), (0, .ref (gb g + 141)), (1, .int v1), (2, .int v2)]) rfl ?_
        refine g_lv [2, 3, 4, 1, 0] rfl ?_
        refine okL_X12_mean_93 g F v1 v2 _ (fun u15 μ16 => ?_) F 0 0 μ8
        refine g_aload_n dX12_mean_152 0 rfl ?_
        refine g_lload_n dX12_mean_153 2 rfl ?_
        refine g_iload_n dX12_mean_154 1 rfl ?_
        refine g_i2l dX12_mean_155 ?_
        refine g_vZ [.long u15, .long (v2.toInt64)] [] mw_X12_478 (ok_X12_fraction g F u15 (v2.toInt64) μ16) (by omega) sh_141 (by decide) rfl rfl (Nat.le_of_ble_eq_true rfl) dX12_mean_156 (fun x17 μ18 _ => ?_)
        exact g_ret dX12_mean_159 rfl rfl
      · refine g_aload_n dX12_mean_54 0 rfl ?_
        refine g_bipush dX12_mean_55 (v := 8) (by decide) ?_
        refine g_vZ [.int 8] [] mw_X12_87 (ok_X12_no g 8 (sI (sI μ 141 1 0) 141 0 0)) (by omega) sh_141 (by decide) rfl rfl (Nat.le_of_ble_eq_true rfl) dX12_mean_57 (fun x19 μ20 _ => ?_)
        exact g_ret dX12_mean_60 rfl rfl
    · refine g_aload_n dX12_mean_37 0 rfl ?_
      refine g_iconst dX12_mean_38 (v := 5) (by decide) ?_
      refine g_vZ [.int 5] [] mw_X12_87 (ok_X12_no g 5 (sI (sI μ 141 1 0) 141 0 0)) (by omega) sh_141 (by decide) rfl rfl (Nat.le_of_ble_eq_true rfl) dX12_mean_39 (fun x21 μ22 _ => ?_)
      exact g_ret dX12_mean_42 rfl rfl
set_option maxHeartbeats 4000000 in
set_option maxRecDepth 100000 in
theorem ok_X12_mark (g : GG) (F : Nat)   (μ : Mm) : Ct g yX12_mark cX12_mark 1 (some (.int)) 2 cvI [.ref (gb g + 141)] μ (f_X12_mark F μ) := by
  refine ct_I (by decide +kernel) (Nat.le_of_ble_eq_true rfl) (show Go g RX12 cX12_mark 1 .ireturn 2 cvI 0 [(0, .ref (gb g + 141))] [] μ (f_X12_mark F μ) from ?_)
  unfold f_X12_mark
  refine g_aload_n dX12_mark_0 0 rfl ?_
  refine g_iconst dX12_mark_1 (v := 0) (by decide) ?_
  refine g_putI fl_X12_72 sh_141 (by decide) rfl dX12_mark_2 ?_
  refine g_aload_n dX12_mark_5 0 rfl ?_
  refine g_iconst dX12_mark_6 (v := 0) (by decide) ?_
  refine g_putI fl_X12_75 sh_141 (by decide) rfl dX12_mark_7 ?_
  refine g_aload_n dX12_mark_10 0 rfl ?_
  refine g_getI fl_X12_540 sh_141 (by decide) rfl dX12_mark_11 ?_
  refine g_iconst dX12_mark_14 (v := 3) (by decide) ?_
  refine g_icmp_ne (tgt := 25) dX12_mark_15 (by decide) (fun _ => ?_) (fun _ => ?_)
  · refine g_aload_n dX12_mark_25 0 rfl ?_
    refine g_dup dX12_mark_26 rfl ?_
    refine g_getI fl_X12_540 sh_141 (by decide) rfl dX12_mark_27 ?_
    refine g_iconst dX12_mark_30 (v := 1) (by decide) ?_
    refine g_iadd dX12_mark_31 ?_
    refine g_putI fl_X12_540 sh_141 (by decide) rfl dX12_mark_32 ?_
    refine g_aload_n dX12_mark_35 0 rfl ?_
    refine g_iconst dX12_mark_36 (v := 0) (by decide) ?_
    refine g_aload_n dX12_mark_37 0 rfl ?_
    refine g_getI fl_X12_540 sh_141 (by decide) rfl dX12_mark_38 ?_
    refine g_vV [.int 0, .int (mI (sI (sI (sI μ 141 1 0) 141 0 0) 141 24 ((mI (sI (sI μ 141 1 0) 141 0 0) 141 24) + (1 : Int32))) 141 24)] [] mw_X12_283 (ok_X12_copy g F 0 (mI (sI (sI (sI μ 141 1 0) 141 0 0) 141 24 ((mI (sI (sI μ 141 1 0) 141 0 0) 141 24) + (1 : Int32))) 141 24) (sI (sI (sI μ 141 1 0) 141 0 0) 141 24 ((mI (sI (sI μ 141 1 0) 141 0 0) 141 24) + (1 : Int32)))) (by omega) sh_141 (by decide) rfl rfl (Nat.le_of_ble_eq_true rfl) dX12_mark_41 (fun μ2 _ => ?_)
    refine g_aload_n dX12_mark_44 0 rfl ?_
    refine g_getI fl_X12_540 sh_141 (by decide) rfl dX12_mark_45 ?_
    exact g_ret dX12_mark_48 rfl rfl
  · refine g_aload_n dX12_mark_18 0 rfl ?_
    refine g_bipush dX12_mark_19 (v := 7) (by decide) ?_
    refine g_vI [.int 7] [] mw_X12_318 (ok_X12_refuse g 7 (sI (sI μ 141 1 0) 141 0 0)) (by omega) sh_141 (by decide) rfl rfl (Nat.le_of_ble_eq_true rfl) dX12_mark_21 (fun x3 μ4 _ => ?_)
    exact g_ret dX12_mark_24 rfl rfl
set_option maxHeartbeats 4000000 in
set_option maxRecDepth 100000 in
theorem ok_X12_back (g : GG) (F : Nat)   (μ : Mm) : Ct g yX12_back cX12_back 1 (some (.int)) 2 cvI [.ref (gb g + 141)] μ (f_X12_back F μ) := by
  refine ct_I (by decide +kernel) (Nat.le_of_ble_eq_true rfl) (show Go g RX12 cX12_back 1 .ireturn 2 cvI 0 [(0, .ref (gb g + 141))] [] μ (f_X12_back F μ) from ?_)
  unfold f_X12_back
  refine g_aload_n dX12_back_0 0 rfl ?_
  refine g_iconst dX12_back_1 (v := 0) (by decide) ?_
  refine g_putI fl_X12_72 sh_141 (by decide) rfl dX12_back_2 ?_
  refine g_aload_n dX12_back_5 0 rfl ?_
  refine g_iconst dX12_back_6 (v := 0) (by decide) ?_
  refine g_putI fl_X12_75 sh_141 (by decide) rfl dX12_back_7 ?_
  refine g_aload_n dX12_back_10 0 rfl ?_
  refine g_getI fl_X12_540 sh_141 (by decide) rfl dX12_back_11 ?_
  refine g_if_ne (tgt := 24) dX12_back_14 (by decide) (fun _ => ?_) (fun _ => ?_)
  · refine g_aload_n dX12_back_24 0 rfl ?_
    refine g_aload_n dX12_back_25 0 rfl ?_
    refine g_getI fl_X12_540 sh_141 (by decide) rfl dX12_back_26 ?_
    refine g_iconst dX12_back_29 (v := 0) (by decide) ?_
    refine g_vV [.int (mI (sI (sI μ 141 1 0) 141 0 0) 141 24), .int 0] [] mw_X12_283 (ok_X12_copy g F (mI (sI (sI μ 141 1 0) 141 0 0) 141 24) 0 (sI (sI μ 141 1 0) 141 0 0)) (by omega) sh_141 (by decide) rfl rfl (Nat.le_of_ble_eq_true rfl) dX12_back_30 (fun μ2 _ => ?_)
    refine g_aload_n dX12_back_33 0 rfl ?_
    refine g_dup dX12_back_34 rfl ?_
    refine g_getI fl_X12_540 sh_141 (by decide) rfl dX12_back_35 ?_
    refine g_iconst dX12_back_38 (v := 1) (by decide) ?_
    refine g_isub dX12_back_39 ?_
    refine g_putI fl_X12_540 sh_141 (by decide) rfl dX12_back_40 ?_
    refine g_aload_n dX12_back_43 0 rfl ?_
    refine g_getI fl_X12_540 sh_141 (by decide) rfl dX12_back_44 ?_
    exact g_ret dX12_back_47 rfl rfl
  · refine g_aload_n dX12_back_17 0 rfl ?_
    refine g_bipush dX12_back_18 (v := 8) (by decide) ?_
    refine g_vI [.int 8] [] mw_X12_318 (ok_X12_refuse g 8 (sI (sI μ 141 1 0) 141 0 0)) (by omega) sh_141 (by decide) rfl rfl (Nat.le_of_ble_eq_true rfl) dX12_back_20 (fun x3 μ4 _ => ?_)
    exact g_ret dX12_back_23 rfl rfl
