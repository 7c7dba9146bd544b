set_option maxHeartbeats 4000000 in
set_option maxRecDepth 100000 in
theorem ok_X11_write (g : GG) (v1 : Int32) (v2 : Int32) (v3 : Int64)  (μ : Mm) : Ct g yX11_write cX11_write 6 (some (.boolean)) 4 cvZ [.ref (gb g + 0), .int v1, .int v2, .long v3] μ (f_X11_write v1 v2 v3 μ) := by
  refine ct_Z (by decide +kernel) (Nat.le_of_ble_eq_true rfl) (show Go g RX11 cX11_write 6 .ireturn 4 cvZ 0 [(0, .ref (gb g + 0)), (1, .int v1), (2, .int v2), (3, .long v3)] [] μ (f_X11_write v1 v2 v3 μ) from ?_)
  unfold f_X11_write
  refine g_aload_n dX11_write_0 0 rfl ?_
  refine g_getR (b := 1) fl_X11_26 sh_0 (by decide) rfl rfl dX11_write_1 ?_
  refine g_iload_n dX11_write_4 1 rfl ?_
  refine g_iload_n dX11_write_5 2 rfl ?_
  refine g_vIp [.int v1, .int v2] [] mw_X11_124 (ok_X10_lookAt g v1 v2 μ) (by omega) sh_1 (by decide) rfl rfl (Nat.le_of_ble_eq_true rfl) dX11_write_6 (fun x1 _ => ?_)
  refine g_istore dX11_write_9 (by decide) (lv' := [(5, .int x1), (0, .ref (gb g + 0)), (1, .int v1), (2, .int v2), (3, .long v3)]) rfl ?_
  refine g_iload dX11_write_11 0 rfl ?_
  refine g_jn (fun (a4 : Mm) oo => Go g RX11 cX11_write 6 .ireturn 4 cvZ 26 [(0, .ref (gb g + 0)), (5, .int x1)] [] a4 oo) (fun a4 => ?_) (fun K3 hF7 => ?_)
  · refine g_aload_n dX11_write_26 0 rfl ?_
    refine g_iload dX11_write_27 1 rfl ?_
    refine g_vZ [.int x1] [] mw_X11_109 (ok_X11_verdict g x1 a4) (by omega) sh_0 (by decide) rfl rfl (Nat.le_of_ble_eq_true rfl) dX11_write_29 (fun x5 μ6 _ => ?_)
    exact g_ret dX11_write_32 rfl rfl
  · refine g_if_ne (tgt := 26) dX11_write_13 (by decide) (fun _ => ?_) (fun _ => ?_)
    · refine g_lv [1, 0] rfl ?_
      exact hF7 μ
    · refine g_aload_n dX11_write_16 1 rfl ?_
      refine g_getR (b := 1) fl_X11_26 sh_0 (by decide) rfl rfl dX11_write_17 ?_
      refine g_iload_n dX11_write_20 2 rfl ?_
      refine g_iload_n dX11_write_21 3 rfl ?_
      refine g_lload_n dX11_write_22 4 rfl ?_
      refine g_vV [.int v1, .int v2, .long v3] [] mw_X11_128 (ok_X10_put g v1 v2 v3 μ) (by omega) sh_1 (by decide) rfl rfl (Nat.le_of_ble_eq_true rfl) dX11_write_23 (fun μ9 _ => ?_)
      refine g_lv [1, 0] rfl ?_
      exact hF7 μ9
set_option maxHeartbeats 4000000 in
set_option maxRecDepth 100000 in
theorem ok_X11_read (g : GG) (v1 : Int32) (v2 : Int32)  (μ : Mm) : Ct g yX11_read cX11_read 4 (some (.long)) 4 cvJ [.ref (gb g + 0), .int v1, .int v2] μ (f_X11_read v1 v2 μ) := by
  refine ct_J (by decide +kernel) (Nat.le_of_ble_eq_true rfl) (show Go g RX11 cX11_read 4 .lreturn 4 cvJ 0 [(0, .ref (gb g + 0)), (1, .int v1), (2, .int v2)] [] μ (f_X11_read v1 v2 μ) from ?_)
  unfold f_X11_read
  refine g_aload_n dX11_read_0 0 rfl ?_
  refine g_getR (b := 1) fl_X11_26 sh_0 (by decide) rfl rfl dX11_read_1 ?_
  refine g_iload_n dX11_read_4 1 rfl ?_
  refine g_iload_n dX11_read_5 2 rfl ?_
  refine g_vIp [.int v1, .int v2] [] mw_X11_124 (ok_X10_lookAt g v1 v2 μ) (by omega) sh_1 (by decide) rfl rfl (Nat.le_of_ble_eq_true rfl) dX11_read_6 (fun x1 _ => ?_)
  refine g_istore_n dX11_read_9 rfl (by decide) (lv' := [(3, .int x1), (0, .ref (gb g + 0)), (1, .int v1), (2, .int v2)]) rfl ?_
  refine g_aload_n dX11_read_10 1 rfl ?_
  refine g_iload_n dX11_read_11 0 rfl ?_
  refine g_putI fl_X11_7 sh_0 (by decide) rfl dX11_read_12 ?_
  refine g_iload_n dX11_read_15 0 rfl ?_
  refine g_if_ne (tgt := 33) dX11_read_16 (by decide) (fun _ => ?_) (fun _ => ?_)
  · refine g_ldc2 kl_X11_136 dX11_read_33 ?_
    exact g_ret dX11_read_36 rfl rfl
  · refine g_aload_n dX11_read_19 1 rfl ?_
    refine g_getR (b := 1) fl_X11_26 sh_0 (by decide) rfl rfl dX11_read_20 ?_
    refine g_getR (b := 2) fl_X11_132 sh_1 (by decide) rfl rfl dX11_read_23 ?_
    refine g_iload_n dX11_read_26 2 rfl ?_
    refine g_aaload6 sh_2 dX11_read_27 (fun q3 h4 => ?_)
    refine g_iload_n dX11_read_28 3 rfl ?_
    refine g_laload (rdE_2 h4) dX11_read_29 (fun x5 => ?_)
    refine g_goto (tgt := 36) dX11_read_30 (by decide) ?_
    exact g_ret dX11_read_36 rfl rfl
set_option maxHeartbeats 4000000 in
set_option maxRecDepth 100000 in
theorem ok_X11_pour (g : GG) (v1 : Int32) (v2 : Int32) (v3 : Int32) (v4 : Int32) (v5 : Int32)  (μ : Mm) : Ct g yX11_pour cX11_pour 6 (some (.boolean)) 3 cvZ [.ref (gb g + 0), .int v1, .int v2, .int v3, .int v4, .int v5] μ (f_X11_pour v1 v2 v3 v4 v5 μ) := by
  refine ct_Z (by decide +kernel) (Nat.le_of_ble_eq_true rfl) (show Go g RX11 cX11_pour 6 .ireturn 3 cvZ 0 [(0, .ref (gb g + 0)), (1, .int v1), (2, .int v2), (3, .int v3), (4, .int v4), (5, .int v5)] [] μ (f_X11_pour v1 v2 v3 v4 v5 μ) from ?_)
  unfold f_X11_pour
  refine g_aload_n dX11_pour_0 0 rfl ?_
  refine g_getR (b := 1) fl_X11_26 sh_0 (by decide) rfl rfl dX11_pour_1 ?_
  refine g_iload_n dX11_pour_4 1 rfl ?_
  refine g_vZp [.int v1] [] mw_X11_113 (ok_X10_isNumber g v1 μ) (by omega) sh_1 (by decide) rfl rfl (Nat.le_of_ble_eq_true rfl) dX11_pour_5 (fun x1 _ => ?_)
  refine g_ifeqB (tgt := 22) dX11_pour_8 (by decide) (fun _ => ?_) (fun _ => ?_)
  · refine g_aload_n dX11_pour_22 0 rfl ?_
    refine g_iconst dX11_pour_23 (v := 1) (by decide) ?_
    refine g_vZ [.int 1] [] mw_X11_109 (ok_X11_verdict g 1 μ) (by omega) sh_0 (by decide) rfl rfl (Nat.le_of_ble_eq_true rfl) dX11_pour_24 (fun x2 μ3 _ => ?_)
    exact g_ret dX11_pour_27 rfl rfl
  · refine g_aload_n dX11_pour_11 0 rfl ?_
    refine g_getR (b := 1) fl_X11_26 sh_0 (by decide) rfl rfl dX11_pour_12 ?_
    refine g_iload_n dX11_pour_15 3 rfl ?_
    refine g_vZp [.int v3] [] mw_X11_113 (ok_X10_isNumber g v3 μ) (by omega) sh_1 (by decide) rfl rfl (Nat.le_of_ble_eq_true rfl) dX11_pour_16 (fun x4 _ => ?_)
    refine g_ifneB (tgt := 28) dX11_pour_19 (by decide) (fun _ => ?_) (fun _ => ?_)
    · refine g_aload_n dX11_pour_28 0 rfl ?_
      refine g_getR (b := 1) fl_X11_26 sh_0 (by decide) rfl rfl dX11_pour_29 ?_
      refine g_iload_n dX11_pour_32 1 rfl ?_
      refine g_vZp [.int v1] [] mw_X11_138 (ok_X10_isMissing g v1 μ) (by omega) sh_1 (by decide) rfl rfl (Nat.le_of_ble_eq_true rfl) dX11_pour_33 (fun x5 _ => ?_)
      refine g_ifneB (tgt := 50) dX11_pour_36 (by decide) (fun _ => ?_) (fun _ => ?_)
      · refine g_aload_n dX11_pour_50 0 rfl ?_
        refine g_iconst dX11_pour_51 (v := 3) (by decide) ?_
        refine g_vZ [.int 3] [] mw_X11_109 (ok_X11_verdict g 3 μ) (by omega) sh_0 (by decide) rfl rfl (Nat.le_of_ble_eq_true rfl) dX11_pour_52 (fun x6 μ7 _ => ?_)
        exact g_ret dX11_pour_55 rfl rfl
      · refine g_aload_n dX11_pour_39 0 rfl ?_
        refine g_getR (b := 1) fl_X11_26 sh_0 (by decide) rfl rfl dX11_pour_40 ?_
        refine g_iload_n dX11_pour_43 3 rfl ?_
        refine g_vZp [.int v3] [] mw_X11_138 (ok_X10_isMissing g v3 μ) (by omega) sh_1 (by decide) rfl rfl (Nat.le_of_ble_eq_true rfl) dX11_pour_44 (fun x8 _ => ?_)
        refine g_ifeqB (tgt := 56) dX11_pour_47 (by decide) (fun _ => ?_) (fun _ => ?_)
        · refine g_aload_n dX11_pour_56 0 rfl ?_
          refine g_getR (b := 1) fl_X11_26 sh_0 (by decide) rfl rfl dX11_pour_57 ?_
          refine g_getR (b := 8) fl_X11_141 sh_1 (by decide) rfl rfl dX11_pour_60 ?_
          refine g_iload_n dX11_pour_63 1 rfl ?_
          refine g_iaload sh_8 dX11_pour_64 (fun x9 => ?_)
          refine g_aload_n dX11_pour_65 0 rfl ?_
          refine g_getR (b := 1) fl_X11_26 sh_0 (by decide) rfl rfl dX11_pour_66 ?_
          refine g_getR (b := 8) fl_X11_141 sh_1 (by decide) rfl rfl dX11_pour_69 ?_
          refine g_iload_n dX11_pour_72 3 rfl ?_
          refine g_iaload sh_8 dX11_pour_73 (fun x10 => ?_)
          refine g_icmp_eq (tgt := 84) dX11_pour_74 (by decide) (fun _ => ?_) (fun _ => ?_)
          · refine g_iload dX11_pour_84 5 rfl ?_
            refine g_if_ge (tgt := 96) dX11_pour_86 (by decide) (fun _ => ?_) (fun _ => ?_)
            · refine g_aload_n dX11_pour_96 0 rfl ?_
              refine g_getR (b := 1) fl_X11_26 sh_0 (by decide) rfl rfl dX11_pour_97 ?_
              refine g_iload_n dX11_pour_100 1 rfl ?_
              refine g_iload_n dX11_pour_101 2 rfl ?_
              refine g_iload dX11_pour_102 5 rfl ?_
              refine g_vZp [.int v1, .int v2, .int v5] [] mw_X11_145 (ok_X10_holds g v1 v2 v5 μ) (by omega) sh_1 (by decide) rfl rfl (Nat.le_of_ble_eq_true rfl) dX11_pour_104 (fun x11 _ => ?_)
              refine g_ifeqB (tgt := 125) dX11_pour_107 (by decide) (fun _ => ?_) (fun _ => ?_)
              · refine g_aload_n dX11_pour_125 0 rfl ?_
                refine g_iconst dX11_pour_126 (v := 4) (by decide) ?_
                refine g_vZ [.int 4] [] mw_X11_109 (ok_X11_verdict g 4 μ) (by omega) sh_0 (by decide) rfl rfl (Nat.le_of_ble_eq_true rfl) dX11_pour_127 (fun x12 μ13 _ => ?_)
                exact g_ret dX11_pour_130 rfl rfl
              · refine g_aload_n dX11_pour_110 0 rfl ?_
                refine g_getR (b := 1) fl_X11_26 sh_0 (by decide) rfl rfl dX11_pour_111 ?_
                refine g_iload_n dX11_pour_114 3 rfl ?_
                refine g_iload dX11_pour_115 4 rfl ?_
                refine g_iload dX11_pour_117 5 rfl ?_
                refine g_vZp [.int v3, .int v4, .int v5] [] mw_X11_145 (ok_X10_holds g v3 v4 v5 μ) (by omega) sh_1 (by decide) rfl rfl (Nat.le_of_ble_eq_true rfl) dX11_pour_119 (fun x14 _ => ?_)
                refine g_ifneB (tgt := 131) dX11_pour_122 (by decide) (fun _ => ?_) (fun _ => ?_)
                · refine g_aload_n dX11_pour_131 0 rfl ?_
                  refine g_getR (b := 1) fl_X11_26 sh_0 (by decide) rfl rfl dX11_pour_132 ?_
                  refine g_getR (b := 2) fl_X11_132 sh_1 (by decide) rfl rfl dX11_pour_135 ?_
                  refine g_iload_n dX11_pour_138 1 rfl ?_
                  refine g_aaload6 sh_2 dX11_pour_139 (fun q15 h16 => ?_)
                  refine g_iload_n dX11_pour_140 2 rfl ?_
                  refine g_aload_n dX11_pour_141 0 rfl ?_
                  refine g_getR (b := 1) fl_X11_26 sh_0 (by decide) rfl rfl dX11_pour_142 ?_
                  refine g_getR (b := 2) fl_X11_132 sh_1 (by decide) rfl rfl dX11_pour_145 ?_
                  refine g_iload_n dX11_pour_148 3 rfl ?_
                  refine g_aaload6 sh_2 dX11_pour_149 (fun q17 h18 => ?_)
                  refine g_iload dX11_pour_150 4 rfl ?_
                  refine g_iload dX11_pour_152 5 rfl ?_
                  refine g_copyL mw_X11_148 (by omega) (rdE_2 h16) (rdE_2 h18) dX11_pour_154 (fun μ19 => ?_)
                  refine g_aload_n dX11_pour_157 0 rfl ?_
                  refine g_iconst dX11_pour_158 (v := 0) (by decide) ?_
                  refine g_vZ [.int 0] [] mw_X11_109 (ok_X11_verdict g 0 μ19) (by omega) sh_0 (by decide) rfl rfl (Nat.le_of_ble_eq_true rfl) dX11_pour_159 (fun x20 μ21 _ => ?_)
                  exact g_ret dX11_pour_162 rfl rfl
                · refine g_aload_n dX11_pour_125 0 rfl ?_
                  refine g_iconst dX11_pour_126 (v := 4) (by decide) ?_
                  refine g_vZ [.int 4] [] mw_X11_109 (ok_X11_verdict g 4 μ) (by omega) sh_0 (by decide) rfl rfl (Nat.le_of_ble_eq_true rfl) dX11_pour_127 (fun x22 μ23 _ => ?_)
                  exact g_ret dX11_pour_130 rfl rfl
            · refine g_aload_n dX11_pour_89 0 rfl ?_
              refine g_bipush dX11_pour_90 (v := 6) (by decide) ?_
              refine g_vZ [.int 6] [] mw_X11_109 (ok_X11_verdict g 6 μ) (by omega) sh_0 (by decide) rfl rfl (Nat.le_of_ble_eq_true rfl) dX11_pour_92 (fun x24 μ25 _ => ?_)
              exact g_ret dX11_pour_95 rfl rfl
          · refine g_aload_n dX11_pour_77 0 rfl ?_
            refine g_bipush dX11_pour_78 (v := 11) (by decide) ?_
            refine g_vZ [.int 11] [] mw_X11_109 (ok_X11_verdict g 11 μ) (by omega) sh_0 (by decide) rfl rfl (Nat.le_of_ble_eq_true rfl) dX11_pour_80 (fun x26 μ27 _ => ?_)
            exact g_ret dX11_pour_83 rfl rfl
        · refine g_aload_n dX11_pour_50 0 rfl ?_
          refine g_iconst dX11_pour_51 (v := 3) (by decide) ?_
          refine g_vZ [.int 3] [] mw_X11_109 (ok_X11_verdict g 3 μ) (by omega) sh_0 (by decide) rfl rfl (Nat.le_of_ble_eq_true rfl) dX11_pour_52 (fun x28 μ29 _ => ?_)
          exact g_ret dX11_pour_55 rfl rfl
    · refine g_aload_n dX11_pour_22 0 rfl ?_
      refine g_iconst dX11_pour_23 (v := 1) (by decide) ?_
      refine g_vZ [.int 1] [] mw_X11_109 (ok_X11_verdict g 1 μ) (by omega) sh_0 (by decide) rfl rfl (Nat.le_of_ble_eq_true rfl) dX11_pour_24 (fun x30 μ31 _ => ?_)
      exact g_ret dX11_pour_27 rfl rfl
set_option maxHeartbeats 4000000 in
set_option maxRecDepth 100000 in
theorem ok_X11_feed (g : GG) (F : Nat) (v1 : Int32) (v2 : Int32) (v3 : Int32) (v4 : Int32) (v5 : Int32)  (μ : Mm) : Ct g yX11_feed cX11_feed 6 (some (.int)) 2 cvI [.ref (gb g + 0), .int v1, .int v2, .int v3, .int v4, .int v5] μ (f_X11_feed F v1 v2 v3 v4 v5 μ) := by
  refine ct_I (by decide +kernel) (Nat.le_of_ble_eq_true rfl) (show Go g RX11 cX11_feed 6 .ireturn 2 cvI 0 [(0, .ref (gb g + 0)), (1, .int v1), (2, .int v2), (3, .int v3), (4, .int v4), (5, .int v5)] [] μ (f_X11_feed F v1 v2 v3 v4 v5 μ) from ?_)
  unfold f_X11_feed
  refine g_aload_n dX11_feed_0 0 rfl ?_
  refine g_getR (b := 9) fl_X11_33 sh_0 (by decide) rfl rfl dX11_feed_1 ?_
  refine g_getI fl_X11_154 sh_9 (by decide) rfl dX11_feed_4 ?_
  refine g_bipush dX11_feed_7 (v := 20) (by decide) ?_
  refine g_iadd dX11_feed_9 ?_
  refine g_sipush dX11_feed_10 (v := 900) (by decide) ?_
  refine g_icmp_le (tgt := 18) dX11_feed_13 (by decide) (fun _ => ?_) (fun _ => ?_)
  · refine g_aload_n dX11_feed_18 0 rfl ?_
    refine g_getR (b := 9) fl_X11_33 sh_0 (by decide) rfl rfl dX11_feed_19 ?_
    refine g_iload_n dX11_feed_22 1 rfl ?_
    refine g_vV [.int v1] [] mw_X11_157 (ok_X9_append g F v1 μ) (by omega) sh_9 (by decide) rfl rfl (Nat.le_of_ble_eq_true rfl) dX11_feed_23 (fun μ2 _ => ?_)
    refine g_aload_n dX11_feed_26 0 rfl ?_
    refine g_getR (b := 9) fl_X11_33 sh_0 (by decide) rfl rfl dX11_feed_27 ?_
    refine g_iload_n dX11_feed_30 2 rfl ?_
    refine g_vV [.int v2] [] mw_X11_157 (ok_X9_append g F v2 μ2) (by omega) sh_9 (by decide) rfl rfl (Nat.le_of_ble_eq_true rfl) dX11_feed_31 (fun μ4 _ => ?_)
    refine g_aload_n dX11_feed_34 0 rfl ?_
    refine g_getR (b := 9) fl_X11_33 sh_0 (by decide) rfl rfl dX11_feed_35 ?_
    refine g_iload_n dX11_feed_38 3 rfl ?_
    refine g_vV [.int v3] [] mw_X11_157 (ok_X9_append g F v3 μ4) (by omega) sh_9 (by decide) rfl rfl (Nat.le_of_ble_eq_true rfl) dX11_feed_39 (fun μ6 _ => ?_)
    refine g_aload_n dX11_feed_42 0 rfl ?_
    refine g_getR (b := 9) fl_X11_33 sh_0 (by decide) rfl rfl dX11_feed_43 ?_
    refine g_iload dX11_feed_46 4 rfl ?_
    refine g_vV [.int v4] [] mw_X11_157 (ok_X9_append g F v4 μ6) (by omega) sh_9 (by decide) rfl rfl (Nat.le_of_ble_eq_true rfl) dX11_feed_48 (fun μ8 _ => ?_)
    refine g_aload_n dX11_feed_51 0 rfl ?_
    refine g_getR (b := 9) fl_X11_33 sh_0 (by decide) rfl rfl dX11_feed_52 ?_
    refine g_iload dX11_feed_55 5 rfl ?_
    refine g_vV [.int v5] [] mw_X11_157 (ok_X9_append g F v5 μ8) (by omega) sh_9 (by decide) rfl rfl (Nat.le_of_ble_eq_true rfl) dX11_feed_57 (fun μ10 _ => ?_)
    refine g_aload_n dX11_feed_60 0 rfl ?_
    refine g_getR (b := 9) fl_X11_33 sh_0 (by decide) rfl rfl dX11_feed_61 ?_
    refine g_getI fl_X11_154 sh_9 (by decide) rfl dX11_feed_64 ?_
    exact g_ret dX11_feed_67 rfl rfl
  · refine g_iconst dX11_feed_16 (v := (-1)) (by decide) ?_
    exact g_ret dX11_feed_17 rfl rfl
set_option maxHeartbeats 4000000 in
set_option maxRecDepth 100000 in
theorem ok_X11_book (g : GG) (F : Nat) (v1 : Int32)  (μ : Mm) : Ct g yX11_book cX11_book 3 (some (.int)) 8 cvI [.ref (gb g + 0), .int v1] μ (f_X11_book F v1 μ) := by
  refine ct_I (by decide +kernel) (Nat.le_of_ble_eq_true rfl) (show Go g RX11 cX11_book 3 .ireturn 8 cvI 0 [(0, .ref (gb g + 0)), (1, .int v1)] [] μ (f_X11_book F v1 μ) from ?_)
  unfold f_X11_book
  refine g_iload_n dX11_book_0 1 rfl ?_
  refine g_if_lt (tgt := 15) dX11_book_1 (by decide) (fun _ => ?_) (fun _ => ?_)
  · refine g_aload_n dX11_book_15 0 rfl ?_
    refine g_iconst dX11_book_16 (v := 5) (by decide) ?_
    refine g_vI [.int 5] [] mw_X11_161 (ok_X11_refuse g 5 μ) (by omega) sh_0 (by decide) rfl rfl (Nat.le_of_ble_eq_true rfl) dX11_book_17 (fun x1 μ2 _ => ?_)
    exact g_ret dX11_book_20 rfl rfl
  · refine g_iload_n dX11_book_4 1 rfl ?_
    refine g_aload_n dX11_book_5 0 rfl ?_
    refine g_getR (b := 9) fl_X11_33 sh_0 (by decide) rfl rfl dX11_book_6 ?_
    refine g_getI fl_X11_154 sh_9 (by decide) rfl dX11_book_9 ?_
    refine g_icmp_le (tgt := 21) dX11_book_12 (by decide) (fun _ => ?_) (fun _ => ?_)
    · refine g_aload_n dX11_book_21 0 rfl ?_
      refine g_getR (b := 12) fl_X11_42 sh_0 (by decide) rfl rfl dX11_book_22 ?_
      refine g_aload_n dX11_book_25 0 rfl ?_
      refine g_getR (b := mR μ 1) fl_X11_60 sh_0 (by decide) rfl rfl dX11_book_26 ?_
      refine g_gBk (fun b3 h4 => ?_)
      refine g_iload_n dX11_book_29 1 rfl ?_
      refine g_vZ [.ref (gb g + b3), .int v1] [] mw_X11_165 (ok_X1_fill g F b3 v1 h4 μ) (by omega) sh_12 (by decide) rfl rfl (Nat.le_of_ble_eq_true rfl) dX11_book_30 (fun x5 μ6 _ => ?_)
      refine g_ifneB (tgt := 43) dX11_book_33 (by decide) (fun _ => ?_) (fun _ => ?_)
      · refine g_aload_n dX11_book_43 0 rfl ?_
        refine g_getR (b := mR μ6 0) fl_X11_56 sh_0 (by decide) rfl rfl dX11_book_44 ?_
        refine g_gBk (fun b7 h8 => ?_)
        refine g_astore_n dX11_book_47 rfl (by decide) (lv' := [(2, .ref (gb g + b7)), (0, .ref (gb g + 0)), (1, .int v1)]) rfl ?_
        refine g_aload_n dX11_book_48 1 rfl ?_
        refine g_aload_n dX11_book_49 1 rfl ?_
        refine g_getR (b := mR μ6 1) fl_X11_60 sh_0 (by decide) rfl rfl dX11_book_50 ?_
        refine g_gBk (fun b9 h10 => ?_)
        refine g_putX8 fl_X11_56 rfl rfl dX11_book_53 ?_
        refine g_aload_n dX11_book_56 1 rfl ?_
        refine g_aload_n dX11_book_57 0 rfl ?_
        refine g_putX9 fl_X11_60 rfl rfl dX11_book_58 ?_
        refine g_aload_n dX11_book_61 1 rfl ?_
        refine g_getR (b := mR (sR (sR μ6 0 b9) 1 b7) 2) fl_X11_66 sh_0 (by decide) rfl rfl dX11_book_62 ?_
        refine g_gNt (fun b11 h12 => ?_)
        refine g_vV [] [] mw_X11_169 (ok_X5_empty g b11 h12 (sR (sR μ6 0 b9) 1 b7)) (by omega) (nt_0 h12) (by decide) rfl rfl (Nat.le_of_ble_eq_true rfl) dX11_book_65 (fun μ14 _ => ?_)
        refine g_aload_n dX11_book_68 1 rfl ?_
        refine g_aload_n dX11_book_69 1 rfl ?_
        refine g_getR (b := mR μ14 0) fl_X11_56 sh_0 (by decide) rfl rfl dX11_book_70 ?_
        refine g_gBk (fun b15 h16 => ?_)
        refine g_getI fl_X11_172 (bk_0 h16) (by decide) rfl dX11_book_73 ?_
        refine g_vI [.int (mI μ14 b15 3)] [] mw_X11_175 (ok_X11_answer g (mI μ14 b15 3) μ14) (by omega) sh_0 (by decide) rfl rfl (Nat.le_of_ble_eq_true rfl) dX11_book_76 (fun x17 μ18 _ => ?_)
        exact g_ret dX11_book_79 rfl rfl
      · refine g_aload_n dX11_book_36 0 rfl ?_
        refine g_bipush dX11_book_37 (v := 10) (by decide) ?_
        refine g_vI [.int 10] [] mw_X11_161 (ok_X11_refuse g 10 μ6) (by omega) sh_0 (by decide) rfl rfl (Nat.le_of_ble_eq_true rfl) dX11_book_39 (fun x19 μ20 _ => ?_)
        exact g_ret dX11_book_42 rfl rfl
    · refine g_aload_n dX11_book_15 0 rfl ?_
      refine g_iconst dX11_book_16 (v := 5) (by decide) ?_
      refine g_vI [.int 5] [] mw_X11_161 (ok_X11_refuse g 5 μ) (by omega) sh_0 (by decide) rfl rfl (Nat.le_of_ble_eq_true rfl) dX11_book_17 (fun x21 μ22 _ => ?_)
      exact g_ret dX11_book_20 rfl rfl
set_option maxHeartbeats 4000000 in
set_option maxRecDepth 100000 in
theorem ok_X11_nights (g : GG) (F : Nat) (v1 : Int32)  (μ : Mm) : Ct g yX11_nights cX11_nights 3 (some (.int)) 8 cvI [.ref (gb g + 0), .int v1] μ (f_X11_nights F v1 μ) := by
  refine ct_I (by decide +kernel) (Nat.le_of_ble_eq_true rfl) (show Go g RX11 cX11_nights 3 .ireturn 8 cvI 0 [(0, .ref (gb g + 0)), (1, .int v1)] [] μ (f_X11_nights F v1 μ) from ?_)
  unfold f_X11_nights
  refine g_iload_n dX11_nights_0 1 rfl ?_
  refine g_if_lt (tgt := 22) dX11_nights_1 (by decide) (fun _ => ?_) (fun _ => ?_)
  · refine g_aload_n dX11_nights_22 0 rfl ?_
    refine g_iconst dX11_nights_23 (v := 5) (by decide) ?_
    refine g_vI [.int 5] [] mw_X11_161 (ok_X11_refuse g 5 μ) (by omega) sh_0 (by decide) rfl rfl (Nat.le_of_ble_eq_true rfl) dX11_nights_24 (fun x1 μ2 _ => ?_)
    exact g_ret dX11_nights_27 rfl rfl
  · refine g_iload_n dX11_nights_4 1 rfl ?_
    refine g_aload_n dX11_nights_5 0 rfl ?_
    refine g_getR (b := 9) fl_X11_33 sh_0 (by decide) rfl rfl dX11_nights_6 ?_
    refine g_getI fl_X11_154 sh_9 (by decide) rfl dX11_nights_9 ?_
    refine g_icmp_gt (tgt := 22) dX11_nights_12 (by decide) (fun _ => ?_) (fun _ => ?_)
    · refine g_aload_n dX11_nights_22 0 rfl ?_
      refine g_iconst dX11_nights_23 (v := 5) (by decide) ?_
      refine g_vI [.int 5] [] mw_X11_161 (ok_X11_refuse g 5 μ) (by omega) sh_0 (by decide) rfl rfl (Nat.le_of_ble_eq_true rfl) dX11_nights_24 (fun x3 μ4 _ => ?_)
      exact g_ret dX11_nights_27 rfl rfl
    · refine g_iload_n dX11_nights_15 1 rfl ?_
      refine g_sipush dX11_nights_16 (v := 300) (by decide) ?_
      refine g_icmp_le (tgt := 28) dX11_nights_19 (by decide) (fun _ => ?_) (fun _ => ?_)
      · refine g_aload_n dX11_nights_28 0 rfl ?_
        refine g_getR (b := 13) fl_X11_49 sh_0 (by decide) rfl rfl dX11_nights_29 ?_
        refine g_aload_n dX11_nights_32 0 rfl ?_
        refine g_getR (b := mR μ 3) fl_X11_70 sh_0 (by decide) rfl rfl dX11_nights_33 ?_
        refine g_gNt (fun b5 h6 => ?_)
        refine g_aload_n dX11_nights_36 0 rfl ?_
        refine g_getR (b := mR μ 0) fl_X11_56 sh_0 (by decide) rfl rfl dX11_nights_37 ?_
        refine g_gBk (fun b7 h8 => ?_)
        refine g_iload_n dX11_nights_40 1 rfl ?_
        refine g_vZ [.ref (gb g + b5), .ref (gb g + b7), .int v1] [] mw_X11_178 (ok_X6_fill g F b5 b7 v1 h6 h8 μ) (by omega) sh_13 (by decide) rfl rfl (Nat.le_of_ble_eq_true rfl) dX11_nights_41 (fun x9 μ10 _ => ?_)
        refine g_ifneB (tgt := 54) dX11_nights_44 (by decide) (fun _ => ?_) (fun _ => ?_)
        · refine g_aload_n dX11_nights_54 0 rfl ?_
          refine g_getR (b := mR μ10 2) fl_X11_66 sh_0 (by decide) rfl rfl dX11_nights_55 ?_
          refine g_gNt (fun b11 h12 => ?_)
          refine g_astore_n dX11_nights_58 rfl (by decide) (lv' := [(2, .ref (gb g + b11)), (0, .ref (gb g + 0)), (1, .int v1)]) rfl ?_
          refine g_aload_n dX11_nights_59 1 rfl ?_
          refine g_aload_n dX11_nights_60 1 rfl ?_
          refine g_getR (b := mR μ10 3) fl_X11_70 sh_0 (by decide) rfl rfl dX11_nights_61 ?_
          refine g_gNt (fun b13 h14 => ?_)
          refine g_putX10 fl_X11_66 rfl rfl dX11_nights_64 ?_
          refine g_aload_n dX11_nights_67 1 rfl ?_
          refine g_aload_n dX11_nights_68 0 rfl ?_
          refine g_putX11 fl_X11_70 rfl rfl dX11_nights_69 ?_
          refine g_aload_n dX11_nights_72 1 rfl ?_
          refine g_aload_n dX11_nights_73 1 rfl ?_
          refine g_getR (b := mR (sR (sR μ10 2 b13) 3 b11) 2) fl_X11_66 sh_0 (by decide) rfl rfl dX11_nights_74 ?_
          refine g_gNt (fun b15 h16 => ?_)
          refine g_getI fl_X11_181 (nt_0 h16) (by decide) rfl dX11_nights_77 ?_
          refine g_vI [.int (mI (sR (sR μ10 2 b13) 3 b11) b15 1)] [] mw_X11_175 (ok_X11_answer g (mI (sR (sR μ10 2 b13) 3 b11) b15 1) (sR (sR μ10 2 b13) 3 b11)) (by omega) sh_0 (by decide) rfl rfl (Nat.le_of_ble_eq_true rfl) dX11_nights_80 (fun x17 μ18 _ => ?_)
          exact g_ret dX11_nights_83 rfl rfl
        · refine g_aload_n dX11_nights_47 0 rfl ?_
          refine g_bipush dX11_nights_48 (v := 10) (by decide) ?_
          refine g_vI [.int 10] [] mw_X11_161 (ok_X11_refuse g 10 μ10) (by omega) sh_0 (by decide) rfl rfl (Nat.le_of_ble_eq_true rfl) dX11_nights_50 (fun x19 μ20 _ => ?_)
          exact g_ret dX11_nights_53 rfl rfl
      · refine g_aload_n dX11_nights_22 0 rfl ?_
        refine g_iconst dX11_nights_23 (v := 5) (by decide) ?_
        refine g_vI [.int 5] [] mw_X11_161 (ok_X11_refuse g 5 μ) (by omega) sh_0 (by decide) rfl rfl (Nat.le_of_ble_eq_true rfl) dX11_nights_24 (fun x21 μ22 _ => ?_)
        exact g_ret dX11_nights_27 rfl rfl
set_option maxHeartbeats 4000000 in
set_option maxRecDepth 100000 in
theorem ok_X11_fault (g : GG) (v1 : Int32)  (μ : Mm) : Ct g yX11_fault cX11_fault 2 (some (.int)) 1 (cvIp μ) [.ref (gb g + 0), .int v1] μ (f_X11_fault v1 μ) := by
  refine ct_Ip (by decide +kernel) (Nat.le_of_ble_eq_true rfl) (show Go g RX11 cX11_fault 2 .ireturn 1 (cvIp μ) 0 [(0, .ref (gb g + 0)), (1, .int v1)] [] μ (f_X11_fault v1 μ) from ?_)
  unfold f_X11_fault
  refine g_iload_n dX11_fault_0 1 rfl ?_
  refine g_if_ne (tgt := 12) dX11_fault_1 (by decide) (fun _ => ?_) (fun _ => ?_)
  · refine g_iload_n dX11_fault_12 1 rfl ?_
    refine g_iconst dX11_fault_13 (v := 1) (by decide) ?_
    have hJ3 : ∀ (w2 : Int32), w2 = (if v1 = 1 then (mI μ 9 3) else (-1)) → Go g RX11 cX11_fault 2 .ireturn 1 (cvIp μ) 28 [] [.int w2] μ (some (if v1 = 1 then (mI μ 9 3) else (-1))) := by
      intro w2 ew2
      subst ew2
      exact g_ret dX11_fault_28 rfl rfl
    refine g_same (g_icmp_ne (tgt := 27) dX11_fault_14 (by decide) (fun c1 => ?_) (fun c1 => ?_))
    · refine g_iconst dX11_fault_27 (v := (-1)) (by decide) ?_
      refine g_lv [] rfl ?_
      exact hJ3 _ (by rw [if_neg c1])
    · refine g_aload_n dX11_fault_17 0 rfl ?_
      refine g_getR (b := 9) fl_X11_33 sh_0 (by decide) rfl rfl dX11_fault_18 ?_
      refine g_getI fl_X11_187 sh_9 (by decide) rfl dX11_fault_21 ?_
      refine g_goto (tgt := 28) dX11_fault_24 (by decide) ?_
      refine g_lv [] rfl ?_
      exact hJ3 _ (by rw [if_pos c1])
  · refine g_aload_n dX11_fault_4 0 rfl ?_
    refine g_getR (b := 9) fl_X11_33 sh_0 (by decide) rfl rfl dX11_fault_5 ?_
    refine g_getI fl_X11_184 sh_9 (by decide) rfl dX11_fault_8 ?_
    exact g_ret dX11_fault_11 rfl rfl
set_option maxHeartbeats 4000000 in
set_option maxRecDepth 100000 in
theorem ok_X11_many (g : GG) (F : Nat) (v1 : Int32)  (μ : Mm) : Ct g yX11_many cX11_many 2 (some (.int)) 3 cvI [.ref (gb g + 0), .int v1] μ (f_X11_many F v1 μ) := by
  refine ct_I (by decide +kernel) (Nat.le_of_ble_eq_true rfl) (show Go g RX11 cX11_many 2 .ireturn 3 cvI 0 [(0, .ref (gb g + 0)), (1, .int v1)] [] μ (f_X11_many F v1 μ) from ?_)
  unfold f_X11_many
  refine g_iload_n dX11_many_0 1 rfl ?_
  refine g_if (fun hs0 => ?_) (fun hs0 => ?_)
  · refine g_tswIn 0 (tgt := 60) (off := 59) dX11_many_1 hs0 (by decide) (by decide) (by decide) (by decide) ?_
    refine g_aload_n dX11_many_60 0 rfl ?_
    refine g_aload_n dX11_many_61 0 rfl ?_
    refine g_getR (b := mR μ 0) fl_X11_56 sh_0 (by decide) rfl rfl dX11_many_62 ?_
    refine g_gBk (fun b1 h2 => ?_)
    refine g_getI fl_X11_172 (bk_0 h2) (by decide) rfl dX11_many_65 ?_
    refine g_vI [.int (mI μ b1 3)] [] mw_X11_175 (ok_X11_answer g (mI μ b1 3) μ) (by omega) sh_0 (by decide) rfl rfl (Nat.le_of_ble_eq_true rfl) dX11_many_68 (fun x3 μ4 _ => ?_)
    exact g_ret dX11_many_71 rfl rfl
  · refine g_if (fun hs1 => ?_) (fun hs1 => ?_)
    · refine g_tswIn 1 (tgt := 72) (off := 71) dX11_many_1 hs1 (by decide) (by decide) (by decide) (by decide) ?_
      refine g_aload_n dX11_many_72 0 rfl ?_
      refine g_aload_n dX11_many_73 0 rfl ?_
      refine g_getR (b := mR μ 0) fl_X11_56 sh_0 (by decide) rfl rfl dX11_many_74 ?_
      refine g_gBk (fun b5 h6 => ?_)
      refine g_getR (b := (b5 + 1)) fl_X11_190 (bk_0 h6) (by decide) rfl rfl dX11_many_77 ?_
      refine g_getI fl_X11_194 (bk_1 h6) (by decide) rfl dX11_many_80 ?_
      refine g_vI [.int (mI μ (b5 + 1) 0)] [] mw_X11_175 (ok_X11_answer g (mI μ (b5 + 1) 0) μ) (by omega) sh_0 (by decide) rfl rfl (Nat.le_of_ble_eq_true rfl) dX11_many_83 (fun x7 μ8 _ => ?_)
      exact g_ret dX11_many_86 rfl rfl
    · refine g_if (fun hs2 => ?_) (fun hs2 => ?_)
      · refine g_tswIn 2 (tgt := 87) (off := 86) dX11_many_1 hs2 (by decide) (by decide) (by decide) (by decide) ?_
        refine g_aload_n dX11_many_87 0 rfl ?_
        refine g_aload_n dX11_many_88 0 rfl ?_
        refine g_getR (b := mR μ 0) fl_X11_56 sh_0 (by decide) rfl rfl dX11_many_89 ?_
        refine g_gBk (fun b9 h10 => ?_)
        refine g_getI fl_X11_199 (bk_0 h10) (by decide) rfl dX11_many_92 ?_
        refine g_vI [.int (mI μ b9 0)] [] mw_X11_175 (ok_X11_answer g (mI μ b9 0) μ) (by omega) sh_0 (by decide) rfl rfl (Nat.le_of_ble_eq_true rfl) dX11_many_95 (fun x11 μ12 _ => ?_)
        exact g_ret dX11_many_98 rfl rfl
      · refine g_if (fun hs3 => ?_) (fun hs3 => ?_)
        · refine g_tswIn 3 (tgt := 99) (off := 98) dX11_many_1 hs3 (by decide) (by decide) (by decide) (by decide) ?_
          refine g_aload_n dX11_many_99 0 rfl ?_
          refine g_aload_n dX11_many_100 0 rfl ?_
          refine g_getR (b := mR μ 0) fl_X11_56 sh_0 (by decide) rfl rfl dX11_many_101 ?_
          refine g_gBk (fun b13 h14 => ?_)
          refine g_getI fl_X11_202 (bk_0 h14) (by decide) rfl dX11_many_104 ?_
          refine g_vI [.int (mI μ b13 1)] [] mw_X11_175 (ok_X11_answer g (mI μ b13 1) μ) (by omega) sh_0 (by decide) rfl rfl (Nat.le_of_ble_eq_true rfl) dX11_many_107 (fun x15 μ16 _ => ?_)
          exact g_ret dX11_many_110 rfl rfl
        · refine g_if (fun hs4 => ?_) (fun hs4 => ?_)
          · refine g_tswIn 4 (tgt := 111) (off := 110) dX11_many_1 hs4 (by decide) (by decide) (by decide) (by decide) ?_
            refine g_aload_n dX11_many_111 0 rfl ?_
            refine g_aload_n dX11_many_112 0 rfl ?_
            refine g_getR (b := mR μ 0) fl_X11_56 sh_0 (by decide) rfl rfl dX11_many_113 ?_
            refine g_gBk (fun b17 h18 => ?_)
            refine g_getI fl_X11_205 (bk_0 h18) (by decide) rfl dX11_many_116 ?_
            refine g_vI [.int (mI μ b17 2)] [] mw_X11_175 (ok_X11_answer g (mI μ b17 2) μ) (by omega) sh_0 (by decide) rfl rfl (Nat.le_of_ble_eq_true rfl) dX11_many_119 (fun x19 μ20 _ => ?_)
            exact g_ret dX11_many_122 rfl rfl
          · refine g_if (fun hs5 => ?_) (fun hs5 => ?_)
            · refine g_tswIn 5 (tgt := 123) (off := 122) dX11_many_1 hs5 (by decide) (by decide) (by decide) (by decide) ?_
              refine g_aload_n dX11_many_123 0 rfl ?_
              refine g_aload_n dX11_many_124 0 rfl ?_
              refine g_getR (b := mR μ 0) fl_X11_56 sh_0 (by decide) rfl rfl dX11_many_125 ?_
              refine g_gBk (fun b21 h22 => ?_)
              refine g_getI fl_X11_208 (bk_0 h22) (by decide) rfl dX11_many_128 ?_
              refine g_vI [.int (mI μ b21 5)] [] mw_X11_175 (ok_X11_answer g (mI μ b21 5) μ) (by omega) sh_0 (by decide) rfl rfl (Nat.le_of_ble_eq_true rfl) dX11_many_131 (fun x23 μ24 _ => ?_)
              exact g_ret dX11_many_134 rfl rfl
            · refine g_if (fun hs6 => ?_) (fun hs6 => ?_)
              · refine g_tswIn 6 (tgt := 135) (off := 134) dX11_many_1 hs6 (by decide) (by decide) (by decide) (by decide) ?_
                refine g_aload_n dX11_many_135 0 rfl ?_
                refine g_aload_n dX11_many_136 0 rfl ?_
                refine g_getR (b := mR μ 0) fl_X11_56 sh_0 (by decide) rfl rfl dX11_many_137 ?_
                refine g_gBk (fun b25 h26 => ?_)
                refine g_vIp [] [.ref (gb g + 0)] mw_X11_211 (ok_X0_cells g b25 h26 μ) (by omega) (bk_0 h26) (by decide) rfl rfl (Nat.le_of_ble_eq_true rfl) dX11_many_140 (fun x27 _ => ?_)
                refine g_vI [.int x27] [] mw_X11_175 (ok_X11_answer g x27 μ) (by omega) sh_0 (by decide) rfl rfl (Nat.le_of_ble_eq_true rfl) dX11_many_143 (fun x28 μ29 _ => ?_)
                exact g_ret dX11_many_146 rfl rfl
              · refine g_if (fun hs7 => ?_) (fun hs7 => ?_)
                · refine g_tswIn 7 (tgt := 147) (off := 146) dX11_many_1 hs7 (by decide) (by decide) (by decide) (by decide) ?_
                  refine g_aload_n dX11_many_147 0 rfl ?_
                  refine g_aload_n dX11_many_148 0 rfl ?_
                  refine g_getR (b := mR μ 0) fl_X11_56 sh_0 (by decide) rfl rfl dX11_many_149 ?_
                  refine g_gBk (fun b30 h31 => ?_)
                  refine g_vIp [] [.ref (gb g + 0)] mw_X11_215 (ok_X0_wrongs g F b30 h31 μ) (by omega) (bk_0 h31) (by decide) rfl rfl (Nat.le_of_ble_eq_true rfl) dX11_many_152 (fun x32 _ => ?_)
                  refine g_vI [.int x32] [] mw_X11_175 (ok_X11_answer g x32 μ) (by omega) sh_0 (by decide) rfl rfl (Nat.le_of_ble_eq_true rfl) dX11_many_155 (fun x33 μ34 _ => ?_)
                  exact g_ret dX11_many_158 rfl rfl
                · refine g_if (fun hs8 => ?_) (fun hs8 => ?_)
                  · refine g_tswIn 8 (tgt := 159) (off := 158) dX11_many_1 hs8 (by decide) (by decide) (by decide) (by decide) ?_
                    refine g_aload_n dX11_many_159 0 rfl ?_
                    refine g_aload_n dX11_many_160 0 rfl ?_
                    refine g_getR (b := mR μ 0) fl_X11_56 sh_0 (by decide) rfl rfl dX11_many_161 ?_
                    refine g_gBk (fun b35 h36 => ?_)
                    refine g_vIp [] [.ref (gb g + 0)] mw_X11_218 (ok_X0_tappedSet g F b35 h36 μ) (by omega) (bk_0 h36) (by decide) rfl rfl (Nat.le_of_ble_eq_true rfl) dX11_many_164 (fun x37 _ => ?_)
                    refine g_vI [.int x37] [] mw_X11_175 (ok_X11_answer g x37 μ) (by omega) sh_0 (by decide) rfl rfl (Nat.le_of_ble_eq_true rfl) dX11_many_167 (fun x38 μ39 _ => ?_)
                    exact g_ret dX11_many_170 rfl rfl
                  · refine g_if (fun hs9 => ?_) (fun hs9 => ?_)
                    · refine g_tswIn 9 (tgt := 171) (off := 170) dX11_many_1 hs9 (by decide) (by decide) (by decide) (by decide) ?_
                      refine g_aload_n dX11_many_171 0 rfl ?_
                      refine g_aload_n dX11_many_172 0 rfl ?_
                      refine g_getR (b := mR μ 0) fl_X11_56 sh_0 (by decide) rfl rfl dX11_many_173 ?_
                      refine g_gBk (fun b40 h41 => ?_)
                      refine g_getI fl_X11_221 (bk_0 h41) (by decide) rfl dX11_many_176 ?_
                      refine g_vI [.int (mI μ b40 6)] [] mw_X11_175 (ok_X11_answer g (mI μ b40 6) μ) (by omega) sh_0 (by decide) rfl rfl (Nat.le_of_ble_eq_true rfl) dX11_many_179 (fun x42 μ43 _ => ?_)
                      exact g_ret dX11_many_182 rfl rfl
                    · refine g_if (fun hs10 => ?_) (fun hs10 => ?_)
                      · refine g_tswIn 10 (tgt := 183) (off := 182) dX11_many_1 hs10 (by decide) (by decide) (by decide) (by decide) ?_
                        refine g_aload_n dX11_many_183 0 rfl ?_
                        refine g_aload_n dX11_many_184 0 rfl ?_
                        refine g_getR (b := mR μ 0) fl_X11_56 sh_0 (by decide) rfl rfl dX11_many_185 ?_
                        refine g_gBk (fun b44 h45 => ?_)
                        refine g_vIp [] [.ref (gb g + 0)] mw_X11_224 (ok_X0_surplus g F b44 h45 μ) (by omega) (bk_0 h45) (by decide) rfl rfl (Nat.le_of_ble_eq_true rfl) dX11_many_188 (fun x46 _ => ?_)
                        have hJ51 : ∀ (w48 : Int32), w48 = (if x46 = 0 then (1 : Int32) else 0) → Go g RX11 cX11_many 2 .ireturn 3 cvI 199 [] [.int w48, .ref (gb g + 0)] μ (bd (f_X11_answer (if x46 = 0 then (1 : Int32) else 0) μ) fun x49 μ50 => some (x49, μ50)) := by
                          intro w48 ew48
                          subst ew48
                          refine g_vI [.int (if x46 = 0 then (1 : Int32) else 0)] [] mw_X11_175 (ok_X11_answer g (if x46 = 0 then (1 : Int32) else 0) μ) (by omega) sh_0 (by decide) rfl rfl (Nat.le_of_ble_eq_true rfl) dX11_many_199 (fun x49 μ50 _ => ?_)
                          exact g_ret dX11_many_202 rfl rfl
                        refine g_same (g_if_ne (tgt := 198) dX11_many_191 (by decide) (fun c47 => ?_) (fun c47 => ?_))
                        · refine g_iconst dX11_many_198 (v := 0) (by decide) ?_
                          refine g_lv [] rfl ?_
                          exact hJ51 _ (by rw [if_neg c47])
                        · refine g_iconst dX11_many_194 (v := 1) (by decide) ?_
                          refine g_goto (tgt := 199) dX11_many_195 (by decide) ?_
                          refine g_lv [] rfl ?_
                          exact hJ51 _ (by rw [if_pos c47])
                      · refine g_tswOut (tgt := 203) dX11_many_1 (by have n0 := lv_neT (a := 0) hs0 (by decide); have n1 := lv_neT (a := 1) hs1 (by decide); have n2 := lv_neT (a := 2) hs2 (by decide); have n3 := lv_neT (a := 3) hs3 (by decide); have n4 := lv_neT (a := 4) hs4 (by decide); have n5 := lv_neT (a := 5) hs5 (by decide); have n6 := lv_neT (a := 6) hs6 (by decide); have n7 := lv_neT (a := 7) hs7 (by decide); have n8 := lv_neT (a := 8) hs8 (by decide); have n9 := lv_neT (a := 9) hs9 (by decide); have n10 := lv_neT (a := 10) hs10 (by decide); omega) (by decide) ?_
                        refine g_aload_n dX11_many_203 0 rfl ?_
                        refine g_iconst dX11_many_204 (v := 5) (by decide) ?_
                        refine g_vI [.int 5] [] mw_X11_161 (ok_X11_refuse g 5 μ) (by omega) sh_0 (by decide) rfl rfl (Nat.le_of_ble_eq_true rfl) dX11_many_205 (fun x52 μ53 _ => ?_)
                        exact g_ret dX11_many_208 rfl rfl
set_option maxHeartbeats 4000000 in
set_option maxRecDepth 100000 in
theorem ok_X11_cell (g : GG) (v1 : Int32) (v2 : Int32)  (μ : Mm) : Ct g yX11_cell cX11_cell 3 (some (.int)) 3 cvI [.ref (gb g + 0), .int v1, .int v2] μ (f_X11_cell v1 v2 μ) := by
  refine ct_I (by decide +kernel) (Nat.le_of_ble_eq_true rfl) (show Go g RX11 cX11_cell 3 .ireturn 3 cvI 0 [(0, .ref (gb g + 0)), (1, .int v1), (2, .int v2)] [] μ (f_X11_cell v1 v2 μ) from ?_)
  unfold f_X11_cell
  refine g_aload_n dX11_cell_0 0 rfl ?_
  refine g_getR (b := mR μ 0) fl_X11_56 sh_0 (by decide) rfl rfl dX11_cell_1 ?_
  refine g_gBk (fun b1 h2 => ?_)
  refine g_iload_n dX11_cell_4 1 rfl ?_
  refine g_vZp [.int v1] [] mw_X11_227 (ok_X0_hasCell g b1 v1 h2 μ) (by omega) (bk_0 h2) (by decide) rfl rfl (Nat.le_of_ble_eq_true rfl) dX11_cell_5 (fun x3 _ => ?_)
  refine g_ifneB (tgt := 17) dX11_cell_8 (by decide) (fun _ => ?_) (fun _ => ?_)
  · refine g_iload_n dX11_cell_17 2 rfl ?_
    refine g_if (fun hs0 => ?_) (fun hs0 => ?_)
    · refine g_tswIn 0 (tgt := 48) (off := 30) dX11_cell_18 hs0 (by decide) (by decide) (by decide) (by decide) ?_
      refine g_aload_n dX11_cell_48 0 rfl ?_
      refine g_aload_n dX11_cell_49 0 rfl ?_
      refine g_getR (b := mR μ 0) fl_X11_56 sh_0 (by decide) rfl rfl dX11_cell_50 ?_
      refine g_gBk (fun b4 h5 => ?_)
      refine g_getR (b := (b4 + 8)) fl_X11_230 (bk_0 h5) (by decide) rfl rfl dX11_cell_53 ?_
      refine g_iload_n dX11_cell_56 1 rfl ?_
      refine g_iaload (bk_8 h5) dX11_cell_57 (fun x6 => ?_)
      refine g_vI [.int x6] [] mw_X11_175 (ok_X11_answer g x6 μ) (by omega) sh_0 (by decide) rfl rfl (Nat.le_of_ble_eq_true rfl) dX11_cell_58 (fun x7 μ8 _ => ?_)
      exact g_ret dX11_cell_61 rfl rfl
    · refine g_if (fun hs1 => ?_) (fun hs1 => ?_)
      · refine g_tswIn 1 (tgt := 62) (off := 44) dX11_cell_18 hs1 (by decide) (by decide) (by decide) (by decide) ?_
        refine g_aload_n dX11_cell_62 0 rfl ?_
        refine g_aload_n dX11_cell_63 0 rfl ?_
        refine g_getR (b := mR μ 0) fl_X11_56 sh_0 (by decide) rfl rfl dX11_cell_64 ?_
        refine g_gBk (fun b9 h10 => ?_)
        refine g_getR (b := (b9 + 9)) fl_X11_233 (bk_0 h10) (by decide) rfl rfl dX11_cell_67 ?_
        refine g_iload_n dX11_cell_70 1 rfl ?_
        refine g_iaload (bk_9 h10) dX11_cell_71 (fun x11 => ?_)
        refine g_vI [.int x11] [] mw_X11_175 (ok_X11_answer g x11 μ) (by omega) sh_0 (by decide) rfl rfl (Nat.le_of_ble_eq_true rfl) dX11_cell_72 (fun x12 μ13 _ => ?_)
        exact g_ret dX11_cell_75 rfl rfl
      · refine g_if (fun hs2 => ?_) (fun hs2 => ?_)
        · refine g_tswIn 2 (tgt := 76) (off := 58) dX11_cell_18 hs2 (by decide) (by decide) (by decide) (by decide) ?_
          refine g_aload_n dX11_cell_76 0 rfl ?_
          refine g_aload_n dX11_cell_77 0 rfl ?_
          refine g_getR (b := mR μ 0) fl_X11_56 sh_0 (by decide) rfl rfl dX11_cell_78 ?_
          refine g_gBk (fun b14 h15 => ?_)
          refine g_getR (b := (b14 + 10)) fl_X11_236 (bk_0 h15) (by decide) rfl rfl dX11_cell_81 ?_
          refine g_iload_n dX11_cell_84 1 rfl ?_
          refine g_iaload (bk_10 h15) dX11_cell_85 (fun x16 => ?_)
          refine g_vI [.int x16] [] mw_X11_175 (ok_X11_answer g x16 μ) (by omega) sh_0 (by decide) rfl rfl (Nat.le_of_ble_eq_true rfl) dX11_cell_86 (fun x17 μ18 _ => ?_)
          exact g_ret dX11_cell_89 rfl rfl
        · refine g_if (fun hs3 => ?_) (fun hs3 => ?_)
          · refine g_tswIn 3 (tgt := 90) (off := 72) dX11_cell_18 hs3 (by decide) (by decide) (by decide) (by decide) ?_
            refine g_aload_n dX11_cell_90 0 rfl ?_
            refine g_aload_n dX11_cell_91 0 rfl ?_
            refine g_getR (b := mR μ 0) fl_X11_56 sh_0 (by decide) rfl rfl dX11_cell_92 ?_
            refine g_gBk (fun b19 h20 => ?_)
            refine g_iload_n dX11_cell_95 1 rfl ?_
            refine g_vZp [.int v1] [.ref (gb g + 0)] mw_X11_239 (ok_X0_isWrong g b19 v1 h20 μ) (by omega) (bk_0 h20) (by decide) rfl rfl (Nat.le_of_ble_eq_true rfl) dX11_cell_96 (fun x21 _ => ?_)
            have hJ26 : ∀ (w23 : Int32), w23 = (if x21 = true then (1 : Int32) else 0) → Go g RX11 cX11_cell 3 .ireturn 3 cvI 107 [] [.int w23, .ref (gb g + 0)] μ (bd (f_X11_answer (if x21 = true then (1 : Int32) else 0) μ) fun x24 μ25 => some (x24, μ25)) := by
              intro w23 ew23
              subst ew23
              refine g_vI [.int (if x21 = true then (1 : Int32) else 0)] [] mw_X11_175 (ok_X11_answer g (if x21 = true then (1 : Int32) else 0) μ) (by omega) sh_0 (by decide) rfl rfl (Nat.le_of_ble_eq_true rfl) dX11_cell_107 (fun x24 μ25 _ => ?_)
              exact g_ret dX11_cell_110 rfl rfl
            refine g_same (g_ifeqB (tgt := 106) dX11_cell_99 (by decide) (fun c22 => ?_) (fun c22 => ?_))
            · refine g_iconst dX11_cell_106 (v := 0) (by decide) ?_
              refine g_lv [] rfl ?_
              exact hJ26 _ (by rw [if_neg c22])
            · refine g_iconst dX11_cell_102 (v := 1) (by decide) ?_
              refine g_goto (tgt := 107) dX11_cell_103 (by decide) ?_
              refine g_lv [] rfl ?_
              exact hJ26 _ (by rw [if_pos c22])
          · refine g_tswOut (tgt := 111) dX11_cell_18 (by have n0 := lv_neT (a := 0) hs0 (by decide); have n1 := lv_neT (a := 1) hs1 (by decide); have n2 := lv_neT (a := 2) hs2 (by decide); have n3 := lv_neT (a := 3) hs3 (by decide); omega) (by decide) ?_
            refine g_aload_n dX11_cell_111 0 rfl ?_
            refine g_iconst dX11_cell_112 (v := 5) (by decide) ?_
            refine g_vI [.int 5] [] mw_X11_161 (ok_X11_refuse g 5 μ) (by omega) sh_0 (by decide) rfl rfl (Nat.le_of_ble_eq_true rfl) dX11_cell_113 (fun x27 μ28 _ => ?_)
            exact g_ret dX11_cell_116 rfl rfl
  · refine g_aload_n dX11_cell_11 0 rfl ?_
    refine g_iconst dX11_cell_12 (v := 2) (by decide) ?_
    refine g_vI [.int 2] [] mw_X11_161 (ok_X11_refuse g 2 μ) (by omega) sh_0 (by decide) rfl rfl (Nat.le_of_ble_eq_true rfl) dX11_cell_13 (fun x29 μ30 _ => ?_)
    exact g_ret dX11_cell_16 rfl rfl
set_option maxHeartbeats 4000000 in
set_option maxRecDepth 100000 in
theorem ok_X11_watch (g : GG)   (μ : Mm) : Ct g yX11_watch cX11_watch 1 (some (.int)) 2 cvI [.ref (gb g + 0)] μ (f_X11_watch  μ) := by
  refine ct_I (by decide +kernel) (Nat.le_of_ble_eq_true rfl) (show Go g RX11 cX11_watch 1 .ireturn 2 cvI 0 [(0, .ref (gb g + 0))] [] μ (f_X11_watch  μ) from ?_)
  unfold f_X11_watch
  refine g_aload_n dX11_watch_0 0 rfl ?_
  refine g_getR (b := mR μ 0) fl_X11_56 sh_0 (by decide) rfl rfl dX11_watch_1 ?_
  refine g_gBk (fun b1 h2 => ?_)
  refine g_getI fl_X11_172 (bk_0 h2) (by decide) rfl dX11_watch_4 ?_
  refine g_if_ne (tgt := 19) dX11_watch_7 (by decide) (fun _ => ?_) (fun _ => ?_)
  · refine g_aload_n dX11_watch_19 0 rfl ?_
    refine g_aload_n dX11_watch_20 0 rfl ?_
    refine g_getR (b := mR μ 0) fl_X11_56 sh_0 (by decide) rfl rfl dX11_watch_21 ?_
    refine g_gBk (fun b4 h5 => ?_)
    refine g_getI fl_X11_242 (bk_0 h5) (by decide) rfl dX11_watch_24 ?_
    refine g_vI [.int (mI μ b4 4)] [] mw_X11_175 (ok_X11_answer g (mI μ b4 4) μ) (by omega) sh_0 (by decide) rfl rfl (Nat.le_of_ble_eq_true rfl) dX11_watch_27 (fun x6 μ7 _ => ?_)
    exact g_ret dX11_watch_30 rfl rfl
  · refine g_aload_n dX11_watch_10 0 rfl ?_
    refine g_bipush dX11_watch_11 (v := 8) (by decide) ?_
    refine g_vI [.int 8] [] mw_X11_161 (ok_X11_refuse g 8 μ) (by omega) sh_0 (by decide) rfl rfl (Nat.le_of_ble_eq_true rfl) dX11_watch_13 (fun x8 μ9 _ => ?_)
    refine g_goto (tgt := 30) dX11_watch_16 (by decide) ?_
    exact g_ret dX11_watch_30 rfl rfl
set_option maxHeartbeats 4000000 in
set_option maxRecDepth 100000 in
theorem ok_X11_account (g : GG) (F : Nat) (v1 : Int32) (v2 : Int32)  (μ : Mm) : Ct g yX11_account cX11_account 3 (some (.int)) 3 cvI [.ref (gb g + 0), .int v1, .int v2] μ (f_X11_account F v1 v2 μ) := by
  refine ct_I (by decide +kernel) (Nat.le_of_ble_eq_true rfl) (show Go g RX11 cX11_account 3 .ireturn 3 cvI 0 [(0, .ref (gb g + 0)), (1, .int v1), (2, .int v2)] [] μ (f_X11_account F v1 v2 μ) from ?_)
  unfold f_X11_account
  refine g_aload_n dX11_account_0 0 rfl ?_
  refine g_getR (b := mR μ 0) fl_X11_56 sh_0 (by decide) rfl rfl dX11_account_1 ?_
  refine g_gBk (fun b1 h2 => ?_)
  refine g_iload_n dX11_account_4 1 rfl ?_
  refine g_vZp [.int v1] [] mw_X11_245 (ok_X0_hasAccount g b1 v1 h2 μ) (by omega) (bk_0 h2) (by decide) rfl rfl (Nat.le_of_ble_eq_true rfl) dX11_account_5 (fun x3 _ => ?_)
  refine g_ifneB (tgt := 17) dX11_account_8 (by decide) (fun _ => ?_) (fun _ => ?_)
  · refine g_iload_n dX11_account_17 2 rfl ?_
    refine g_if (fun hs0 => ?_) (fun hs0 => ?_)
    · refine g_tswIn 0 (tgt := 48) (off := 30) dX11_account_18 hs0 (by decide) (by decide) (by decide) (by decide) ?_
      refine g_aload_n dX11_account_48 0 rfl ?_
      refine g_aload_n dX11_account_49 0 rfl ?_
      refine g_getR (b := mR μ 0) fl_X11_56 sh_0 (by decide) rfl rfl dX11_account_50 ?_
      refine g_gBk (fun b4 h5 => ?_)
      refine g_getR (b := (b4 + 6)) fl_X11_248 (bk_0 h5) (by decide) rfl rfl dX11_account_53 ?_
      refine g_iload_n dX11_account_56 1 rfl ?_
      refine g_iaload (bk_6 h5) dX11_account_57 (fun x6 => ?_)
      refine g_vI [.int x6] [] mw_X11_175 (ok_X11_answer g x6 μ) (by omega) sh_0 (by decide) rfl rfl (Nat.le_of_ble_eq_true rfl) dX11_account_58 (fun x7 μ8 _ => ?_)
      exact g_ret dX11_account_61 rfl rfl
    · refine g_if (fun hs1 => ?_) (fun hs1 => ?_)
      · refine g_tswIn 1 (tgt := 62) (off := 44) dX11_account_18 hs1 (by decide) (by decide) (by decide) (by decide) ?_
        refine g_aload_n dX11_account_62 0 rfl ?_
        refine g_aload_n dX11_account_63 0 rfl ?_
        refine g_getR (b := mR μ 0) fl_X11_56 sh_0 (by decide) rfl rfl dX11_account_64 ?_
        refine g_gBk (fun b9 h10 => ?_)
        refine g_aload_n dX11_account_67 0 rfl ?_
        refine g_getR (b := mR μ 0) fl_X11_56 sh_0 (by decide) rfl rfl dX11_account_68 ?_
        refine g_gBk (fun b11 h12 => ?_)
        refine g_getR (b := (b11 + 8)) fl_X11_230 (bk_0 h12) (by decide) rfl rfl dX11_account_71 ?_
        refine g_iload_n dX11_account_74 1 rfl ?_
        refine g_vIp [.ref (gb g + (b11 + 8)), .int v1] [.ref (gb g + 0)] mw_X11_251 (ok_X0_sumOf g F b9 (b11 + 8) v1 h10 (bk_8 h12) μ) (by omega) (bk_0 h10) (by decide) rfl rfl (Nat.le_of_ble_eq_true rfl) dX11_account_75 (fun x13 _ => ?_)
        refine g_vI [.int x13] [] mw_X11_175 (ok_X11_answer g x13 μ) (by omega) sh_0 (by decide) rfl rfl (Nat.le_of_ble_eq_true rfl) dX11_account_78 (fun x14 μ15 _ => ?_)
        exact g_ret dX11_account_81 rfl rfl
      · refine g_if (fun hs2 => ?_) (fun hs2 => ?_)
        · refine g_tswIn 2 (tgt := 82) (off := 64) dX11_account_18 hs2 (by decide) (by decide) (by decide) (by decide) ?_
          refine g_aload_n dX11_account_82 0 rfl ?_
          refine g_aload_n dX11_account_83 0 rfl ?_
          refine g_getR (b := mR μ 0) fl_X11_56 sh_0 (by decide) rfl rfl dX11_account_84 ?_
          refine g_gBk (fun b16 h17 => ?_)
          refine g_aload_n dX11_account_87 0 rfl ?_
          refine g_getR (b := mR μ 0) fl_X11_56 sh_0 (by decide) rfl rfl dX11_account_88 ?_
          refine g_gBk (fun b18 h19 => ?_)
          refine g_getR (b := (b18 + 9)) fl_X11_233 (bk_0 h19) (by decide) rfl rfl dX11_account_91 ?_
          refine g_iload_n dX11_account_94 1 rfl ?_
          refine g_vIp [.ref (gb g + (b18 + 9)), .int v1] [.ref (gb g + 0)] mw_X11_251 (ok_X0_sumOf g F b16 (b18 + 9) v1 h17 (bk_9 h19) μ) (by omega) (bk_0 h17) (by decide) rfl rfl (Nat.le_of_ble_eq_true rfl) dX11_account_95 (fun x20 _ => ?_)
          refine g_vI [.int x20] [] mw_X11_175 (ok_X11_answer g x20 μ) (by omega) sh_0 (by decide) rfl rfl (Nat.le_of_ble_eq_true rfl) dX11_account_98 (fun x21 μ22 _ => ?_)
          exact g_ret dX11_account_101 rfl rfl
        · refine g_if (fun hs3 => ?_) (fun hs3 => ?_)
          · refine g_tswIn 3 (tgt := 102) (off := 84) dX11_account_18 hs3 (by decide) (by decide) (by decide) (by decide) ?_
            refine g_aload_n dX11_account_102 0 rfl ?_
            refine g_aload_n dX11_account_103 0 rfl ?_
            refine g_getR (b := mR μ 0) fl_X11_56 sh_0 (by decide) rfl rfl dX11_account_104 ?_
            refine g_gBk (fun b23 h24 => ?_)
            refine g_aload_n dX11_account_107 0 rfl ?_
            refine g_getR (b := mR μ 0) fl_X11_56 sh_0 (by decide) rfl rfl dX11_account_108 ?_
            refine g_gBk (fun b25 h26 => ?_)
            refine g_getR (b := (b25 + 8)) fl_X11_230 (bk_0 h26) (by decide) rfl rfl dX11_account_111 ?_
            refine g_iload_n dX11_account_114 1 rfl ?_
            refine g_vIp [.ref (gb g + (b25 + 8)), .int v1] [.ref (gb g + 0)] mw_X11_255 (ok_X0_togetherInRow g F b23 (b25 + 8) v1 h24 (bk_8 h26) μ) (by omega) (bk_0 h24) (by decide) rfl rfl (Nat.le_of_ble_eq_true rfl) dX11_account_115 (fun x27 _ => ?_)
            refine g_vI [.int x27] [] mw_X11_175 (ok_X11_answer g x27 μ) (by omega) sh_0 (by decide) rfl rfl (Nat.le_of_ble_eq_true rfl) dX11_account_118 (fun x28 μ29 _ => ?_)
            exact g_ret dX11_account_121 rfl rfl
          · refine g_tswOut (tgt := 122) dX11_account_18 (by have n0 := lv_neT (a := 0) hs0 (by decide); have n1 := lv_neT (a := 1) hs1 (by decide); have n2 := lv_neT (a := 2) hs2 (by decide); have n3 := lv_neT (a := 3) hs3 (by decide); omega) (by decide) ?_
            refine g_aload_n dX11_account_122 0 rfl ?_
            refine g_iconst dX11_account_123 (v := 5) (by decide) ?_
            refine g_vI [.int 5] [] mw_X11_161 (ok_X11_refuse g 5 μ) (by omega) sh_0 (by decide) rfl rfl (Nat.le_of_ble_eq_true rfl) dX11_account_124 (fun x30 μ31 _ => ?_)
            exact g_ret dX11_account_127 rfl rfl
  · refine g_aload_n dX11_account_11 0 rfl ?_
    refine g_iconst dX11_account_12 (v := 2) (by decide) ?_
    refine g_vI [.int 2] [] mw_X11_161 (ok_X11_refuse g 2 μ) (by omega) sh_0 (by decide) rfl rfl (Nat.le_of_ble_eq_true rfl) dX11_account_13 (fun x32 μ33 _ => ?_)
    exact g_ret dX11_account_16 rfl rfl
set_option maxHeartbeats 4000000 in
set_option maxRecDepth 100000 in
theorem ok_X11_law (g : GG) (v1 : Int32) (v2 : Int32)  (μ : Mm) : Ct g yX11_law cX11_law 4 (some (.int)) 3 cvI [.ref (gb g + 0), .int v1, .int v2] μ (f_X11_law v1 v2 μ) := by
  refine ct_I (by decide +kernel) (Nat.le_of_ble_eq_true rfl) (show Go g RX11 cX11_law 4 .ireturn 3 cvI 0 [(0, .ref (gb g + 0)), (1, .int v1), (2, .int v2)] [] μ (f_X11_law v1 v2 μ) from ?_)
  unfold f_X11_law
  refine g_aload_n dX11_law_0 0 rfl ?_
  refine g_getR (b := mR μ 0) fl_X11_56 sh_0 (by decide) rfl rfl dX11_law_1 ?_
  refine g_gBk (fun b1 h2 => ?_)
  refine g_getR (b := (b1 + 1)) fl_X11_190 (bk_0 h2) (by decide) rfl rfl dX11_law_4 ?_
  refine g_astore_n dX11_law_7 rfl (by decide) (lv' := [(3, .ref (gb g + (b1 + 1))), (0, .ref (gb g + 0)), (1, .int v1), (2, .int v2)]) rfl ?_
  refine g_aload_n dX11_law_8 0 rfl ?_
  refine g_iload_n dX11_law_9 2 rfl ?_
  refine g_vZp [.int v1] [] mw_X11_258 (ok_X3_has g (b1 + 1) v1 (bk_lw h2) μ) (by omega) (bk_1 h2) (by decide) rfl rfl (Nat.le_of_ble_eq_true rfl) dX11_law_10 (fun x3 _ => ?_)
  refine g_ifneB (tgt := 22) dX11_law_13 (by decide) (fun _ => ?_) (fun _ => ?_)
  · refine g_iload_n dX11_law_22 3 rfl ?_
    refine g_if (fun hs0 => ?_) (fun hs0 => ?_)
    · refine g_tswIn 0 (tgt := 52) (off := 29) dX11_law_23 hs0 (by decide) (by decide) (by decide) (by decide) ?_
      refine g_aload_n dX11_law_52 1 rfl ?_
      refine g_aload_n dX11_law_53 0 rfl ?_
      refine g_getR (b := (b1 + 2)) fl_X11_261 (bk_1 h2) (by decide) rfl rfl dX11_law_54 ?_
      refine g_iload_n dX11_law_57 2 rfl ?_
      refine g_iaload (bk_2 h2) dX11_law_58 (fun x4 => ?_)
      refine g_vI [.int x4] [] mw_X11_175 (ok_X11_answer g x4 μ) (by omega) sh_0 (by decide) rfl rfl (Nat.le_of_ble_eq_true rfl) dX11_law_59 (fun x5 μ6 _ => ?_)
      exact g_ret dX11_law_62 rfl rfl
    · refine g_if (fun hs1 => ?_) (fun hs1 => ?_)
      · refine g_tswIn 1 (tgt := 63) (off := 40) dX11_law_23 hs1 (by decide) (by decide) (by decide) (by decide) ?_
        refine g_aload_n dX11_law_63 1 rfl ?_
        refine g_aload_n dX11_law_64 0 rfl ?_
        refine g_getR (b := (b1 + 3)) fl_X11_264 (bk_1 h2) (by decide) rfl rfl dX11_law_65 ?_
        refine g_iload_n dX11_law_68 2 rfl ?_
        refine g_iaload (bk_3 h2) dX11_law_69 (fun x7 => ?_)
        refine g_vI [.int x7] [] mw_X11_175 (ok_X11_answer g x7 μ) (by omega) sh_0 (by decide) rfl rfl (Nat.le_of_ble_eq_true rfl) dX11_law_70 (fun x8 μ9 _ => ?_)
        exact g_ret dX11_law_73 rfl rfl
      · refine g_if (fun hs2 => ?_) (fun hs2 => ?_)
        · refine g_tswIn 2 (tgt := 74) (off := 51) dX11_law_23 hs2 (by decide) (by decide) (by decide) (by decide) ?_
          refine g_aload_n dX11_law_74 1 rfl ?_
          refine g_aload_n dX11_law_75 0 rfl ?_
          refine g_getR (b := (b1 + 4)) fl_X11_267 (bk_1 h2) (by decide) rfl rfl dX11_law_76 ?_
          refine g_iload_n dX11_law_79 2 rfl ?_
          refine g_iaload (bk_4 h2) dX11_law_80 (fun x10 => ?_)
          refine g_vI [.int x10] [] mw_X11_175 (ok_X11_answer g x10 μ) (by omega) sh_0 (by decide) rfl rfl (Nat.le_of_ble_eq_true rfl) dX11_law_81 (fun x11 μ12 _ => ?_)
          exact g_ret dX11_law_84 rfl rfl
        · refine g_if (fun hs3 => ?_) (fun hs3 => ?_)
          · refine g_tswIn 3 (tgt := 85) (off := 62) dX11_law_23 hs3 (by decide) (by decide) (by decide) (by decide) ?_
            refine g_aload_n dX11_law_85 1 rfl ?_
            refine g_aload_n dX11_law_86 0 rfl ?_
            refine g_getR (b := (b1 + 5)) fl_X11_270 (bk_1 h2) (by decide) rfl rfl dX11_law_87 ?_
            refine g_iload_n dX11_law_90 2 rfl ?_
            refine g_iaload (bk_5 h2) dX11_law_91 (fun x13 => ?_)
            refine g_vI [.int x13] [] mw_X11_175 (ok_X11_answer g x13 μ) (by omega) sh_0 (by decide) rfl rfl (Nat.le_of_ble_eq_true rfl) dX11_law_92 (fun x14 μ15 _ => ?_)
            exact g_ret dX11_law_95 rfl rfl
          · refine g_tswOut (tgt := 96) dX11_law_23 (by have n0 := lv_neT (a := 0) hs0 (by decide); have n1 := lv_neT (a := 1) hs1 (by decide); have n2 := lv_neT (a := 2) hs2 (by decide); have n3 := lv_neT (a := 3) hs3 (by decide); omega) (by decide) ?_
            refine g_aload_n dX11_law_96 1 rfl ?_
            refine g_iconst dX11_law_97 (v := 5) (by decide) ?_
            refine g_vI [.int 5] [] mw_X11_161 (ok_X11_refuse g 5 μ) (by omega) sh_0 (by decide) rfl rfl (Nat.le_of_ble_eq_true rfl) dX11_law_98 (fun x16 μ17 _ => ?_)
            exact g_ret dX11_law_101 rfl rfl
  · refine g_aload_n dX11_law_16 1 rfl ?_
    refine g_iconst dX11_law_17 (v := 2) (by decide) ?_
    refine g_vI [.int 2] [] mw_X11_161 (ok_X11_refuse g 2 μ) (by omega) sh_0 (by decide) rfl rfl (Nat.le_of_ble_eq_true rfl) dX11_law_18 (fun x18 μ19 _ => ?_)
    exact g_ret dX11_law_21 rfl rfl
set_option maxHeartbeats 4000000 in
set_option maxRecDepth 100000 in
theorem ok_X11_balance (g : GG) (F : Nat)   (μ : Mm) : Ct g yX11_balance cX11_balance 1 (some (.int)) 3 cvI [.ref (gb g + 0)] μ (f_X11_balance F μ) := by
  refine ct_I (by decide +kernel) (Nat.le_of_ble_eq_true rfl) (show Go g RX11 cX11_balance 1 .ireturn 3 cvI 0 [(0, .ref (gb g + 0))] [] μ (f_X11_balance F μ) from ?_)
  unfold f_X11_balance
  refine g_aload_n dX11_balance_0 0 rfl ?_
  refine g_aload_n dX11_balance_1 0 rfl ?_
  refine g_getR (b := mR μ 0) fl_X11_56 sh_0 (by decide) rfl rfl dX11_balance_2 ?_
  refine g_gBk (fun b1 h2 => ?_)
  refine g_vIp [] [.ref (gb g + 0)] mw_X11_224 (ok_X0_surplus g F b1 h2 μ) (by omega) (bk_0 h2) (by decide) rfl rfl (Nat.le_of_ble_eq_true rfl) dX11_balance_5 (fun x3 _ => ?_)
  refine g_vI [.int x3] [] mw_X11_175 (ok_X11_answer g x3 μ) (by omega) sh_0 (by decide) rfl rfl (Nat.le_of_ble_eq_true rfl) dX11_balance_8 (fun x4 μ5 _ => ?_)
  exact g_ret dX11_balance_11 rfl rfl
set_option maxHeartbeats 4000000 in
set_option maxRecDepth 100000 in
theorem okL_X11_copyDigits_63 (g : GG) (F : Nat) (v1 : Int32) (v2 : Int32) (k : Mm → Option (Int32 × Mm))  (hk : ∀ (μ : Mm), Go g RX11 cX11_copyDigits 4 .ireturn 3 cvI 93 [(0, .ref (gb g + 0)), (2, .int v2)] [] μ (k μ)) : ∀ (n : Nat) (v3 : Int32) (μ : Mm), Go g RX11 cX11_copyDigits 4 .ireturn 3 cvI 63 [(0, .ref (gb g + 0)), (1, .int v1), (2, .int v2), (3, .int v3)] [] μ (L_X11_copyDigits_63 F v1 v2 k n v3 μ) := by
  intro n
  induction n with
  | zero =>
    intro v3 μ
    exact g_none
  | succ n ih =>
    intro v3 μ
    rw [L_X11_copyDigits_63_s]
    refine g_iload_n dX11_copyDigits_63 3 rfl ?_
    refine g_iload_n dX11_copyDigits_64 2 rfl ?_
    refine g_icmp_ge (tgt := 93) dX11_copyDigits_65 (by decide) (fun _ => ?_) (fun _ => ?_)
    · refine g_lv [0, 2] rfl ?_
      exact hk μ
    · refine g_aload_n dX11_copyDigits_68 0 rfl ?_
      refine g_getR (b := 1) fl_X11_26 sh_0 (by decide) rfl rfl dX11_copyDigits_69 ?_
      refine g_iload_n dX11_copyDigits_72 1 rfl ?_
      refine g_iload_n dX11_copyDigits_73 3 rfl ?_
      refine g_aload_n dX11_copyDigits_74 0 rfl ?_
      refine g_getR (b := mR μ 0) fl_X11_56 sh_0 (by decide) rfl rfl dX11_copyDigits_75 ?_
      refine g_gBk (fun b7 h8 => ?_)
      refine g_getR (b := (b7 + 8)) fl_X11_230 (bk_0 h8) (by decide) rfl rfl dX11_copyDigits_78 ?_
      refine g_iload_n dX11_copyDigits_81 3 rfl ?_
      refine g_iaload (bk_8 h8) dX11_copyDigits_82 (fun x9 => ?_)
      refine g_i2l dX11_copyDigits_83 ?_
      refine g_vV [.int v1, .int v3, .long (x9.toInt64)] [] mw_X11_128 (ok_X10_put g v1 v3 (x9.toInt64) μ) (by omega) sh_1 (by decide) rfl rfl (Nat.le_of_ble_eq_true rfl) dX11_copyDigits_84 (fun μ11 _ => ?_)
      refine g_iinc dX11_copyDigits_87 3 rfl (v := (v3 + 1)) rfl (by decide) (lv' := [(3, .int (v3 + 1)), (0, .ref (gb g + 0)), (1, .int v1), (2, .int v2)]) rfl ?_
      refine g_goto (tgt := 63) dX11_copyDigits_90 (by decide) ?_
      refine g_lv [1, 2, 3, 0] rfl ?_
      exact ih (v3 + 1) μ11
set_option maxHeartbeats 4000000 in
set_option maxRecDepth 100000 in
theorem ok_X11_copyDigits (g : GG) (F : Nat) (v1 : Int32)  (μ : Mm) : Ct g yX11_copyDigits cX11_copyDigits 4 (some (.int)) 3 cvI [.ref (gb g + 0), .int v1] μ (f_X11_copyDigits F v1 μ) := by
  refine ct_I (by decide +kernel) (Nat.le_of_ble_eq_true rfl) (show Go g RX11 cX11_copyDigits 4 .ireturn 3 cvI 0 [(0, .ref (gb g + 0)), (1, .int v1)] [] μ (f_X11_copyDigits F v1 μ) from ?_)
  unfold f_X11_copyDigits
  refine g_aload_n dX11_copyDigits_0 0 rfl ?_
  refine g_getR (b := 1) fl_X11_26 sh_0 (by decide) rfl rfl dX11_copyDigits_1 ?_
  refine g_iload_n dX11_copyDigits_4 1 rfl ?_
  refine g_vZp [.int v1] [] mw_X11_113 (ok_X10_isNumber g v1 μ) (by omega) sh_1 (by decide) rfl rfl (Nat.le_of_ble_eq_true rfl) dX11_copyDigits_5 (fun x1 _ => ?_)
  refine g_ifneB (tgt := 17) dX11_copyDigits_8 (by decide) (fun _ => ?_) (fun _ => ?_)
  · refine g_aload_n dX11_copyDigits_17 0 rfl ?_
    refine g_getR (b := 1) fl_X11_26 sh_0 (by decide) rfl rfl dX11_copyDigits_18 ?_
    refine g_iload_n dX11_copyDigits_21 1 rfl ?_
    refine g_vZp [.int v1] [] mw_X11_138 (ok_X10_isMissing g v1 μ) (by omega) sh_1 (by decide) rfl rfl (Nat.le_of_ble_eq_true rfl) dX11_copyDigits_22 (fun x2 _ => ?_)
    refine g_ifeqB (tgt := 34) dX11_copyDigits_25 (by decide) (fun _ => ?_) (fun _ => ?_)
    · refine g_aload_n dX11_copyDigits_34 0 rfl ?_
      refine g_getR (b := mR μ 0) fl_X11_56 sh_0 (by decide) rfl rfl dX11_copyDigits_35 ?_
      refine g_gBk (fun b3 h4 => ?_)
      refine g_vIp [] [] mw_X11_211 (ok_X0_cells g b3 h4 μ) (by omega) (bk_0 h4) (by decide) rfl rfl (Nat.le_of_ble_eq_true rfl) dX11_copyDigits_38 (fun x5 _ => ?_)
      refine g_istore_n dX11_copyDigits_41 rfl (by decide) (lv' := [(2, .int x5), (0, .ref (gb g + 0)), (1, .int v1)]) rfl ?_
      refine g_aload_n dX11_copyDigits_42 1 rfl ?_
      refine g_getR (b := 1) fl_X11_26 sh_0 (by decide) rfl rfl dX11_copyDigits_43 ?_
      refine g_iload_n dX11_copyDigits_46 2 rfl ?_
      refine g_iconst dX11_copyDigits_47 (v := 0) (by decide) ?_
      refine g_iload_n dX11_copyDigits_48 0 rfl ?_
      refine g_vZp [.int v1, .int 0, .int x5] [] mw_X11_145 (ok_X10_holds g v1 0 x5 μ) (by omega) sh_1 (by decide) rfl rfl (Nat.le_of_ble_eq_true rfl) dX11_copyDigits_49 (fun x6 _ => ?_)
      refine g_ifneB (tgt := 61) dX11_copyDigits_52 (by decide) (fun _ => ?_) (fun _ => ?_)
      · refine g_iconst dX11_copyDigits_61 (v := 0) (by decide) ?_
        refine g_istore_n dX11_copyDigits_62 rfl (by decide) (lv' := [(3, .int 0), (2, .int x5), (0, .ref (gb g + 0)), (1, .int v1)]) rfl ?_
        refine g_lv [2, 3, 1, 0] rfl ?_
        refine okL_X11_copyDigits_63 g F v1 x5 _ (fun μ12 => ?_) F 0 μ
        refine g_aload_n dX11_copyDigits_93 0 rfl ?_
        refine g_iload_n dX11_copyDigits_94 1 rfl ?_
        refine g_vI [.int x5] [] mw_X11_175 (ok_X11_answer g x5 μ12) (by omega) sh_0 (by decide) rfl rfl (Nat.le_of_ble_eq_true rfl) dX11_copyDigits_95 (fun x13 μ14 _ => ?_)
        exact g_ret dX11_copyDigits_98 rfl rfl
      · refine g_aload_n dX11_copyDigits_55 1 rfl ?_
        refine g_iconst dX11_copyDigits_56 (v := 4) (by decide) ?_
        refine g_vI [.int 4] [] mw_X11_161 (ok_X11_refuse g 4 μ) (by omega) sh_0 (by decide) rfl rfl (Nat.le_of_ble_eq_true rfl) dX11_copyDigits_57 (fun x15 μ16 _ => ?_)
        exact g_ret dX11_copyDigits_60 rfl rfl
    · refine g_aload_n dX11_copyDigits_28 0 rfl ?_
      refine g_iconst dX11_copyDigits_29 (v := 3) (by decide) ?_
      refine g_vI [.int 3] [] mw_X11_161 (ok_X11_refuse g 3 μ) (by omega) sh_0 (by decide) rfl rfl (Nat.le_of_ble_eq_true rfl) dX11_copyDigits_30 (fun x17 μ18 _ => ?_)
      exact g_ret dX11_copyDigits_33 rfl rfl
  · refine g_aload_n dX11_copyDigits_11 0 rfl ?_
    refine g_iconst dX11_copyDigits_12 (v := 1) (by decide) ?_
    refine g_vI [.int 1] [] mw_X11_161 (ok_X11_refuse g 1 μ) (by omega) sh_0 (by decide) rfl rfl (Nat.le_of_ble_eq_true rfl) dX11_copyDigits_13 (fun x19 μ20 _ => ?_)
    exact g_ret dX11_copyDigits_16 rfl rfl
set_option maxHeartbeats 4000000 in
set_option maxRecDepth 100000 in
theorem ok_X11_step (g : GG) (F : Nat) (v1 : Int32)  (μ : Mm) : Ct g yX11_step cX11_step 3 (some (.int)) 5 cvI [.ref (gb g + 0), .int v1] μ (f_X11_step F v1 μ) := by
  refine ct_I (by decide +kernel) (Nat.le_of_ble_eq_true rfl) (show Go g RX11 cX11_step 3 .ireturn 5 cvI 0 [(0, .ref (gb g + 0)), (1, .int v1)] [] μ (f_X11_step F v1 μ) from ?_)
  unfold f_X11_step
  refine g_iload_n dX11_step_0 1 rfl ?_
  refine g_iconst dX11_step_1 (v := 0) (by decide) ?_
  refine g_iconst dX11_step_2 (v := 4) (by decide) ?_
  refine g_sZp [.int v1, .int 0, .int 4] [] mw_X11_116 (ok_X11_within g v1 0 4 μ) (by omega) rfl rfl (Nat.le_of_ble_eq_true rfl) dX11_step_3 (fun x1 _ => ?_)
  refine g_ifneB (tgt := 15) dX11_step_6 (by decide) (fun _ => ?_) (fun _ => ?_)
  · refine g_aload_n dX11_step_15 0 rfl ?_
    refine g_getR (b := mR μ 0) fl_X11_56 sh_0 (by decide) rfl rfl dX11_step_16 ?_
    refine g_gBk (fun b2 h3 => ?_)
    refine g_getI fl_X11_208 (bk_0 h3) (by decide) rfl dX11_step_19 ?_
    refine g_sipush dX11_step_22 (v := 9999) (by decide) ?_
    refine g_icmp_lt (tgt := 35) dX11_step_25 (by decide) (fun _ => ?_) (fun _ => ?_)
    · refine g_aload_n dX11_step_35 0 rfl ?_
      refine g_getR (b := mR μ 0) fl_X11_56 sh_0 (by decide) rfl rfl dX11_step_36 ?_
      refine g_gBk (fun b4 h5 => ?_)
      refine g_getI fl_X11_172 (bk_0 h5) (by decide) rfl dX11_step_39 ?_
      refine g_if_ne (tgt := 52) dX11_step_42 (by decide) (fun _ => ?_) (fun _ => ?_)
      · refine g_aload_n dX11_step_52 0 rfl ?_
        refine g_getR (b := mR μ 0) fl_X11_56 sh_0 (by decide) rfl rfl dX11_step_53 ?_
        refine g_gBk (fun b6 h7 => ?_)
        refine g_aload_n dX11_step_56 0 rfl ?_
        refine g_getR (b := mR μ 0) fl_X11_56 sh_0 (by decide) rfl rfl dX11_step_57 ?_
        refine g_gBk (fun b8 h9 => ?_)
        refine g_getI fl_X11_242 (bk_0 h9) (by decide) rfl dX11_step_60 ?_
        refine g_iload_n dX11_step_63 1 rfl ?_
        refine g_vIp [.int (mI μ b8 4), .int v1] [] mw_X11_273 (ok_X0_gone g b6 (mI μ b8 4) v1 h7 μ) (by omega) (bk_0 h7) (by decide) rfl rfl (Nat.le_of_ble_eq_true rfl) dX11_step_64 (fun x10 _ => ?_)
        refine g_istore_n dX11_step_67 rfl (by decide) (lv' := [(2, .int x10), (0, .ref (gb g + 0)), (1, .int v1)]) rfl ?_
        refine g_iload_n dX11_step_68 0 rfl ?_
        refine g_iconst dX11_step_69 (v := (-1)) (by decide) ?_
        refine g_icmp_ne (tgt := 80) dX11_step_70 (by decide) (fun _ => ?_) (fun _ => ?_)
        · refine g_aload_n dX11_step_80 1 rfl ?_
          refine g_getR (b := mR μ 0) fl_X11_56 sh_0 (by decide) rfl rfl dX11_step_81 ?_
          refine g_gBk (fun b11 h12 => ?_)
          refine g_iload_n dX11_step_84 0 rfl ?_
          refine g_vV [.int x10] [] mw_X11_276 (ok_X0_standAndTap g b11 x10 h12 μ) (by omega) (bk_0 h12) (by decide) rfl rfl (Nat.le_of_ble_eq_true rfl) dX11_step_85 (fun μ14 _ => ?_)
          refine g_aload_n dX11_step_88 1 rfl ?_
          refine g_getR (b := mR μ14 0) fl_X11_56 sh_0 (by decide) rfl rfl dX11_step_89 ?_
          refine g_gBk (fun b15 h16 => ?_)
          refine g_iconst dX11_step_92 (v := 1) (by decide) ?_
          refine g_vZ [.int 1] [] mw_X11_279 (ok_X0_passHours g F b15 1 h16 μ14) (by omega) (bk_0 h16) (by decide) rfl rfl (Nat.le_of_ble_eq_true rfl) dX11_step_93 (fun x17 μ18 _ => ?_)
          refine g_pop dX11_step_96 rfl ?_
          refine g_aload_n dX11_step_97 1 rfl ?_
          refine g_iload_n dX11_step_98 0 rfl ?_
          refine g_vI [.int x10] [] mw_X11_175 (ok_X11_answer g x10 μ18) (by omega) sh_0 (by decide) rfl rfl (Nat.le_of_ble_eq_true rfl) dX11_step_99 (fun x19 μ20 _ => ?_)
          exact g_ret dX11_step_102 rfl rfl
        · refine g_aload_n dX11_step_73 1 rfl ?_
          refine g_bipush dX11_step_74 (v := 9) (by decide) ?_
          refine g_vI [.int 9] [] mw_X11_161 (ok_X11_refuse g 9 μ) (by omega) sh_0 (by decide) rfl rfl (Nat.le_of_ble_eq_true rfl) dX11_step_76 (fun x21 μ22 _ => ?_)
          exact g_ret dX11_step_79 rfl rfl
      · refine g_aload_n dX11_step_45 0 rfl ?_
        refine g_bipush dX11_step_46 (v := 8) (by decide) ?_
        refine g_vI [.int 8] [] mw_X11_161 (ok_X11_refuse g 8 μ) (by omega) sh_0 (by decide) rfl rfl (Nat.le_of_ble_eq_true rfl) dX11_step_48 (fun x23 μ24 _ => ?_)
        exact g_ret dX11_step_51 rfl rfl
    · refine g_aload_n dX11_step_28 0 rfl ?_
      refine g_bipush dX11_step_29 (v := 7) (by decide) ?_
      refine g_vI [.int 7] [] mw_X11_161 (ok_X11_refuse g 7 μ) (by omega) sh_0 (by decide) rfl rfl (Nat.le_of_ble_eq_true rfl) dX11_step_31 (fun x25 μ26 _ => ?_)
      exact g_ret dX11_step_34 rfl rfl
  · refine g_aload_n dX11_step_9 0 rfl ?_
    refine g_iconst dX11_step_10 (v := 5) (by decide) ?_
    refine g_vI [.int 5] [] mw_X11_161 (ok_X11_refuse g 5 μ) (by omega) sh_0 (by decide) rfl rfl (Nat.le_of_ble_eq_true rfl) dX11_step_11 (fun x27 μ28 _ => ?_)
    exact g_ret dX11_step_14 rfl rfl
set_option maxHeartbeats 4000000 in
set_option maxRecDepth 100000 in
theorem ok_X11_doze (g : GG) (F : Nat) (v1 : Int32)  (μ : Mm) : Ct g yX11_doze cX11_doze 2 (some (.int)) 5 cvI [.ref (gb g + 0), .int v1] μ (f_X11_doze F v1 μ) := by
  refine ct_I (by decide +kernel) (Nat.le_of_ble_eq_true rfl) (show Go g RX11 cX11_doze 2 .ireturn 5 cvI 0 [(0, .ref (gb g + 0)), (1, .int v1)] [] μ (f_X11_doze F v1 μ) from ?_)
  unfold f_X11_doze
  refine g_iload_n dX11_doze_0 1 rfl ?_
  refine g_iconst dX11_doze_1 (v := 1) (by decide) ?_
  refine g_bipush dX11_doze_2 (v := 99) (by decide) ?_
  refine g_sZp [.int v1, .int 1, .int 99] [] mw_X11_116 (ok_X11_within g v1 1 99 μ) (by omega) rfl rfl (Nat.le_of_ble_eq_true rfl) dX11_doze_4 (fun x1 _ => ?_)
  refine g_ifneB (tgt := 16) dX11_doze_7 (by decide) (fun _ => ?_) (fun _ => ?_)
  · refine g_aload_n dX11_doze_16 0 rfl ?_
    refine g_getR (b := mR μ 0) fl_X11_56 sh_0 (by decide) rfl rfl dX11_doze_17 ?_
    refine g_gBk (fun b2 h3 => ?_)
    refine g_getI fl_X11_208 (bk_0 h3) (by decide) rfl dX11_doze_20 ?_
    refine g_iload_n dX11_doze_23 1 rfl ?_
    refine g_iadd dX11_doze_24 ?_
    refine g_sipush dX11_doze_25 (v := 9999) (by decide) ?_
    refine g_icmp_le (tgt := 38) dX11_doze_28 (by decide) (fun _ => ?_) (fun _ => ?_)
    · refine g_aload_n dX11_doze_38 0 rfl ?_
      refine g_getR (b := mR μ 0) fl_X11_56 sh_0 (by decide) rfl rfl dX11_doze_39 ?_
      refine g_gBk (fun b4 h5 => ?_)
      refine g_iload_n dX11_doze_42 1 rfl ?_
      refine g_vZ [.int v1] [] mw_X11_279 (ok_X0_passHours g F b4 v1 h5 μ) (by omega) (bk_0 h5) (by decide) rfl rfl (Nat.le_of_ble_eq_true rfl) dX11_doze_43 (fun x6 μ7 _ => ?_)
      refine g_pop dX11_doze_46 rfl ?_
      refine g_aload_n dX11_doze_47 0 rfl ?_
      refine g_aload_n dX11_doze_48 0 rfl ?_
      refine g_getR (b := mR μ7 0) fl_X11_56 sh_0 (by decide) rfl rfl dX11_doze_49 ?_
      refine g_gBk (fun b8 h9 => ?_)
      refine g_vIp [] [.ref (gb g + 0)] mw_X11_215 (ok_X0_wrongs g F b8 h9 μ7) (by omega) (bk_0 h9) (by decide) rfl rfl (Nat.le_of_ble_eq_true rfl) dX11_doze_52 (fun x10 _ => ?_)
      refine g_vI [.int x10] [] mw_X11_175 (ok_X11_answer g x10 μ7) (by omega) sh_0 (by decide) rfl rfl (Nat.le_of_ble_eq_true rfl) dX11_doze_55 (fun x11 μ12 _ => ?_)
      exact g_ret dX11_doze_58 rfl rfl
    · refine g_aload_n dX11_doze_31 0 rfl ?_
      refine g_bipush dX11_doze_32 (v := 7) (by decide) ?_
      refine g_vI [.int 7] [] mw_X11_161 (ok_X11_refuse g 7 μ) (by omega) sh_0 (by decide) rfl rfl (Nat.le_of_ble_eq_true rfl) dX11_doze_34 (fun x13 μ14 _ => ?_)
      exact g_ret dX11_doze_37 rfl rfl
  · refine g_aload_n dX11_doze_10 0 rfl ?_
    refine g_iconst dX11_doze_11 (v := 5) (by decide) ?_
    refine g_vI [.int 5] [] mw_X11_161 (ok_X11_refuse g 5 μ) (by omega) sh_0 (by decide) rfl rfl (Nat.le_of_ble_eq_true rfl) dX11_doze_12 (fun x15 μ16 _ => ?_)
    exact g_ret dX11_doze_15 rfl rfl
set_option maxHeartbeats 4000000 in
set_option maxRecDepth 100000 in
theorem ok_X11_mend (g : GG) (v1 : Int32)  (μ : Mm) : Ct g yX11_mend cX11_mend 2 (some (.int)) 3 cvI [.ref (gb g + 0), .int v1] μ (f_X11_mend v1 μ) := by
  refine ct_I (by decide +kernel) (Nat.le_of_ble_eq_true rfl) (show Go g RX11 cX11_mend 2 .ireturn 3 cvI 0 [(0, .ref (gb g + 0)), (1, .int v1)] [] μ (f_X11_mend v1 μ) from ?_)
  unfold f_X11_mend
  refine g_aload_n dX11_mend_0 0 rfl ?_
  refine g_getR (b := mR μ 0) fl_X11_56 sh_0 (by decide) rfl rfl dX11_mend_1 ?_
  refine g_gBk (fun b1 h2 => ?_)
  refine g_iload_n dX11_mend_4 1 rfl ?_
  refine g_vZp [.int v1] [] mw_X11_227 (ok_X0_hasCell g b1 v1 h2 μ) (by omega) (bk_0 h2) (by decide) rfl rfl (Nat.le_of_ble_eq_true rfl) dX11_mend_5 (fun x3 _ => ?_)
  refine g_ifneB (tgt := 17) dX11_mend_8 (by decide) (fun _ => ?_) (fun _ => ?_)
  · refine g_aload_n dX11_mend_17 0 rfl ?_
    refine g_getR (b := mR μ 0) fl_X11_56 sh_0 (by decide) rfl rfl dX11_mend_18 ?_
    refine g_gBk (fun b4 h5 => ?_)
    refine g_iload_n dX11_mend_21 1 rfl ?_
    refine g_vZp [.int v1] [] mw_X11_239 (ok_X0_isWrong g b4 v1 h5 μ) (by omega) (bk_0 h5) (by decide) rfl rfl (Nat.le_of_ble_eq_true rfl) dX11_mend_22 (fun x6 _ => ?_)
    refine g_ifneB (tgt := 35) dX11_mend_25 (by decide) (fun _ => ?_) (fun _ => ?_)
    · refine g_aload_n dX11_mend_35 0 rfl ?_
      refine g_aload_n dX11_mend_36 0 rfl ?_
      refine g_getR (b := mR μ 0) fl_X11_56 sh_0 (by decide) rfl rfl dX11_mend_37 ?_
      refine g_gBk (fun b7 h8 => ?_)
      refine g_iload_n dX11_mend_40 1 rfl ?_
      refine g_aload_n dX11_mend_41 0 rfl ?_
      refine g_getR (b := mR μ 0) fl_X11_56 sh_0 (by decide) rfl rfl dX11_mend_42 ?_
      refine g_gBk (fun b9 h10 => ?_)
      refine g_getR (b := (b9 + 9)) fl_X11_233 (bk_0 h10) (by decide) rfl rfl dX11_mend_45 ?_
      refine g_iload_n dX11_mend_48 1 rfl ?_
      refine g_iaload (bk_9 h10) dX11_mend_49 (fun x11 => ?_)
      refine g_vI [.int v1, .int x11] [.ref (gb g + 0)] mw_X11_282 (ok_X0_putDigit g b7 v1 x11 h8 μ) (by omega) (bk_0 h8) (by decide) rfl rfl (Nat.le_of_ble_eq_true rfl) dX11_mend_50 (fun x12 μ13 _ => ?_)
      refine g_vI [.int x12] [] mw_X11_175 (ok_X11_answer g x12 μ13) (by omega) sh_0 (by decide) rfl rfl (Nat.le_of_ble_eq_true rfl) dX11_mend_53 (fun x14 μ15 _ => ?_)
      exact g_ret dX11_mend_56 rfl rfl
    · refine g_aload_n dX11_mend_28 0 rfl ?_
      refine g_bipush dX11_mend_29 (v := 9) (by decide) ?_
      refine g_vI [.int 9] [] mw_X11_161 (ok_X11_refuse g 9 μ) (by omega) sh_0 (by decide) rfl rfl (Nat.le_of_ble_eq_true rfl) dX11_mend_31 (fun x16 μ17 _ => ?_)
      exact g_ret dX11_mend_34 rfl rfl
  · refine g_aload_n dX11_mend_11 0 rfl ?_
    refine g_iconst dX11_mend_12 (v := 2) (by decide) ?_
    refine g_vI [.int 2] [] mw_X11_161 (ok_X11_refuse g 2 μ) (by omega) sh_0 (by decide) rfl rfl (Nat.le_of_ble_eq_true rfl) dX11_mend_13 (fun x18 μ19 _ => ?_)
    exact g_ret dX11_mend_16 rfl rfl
set_option maxHeartbeats 4000000 in
set_option maxRecDepth 100000 in
theorem ok_X11_steal (g : GG) (v1 : Int32)  (μ : Mm) : Ct g yX11_steal cX11_steal 2 (some (.int)) 3 cvI [.ref (gb g + 0), .int v1] μ (f_X11_steal v1 μ) := by
  refine ct_I (by decide +kernel) (Nat.le_of_ble_eq_true rfl) (show Go g RX11 cX11_steal 2 .ireturn 3 cvI 0 [(0, .ref (gb g + 0)), (1, .int v1)] [] μ (f_X11_steal v1 μ) from ?_)
  unfold f_X11_steal
  refine g_aload_n dX11_steal_0 0 rfl ?_
  refine g_getR (b := mR μ 0) fl_X11_56 sh_0 (by decide) rfl rfl dX11_steal_1 ?_
  refine g_gBk (fun b1 h2 => ?_)
  refine g_iload_n dX11_steal_4 1 rfl ?_
  refine g_vZp [.int v1] [] mw_X11_227 (ok_X0_hasCell g b1 v1 h2 μ) (by omega) (bk_0 h2) (by decide) rfl rfl (Nat.le_of_ble_eq_true rfl) dX11_steal_5 (fun x3 _ => ?_)
  refine g_ifneB (tgt := 17) dX11_steal_8 (by decide) (fun _ => ?_) (fun _ => ?_)
  · refine g_aload_n dX11_steal_17 0 rfl ?_
    refine g_getR (b := mR μ 0) fl_X11_56 sh_0 (by decide) rfl rfl dX11_steal_18 ?_
    refine g_gBk (fun b4 h5 => ?_)
    refine g_getR (b := (b4 + 8)) fl_X11_230 (bk_0 h5) (by decide) rfl rfl dX11_steal_21 ?_
    refine g_iload_n dX11_steal_24 1 rfl ?_
    refine g_iaload (bk_8 h5) dX11_steal_25 (fun x6 => ?_)
    refine g_if_ne (tgt := 36) dX11_steal_26 (by decide) (fun _ => ?_) (fun _ => ?_)
    · refine g_aload_n dX11_steal_36 0 rfl ?_
      refine g_aload_n dX11_steal_37 0 rfl ?_
      refine g_getR (b := mR μ 0) fl_X11_56 sh_0 (by decide) rfl rfl dX11_steal_38 ?_
      refine g_gBk (fun b7 h8 => ?_)
      refine g_iload_n dX11_steal_41 1 rfl ?_
      refine g_vI [.int v1] [.ref (gb g + 0)] mw_X11_285 (ok_X0_takeAway g b7 v1 h8 μ) (by omega) (bk_0 h8) (by decide) rfl rfl (Nat.le_of_ble_eq_true rfl) dX11_steal_42 (fun x9 μ10 _ => ?_)
      refine g_vI [.int x9] [] mw_X11_175 (ok_X11_answer g x9 μ10) (by omega) sh_0 (by decide) rfl rfl (Nat.le_of_ble_eq_true rfl) dX11_steal_45 (fun x11 μ12 _ => ?_)
      exact g_ret dX11_steal_48 rfl rfl
    · refine g_aload_n dX11_steal_29 0 rfl ?_
      refine g_bipush dX11_steal_30 (v := 9) (by decide) ?_
      refine g_vI [.int 9] [] mw_X11_161 (ok_X11_refuse g 9 μ) (by omega) sh_0 (by decide) rfl rfl (Nat.le_of_ble_eq_true rfl) dX11_steal_32 (fun x13 μ14 _ => ?_)
      exact g_ret dX11_steal_35 rfl rfl
  · refine g_aload_n dX11_steal_11 0 rfl ?_
    refine g_iconst dX11_steal_12 (v := 2) (by decide) ?_
    refine g_vI [.int 2] [] mw_X11_161 (ok_X11_refuse g 2 μ) (by omega) sh_0 (by decide) rfl rfl (Nat.le_of_ble_eq_true rfl) dX11_steal_13 (fun x15 μ16 _ => ?_)
    exact g_ret dX11_steal_16 rfl rfl
set_option maxHeartbeats 4000000 in
set_option maxRecDepth 100000 in
theorem ok_X11_scratch (g : GG) (v1 : Int32) (v2 : Int32)  (μ : Mm) : Ct g yX11_scratch cX11_scratch 3 (some (.int)) 3 cvI [.ref (gb g + 0), .int v1, .int v2] μ (f_X11_scratch v1 v2 μ) := by
  refine ct_I (by decide +kernel) (Nat.le_of_ble_eq_true rfl) (show Go g RX11 cX11_scratch 3 .ireturn 3 cvI 0 [(0, .ref (gb g + 0)), (1, .int v1), (2, .int v2)] [] μ (f_X11_scratch v1 v2 μ) from ?_)
  unfold f_X11_scratch
  refine g_aload_n dX11_scratch_0 0 rfl ?_
  refine g_getR (b := mR μ 0) fl_X11_56 sh_0 (by decide) rfl rfl dX11_scratch_1 ?_
  refine g_gBk (fun b1 h2 => ?_)
  refine g_iload_n dX11_scratch_4 1 rfl ?_
  refine g_vZp [.int v1] [] mw_X11_227 (ok_X0_hasCell g b1 v1 h2 μ) (by omega) (bk_0 h2) (by decide) rfl rfl (Nat.le_of_ble_eq_true rfl) dX11_scratch_5 (fun x3 _ => ?_)
  refine g_ifneB (tgt := 17) dX11_scratch_8 (by decide) (fun _ => ?_) (fun _ => ?_)
  · refine g_iload_n dX11_scratch_17 2 rfl ?_
    refine g_iconst dX11_scratch_18 (v := 0) (by decide) ?_
    refine g_bipush dX11_scratch_19 (v := 9) (by decide) ?_
    refine g_sZp [.int v2, .int 0, .int 9] [] mw_X11_116 (ok_X11_within g v2 0 9 μ) (by omega) rfl rfl (Nat.le_of_ble_eq_true rfl) dX11_scratch_21 (fun x4 _ => ?_)
    refine g_ifneB (tgt := 33) dX11_scratch_24 (by decide) (fun _ => ?_) (fun _ => ?_)
    · refine g_aload_n dX11_scratch_33 0 rfl ?_
      refine g_getR (b := mR μ 0) fl_X11_56 sh_0 (by decide) rfl rfl dX11_scratch_34 ?_
      refine g_gBk (fun b5 h6 => ?_)
      refine g_getR (b := (b5 + 8)) fl_X11_230 (bk_0 h6) (by decide) rfl rfl dX11_scratch_37 ?_
      refine g_iload_n dX11_scratch_40 1 rfl ?_
      refine g_iaload (bk_8 h6) dX11_scratch_41 (fun x7 => ?_)
      refine g_iload_n dX11_scratch_42 2 rfl ?_
      refine g_icmp_ne (tgt := 53) dX11_scratch_43 (by decide) (fun _ => ?_) (fun _ => ?_)
      · refine g_aload_n dX11_scratch_53 0 rfl ?_
        refine g_aload_n dX11_scratch_54 0 rfl ?_
        refine g_getR (b := mR μ 0) fl_X11_56 sh_0 (by decide) rfl rfl dX11_scratch_55 ?_
        refine g_gBk (fun b8 h9 => ?_)
        refine g_iload_n dX11_scratch_58 1 rfl ?_
        refine g_iload_n dX11_scratch_59 2 rfl ?_
        refine g_vI [.int v1, .int v2] [.ref (gb g + 0)] mw_X11_282 (ok_X0_putDigit g b8 v1 v2 h9 μ) (by omega) (bk_0 h9) (by decide) rfl rfl (Nat.le_of_ble_eq_true rfl) dX11_scratch_60 (fun x10 μ11 _ => ?_)
        refine g_vI [.int x10] [] mw_X11_175 (ok_X11_answer g x10 μ11) (by omega) sh_0 (by decide) rfl rfl (Nat.le_of_ble_eq_true rfl) dX11_scratch_63 (fun x12 μ13 _ => ?_)
        exact g_ret dX11_scratch_66 rfl rfl
      · refine g_aload_n dX11_scratch_46 0 rfl ?_
        refine g_bipush dX11_scratch_47 (v := 9) (by decide) ?_
        refine g_vI [.int 9] [] mw_X11_161 (ok_X11_refuse g 9 μ) (by omega) sh_0 (by decide) rfl rfl (Nat.le_of_ble_eq_true rfl) dX11_scratch_49 (fun x14 μ15 _ => ?_)
        exact g_ret dX11_scratch_52 rfl rfl
    · refine g_aload_n dX11_scratch_27 0 rfl ?_
      refine g_iconst dX11_scratch_28 (v := 5) (by decide) ?_
      refine g_vI [.int 5] [] mw_X11_161 (ok_X11_refuse g 5 μ) (by omega) sh_0 (by decide) rfl rfl (Nat.le_of_ble_eq_true rfl) dX11_scratch_29 (fun x16 μ17 _ => ?_)
      exact g_ret dX11_scratch_32 rfl rfl
  · refine g_aload_n dX11_scratch_11 0 rfl ?_
    refine g_iconst dX11_scratch_12 (v := 2) (by decide) ?_
    refine g_vI [.int 2] [] mw_X11_161 (ok_X11_refuse g 2 μ) (by omega) sh_0 (by decide) rfl rfl (Nat.le_of_ble_eq_true rfl) dX11_scratch_13 (fun x18 μ19 _ => ?_)
    exact g_ret dX11_scratch_16 rfl rfl
set_option maxHeartbeats 4000000 in
set_option maxRecDepth 100000 in
theorem ok_X11_vouch (g : GG) (v1 : Int32)  (μ : Mm) : Ct g yX11_vouch cX11_vouch 3 (some (.int)) 3 cvI [.ref (gb g + 0), .int v1] μ (f_X11_vouch v1 μ) := by
  refine ct_I (by decide +kernel) (Nat.le_of_ble_eq_true rfl) (show Go g RX11 cX11_vouch 3 .ireturn 3 cvI 0 [(0, .ref (gb g + 0)), (1, .int v1)] [] μ (f_X11_vouch v1 μ) from ?_)
  unfold f_X11_vouch
  refine g_aload_n dX11_vouch_0 0 rfl ?_
  refine g_getR (b := mR μ 0) fl_X11_56 sh_0 (by decide) rfl rfl dX11_vouch_1 ?_
  refine g_gBk (fun b1 h2 => ?_)
  refine g_iload_n dX11_vouch_4 1 rfl ?_
  refine g_vZp [.int v1] [] mw_X11_227 (ok_X0_hasCell g b1 v1 h2 μ) (by omega) (bk_0 h2) (by decide) rfl rfl (Nat.le_of_ble_eq_true rfl) dX11_vouch_5 (fun x3 _ => ?_)
  refine g_ifneB (tgt := 17) dX11_vouch_8 (by decide) (fun _ => ?_) (fun _ => ?_)
  · refine g_aload_n dX11_vouch_17 0 rfl ?_
    refine g_getR (b := mR μ 0) fl_X11_56 sh_0 (by decide) rfl rfl dX11_vouch_18 ?_
    refine g_gBk (fun b4 h5 => ?_)
    refine g_iload_n dX11_vouch_21 1 rfl ?_
    refine g_vZp [.int v1] [] mw_X11_239 (ok_X0_isWrong g b4 v1 h5 μ) (by omega) (bk_0 h5) (by decide) rfl rfl (Nat.le_of_ble_eq_true rfl) dX11_vouch_22 (fun x6 _ => ?_)
    refine g_ifneB (tgt := 35) dX11_vouch_25 (by decide) (fun _ => ?_) (fun _ => ?_)
    · refine g_aload_n dX11_vouch_35 0 rfl ?_
      refine g_getR (b := mR μ 0) fl_X11_56 sh_0 (by decide) rfl rfl dX11_vouch_36 ?_
      refine g_gBk (fun b7 h8 => ?_)
      refine g_getR (b := (b7 + 9)) fl_X11_233 (bk_0 h8) (by decide) rfl rfl dX11_vouch_39 ?_
      refine g_iload_n dX11_vouch_42 1 rfl ?_
      refine g_iaload (bk_9 h8) dX11_vouch_43 (fun x9 => ?_)
      refine g_istore_n dX11_vouch_44 rfl (by decide) (lv' := [(2, .int x9), (0, .ref (gb g + 0)), (1, .int v1)]) rfl ?_
      refine g_aload_n dX11_vouch_45 1 rfl ?_
      refine g_getR (b := mR μ 0) fl_X11_56 sh_0 (by decide) rfl rfl dX11_vouch_46 ?_
      refine g_gBk (fun b10 h11 => ?_)
      refine g_getR (b := (b10 + 9)) fl_X11_233 (bk_0 h11) (by decide) rfl rfl dX11_vouch_49 ?_
      refine g_iload_n dX11_vouch_52 2 rfl ?_
      refine g_aload_n dX11_vouch_53 1 rfl ?_
      refine g_getR (b := mR μ 0) fl_X11_56 sh_0 (by decide) rfl rfl dX11_vouch_54 ?_
      refine g_gBk (fun b12 h13 => ?_)
      refine g_getR (b := (b12 + 8)) fl_X11_230 (bk_0 h13) (by decide) rfl rfl dX11_vouch_57 ?_
      refine g_iload_n dX11_vouch_60 2 rfl ?_
      refine g_iaload (bk_8 h13) dX11_vouch_61 (fun x14 => ?_)
      refine g_iastore (bk_9 h11) dX11_vouch_62 (fun μ15 => ?_)
      refine g_aload_n dX11_vouch_63 1 rfl ?_
      refine g_iload_n dX11_vouch_64 0 rfl ?_
      refine g_vI [.int x9] [] mw_X11_175 (ok_X11_answer g x9 μ15) (by omega) sh_0 (by decide) rfl rfl (Nat.le_of_ble_eq_true rfl) dX11_vouch_65 (fun x16 μ17 _ => ?_)
      exact g_ret dX11_vouch_68 rfl rfl
    · refine g_aload_n dX11_vouch_28 0 rfl ?_
      refine g_bipush dX11_vouch_29 (v := 9) (by decide) ?_
      refine g_vI [.int 9] [] mw_X11_161 (ok_X11_refuse g 9 μ) (by omega) sh_0 (by decide) rfl rfl (Nat.le_of_ble_eq_true rfl) dX11_vouch_31 (fun x18 μ19 _ => ?_)
      exact g_ret dX11_vouch_34 rfl rfl
  · refine g_aload_n dX11_vouch_11 0 rfl ?_
    refine g_iconst dX11_vouch_12 (v := 2) (by decide) ?_
    refine g_vI [.int 2] [] mw_X11_161 (ok_X11_refuse g 2 μ) (by omega) sh_0 (by decide) rfl rfl (Nat.le_of_ble_eq_true rfl) dX11_vouch_13 (fun x20 μ21 _ => ?_)
    exact g_ret dX11_vouch_16 rfl rfl
set_option maxHeartbeats 4000000 in
set_option maxRecDepth 100000 in
theorem ok_X11_enact (g : GG) (v1 : Int32) (v2 : Int32) (v3 : Int32) (v4 : Int32)  (μ : Mm) : Ct g yX11_enact cX11_enact 5 (some (.int)) 2 cvI [.ref (gb g + 0), .int v1, .int v2, .int v3, .int v4] μ (f_X11_enact v1 v2 v3 v4 μ) := by
  refine ct_I (by decide +kernel) (Nat.le_of_ble_eq_true rfl) (show Go g RX11 cX11_enact 5 .ireturn 2 cvI 0 [(0, .ref (gb g + 0)), (1, .int v1), (2, .int v2), (3, .int v3), (4, .int v4)] [] μ (f_X11_enact v1 v2 v3 v4 μ) from ?_)
  unfold f_X11_enact
  refine g_iload_n dX11_enact_0 1 rfl ?_
  refine g_iconst dX11_enact_1 (v := 0) (by decide) ?_
  refine g_bipush dX11_enact_2 (v := 9) (by decide) ?_
  refine g_sZp [.int v1, .int 0, .int 9] [] mw_X11_116 (ok_X11_within g v1 0 9 μ) (by omega) rfl rfl (Nat.le_of_ble_eq_true rfl) dX11_enact_4 (fun x1 _ => ?_)
  refine g_ifeqB (tgt := 29) dX11_enact_7 (by decide) (fun _ => ?_) (fun _ => ?_)
  · refine g_aload_n dX11_enact_29 0 rfl ?_
    refine g_iconst dX11_enact_30 (v := 5) (by decide) ?_
    refine g_vI [.int 5] [] mw_X11_161 (ok_X11_refuse g 5 μ) (by omega) sh_0 (by decide) rfl rfl (Nat.le_of_ble_eq_true rfl) dX11_enact_31 (fun x2 μ3 _ => ?_)
    exact g_ret dX11_enact_34 rfl rfl
  · refine g_iload_n dX11_enact_10 2 rfl ?_
    refine g_iconst dX11_enact_11 (v := 0) (by decide) ?_
    refine g_bipush dX11_enact_12 (v := 9) (by decide) ?_
    refine g_sZp [.int v2, .int 0, .int 9] [] mw_X11_116 (ok_X11_within g v2 0 9 μ) (by omega) rfl rfl (Nat.le_of_ble_eq_true rfl) dX11_enact_14 (fun x4 _ => ?_)
    refine g_ifeqB (tgt := 29) dX11_enact_17 (by decide) (fun _ => ?_) (fun _ => ?_)
    · refine g_aload_n dX11_enact_29 0 rfl ?_
      refine g_iconst dX11_enact_30 (v := 5) (by decide) ?_
      refine g_vI [.int 5] [] mw_X11_161 (ok_X11_refuse g 5 μ) (by omega) sh_0 (by decide) rfl rfl (Nat.le_of_ble_eq_true rfl) dX11_enact_31 (fun x5 μ6 _ => ?_)
      exact g_ret dX11_enact_34 rfl rfl
    · refine g_iload_n dX11_enact_20 3 rfl ?_
      refine g_iconst dX11_enact_21 (v := 0) (by decide) ?_
      refine g_iconst dX11_enact_22 (v := 4) (by decide) ?_
      refine g_sZp [.int v3, .int 0, .int 4] [] mw_X11_116 (ok_X11_within g v3 0 4 μ) (by omega) rfl rfl (Nat.le_of_ble_eq_true rfl) dX11_enact_23 (fun x7 _ => ?_)
      refine g_ifneB (tgt := 35) dX11_enact_26 (by decide) (fun _ => ?_) (fun _ => ?_)
      · refine g_iload_n dX11_enact_35 3 rfl ?_
        refine g_if_eq (tgt := 56) dX11_enact_36 (by decide) (fun _ => ?_) (fun _ => ?_)
        · refine g_aload_n dX11_enact_56 0 rfl ?_
          refine g_getR (b := mR μ 0) fl_X11_56 sh_0 (by decide) rfl rfl dX11_enact_57 ?_
          refine g_gBk (fun b8 h9 => ?_)
          refine g_getR (b := (b8 + 1)) fl_X11_190 (bk_0 h9) (by decide) rfl rfl dX11_enact_60 ?_
          refine g_getI fl_X11_194 (bk_1 h9) (by decide) rfl dX11_enact_63 ?_
          refine g_bipush dX11_enact_66 (v := 10) (by decide) ?_
          refine g_icmp_lt (tgt := 78) dX11_enact_68 (by decide) (fun _ => ?_) (fun _ => ?_)
          · refine g_aload_n dX11_enact_78 0 rfl ?_
            refine g_getR (b := mR μ 0) fl_X11_56 sh_0 (by decide) rfl rfl dX11_enact_79 ?_
            refine g_gBk (fun b10 h11 => ?_)
            refine g_getR (b := (b10 + 1)) fl_X11_190 (bk_0 h11) (by decide) rfl rfl dX11_enact_82 ?_
            refine g_iload_n dX11_enact_85 1 rfl ?_
            refine g_iload_n dX11_enact_86 2 rfl ?_
            refine g_iload_n dX11_enact_87 3 rfl ?_
            refine g_iload dX11_enact_88 4 rfl ?_
            refine g_vV [.int v1, .int v2, .int v3, .int v4] [] mw_X11_288 (ok_X3_add g (b10 + 1) v1 v2 v3 v4 (bk_lw h11) μ) (by omega) (bk_1 h11) (by decide) rfl rfl (Nat.le_of_ble_eq_true rfl) dX11_enact_90 (fun μ13 _ => ?_)
            refine g_aload_n dX11_enact_93 0 rfl ?_
            refine g_aload_n dX11_enact_94 0 rfl ?_
            refine g_getR (b := mR μ13 0) fl_X11_56 sh_0 (by decide) rfl rfl dX11_enact_95 ?_
            refine g_gBk (fun b14 h15 => ?_)
            refine g_getR (b := (b14 + 1)) fl_X11_190 (bk_0 h15) (by decide) rfl rfl dX11_enact_98 ?_
            refine g_getI fl_X11_194 (bk_1 h15) (by decide) rfl dX11_enact_101 ?_
            refine g_iconst dX11_enact_104 (v := 1) (by decide) ?_
            refine g_isub dX11_enact_105 ?_
            refine g_vI [.int ((mI μ13 (b14 + 1) 0) - (1 : Int32))] [] mw_X11_175 (ok_X11_answer g ((mI μ13 (b14 + 1) 0) - (1 : Int32)) μ13) (by omega) sh_0 (by decide) rfl rfl (Nat.le_of_ble_eq_true rfl) dX11_enact_106 (fun x16 μ17 _ => ?_)
            exact g_ret dX11_enact_109 rfl rfl
          · refine g_aload_n dX11_enact_71 0 rfl ?_
            refine g_bipush dX11_enact_72 (v := 7) (by decide) ?_
            refine g_vI [.int 7] [] mw_X11_161 (ok_X11_refuse g 7 μ) (by omega) sh_0 (by decide) rfl rfl (Nat.le_of_ble_eq_true rfl) dX11_enact_74 (fun x18 μ19 _ => ?_)
            exact g_ret dX11_enact_77 rfl rfl
        · refine g_iload dX11_enact_39 4 rfl ?_
          refine g_iconst dX11_enact_41 (v := 0) (by decide) ?_
          refine g_bipush dX11_enact_42 (v := 9) (by decide) ?_
          refine g_sZp [.int v4, .int 0, .int 9] [] mw_X11_116 (ok_X11_within g v4 0 9 μ) (by omega) rfl rfl (Nat.le_of_ble_eq_true rfl) dX11_enact_44 (fun x20 _ => ?_)
          refine g_ifneB (tgt := 56) dX11_enact_47 (by decide) (fun _ => ?_) (fun _ => ?_)
          · refine g_aload_n dX11_enact_56 0 rfl ?_
            refine g_getR (b := mR μ 0) fl_X11_56 sh_0 (by decide) rfl rfl dX11_enact_57 ?_
            refine g_gBk (fun b21 h22 => ?_)
            refine g_getR (b := (b21 + 1)) fl_X11_190 (bk_0 h22) (by decide) rfl rfl dX11_enact_60 ?_
            refine g_getI fl_X11_194 (bk_1 h22) (by decide) rfl dX11_enact_63 ?_
            refine g_bipush dX11_enact_66 (v := 10) (by decide) ?_
            refine g_icmp_lt (tgt := 78) dX11_enact_68 (by decide) (fun _ => ?_) (fun _ => ?_)
            · refine g_aload_n dX11_enact_78 0 rfl ?_
              refine g_getR (b := mR μ 0) fl_X11_56 sh_0 (by decide) rfl rfl dX11_enact_79 ?_
              refine g_gBk (fun b23 h24 => ?_)
              refine g_getR (b := (b23 + 1)) fl_X11_190 (bk_0 h24) (by decide) rfl rfl dX11_enact_82 ?_
              refine g_iload_n dX11_enact_85 1 rfl ?_
              refine g_iload_n dX11_enact_86 2 rfl ?_
              refine g_iload_n dX11_enact_87 3 rfl ?_
              refine g_iload dX11_enact_88 4 rfl ?_
              refine g_vV [.int v1, .int v2, .int v3, .int v4] [] mw_X11_288 (ok_X3_add g (b23 + 1) v1 v2 v3 v4 (bk_lw h24) μ) (by omega) (bk_1 h24) (by decide) rfl rfl (Nat.le_of_ble_eq_true rfl) dX11_enact_90 (fun μ26 _ => ?_)
              refine g_aload_n dX11_enact_93 0 rfl ?_
              refine g_aload_n dX11_enact_94 0 rfl ?_
              refine g_getR (b := mR μ26 0) fl_X11_56 sh_0 (by decide) rfl rfl dX11_enact_95 ?_
              refine g_gBk (fun b27 h28 => ?_)
              refine g_getR (b := (b27 + 1)) fl_X11_190 (bk_0 h28) (by decide) rfl rfl dX11_enact_98 ?_
              refine g_getI fl_X11_194 (bk_1 h28) (by decide) rfl dX11_enact_101 ?_
              refine g_iconst dX11_enact_104 (v := 1) (by decide) ?_
              refine g_isub dX11_enact_105 ?_
              refine g_vI [.int ((mI μ26 (b27 + 1) 0) - (1 : Int32))] [] mw_X11_175 (ok_X11_answer g ((mI μ26 (b27 + 1) 0) - (1 : Int32)) μ26) (by omega) sh_0 (by decide) rfl rfl (Nat.le_of_ble_eq_true rfl) dX11_enact_106 (fun x29 μ30 _ => ?_)
              exact g_ret dX11_enact_109 rfl rfl
            · refine g_aload_n dX11_enact_71 0 rfl ?_
              refine g_bipush dX11_enact_72 (v := 7) (by decide) ?_
              refine g_vI [.int 7] [] mw_X11_161 (ok_X11_refuse g 7 μ) (by omega) sh_0 (by decide) rfl rfl (Nat.le_of_ble_eq_true rfl) dX11_enact_74 (fun x31 μ32 _ => ?_)
              exact g_ret dX11_enact_77 rfl rfl
          · refine g_aload_n dX11_enact_50 0 rfl ?_
            refine g_iconst dX11_enact_51 (v := 5) (by decide) ?_
            refine g_vI [.int 5] [] mw_X11_161 (ok_X11_refuse g 5 μ) (by omega) sh_0 (by decide) rfl rfl (Nat.le_of_ble_eq_true rfl) dX11_enact_52 (fun x33 μ34 _ => ?_)
            exact g_ret dX11_enact_55 rfl rfl
      · refine g_aload_n dX11_enact_29 0 rfl ?_
        refine g_iconst dX11_enact_30 (v := 5) (by decide) ?_
        refine g_vI [.int 5] [] mw_X11_161 (ok_X11_refuse g 5 μ) (by omega) sh_0 (by decide) rfl rfl (Nat.le_of_ble_eq_true rfl) dX11_enact_31 (fun x35 μ36 _ => ?_)
        exact g_ret dX11_enact_34 rfl rfl
set_option maxHeartbeats 4000000 in
set_option maxRecDepth 100000 in
theorem ok_X11_repeal (g : GG) (F : Nat) (v1 : Int32)  (μ : Mm) : Ct g yX11_repeal cX11_repeal 2 (some (.int)) 4 cvI [.ref (gb g + 0), .int v1] μ (f_X11_repeal F v1 μ) := by
  refine ct_I (by decide +kernel) (Nat.le_of_ble_eq_true rfl) (show Go g RX11 cX11_repeal 2 .ireturn 4 cvI 0 [(0, .ref (gb g + 0)), (1, .int v1)] [] μ (f_X11_repeal F v1 μ) from ?_)
  unfold f_X11_repeal
  refine g_aload_n dX11_repeal_0 0 rfl ?_
  refine g_getR (b := mR μ 0) fl_X11_56 sh_0 (by decide) rfl rfl dX11_repeal_1 ?_
  refine g_gBk (fun b1 h2 => ?_)
  refine g_getR (b := (b1 + 1)) fl_X11_190 (bk_0 h2) (by decide) rfl rfl dX11_repeal_4 ?_
  refine g_iload_n dX11_repeal_7 1 rfl ?_
  refine g_vZp [.int v1] [] mw_X11_258 (ok_X3_has g (b1 + 1) v1 (bk_lw h2) μ) (by omega) (bk_1 h2) (by decide) rfl rfl (Nat.le_of_ble_eq_true rfl) dX11_repeal_8 (fun x3 _ => ?_)
  refine g_ifneB (tgt := 20) dX11_repeal_11 (by decide) (fun _ => ?_) (fun _ => ?_)
  · refine g_aload_n dX11_repeal_20 0 rfl ?_
    refine g_getR (b := mR μ 0) fl_X11_56 sh_0 (by decide) rfl rfl dX11_repeal_21 ?_
    refine g_gBk (fun b4 h5 => ?_)
    refine g_getR (b := (b4 + 1)) fl_X11_190 (bk_0 h5) (by decide) rfl rfl dX11_repeal_24 ?_
    refine g_iload_n dX11_repeal_27 1 rfl ?_
    refine g_vV [.int v1] [] mw_X11_292 (ok_X3_strike g F (b4 + 1) v1 (bk_lw h5) μ) (by omega) (bk_1 h5) (by decide) rfl rfl (Nat.le_of_ble_eq_true rfl) dX11_repeal_28 (fun μ7 _ => ?_)
    refine g_aload_n dX11_repeal_31 0 rfl ?_
    refine g_aload_n dX11_repeal_32 0 rfl ?_
    refine g_getR (b := mR μ7 0) fl_X11_56 sh_0 (by decide) rfl rfl dX11_repeal_33 ?_
    refine g_gBk (fun b8 h9 => ?_)
    refine g_getR (b := (b8 + 1)) fl_X11_190 (bk_0 h9) (by decide) rfl rfl dX11_repeal_36 ?_
    refine g_getI fl_X11_194 (bk_1 h9) (by decide) rfl dX11_repeal_39 ?_
    refine g_vI [.int (mI μ7 (b8 + 1) 0)] [] mw_X11_175 (ok_X11_answer g (mI μ7 (b8 + 1) 0) μ7) (by omega) sh_0 (by decide) rfl rfl (Nat.le_of_ble_eq_true rfl) dX11_repeal_42 (fun x10 μ11 _ => ?_)
    exact g_ret dX11_repeal_45 rfl rfl
  · refine g_aload_n dX11_repeal_14 0 rfl ?_
    refine g_iconst dX11_repeal_15 (v := 2) (by decide) ?_
    refine g_vI [.int 2] [] mw_X11_161 (ok_X11_refuse g 2 μ) (by omega) sh_0 (by decide) rfl rfl (Nat.le_of_ble_eq_true rfl) dX11_repeal_16 (fun x12 μ13 _ => ?_)
    exact g_ret dX11_repeal_19 rfl rfl
set_option maxHeartbeats 4000000 in
set_option maxRecDepth 100000 in
theorem ok_X11_rule (g : GG) (v1 : Int32) (v2 : Int32)  (μ : Mm) : Ct g yX11_rule cX11_rule 3 (some (.boolean)) 2 cvZ [.ref (gb g + 0), .int v1, .int v2] μ (f_X11_rule v1 v2 μ) := by
  refine ct_Z (by decide +kernel) (Nat.le_of_ble_eq_true rfl) (show Go g RX11 cX11_rule 3 .ireturn 2 cvZ 0 [(0, .ref (gb g + 0)), (1, .int v1), (2, .int v2)] [] μ (f_X11_rule v1 v2 μ) from ?_)
  unfold f_X11_rule
  refine g_iload_n dX11_rule_0 1 rfl ?_
  refine g_iconst dX11_rule_1 (v := 3) (by decide) ?_
  refine g_icmp_ne (tgt := 29) dX11_rule_2 (by decide) (fun _ => ?_) (fun _ => ?_)
  · refine g_iload_n dX11_rule_29 1 rfl ?_
    refine g_iconst dX11_rule_30 (v := 4) (by decide) ?_
    refine g_icmp_ne (tgt := 58) dX11_rule_31 (by decide) (fun _ => ?_) (fun _ => ?_)
    · refine g_aload_n dX11_rule_58 0 rfl ?_
      refine g_iconst dX11_rule_59 (v := 5) (by decide) ?_
      refine g_vZ [.int 5] [] mw_X11_109 (ok_X11_verdict g 5 μ) (by omega) sh_0 (by decide) rfl rfl (Nat.le_of_ble_eq_true rfl) dX11_rule_60 (fun x1 μ2 _ => ?_)
      exact g_ret dX11_rule_63 rfl rfl
    · refine g_iload_n dX11_rule_34 2 rfl ?_
      refine g_iconst dX11_rule_35 (v := 0) (by decide) ?_
      refine g_bipush dX11_rule_36 (v := 16) (by decide) ?_
      refine g_sZp [.int v2, .int 0, .int 16] [] mw_X11_116 (ok_X11_within g v2 0 16 μ) (by omega) rfl rfl (Nat.le_of_ble_eq_true rfl) dX11_rule_38 (fun x3 _ => ?_)
      refine g_ifeqB (tgt := 58) dX11_rule_41 (by decide) (fun _ => ?_) (fun _ => ?_)
      · refine g_aload_n dX11_rule_58 0 rfl ?_
        refine g_iconst dX11_rule_59 (v := 5) (by decide) ?_
        refine g_vZ [.int 5] [] mw_X11_109 (ok_X11_verdict g 5 μ) (by omega) sh_0 (by decide) rfl rfl (Nat.le_of_ble_eq_true rfl) dX11_rule_60 (fun x4 μ5 _ => ?_)
        exact g_ret dX11_rule_63 rfl rfl
      · refine g_aload_n dX11_rule_44 0 rfl ?_
        refine g_getR (b := mR μ 0) fl_X11_56 sh_0 (by decide) rfl rfl dX11_rule_45 ?_
        refine g_gBk (fun b6 h7 => ?_)
        refine g_iload_n dX11_rule_48 2 rfl ?_
        refine g_putI fl_X11_205 (bk_0 h7) (by decide) rfl dX11_rule_49 ?_
        refine g_aload_n dX11_rule_52 0 rfl ?_
        refine g_iconst dX11_rule_53 (v := 0) (by decide) ?_
        refine g_vZ [.int 0] [] mw_X11_109 (ok_X11_verdict g 0 (sI μ b6 2 v2)) (by omega) sh_0 (by decide) rfl rfl (Nat.le_of_ble_eq_true rfl) dX11_rule_54 (fun x8 μ9 _ => ?_)
        exact g_ret dX11_rule_57 rfl rfl
  · refine g_iload_n dX11_rule_5 2 rfl ?_
    refine g_iconst dX11_rule_6 (v := 1) (by decide) ?_
    refine g_bipush dX11_rule_7 (v := 9) (by decide) ?_
    refine g_sZp [.int v2, .int 1, .int 9] [] mw_X11_116 (ok_X11_within g v2 1 9 μ) (by omega) rfl rfl (Nat.le_of_ble_eq_true rfl) dX11_rule_9 (fun x10 _ => ?_)
    refine g_ifeqB (tgt := 29) dX11_rule_12 (by decide) (fun _ => ?_) (fun _ => ?_)
    · refine g_iload_n dX11_rule_29 1 rfl ?_
      refine g_iconst dX11_rule_30 (v := 4) (by decide) ?_
      refine g_icmp_ne (tgt := 58) dX11_rule_31 (by decide) (fun _ => ?_) (fun _ => ?_)
      · refine g_aload_n dX11_rule_58 0 rfl ?_
        refine g_iconst dX11_rule_59 (v := 5) (by decide) ?_
        refine g_vZ [.int 5] [] mw_X11_109 (ok_X11_verdict g 5 μ) (by omega) sh_0 (by decide) rfl rfl (Nat.le_of_ble_eq_true rfl) dX11_rule_60 (fun x11 μ12 _ => ?_)
        exact g_ret dX11_rule_63 rfl rfl
      · refine g_iload_n dX11_rule_34 2 rfl ?_
        refine g_iconst dX11_rule_35 (v := 0) (by decide) ?_
        refine g_bipush dX11_rule_36 (v := 16) (by decide) ?_
        refine g_sZp [.int v2, .int 0, .int 16] [] mw_X11_116 (ok_X11_within g v2 0 16 μ) (by omega) rfl rfl (Nat.le_of_ble_eq_true rfl) dX11_rule_38 (fun x13 _ => ?_)
        refine g_ifeqB (tgt := 58) dX11_rule_41 (by decide) (fun _ => ?_) (fun _ => ?_)
        · refine g_aload_n dX11_rule_58 0 rfl ?_
          refine g_iconst dX11_rule_59 (v := 5) (by decide) ?_
          refine g_vZ [.int 5] [] mw_X11_109 (ok_X11_verdict g 5 μ) (by omega) sh_0 (by decide) rfl rfl (Nat.le_of_ble_eq_true rfl) dX11_rule_60 (fun x14 μ15 _ => ?_)
          exact g_ret dX11_rule_63 rfl rfl
        · refine g_aload_n dX11_rule_44 0 rfl ?_
          refine g_getR (b := mR μ 0) fl_X11_56 sh_0 (by decide) rfl rfl dX11_rule_45 ?_
          refine g_gBk (fun b16 h17 => ?_)
          refine g_iload_n dX11_rule_48 2 rfl ?_
          refine g_putI fl_X11_205 (bk_0 h17) (by decide) rfl dX11_rule_49 ?_
          refine g_aload_n dX11_rule_52 0 rfl ?_
          refine g_iconst dX11_rule_53 (v := 0) (by decide) ?_
          refine g_vZ [.int 0] [] mw_X11_109 (ok_X11_verdict g 0 (sI μ b16 2 v2)) (by omega) sh_0 (by decide) rfl rfl (Nat.le_of_ble_eq_true rfl) dX11_rule_54 (fun x18 μ19 _ => ?_)
          exact g_ret dX11_rule_57 rfl rfl
    · refine g_aload_n dX11_rule_15 0 rfl ?_
      refine g_getR (b := mR μ 0) fl_X11_56 sh_0 (by decide) rfl rfl dX11_rule_16 ?_
      refine g_gBk (fun b20 h21 => ?_)
      refine g_iload_n dX11_rule_19 2 rfl ?_
      refine g_putI fl_X11_202 (bk_0 h21) (by decide) rfl dX11_rule_20 ?_
      refine g_aload_n dX11_rule_23 0 rfl ?_
      refine g_iconst dX11_rule_24 (v := 0) (by decide) ?_
      refine g_vZ [.int 0] [] mw_X11_109 (ok_X11_verdict g 0 (sI μ b20 1 v2)) (by omega) sh_0 (by decide) rfl rfl (Nat.le_of_ble_eq_true rfl) dX11_rule_25 (fun x22 μ23 _ => ?_)
      exact g_ret dX11_rule_28 rfl rfl
set_option maxHeartbeats 4000000 in
set_option maxRecDepth 100000 in
theorem ok_X11_spareAhead (g : GG) (F : Nat) (v1 : Int32)  (μ : Mm) : Ct g yX11_spareAhead cX11_spareAhead 2 (some ((.object "SumsNightwatch$Book"))) 5 (cvR g) [.ref (gb g + 0), .int v1] μ (f_X11_spareAhead F v1 μ) := by
  refine ct_R (by decide +kernel) (Nat.le_of_ble_eq_true rfl) (show Go g RX11 cX11_spareAhead 2 .areturn 5 (cvR g) 0 [(0, .ref (gb g + 0)), (1, .int v1)] [] μ (f_X11_spareAhead F v1 μ) from ?_)
  unfold f_X11_spareAhead
  refine g_aload_n dX11_spareAhead_0 0 rfl ?_
  refine g_getR (b := mR μ 1) fl_X11_60 sh_0 (by decide) rfl rfl dX11_spareAhead_1 ?_
  refine g_gBk (fun b1 h2 => ?_)
  refine g_aload_n dX11_spareAhead_4 0 rfl ?_
  refine g_getR (b := mR μ 0) fl_X11_56 sh_0 (by decide) rfl rfl dX11_spareAhead_5 ?_
  refine g_gBk (fun b3 h4 => ?_)
  refine g_vV [.ref (gb g + b3)] [] mw_X11_295 (ok_X0_takeFrom g b1 b3 h2 h4 μ) (by omega) (bk_0 h2) (by decide) rfl rfl (Nat.le_of_ble_eq_true rfl) dX11_spareAhead_8 (fun μ6 _ => ?_)
  refine g_aload_n dX11_spareAhead_11 0 rfl ?_
  refine g_getR (b := mR μ6 1) fl_X11_60 sh_0 (by decide) rfl rfl dX11_spareAhead_12 ?_
  refine g_gBk (fun b7 h8 => ?_)
  refine g_iload_n dX11_spareAhead_15 1 rfl ?_
  refine g_vZ [.int v1] [] mw_X11_279 (ok_X0_passHours g F b7 v1 h8 μ6) (by omega) (bk_0 h8) (by decide) rfl rfl (Nat.le_of_ble_eq_true rfl) dX11_spareAhead_16 (fun x9 μ10 _ => ?_)
  refine g_pop dX11_spareAhead_19 rfl ?_
  refine g_aload_n dX11_spareAhead_20 0 rfl ?_
  refine g_getR (b := mR μ10 1) fl_X11_60 sh_0 (by decide) rfl rfl dX11_spareAhead_21 ?_
  refine g_gBk (fun b11 h12 => ?_)
  exact g_ret dX11_spareAhead_24 rfl rfl
set_option maxHeartbeats 4000000 in
set_option maxRecDepth 100000 in
theorem ok_X11_digitIn (g : GG) (F : Nat) (v1 : Int32) (v2 : Int32)  (μ : Mm) : Ct g yX11_digitIn cX11_digitIn 3 (some (.int)) 6 cvI [.ref (gb g + 0), .int v1, .int v2] μ (f_X11_digitIn F v1 v2 μ) := by
  refine ct_I (by decide +kernel) (Nat.le_of_ble_eq_true rfl) (show Go g RX11 cX11_digitIn 3 .ireturn 6 cvI 0 [(0, .ref (gb g + 0)), (1, .int v1), (2, .int v2)] [] μ (f_X11_digitIn F v1 v2 μ) from ?_)
  unfold f_X11_digitIn
  refine g_aload_n dX11_digitIn_0 0 rfl ?_
  refine g_getR (b := mR μ 0) fl_X11_56 sh_0 (by decide) rfl rfl dX11_digitIn_1 ?_
  refine g_gBk (fun b1 h2 => ?_)
  refine g_iload_n dX11_digitIn_4 1 rfl ?_
  refine g_vZp [.int v1] [] mw_X11_227 (ok_X0_hasCell g b1 v1 h2 μ) (by omega) (bk_0 h2) (by decide) rfl rfl (Nat.le_of_ble_eq_true rfl) dX11_digitIn_5 (fun x3 _ => ?_)
  refine g_ifneB (tgt := 17) dX11_digitIn_8 (by decide) (fun _ => ?_) (fun _ => ?_)
  · refine g_iload_n dX11_digitIn_17 2 rfl ?_
    refine g_iconst dX11_digitIn_18 (v := 0) (by decide) ?_
    refine g_sipush dX11_digitIn_19 (v := 300) (by decide) ?_
    refine g_sZp [.int v2, .int 0, .int 300] [] mw_X11_116 (ok_X11_within g v2 0 300 μ) (by omega) rfl rfl (Nat.le_of_ble_eq_true rfl) dX11_digitIn_22 (fun x4 _ => ?_)
    refine g_ifneB (tgt := 34) dX11_digitIn_25 (by decide) (fun _ => ?_) (fun _ => ?_)
    · refine g_aload_n dX11_digitIn_34 0 rfl ?_
      refine g_aload_n dX11_digitIn_35 0 rfl ?_
      refine g_iload_n dX11_digitIn_36 2 rfl ?_
      refine g_vR [.int v2] [.ref (gb g + 0)] mw_X11_299 (ok_X11_spareAhead g F v2 μ) (by omega) sh_0 (by decide) rfl rfl (Nat.le_of_ble_eq_true rfl) dX11_digitIn_37 (fun x5 μ7 _ => ?_)
      refine g_gBk (fun b8 h6 => ?_)
      refine g_getR (b := (b8 + 8)) fl_X11_230 (bk_0 h6) (by decide) rfl rfl dX11_digitIn_40 ?_
      refine g_iload_n dX11_digitIn_43 1 rfl ?_
      refine g_iaload (bk_8 h6) dX11_digitIn_44 (fun x9 => ?_)
      refine g_vI [.int x9] [] mw_X11_175 (ok_X11_answer g x9 μ7) (by omega) sh_0 (by decide) rfl rfl (Nat.le_of_ble_eq_true rfl) dX11_digitIn_45 (fun x10 μ11 _ => ?_)
      exact g_ret dX11_digitIn_48 rfl rfl
    · refine g_aload_n dX11_digitIn_28 0 rfl ?_
      refine g_iconst dX11_digitIn_29 (v := 5) (by decide) ?_
      refine g_vI [.int 5] [] mw_X11_161 (ok_X11_refuse g 5 μ) (by omega) sh_0 (by decide) rfl rfl (Nat.le_of_ble_eq_true rfl) dX11_digitIn_30 (fun x12 μ13 _ => ?_)
      exact g_ret dX11_digitIn_33 rfl rfl
  · refine g_aload_n dX11_digitIn_11 0 rfl ?_
    refine g_iconst dX11_digitIn_12 (v := 2) (by decide) ?_
    refine g_vI [.int 2] [] mw_X11_161 (ok_X11_refuse g 2 μ) (by omega) sh_0 (by decide) rfl rfl (Nat.le_of_ble_eq_true rfl) dX11_digitIn_13 (fun x14 μ15 _ => ?_)
    exact g_ret dX11_digitIn_16 rfl rfl
set_option maxHeartbeats 4000000 in
set_option maxRecDepth 100000 in
theorem ok_X11_wrongIn (g : GG) (F : Nat) (v1 : Int32)  (μ : Mm) : Ct g yX11_wrongIn cX11_wrongIn 2 (some (.int)) 6 cvI [.ref (gb g + 0), .int v1] μ (f_X11_wrongIn F v1 μ) := by
  refine ct_I (by decide +kernel) (Nat.le_of_ble_eq_true rfl) (show Go g RX11 cX11_wrongIn 2 .ireturn 6 cvI 0 [(0, .ref (gb g + 0)), (1, .int v1)] [] μ (f_X11_wrongIn F v1 μ) from ?_)
  unfold f_X11_wrongIn
  refine g_iload_n dX11_wrongIn_0 1 rfl ?_
  refine g_iconst dX11_wrongIn_1 (v := 0) (by decide) ?_
  refine g_sipush dX11_wrongIn_2 (v := 300) (by decide) ?_
  refine g_sZp [.int v1, .int 0, .int 300] [] mw_X11_116 (ok_X11_within g v1 0 300 μ) (by omega) rfl rfl (Nat.le_of_ble_eq_true rfl) dX11_wrongIn_5 (fun x1 _ => ?_)
  refine g_ifneB (tgt := 17) dX11_wrongIn_8 (by decide) (fun _ => ?_) (fun _ => ?_)
  · refine g_aload_n dX11_wrongIn_17 0 rfl ?_
    refine g_aload_n dX11_wrongIn_18 0 rfl ?_
    refine g_iload_n dX11_wrongIn_19 1 rfl ?_
    refine g_vR [.int v1] [.ref (gb g + 0)] mw_X11_299 (ok_X11_spareAhead g F v1 μ) (by omega) sh_0 (by decide) rfl rfl (Nat.le_of_ble_eq_true rfl) dX11_wrongIn_20 (fun x2 μ4 _ => ?_)
    refine g_gBk (fun b5 h3 => ?_)
    refine g_vIp [] [.ref (gb g + 0)] mw_X11_215 (ok_X0_wrongs g F b5 h3 μ4) (by omega) (bk_0 h3) (by decide) rfl rfl (Nat.le_of_ble_eq_true rfl) dX11_wrongIn_23 (fun x6 _ => ?_)
    refine g_vI [.int x6] [] mw_X11_175 (ok_X11_answer g x6 μ4) (by omega) sh_0 (by decide) rfl rfl (Nat.le_of_ble_eq_true rfl) dX11_wrongIn_26 (fun x7 μ8 _ => ?_)
    exact g_ret dX11_wrongIn_29 rfl rfl
  · refine g_aload_n dX11_wrongIn_11 0 rfl ?_
    refine g_iconst dX11_wrongIn_12 (v := 5) (by decide) ?_
    refine g_vI [.int 5] [] mw_X11_161 (ok_X11_refuse g 5 μ) (by omega) sh_0 (by decide) rfl rfl (Nat.le_of_ble_eq_true rfl) dX11_wrongIn_13 (fun x9 μ10 _ => ?_)
    exact g_ret dX11_wrongIn_16 rfl rfl
set_option maxHeartbeats 4000000 in
set_option maxRecDepth 100000 in
theorem okL_X11_wrongBy_25 (g : GG) (F : Nat) (v1 : Int32) (r2 : Nat) (k : Mm → Option (Int32 × Mm)) (hr2 : Bk r2) (hk : ∀ (μ : Mm), Go g RX11 cX11_wrongBy 4 .ireturn 6 cvI 58 [(0, .ref (gb g + 0))] [] μ (k μ)) : ∀ (n : Nat) (v3 : Int32) (μ : Mm), Go g RX11 cX11_wrongBy 4 .ireturn 6 cvI 25 [(0, .ref (gb g + 0)), (1, .int v1), (2, .ref (gb g + r2)), (3, .int v3)] [] μ (L_X11_wrongBy_25 F v1 r2 k n v3 μ) := by
  intro n
  induction n with
  | zero =>
    intro v3 μ
    exact g_none
  | succ n ih =>
    intro v3 μ
    rw [L_X11_wrongBy_25_s]
    refine g_iload_n dX11_wrongBy_25 3 rfl ?_
    refine g_sipush dX11_wrongBy_26 (v := 300) (by decide) ?_
    refine g_icmp_gt (tgt := 58) dX11_wrongBy_29 (by decide) (fun _ => ?_) (fun _ => ?_)
    · refine g_lv [0] rfl ?_
      exact hk μ
    · refine g_aload_n dX11_wrongBy_32 2 rfl ?_
      refine g_iload_n dX11_wrongBy_33 1 rfl ?_
      refine g_vZp [.int v1] [] mw_X11_239 (ok_X0_isWrong g r2 v1 hr2 μ) (by omega) (bk_0 hr2) (by decide) rfl rfl (Nat.le_of_ble_eq_true rfl) dX11_wrongBy_34 (fun x8 _ => ?_)
      refine g_ifeqB (tgt := 46) dX11_wrongBy_37 (by decide) (fun _ => ?_) (fun _ => ?_)
      · refine g_aload_n dX11_wrongBy_46 2 rfl ?_
        refine g_iconst dX11_wrongBy_47 (v := 1) (by decide) ?_
        refine g_vZ [.int 1] [] mw_X11_279 (ok_X0_passHours g F r2 1 hr2 μ) (by omega) (bk_0 hr2) (by decide) rfl rfl (Nat.le_of_ble_eq_true rfl) dX11_wrongBy_48 (fun x9 μ10 _ => ?_)
        refine g_pop dX11_wrongBy_51 rfl ?_
        refine g_iinc dX11_wrongBy_52 3 rfl (v := (v3 + 1)) rfl (by decide) (lv' := [(3, .int (v3 + 1)), (0, .ref (gb g + 0)), (1, .int v1), (2, .ref (gb g + r2))]) rfl ?_
        refine g_goto (tgt := 25) dX11_wrongBy_55 (by decide) ?_
        refine g_lv [1, 2, 3, 0] rfl ?_
        exact ih (v3 + 1) μ10
      · refine g_aload_n dX11_wrongBy_40 0 rfl ?_
        refine g_iload_n dX11_wrongBy_41 3 rfl ?_
        refine g_vI [.int v3] [] mw_X11_175 (ok_X11_answer g v3 μ) (by omega) sh_0 (by decide) rfl rfl (Nat.le_of_ble_eq_true rfl) dX11_wrongBy_42 (fun x11 μ12 _ => ?_)
        exact g_ret dX11_wrongBy_45 rfl rfl
set_option maxHeartbeats 4000000 in
set_option maxRecDepth 100000 in
theorem ok_X11_wrongBy (g : GG) (F : Nat) (v1 : Int32)  (μ : Mm) : Ct g yX11_wrongBy cX11_wrongBy 4 (some (.int)) 6 cvI [.ref (gb g + 0), .int v1] μ (f_X11_wrongBy F v1 μ) := by
  refine ct_I (by decide +kernel) (Nat.le_of_ble_eq_true rfl) (show Go g RX11 cX11_wrongBy 4 .ireturn 6 cvI 0 [(0, .ref (gb g + 0)), (1, .int v1)] [] μ (f_X11_wrongBy F v1 μ) from ?_)
  unfold f_X11_wrongBy
  refine g_aload_n dX11_wrongBy_0 0 rfl ?_
  refine g_getR (b := mR μ 0) fl_X11_56 sh_0 (by decide) rfl rfl dX11_wrongBy_1 ?_
  refine g_gBk (fun b1 h2 => ?_)
  refine g_iload_n dX11_wrongBy_4 1 rfl ?_
  refine g_vZp [.int v1] [] mw_X11_227 (ok_X0_hasCell g b1 v1 h2 μ) (by omega) (bk_0 h2) (by decide) rfl rfl (Nat.le_of_ble_eq_true rfl) dX11_wrongBy_5 (fun x3 _ => ?_)
  refine g_ifneB (tgt := 17) dX11_wrongBy_8 (by decide) (fun _ => ?_) (fun _ => ?_)
  · refine g_aload_n dX11_wrongBy_17 0 rfl ?_
    refine g_iconst dX11_wrongBy_18 (v := 0) (by decide) ?_
    refine g_vR [.int 0] [] mw_X11_299 (ok_X11_spareAhead g F 0 μ) (by omega) sh_0 (by decide) rfl rfl (Nat.le_of_ble_eq_true rfl) dX11_wrongBy_19 (fun x4 μ6 _ => ?_)
    refine g_gBk (fun b7 h5 => ?_)
    refine g_astore_n dX11_wrongBy_22 rfl (by decide) (lv' := [(2, .ref (gb g + b7)), (0, .ref (gb g + 0)), (1, .int v1)]) rfl ?_
    refine g_iconst dX11_wrongBy_23 (v := 0) (by decide) ?_
    refine g_istore_n dX11_wrongBy_24 rfl (by decide) (lv' := [(3, .int 0), (2, .ref (gb g + b7)), (0, .ref (gb g + 0)), (1, .int v1)]) rfl ?_
    refine g_lv [2, 3, 1, 0] rfl ?_
    refine okL_X11_wrongBy_25 g F v1 b7 _ h5 (fun μ13 => ?_) F 0 μ6
    refine g_aload_n dX11_wrongBy_58 0 rfl ?_
    refine g_bipush dX11_wrongBy_59 (v := 8) (by decide) ?_
    refine g_vI [.int 8] [] mw_X11_161 (ok_X11_refuse g 8 μ13) (by omega) sh_0 (by decide) rfl rfl (Nat.le_of_ble_eq_true rfl) dX11_wrongBy_61 (fun x14 μ15 _ => ?_)
    exact g_ret dX11_wrongBy_64 rfl rfl
  · refine g_aload_n dX11_wrongBy_11 0 rfl ?_
    refine g_iconst dX11_wrongBy_12 (v := 2) (by decide) ?_
    refine g_vI [.int 2] [] mw_X11_161 (ok_X11_refuse g 2 μ) (by omega) sh_0 (by decide) rfl rfl (Nat.le_of_ble_eq_true rfl) dX11_wrongBy_13 (fun x16 μ17 _ => ?_)
    exact g_ret dX11_wrongBy_16 rfl rfl
set_option maxHeartbeats 4000000 in
set_option maxRecDepth 100000 in
theorem okL_X11_evenIn_8 (g : GG) (F : Nat) (r1 : Nat) (k : Mm → Option (Int32 × Mm)) (hr1 : Bk r1) (hk : ∀ (μ : Mm), Go g RX11 cX11_evenIn 3 .ireturn 6 cvI 40 [(0, .ref (gb g + 0))] [] μ (k μ)) : ∀ (n : Nat) (v2 : Int32) (μ : Mm), Go g RX11 cX11_evenIn 3 .ireturn 6 cvI 8 [(0, .ref (gb g + 0)), (1, .ref (gb g + r1)), (2, .int v2)] [] μ (L_X11_evenIn_8 F r1 k n v2 μ) := by
  intro n
  induction n with
  | zero =>
    intro v2 μ
    exact g_none
  | succ n ih =>
    intro v2 μ
    rw [L_X11_evenIn_8_s]
    refine g_iload_n dX11_evenIn_8 2 rfl ?_
    refine g_sipush dX11_evenIn_9 (v := 300) (by decide) ?_
    refine g_icmp_gt (tgt := 40) dX11_evenIn_12 (by decide) (fun _ => ?_) (fun _ => ?_)
    · refine g_lv [0] rfl ?_
      exact hk μ
    · refine g_aload_n dX11_evenIn_15 1 rfl ?_
      refine g_vIp [] [] mw_X11_224 (ok_X0_surplus g F r1 hr1 μ) (by omega) (bk_0 hr1) (by decide) rfl rfl (Nat.le_of_ble_eq_true rfl) dX11_evenIn_16 (fun x5 _ => ?_)
      refine g_if_ne (tgt := 28) dX11_evenIn_19 (by decide) (fun _ => ?_) (fun _ => ?_)
      · refine g_aload_n dX11_evenIn_28 1 rfl ?_
        refine g_iconst dX11_evenIn_29 (v := 1) (by decide) ?_
        refine g_vZ [.int 1] [] mw_X11_279 (ok_X0_passHours g F r1 1 hr1 μ) (by omega) (bk_0 hr1) (by decide) rfl rfl (Nat.le_of_ble_eq_true rfl) dX11_evenIn_30 (fun x6 μ7 _ => ?_)
        refine g_pop dX11_evenIn_33 rfl ?_
        refine g_iinc dX11_evenIn_34 2 rfl (v := (v2 + 1)) rfl (by decide) (lv' := [(2, .int (v2 + 1)), (0, .ref (gb g + 0)), (1, .ref (gb g + r1))]) rfl ?_
        refine g_goto (tgt := 8) dX11_evenIn_37 (by decide) ?_
        refine g_lv [1, 2, 0] rfl ?_
        exact ih (v2 + 1) μ7
      · refine g_aload_n dX11_evenIn_22 0 rfl ?_
        refine g_iload_n dX11_evenIn_23 2 rfl ?_
        refine g_vI [.int v2] [] mw_X11_175 (ok_X11_answer g v2 μ) (by omega) sh_0 (by decide) rfl rfl (Nat.le_of_ble_eq_true rfl) dX11_evenIn_24 (fun x8 μ9 _ => ?_)
        exact g_ret dX11_evenIn_27 rfl rfl
set_option maxHeartbeats 4000000 in
set_option maxRecDepth 100000 in
theorem ok_X11_evenIn (g : GG) (F : Nat)   (μ : Mm) : Ct g yX11_evenIn cX11_evenIn 3 (some (.int)) 6 cvI [.ref (gb g + 0)] μ (f_X11_evenIn F μ) := by
  refine ct_I (by decide +kernel) (Nat.le_of_ble_eq_true rfl) (show Go g RX11 cX11_evenIn 3 .ireturn 6 cvI 0 [(0, .ref (gb g + 0))] [] μ (f_X11_evenIn F μ) from ?_)
  unfold f_X11_evenIn
  refine g_aload_n dX11_evenIn_0 0 rfl ?_
  refine g_iconst dX11_evenIn_1 (v := 0) (by decide) ?_
  refine g_vR [.int 0] [] mw_X11_299 (ok_X11_spareAhead g F 0 μ) (by omega) sh_0 (by decide) rfl rfl (Nat.le_of_ble_eq_true rfl) dX11_evenIn_2 (fun x1 μ3 _ => ?_)
  refine g_gBk (fun b4 h2 => ?_)
  refine g_astore_n dX11_evenIn_5 rfl (by decide) (lv' := [(1, .ref (gb g + b4)), (0, .ref (gb g + 0))]) rfl ?_
  refine g_iconst dX11_evenIn_6 (v := 0) (by decide) ?_
  refine g_istore_n dX11_evenIn_7 rfl (by decide) (lv' := [(2, .int 0), (1, .ref (gb g + b4)), (0, .ref (gb g + 0))]) rfl ?_
  refine g_lv [2, 1, 0] rfl ?_
  refine okL_X11_evenIn_8 g F b4 _ h2 (fun μ10 => ?_) F 0 μ3
  refine g_aload_n dX11_evenIn_40 0 rfl ?_
  refine g_bipush dX11_evenIn_41 (v := 8) (by decide) ?_
  refine g_vI [.int 8] [] mw_X11_161 (ok_X11_refuse g 8 μ10) (by omega) sh_0 (by decide) rfl rfl (Nat.le_of_ble_eq_true rfl) dX11_evenIn_43 (fun x11 μ12 _ => ?_)
  exact g_ret dX11_evenIn_46 rfl rfl
