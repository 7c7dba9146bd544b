set_option maxHeartbeats 4000000 in
set_option maxRecDepth 100000 in
theorem ok_X6_takeOrder (g : GG) (F : Nat) (r1 : Nat) (r2 : Nat) (hr1 : Nt r1) (hr2 : Bk r2) (μ : Mm) : Ct g yX6_takeOrder cX6_takeOrder 7 (some (.boolean)) 6 cvZ [.ref (gb g + 13), .ref (gb g + r1), .ref (gb g + r2)] μ (f_X6_takeOrder F r1 r2 μ) := by
  refine ct_Z (by decide +kernel) (Nat.le_of_ble_eq_true rfl) (show Go g RX6 cX6_takeOrder 7 .ireturn 6 cvZ 0 [(0, .ref (gb g + 13)), (1, .ref (gb g + r1)), (2, .ref (gb g + r2))] [] μ (f_X6_takeOrder F r1 r2 μ) from ?_)
  unfold f_X6_takeOrder
  refine g_aload_n dX6_takeOrder_0 0 rfl ?_
  refine g_getR (b := 9) fl_X6_15 sh_13 (by decide) rfl rfl dX6_takeOrder_1 ?_
  refine g_vIp [] [] mw_X6_36 (ok_X9_setWord g μ) (by omega) sh_9 (by decide) rfl rfl (Nat.le_of_ble_eq_true rfl) dX6_takeOrder_4 (fun x1 _ => ?_)
  refine g_istore_n dX6_takeOrder_7 rfl (by decide) (lv' := [(3, .int x1), (0, .ref (gb g + 13)), (1, .ref (gb g + r1)), (2, .ref (gb g + r2))]) rfl ?_
  refine g_iload_n dX6_takeOrder_8 0 rfl ?_
  refine g_sZp [.int x1] [] mw_X6_73 (ok_X6_beginsOrder g x1 μ) (by omega) rfl rfl (Nat.le_of_ble_eq_true rfl) dX6_takeOrder_9 (fun x2 _ => ?_)
  refine g_ifneB (tgt := 23) dX6_takeOrder_12 (by decide) (fun _ => ?_) (fun _ => ?_)
  · refine g_aload_n dX6_takeOrder_23 2 rfl ?_
    refine g_getI fl_X6_77 (nt_0 hr1) (by decide) rfl dX6_takeOrder_24 ?_
    refine g_bipush dX6_takeOrder_27 (v := 30) (by decide) ?_
    refine g_icmp_lt (tgt := 42) dX6_takeOrder_29 (by decide) (fun _ => ?_) (fun _ => ?_)
    · refine g_iload_n dX6_takeOrder_42 0 rfl ?_
      refine g_bipush dX6_takeOrder_43 (v := 21) (by decide) ?_
      have hJ46 : ∀ (w5 : Int32), w5 = (if x1 = 21 then (1 : Int32) else (if x1 = 25 then (1 : Int32) else 0)) → Go g RX6 cX6_takeOrder 7 .ireturn 6 cvZ 59 [(0, .ref (gb g + 13)), (1, .ref (gb g + r1)), (2, .ref (gb g + r2)), (3, .int x1)] [.int w5] μ (if (if x1 = 21 then (1 : Int32) else (if x1 = 25 then (1 : Int32) else 0)) = 0 then bd (f_X5_addItem r1 x1 (sI μ r1 1 ((mI μ r1 1) + (1 : Int32)))) fun x6 μ7 => jn (fun (a10 : Mm) => (f_X9_advance F a10).bind fun μ12 => jn (fun (a15 : Int32 × Mm) => (if a15.1 = 0 then some (false, a15.2) else bd (f_X9_takeEndOfPart F a15.2) fun x16 μ17 => (if x16 = true then some (true, μ17) else some (false, μ17)))) fun K14 => (if x1 = 21 then bd (f_X6_takeTest F r1 r2 x6 μ12) fun x21 μ22 => K14 ((bI x21), μ22) else bd (f_X6_takeRest F r1 r2 x6 μ12) fun x19 μ20 => K14 ((bI x19), μ20))) fun K9 => (if (if x1 = 21 then (1 : Int32) else (if x1 = 25 then (1 : Int32) else 0)) = 0 then K9 μ7 else (wrA μ7 14 3 (mI μ7 13 2) x6).bind fun μ24 => K9 (sI μ24 13 2 ((mI μ24 13 2) + (1 : Int32)))) else (if (mI μ 13 2) < 3 then bd (f_X5_addItem r1 x1 (sI μ r1 1 ((mI μ r1 1) + (1 : Int32)))) fun x25 μ26 => jn (fun (a29 : Mm) => (f_X9_advance F a29).bind fun μ31 => jn (fun (a34 : Int32 × Mm) => (if a34.1 = 0 then some (false, a34.2) else bd (f_X9_takeEndOfPart F a34.2) fun x35 μ36 => (if x35 = true then some (true, μ36) else some (false, μ36)))) fun K33 => (if x1 = 21 then bd (f_X6_takeTest F r1 r2 x25 μ31) fun x40 μ41 => K33 ((bI x40), μ41) else bd (f_X6_takeRest F r1 r2 x25 μ31) fun x38 μ39 => K33 ((bI x38), μ39))) fun K28 => (if (if x1 = 21 then (1 : Int32) else (if x1 = 25 then (1 : Int32) else 0)) = 0 then K28 μ26 else (wrA μ26 14 3 (mI μ26 13 2) x25).bind fun μ43 => K28 (sI μ43 13 2 ((mI μ43 13 2) + (1 : Int32)))) else bd (f_X9_refuseToken 7 μ) fun x44 μ45 => some (x44, μ45))) := by
        intro w5 ew5
        subst ew5
        refine g_istore dX6_takeOrder_59 (by decide) (lv' := [(4, .int (if x1 = 21 then (1 : Int32) else (if x1 = 25 then (1 : Int32) else 0))), (0, .ref (gb g + 13)), (1, .ref (gb g + r1)), (2, .ref (gb g + r2)), (3, .int x1)]) rfl ?_
        refine g_iload dX6_takeOrder_61 0 rfl ?_
        refine g_if_eq (tgt := 84) dX6_takeOrder_63 (by decide) (fun _ => ?_) (fun _ => ?_)
        · refine g_aload_n dX6_takeOrder_84 2 rfl ?_
          refine g_dup dX6_takeOrder_85 rfl ?_
          refine g_getI fl_X6_77 (nt_0 hr1) (by decide) rfl dX6_takeOrder_86 ?_
          refine g_iconst dX6_takeOrder_89 (v := 1) (by decide) ?_
          refine g_iadd dX6_takeOrder_90 ?_
          refine g_putI fl_X6_77 (nt_0 hr1) (by decide) rfl dX6_takeOrder_91 ?_
          refine g_aload_n dX6_takeOrder_94 2 rfl ?_
          refine g_iload_n dX6_takeOrder_95 4 rfl ?_
          refine g_vI [.int x1] [] mw_X6_59 (ok_X5_addItem g r1 x1 hr1 (sI μ r1 1 ((mI μ r1 1) + (1 : Int32)))) (by omega) (nt_0 hr1) (by decide) rfl rfl (Nat.le_of_ble_eq_true rfl) dX6_takeOrder_96 (fun x6 μ7 _ => ?_)
          refine g_istore dX6_takeOrder_99 (by decide) (lv' := [(5, .int x6), (4, .int (if x1 = 21 then (1 : Int32) else (if x1 = 25 then (1 : Int32) else 0))), (0, .ref (gb g + 13)), (1, .ref (gb g + r1)), (2, .ref (gb g + r2)), (3, .int x1)]) rfl ?_
          refine g_iload dX6_takeOrder_101 1 rfl ?_
          refine g_jn (fun (a10 : Mm) oo => Go g RX6 cX6_takeOrder 7 .ireturn 6 cvZ 127 [(0, .ref (gb g + 13)), (1, .ref (gb g + r1)), (2, .ref (gb g + r2)), (3, .int x1), (5, .int x6)] [] a10 oo) (fun a10 => ?_) (fun K9 hF23 => ?_)
          · refine g_aload_n dX6_takeOrder_127 0 rfl ?_
            refine g_getR (b := 9) fl_X6_15 sh_13 (by decide) rfl rfl dX6_takeOrder_128 ?_
            refine g_vV [] [] mw_X6_56 (ok_X9_advance g F a10) (by omega) sh_9 (by decide) rfl rfl (Nat.le_of_ble_eq_true rfl) dX6_takeOrder_131 (fun μ12 _ => ?_)
            refine g_iload_n dX6_takeOrder_134 3 rfl ?_
            refine g_bipush dX6_takeOrder_135 (v := 21) (by decide) ?_
            refine g_jn (fun (a15 : Int32 × Mm) oo => Go g RX6 cX6_takeOrder 7 .ireturn 6 cvZ 159 [(0, .ref (gb g + 13))] [.int a15.1] a15.2 oo) (fun a15 => ?_) (fun K14 hF18 => ?_)
            · refine g_istore dX6_takeOrder_159 (by decide) (lv' := [(6, .int a15.1), (0, .ref (gb g + 13))]) rfl ?_
              refine g_iload dX6_takeOrder_161 0 rfl ?_
              refine g_if_eq (tgt := 180) dX6_takeOrder_163 (by decide) (fun _ => ?_) (fun _ => ?_)
              · refine g_iconst dX6_takeOrder_180 (v := 0) (by decide) ?_
                exact g_ret dX6_takeOrder_181 rfl rfl
              · refine g_aload_n dX6_takeOrder_166 1 rfl ?_
                refine g_getR (b := 9) fl_X6_15 sh_13 (by decide) rfl rfl dX6_takeOrder_167 ?_
                refine g_vZ [] [] mw_X6_66 (ok_X9_takeEndOfPart g F a15.2) (by omega) sh_9 (by decide) rfl rfl (Nat.le_of_ble_eq_true rfl) dX6_takeOrder_170 (fun x16 μ17 _ => ?_)
                refine g_ifeqB (tgt := 180) dX6_takeOrder_173 (by decide) (fun _ => ?_) (fun _ => ?_)
                · refine g_iconst dX6_takeOrder_180 (v := 0) (by decide) ?_
                  exact g_ret dX6_takeOrder_181 rfl rfl
                · refine g_iconst dX6_takeOrder_176 (v := 1) (by decide) ?_
                  refine g_goto (tgt := 181) dX6_takeOrder_177 (by decide) ?_
                  exact g_ret dX6_takeOrder_181 rfl rfl
            · refine g_icmp_ne (tgt := 151) dX6_takeOrder_137 (by decide) (fun _ => ?_) (fun _ => ?_)
              · refine g_aload_n dX6_takeOrder_151 0 rfl ?_
                refine g_aload_n dX6_takeOrder_152 1 rfl ?_
                refine g_aload_n dX6_takeOrder_153 2 rfl ?_
                refine g_iload dX6_takeOrder_154 4 rfl ?_
                refine g_vZ [.ref (gb g + r1), .ref (gb g + r2), .int x6] [] mw_X6_87 (ok_X6_takeRest g F r1 r2 x6 hr1 hr2 μ12) (by omega) sh_13 (by decide) rfl rfl (Nat.le_of_ble_eq_true rfl) dX6_takeOrder_156 (fun x19 μ20 _ => ?_)
                refine g_lv [0] rfl ?_
                exact hF18 ((bI x19), μ20)
              · refine g_aload_n dX6_takeOrder_140 0 rfl ?_
                refine g_aload_n dX6_takeOrder_141 1 rfl ?_
                refine g_aload_n dX6_takeOrder_142 2 rfl ?_
                refine g_iload dX6_takeOrder_143 4 rfl ?_
                refine g_vZ [.ref (gb g + r1), .ref (gb g + r2), .int x6] [] mw_X6_83 (ok_X6_takeTest g F r1 r2 x6 hr1 hr2 μ12) (by omega) sh_13 (by decide) rfl rfl (Nat.le_of_ble_eq_true rfl) dX6_takeOrder_145 (fun x21 μ22 _ => ?_)
                refine g_goto (tgt := 159) dX6_takeOrder_148 (by decide) ?_
                refine g_lv [0] rfl ?_
                exact hF18 ((bI x21), μ22)
          · refine g_if_eq (tgt := 127) dX6_takeOrder_103 (by decide) (fun _ => ?_) (fun _ => ?_)
            · refine g_lv [2, 3, 4, 5, 0] rfl ?_
              exact hF23 μ7
            · refine g_aload_n dX6_takeOrder_106 2 rfl ?_
              refine g_getR (b := 14) fl_X6_11 sh_13 (by decide) rfl rfl dX6_takeOrder_107 ?_
              refine g_aload_n dX6_takeOrder_110 2 rfl ?_
              refine g_getI fl_X6_19 sh_13 (by decide) rfl dX6_takeOrder_111 ?_
              refine g_iload dX6_takeOrder_114 0 rfl ?_
              refine g_iastore sh_14 dX6_takeOrder_116 (fun μ24 => ?_)
              refine g_aload_n dX6_takeOrder_117 2 rfl ?_
              refine g_dup dX6_takeOrder_118 rfl ?_
              refine g_getI fl_X6_19 sh_13 (by decide) rfl dX6_takeOrder_119 ?_
              refine g_iconst dX6_takeOrder_122 (v := 1) (by decide) ?_
              refine g_iadd dX6_takeOrder_123 ?_
              refine g_putI fl_X6_19 sh_13 (by decide) rfl dX6_takeOrder_124 ?_
              refine g_lv [2, 3, 4, 5, 0] rfl ?_
              exact hF23 (sI μ24 13 2 ((mI μ24 13 2) + (1 : Int32)))
        · refine g_aload_n dX6_takeOrder_66 1 rfl ?_
          refine g_getI fl_X6_19 sh_13 (by decide) rfl dX6_takeOrder_67 ?_
          refine g_iconst dX6_takeOrder_70 (v := 3) (by decide) ?_
          refine g_icmp_lt (tgt := 84) dX6_takeOrder_71 (by decide) (fun _ => ?_) (fun _ => ?_)
          · refine g_aload_n dX6_takeOrder_84 2 rfl ?_
            refine g_dup dX6_takeOrder_85 rfl ?_
            refine g_getI fl_X6_77 (nt_0 hr1) (by decide) rfl dX6_takeOrder_86 ?_
            refine g_iconst dX6_takeOrder_89 (v := 1) (by decide) ?_
            refine g_iadd dX6_takeOrder_90 ?_
            refine g_putI fl_X6_77 (nt_0 hr1) (by decide) rfl dX6_takeOrder_91 ?_
            refine g_aload_n dX6_takeOrder_94 2 rfl ?_
            refine g_iload_n dX6_takeOrder_95 4 rfl ?_
            refine g_vI [.int x1] [] mw_X6_59 (ok_X5_addItem g r1 x1 hr1 (sI μ r1 1 ((mI μ r1 1) + (1 : Int32)))) (by omega) (nt_0 hr1) (by decide) rfl rfl (Nat.le_of_ble_eq_true rfl) dX6_takeOrder_96 (fun x25 μ26 _ => ?_)
            refine g_istore dX6_takeOrder_99 (by decide) (lv' := [(5, .int x25), (4, .int (if x1 = 21 then (1 : Int32) else (if x1 = 25 then (1 : Int32) else 0))), (0, .ref (gb g + 13)), (1, .ref (gb g + r1)), (2, .ref (gb g + r2)), (3, .int x1)]) rfl ?_
            refine g_iload dX6_takeOrder_101 1 rfl ?_
            refine g_jn (fun (a29 : Mm) oo => Go g RX6 cX6_takeOrder 7 .ireturn 6 cvZ 127 [(0, .ref (gb g + 13)), (1, .ref (gb g + r1)), (2, .ref (gb g + r2)), (3, .int x1), (5, .int x25)] [] a29 oo) (fun a29 => ?_) (fun K28 hF42 => ?_)
            · refine g_aload_n dX6_takeOrder_127 0 rfl ?_
              refine g_getR (b := 9) fl_X6_15 sh_13 (by decide) rfl rfl dX6_takeOrder_128 ?_
              refine g_vV [] [] mw_X6_56 (ok_X9_advance g F a29) (by omega) sh_9 (by decide) rfl rfl (Nat.le_of_ble_eq_true rfl) dX6_takeOrder_131 (fun μ31 _ => ?_)
              refine g_iload_n dX6_takeOrder_134 3 rfl ?_
              refine g_bipush dX6_takeOrder_135 (v := 21) (by decide) ?_
              refine g_jn (fun (a34 : Int32 × Mm) oo => Go g RX6 cX6_takeOrder 7 .ireturn 6 cvZ 159 [(0, .ref (gb g + 13))] [.int a34.1] a34.2 oo) (fun a34 => ?_) (fun K33 hF37 => ?_)
              · refine g_istore dX6_takeOrder_159 (by decide) (lv' := [(6, .int a34.1), (0, .ref (gb g + 13))]) rfl ?_
                refine g_iload dX6_takeOrder_161 0 rfl ?_
                refine g_if_eq (tgt := 180) dX6_takeOrder_163 (by decide) (fun _ => ?_) (fun _ => ?_)
                · refine g_iconst dX6_takeOrder_180 (v := 0) (by decide) ?_
                  exact g_ret dX6_takeOrder_181 rfl rfl
                · refine g_aload_n dX6_takeOrder_166 1 rfl ?_
                  refine g_getR (b := 9) fl_X6_15 sh_13 (by decide) rfl rfl dX6_takeOrder_167 ?_
                  refine g_vZ [] [] mw_X6_66 (ok_X9_takeEndOfPart g F a34.2) (by omega) sh_9 (by decide) rfl rfl (Nat.le_of_ble_eq_true rfl) dX6_takeOrder_170 (fun x35 μ36 _ => ?_)
                  refine g_ifeqB (tgt := 180) dX6_takeOrder_173 (by decide) (fun _ => ?_) (fun _ => ?_)
                  · refine g_iconst dX6_takeOrder_180 (v := 0) (by decide) ?_
                    exact g_ret dX6_takeOrder_181 rfl rfl
                  · refine g_iconst dX6_takeOrder_176 (v := 1) (by decide) ?_
                    refine g_goto (tgt := 181) dX6_takeOrder_177 (by decide) ?_
                    exact g_ret dX6_takeOrder_181 rfl rfl
              · refine g_icmp_ne (tgt := 151) dX6_takeOrder_137 (by decide) (fun _ => ?_) (fun _ => ?_)
                · refine g_aload_n dX6_takeOrder_151 0 rfl ?_
                  refine g_aload_n dX6_takeOrder_152 1 rfl ?_
                  refine g_aload_n dX6_takeOrder_153 2 rfl ?_
                  refine g_iload dX6_takeOrder_154 4 rfl ?_
                  refine g_vZ [.ref (gb g + r1), .ref (gb g + r2), .int x25] [] mw_X6_87 (ok_X6_takeRest g F r1 r2 x25 hr1 hr2 μ31) (by omega) sh_13 (by decide) rfl rfl (Nat.le_of_ble_eq_true rfl) dX6_takeOrder_156 (fun x38 μ39 _ => ?_)
                  refine g_lv [0] rfl ?_
                  exact hF37 ((bI x38), μ39)
                · refine g_aload_n dX6_takeOrder_140 0 rfl ?_
                  refine g_aload_n dX6_takeOrder_141 1 rfl ?_
                  refine g_aload_n dX6_takeOrder_142 2 rfl ?_
                  refine g_iload dX6_takeOrder_143 4 rfl ?_
                  refine g_vZ [.ref (gb g + r1), .ref (gb g + r2), .int x25] [] mw_X6_83 (ok_X6_takeTest g F r1 r2 x25 hr1 hr2 μ31) (by omega) sh_13 (by decide) rfl rfl (Nat.le_of_ble_eq_true rfl) dX6_takeOrder_145 (fun x40 μ41 _ => ?_)
                  refine g_goto (tgt := 159) dX6_takeOrder_148 (by decide) ?_
                  refine g_lv [0] rfl ?_
                  exact hF37 ((bI x40), μ41)
            · refine g_if_eq (tgt := 127) dX6_takeOrder_103 (by decide) (fun _ => ?_) (fun _ => ?_)
              · refine g_lv [2, 3, 4, 5, 0] rfl ?_
                exact hF42 μ26
              · refine g_aload_n dX6_takeOrder_106 2 rfl ?_
                refine g_getR (b := 14) fl_X6_11 sh_13 (by decide) rfl rfl dX6_takeOrder_107 ?_
                refine g_aload_n dX6_takeOrder_110 2 rfl ?_
                refine g_getI fl_X6_19 sh_13 (by decide) rfl dX6_takeOrder_111 ?_
                refine g_iload dX6_takeOrder_114 0 rfl ?_
                refine g_iastore sh_14 dX6_takeOrder_116 (fun μ43 => ?_)
                refine g_aload_n dX6_takeOrder_117 2 rfl ?_
                refine g_dup dX6_takeOrder_118 rfl ?_
                refine g_getI fl_X6_19 sh_13 (by decide) rfl dX6_takeOrder_119 ?_
                refine g_iconst dX6_takeOrder_122 (v := 1) (by decide) ?_
                refine g_iadd dX6_takeOrder_123 ?_
                refine g_putI fl_X6_19 sh_13 (by decide) rfl dX6_takeOrder_124 ?_
                refine g_lv [2, 3, 4, 5, 0] rfl ?_
                exact hF42 (sI μ43 13 2 ((mI μ43 13 2) + (1 : Int32)))
          · refine g_aload_n dX6_takeOrder_74 1 rfl ?_
            refine g_getR (b := 9) fl_X6_15 sh_13 (by decide) rfl rfl dX6_takeOrder_75 ?_
            refine g_bipush dX6_takeOrder_78 (v := 7) (by decide) ?_
            refine g_vZ [.int 7] [] mw_X6_80 (ok_X9_refuseToken g 7 μ) (by omega) sh_9 (by decide) rfl rfl (Nat.le_of_ble_eq_true rfl) dX6_takeOrder_80 (fun x44 μ45 _ => ?_)
            exact g_ret dX6_takeOrder_83 rfl rfl
      refine g_same (g_icmp_eq (tgt := 54) dX6_takeOrder_45 (by decide) (fun c3 => ?_) (fun c3 => ?_))
      · refine g_iconst dX6_takeOrder_54 (v := 1) (by decide) ?_
        refine g_goto (tgt := 59) dX6_takeOrder_55 (by decide) ?_
        refine g_lv [1, 2, 3, 0] rfl ?_
        exact hJ46 _ (by rw [if_pos c3])
      · refine g_iload_n dX6_takeOrder_48 0 rfl ?_
        refine g_bipush dX6_takeOrder_49 (v := 25) (by decide) ?_
        refine g_same (g_icmp_ne (tgt := 58) dX6_takeOrder_51 (by decide) (fun c4 => ?_) (fun c4 => ?_))
        · refine g_iconst dX6_takeOrder_58 (v := 0) (by decide) ?_
          refine g_lv [1, 2, 3, 0] rfl ?_
          exact hJ46 _ (by rw [if_neg c3, if_neg c4])
        · refine g_iconst dX6_takeOrder_54 (v := 1) (by decide) ?_
          refine g_goto (tgt := 59) dX6_takeOrder_55 (by decide) ?_
          refine g_lv [1, 2, 3, 0] rfl ?_
          exact hJ46 _ (by rw [if_neg c3, if_pos c4])
    · refine g_aload_n dX6_takeOrder_32 1 rfl ?_
      refine g_getR (b := 9) fl_X6_15 sh_13 (by decide) rfl rfl dX6_takeOrder_33 ?_
      refine g_bipush dX6_takeOrder_36 (v := 6) (by decide) ?_
      refine g_vZ [.int 6] [] mw_X6_80 (ok_X9_refuseToken g 6 μ) (by omega) sh_9 (by decide) rfl rfl (Nat.le_of_ble_eq_true rfl) dX6_takeOrder_38 (fun x47 μ48 _ => ?_)
      exact g_ret dX6_takeOrder_41 rfl rfl
  · refine g_aload_n dX6_takeOrder_15 1 rfl ?_
    refine g_getR (b := 9) fl_X6_15 sh_13 (by decide) rfl rfl dX6_takeOrder_16 ?_
    refine g_vZ [] [] mw_X6_48 (ok_X9_refuseUnfit g μ) (by omega) sh_9 (by decide) rfl rfl (Nat.le_of_ble_eq_true rfl) dX6_takeOrder_19 (fun x49 μ50 _ => ?_)
    exact g_ret dX6_takeOrder_22 rfl rfl
set_option maxHeartbeats 4000000 in
set_option maxRecDepth 100000 in
theorem okL_X6_fill_20 (g : GG) (F : Nat) (r1 : Nat) (r2 : Nat) (k : Mm → Option (Bool × Mm)) (hr1 : Nt r1) (hr2 : Bk r2) (hk : ∀ (μ : Mm), Go g RX6 cX6_fill 6 .ireturn 7 cvZ 79 [(0, .ref (gb g + 13)), (1, .ref (gb g + r1))] [] μ (k μ)) : ∀ (n : Nat) (v4 : Int32) (μ : Mm), Go g RX6 cX6_fill 6 .ireturn 7 cvZ 20 [(0, .ref (gb g + 13)), (1, .ref (gb g + r1)), (2, .ref (gb g + r2)), (4, .int v4)] [] μ (L_X6_fill_20 F r1 r2 k n v4 μ) := by
  intro n
  induction n with
  | zero =>
    intro v4 μ
    exact g_none
  | succ n ih =>
    intro v4 μ
    rw [L_X6_fill_20_s]
    refine g_iload dX6_fill_20 3 rfl ?_
    refine g_sipush dX6_fill_22 (v := 300) (by decide) ?_
    refine g_icmp_ge (tgt := 79) dX6_fill_25 (by decide) (fun _ => ?_) (fun _ => ?_)
    · refine g_lv [0, 1] rfl ?_
      exact hk μ
    · refine g_aload_n dX6_fill_28 0 rfl ?_
      refine g_getR (b := 9) fl_X6_15 sh_13 (by decide) rfl rfl dX6_fill_29 ?_
      refine g_getI fl_X6_33 sh_9 (by decide) rfl dX6_fill_32 ?_
      refine g_if_eq (tgt := 79) dX6_fill_35 (by decide) (fun _ => ?_) (fun _ => ?_)
      · refine g_lv [0, 1] rfl ?_
        exact hk μ
      · refine g_aload_n dX6_fill_38 0 rfl ?_
        refine g_getR (b := 9) fl_X6_15 sh_13 (by decide) rfl rfl dX6_fill_39 ?_
        refine g_vIp [] [] mw_X6_36 (ok_X9_setWord g μ) (by omega) sh_9 (by decide) rfl rfl (Nat.le_of_ble_eq_true rfl) dX6_fill_42 (fun x5 _ => ?_)
        refine g_bipush dX6_fill_45 (v := 26) (by decide) ?_
        refine g_jn (fun (a8 : Int32 × Mm) oo => Go g RX6 cX6_fill 6 .ireturn 7 cvZ 64 [(0, .ref (gb g + 13)), (1, .ref (gb g + r1)), (2, .ref (gb g + r2)), (4, .int v4)] [.int a8.1] a8.2 oo) (fun a8 => ?_) (fun K7 hF9 => ?_)
        · refine g_istore dX6_fill_64 (by decide) (lv' := [(5, .int a8.1), (0, .ref (gb g + 13)), (1, .ref (gb g + r1)), (2, .ref (gb g + r2)), (4, .int v4)]) rfl ?_
          refine g_iload dX6_fill_66 0 rfl ?_
          refine g_if_ne (tgt := 73) dX6_fill_68 (by decide) (fun _ => ?_) (fun _ => ?_)
          · refine g_iinc dX6_fill_73 4 rfl (v := (v4 + 1)) rfl (by decide) (lv' := [(4, .int (v4 + 1)), (5, .int a8.1), (0, .ref (gb g + 13)), (1, .ref (gb g + r1)), (2, .ref (gb g + r2))]) rfl ?_
            refine g_goto (tgt := 20) dX6_fill_76 (by decide) ?_
            refine g_lv [2, 3, 4, 0] rfl ?_
            exact ih (v4 + 1) a8.2
          · refine g_iconst dX6_fill_71 (v := 0) (by decide) ?_
            exact g_ret dX6_fill_72 rfl rfl
        · refine g_icmp_ne (tgt := 58) dX6_fill_47 (by decide) (fun _ => ?_) (fun _ => ?_)
          · refine g_aload_n dX6_fill_58 0 rfl ?_
            refine g_aload_n dX6_fill_59 1 rfl ?_
            refine g_aload_n dX6_fill_60 2 rfl ?_
            refine g_vZ [.ref (gb g + r1), .ref (gb g + r2)] [] mw_X6_44 (ok_X6_takeOrder g F r1 r2 hr1 hr2 μ) (by omega) sh_13 (by decide) rfl rfl (Nat.le_of_ble_eq_true rfl) dX6_fill_61 (fun x10 μ11 _ => ?_)
            refine g_lv [0, 1, 2, 3] rfl ?_
            exact hF9 ((bI x10), μ11)
          · refine g_aload_n dX6_fill_50 0 rfl ?_
            refine g_aload_n dX6_fill_51 1 rfl ?_
            refine g_vZ [.ref (gb g + r1)] [] mw_X6_40 (ok_X6_takeEnd g F r1 hr1 μ) (by omega) sh_13 (by decide) rfl rfl (Nat.le_of_ble_eq_true rfl) dX6_fill_52 (fun x12 μ13 _ => ?_)
            refine g_goto (tgt := 64) dX6_fill_55 (by decide) ?_
            refine g_lv [0, 1, 2, 3] rfl ?_
            exact hF9 ((bI x12), μ13)
set_option maxHeartbeats 4000000 in
set_option maxRecDepth 100000 in
theorem ok_X6_fill (g : GG) (F : Nat) (r1 : Nat) (r2 : Nat) (v3 : Int32) (hr1 : Nt r1) (hr2 : Bk r2) (μ : Mm) : Ct g yX6_fill cX6_fill 6 (some (.boolean)) 7 cvZ [.ref (gb g + 13), .ref (gb g + r1), .ref (gb g + r2), .int v3] μ (f_X6_fill F r1 r2 v3 μ) := by
  refine ct_Z (by decide +kernel) (Nat.le_of_ble_eq_true rfl) (show Go g RX6 cX6_fill 6 .ireturn 7 cvZ 0 [(0, .ref (gb g + 13)), (1, .ref (gb g + r1)), (2, .ref (gb g + r2)), (3, .int v3)] [] μ (f_X6_fill F r1 r2 v3 μ) from ?_)
  unfold f_X6_fill
  refine g_aload_n dX6_fill_0 0 rfl ?_
  refine g_iconst dX6_fill_1 (v := 0) (by decide) ?_
  refine g_putI fl_X6_19 sh_13 (by decide) rfl dX6_fill_2 ?_
  refine g_aload_n dX6_fill_5 1 rfl ?_
  refine g_vV [] [] mw_X6_23 (ok_X5_empty g r1 hr1 (sI μ 13 2 0)) (by omega) (nt_0 hr1) (by decide) rfl rfl (Nat.le_of_ble_eq_true rfl) dX6_fill_6 (fun μ2 _ => ?_)
  refine g_aload_n dX6_fill_9 0 rfl ?_
  refine g_getR (b := 9) fl_X6_15 sh_13 (by decide) rfl rfl dX6_fill_10 ?_
  refine g_iload_n dX6_fill_13 3 rfl ?_
  refine g_vV [.int v3] [] mw_X6_28 (ok_X9_open g F v3 μ2) (by omega) sh_9 (by decide) rfl rfl (Nat.le_of_ble_eq_true rfl) dX6_fill_14 (fun μ4 _ => ?_)
  refine g_iconst dX6_fill_17 (v := 0) (by decide) ?_
  refine g_istore dX6_fill_18 (by decide) (lv' := [(4, .int 0), (0, .ref (gb g + 13)), (1, .ref (gb g + r1)), (2, .ref (gb g + r2)), (3, .int v3)]) rfl ?_
  refine g_lv [1, 2, 3, 0] rfl ?_
  refine okL_X6_fill_20 g F r1 r2 _ hr1 hr2 (fun μ14 => ?_) F 0 μ4
  refine g_aload_n dX6_fill_79 0 rfl ?_
  refine g_getI fl_X6_19 sh_13 (by decide) rfl dX6_fill_80 ?_
  refine g_if_le (tgt := 94) dX6_fill_83 (by decide) (fun _ => ?_) (fun _ => ?_)
  · refine g_aload_n dX6_fill_94 1 rfl ?_
    refine g_iconst dX6_fill_95 (v := 1) (by decide) ?_
    refine g_putZ fl_X6_52 (nt_0 hr1) (by decide) rfl dX6_fill_96 ?_
    refine g_iconst dX6_fill_99 (v := 1) (by decide) ?_
    exact g_ret dX6_fill_100 rfl rfl
  · refine g_aload_n dX6_fill_86 0 rfl ?_
    refine g_getR (b := 9) fl_X6_15 sh_13 (by decide) rfl rfl dX6_fill_87 ?_
    refine g_vZ [] [] mw_X6_48 (ok_X9_refuseUnfit g μ14) (by omega) sh_9 (by decide) rfl rfl (Nat.le_of_ble_eq_true rfl) dX6_fill_90 (fun x15 μ16 _ => ?_)
    exact g_ret dX6_fill_93 rfl rfl
set_option maxHeartbeats 4000000 in
set_option maxRecDepth 100000 in
theorem ok_X7_setPair (g : GG) (v1 : Int32) (v2 : Int32)  (μ : Mm) : Ct g yX7_setPair cX7_setPair 4 none 1 cvV [.ref (gb g + 131), .int v1, .int v2] μ (f_X7_setPair v1 v2 μ) := by
  refine ct_V (by decide +kernel) (Nat.le_of_ble_eq_true rfl) (show Go g RX7 cX7_setPair 4 .return_ 1 cvV 0 [(0, .ref (gb g + 131)), (1, .int v1), (2, .int v2)] [] μ (f_X7_setPair v1 v2 μ) from ?_)
  unfold f_X7_setPair
  refine g_iload_n dX7_setPair_0 2 rfl ?_
  refine g_bipush dX7_setPair_1 (v := 10) (by decide) ?_
  refine g_idiv dX7_setPair_3 ?_
  refine g_istore_n dX7_setPair_4 rfl (by decide) (lv' := [(3, .int (v2 / (10 : Int32))), (0, .ref (gb g + 131)), (1, .int v1), (2, .int v2)]) rfl ?_
  refine g_iload_n dX7_setPair_5 0 rfl ?_
  refine g_bipush dX7_setPair_6 (v := 10) (by decide) ?_
  refine g_jn (fun (a4 : Mm) oo => Go g RX7 cX7_setPair 4 .return_ 1 cvV 24 [(0, .ref (gb g + 131)), (1, .int v1), (2, .int v2)] [] a4 oo) (fun a4 => ?_) (fun K3 hF6 => ?_)
  · refine g_aload_n dX7_setPair_24 0 rfl ?_
    refine g_getR (b := 132) fl_X7_9 sh_131 (by decide) rfl rfl dX7_setPair_25 ?_
    refine g_iload_n dX7_setPair_28 1 rfl ?_
    refine g_iload_n dX7_setPair_29 2 rfl ?_
    refine g_bipush dX7_setPair_30 (v := 10) (by decide) ?_
    refine g_irem dX7_setPair_32 ?_
    refine g_iastore sh_132 dX7_setPair_33 (fun μ5 => ?_)
    exact g_ret dX7_setPair_34 rfl rfl
  · refine g_icmp_eq (tgt := 24) dX7_setPair_8 (by decide) (fun _ => ?_) (fun _ => ?_)
    · refine g_lv [1, 2, 3] rfl ?_
      exact hF6 μ
    · refine g_iload_n dX7_setPair_11 2 rfl ?_
      refine g_if_le (tgt := 24) dX7_setPair_12 (by decide) (fun _ => ?_) (fun _ => ?_)
      · refine g_lv [1, 2, 3] rfl ?_
        exact hF6 μ
      · refine g_aload_n dX7_setPair_15 1 rfl ?_
        refine g_getR (b := 132) fl_X7_9 sh_131 (by decide) rfl rfl dX7_setPair_16 ?_
        refine g_iload_n dX7_setPair_19 2 rfl ?_
        refine g_iconst dX7_setPair_20 (v := 1) (by decide) ?_
        refine g_isub dX7_setPair_21 ?_
        refine g_iload_n dX7_setPair_22 0 rfl ?_
        refine g_iastore sh_132 dX7_setPair_23 (fun μ7 => ?_)
        refine g_lv [1, 2, 3] rfl ?_
        exact hF6 μ7
set_option maxHeartbeats 4000000 in
set_option maxRecDepth 100000 in
theorem okL_X7_goOn_19 (g : GG) (F : Nat) (r1 : Nat) (v2 : Int32) (v3 : Int32) (k : Mm → Option (Mm)) (hr1 : Bk r1) (hk : ∀ (μ : Mm), Go g RX7 cX7_goOn 7 .return_ 4 cvV 136 [] [] μ (k μ)) : ∀ (n : Nat) (v4 : Int32) (μ : Mm), Go g RX7 cX7_goOn 7 .return_ 4 cvV 19 [(0, .ref (gb g + 131)), (1, .ref (gb g + r1)), (2, .int v2), (3, .int v3), (4, .int v4)] [] μ (L_X7_goOn_19 F r1 v2 v3 k n v4 μ) := by
  intro n
  induction n with
  | zero =>
    intro v4 μ
    exact g_none
  | succ n ih =>
    intro v4 μ
    rw [L_X7_goOn_19_s]
    refine g_iload dX7_goOn_19 4 rfl ?_
    refine g_bipush dX7_goOn_21 (v := 9) (by decide) ?_
    refine g_icmp_gt (tgt := 136) dX7_goOn_23 (by decide) (fun _ => ?_) (fun _ => ?_)
    · refine g_lv [] rfl ?_
      exact hk μ
    · refine g_aload_n dX7_goOn_26 0 rfl ?_
      refine g_getR (b := 132) fl_X7_9 sh_131 (by decide) rfl rfl dX7_goOn_27 ?_
      refine g_iload_n dX7_goOn_30 2 rfl ?_
      refine g_iconst dX7_goOn_31 (v := 1) (by decide) ?_
      refine g_iadd dX7_goOn_32 ?_
      refine g_iload dX7_goOn_33 4 rfl ?_
      refine g_iastore sh_132 dX7_goOn_35 (fun μ6 => ?_)
      refine g_aload_n dX7_goOn_36 1 rfl ?_
      refine g_aload_n dX7_goOn_37 0 rfl ?_
      refine g_getR (b := 132) fl_X7_9 sh_131 (by decide) rfl rfl dX7_goOn_38 ?_
      refine g_iload_n dX7_goOn_41 2 rfl ?_
      refine g_vIp [.ref (gb g + 132), .int v2] [] mw_X7_68 (ok_X0_drifted g F r1 132 v2 hr1 sh_132 μ6) (by omega) (bk_0 hr1) (by decide) rfl rfl (Nat.le_of_ble_eq_true rfl) dX7_goOn_42 (fun x7 _ => ?_)
      refine g_aload_n dX7_goOn_45 1 rfl ?_
      refine g_getR (b := (r1 + 8)) fl_X7_27 (bk_0 hr1) (by decide) rfl rfl dX7_goOn_46 ?_
      refine g_iload_n dX7_goOn_49 2 rfl ?_
      refine g_iaload (bk_8 hr1) dX7_goOn_50 (fun x8 => ?_)
      refine g_icmp_ne (tgt := 130) dX7_goOn_51 (by decide) (fun _ => ?_) (fun _ => ?_)
      · refine g_iinc dX7_goOn_130 4 rfl (v := (v4 + 1)) rfl (by decide) (lv' := [(4, .int (v4 + 1)), (0, .ref (gb g + 131)), (1, .ref (gb g + r1)), (2, .int v2), (3, .int v3)]) rfl ?_
        refine g_goto (tgt := 19) dX7_goOn_133 (by decide) ?_
        refine g_lv [1, 2, 3, 4, 0] rfl ?_
        exact ih (v4 + 1) μ6
      · refine g_iload_n dX7_goOn_54 3 rfl ?_
        refine g_bipush dX7_goOn_55 (v := 10) (by decide) ?_
        refine g_irem dX7_goOn_57 ?_
        refine g_bipush dX7_goOn_58 (v := 10) (by decide) ?_
        refine g_imul dX7_goOn_60 ?_
        refine g_iload dX7_goOn_61 4 rfl ?_
        refine g_iadd dX7_goOn_63 ?_
        refine g_istore dX7_goOn_64 (by decide) (lv' := [(5, .int (((v3 - v3 / (10 : Int32) * (10 : Int32)) * (10 : Int32)) + v4)), (0, .ref (gb g + 131)), (1, .ref (gb g + r1)), (2, .int v2), (3, .int v3), (4, .int v4)]) rfl ?_
        refine g_aload_n dX7_goOn_66 1 rfl ?_
        refine g_getR (b := mR μ6 5) fl_X7_18 sh_131 (by decide) rfl rfl dX7_goOn_67 ?_
        refine g_gPt (fun b10 h11 => ?_)
        refine g_iload_n dX7_goOn_70 4 rfl ?_
        refine g_iaload (pt_0 h11) dX7_goOn_71 (fun x12 => ?_)
        refine g_bipush dX7_goOn_72 (v := 10) (by decide) ?_
        refine g_imul dX7_goOn_74 ?_
        refine g_iload dX7_goOn_75 5 rfl ?_
        refine g_iadd dX7_goOn_77 ?_
        refine g_istore dX7_goOn_78 (by decide) (lv' := [(6, .int ((x12 * (10 : Int32)) + v4)), (5, .int (((v3 - v3 / (10 : Int32) * (10 : Int32)) * (10 : Int32)) + v4)), (0, .ref (gb g + 131)), (1, .ref (gb g + r1)), (2, .int v2), (3, .int v3), (4, .int v4)]) rfl ?_
        refine g_aload_n dX7_goOn_80 2 rfl ?_
        refine g_getR (b := mR μ6 7) fl_X7_24 sh_131 (by decide) rfl rfl dX7_goOn_81 ?_
        refine g_gPt (fun b13 h14 => ?_)
        refine g_iload dX7_goOn_84 1 rfl ?_
        refine g_aload_n dX7_goOn_86 2 rfl ?_
        refine g_getR (b := mR μ6 6) fl_X7_21 sh_131 (by decide) rfl rfl dX7_goOn_87 ?_
        refine g_gPt (fun b15 h16 => ?_)
        refine g_iload dX7_goOn_90 1 rfl ?_
        refine g_iaload (pt_0 h16) dX7_goOn_92 (fun x17 => ?_)
        refine g_jn (fun (a20 : Int32) oo => Go g RX7 cX7_goOn 7 .return_ 4 cvV 113 [(0, .ref (gb g + 131)), (1, .ref (gb g + r1)), (2, .int v2), (3, .int v3), (4, .int v4), (5, .int (((v3 - v3 / (10 : Int32) * (10 : Int32)) * (10 : Int32)) + v4))] [.int a20, .int (((v3 - v3 / (10 : Int32) * (10 : Int32)) * (10 : Int32)) + v4), .ref (gb g + b13)] μ6 oo) (fun a20 => ?_) (fun K19 hF29 => ?_)
        · refine g_iastore (pt_0 h14) dX7_goOn_113 (fun μ21 => ?_)
          refine g_aload_n dX7_goOn_114 0 rfl ?_
          refine g_getR (b := mR μ21 6) fl_X7_21 sh_131 (by decide) rfl rfl dX7_goOn_115 ?_
          refine g_gPt (fun b22 h23 => ?_)
          refine g_iload dX7_goOn_118 5 rfl ?_
          refine g_dup2 dX7_goOn_120 rfl rfl ?_
          refine g_iaload (pt_0 h23) dX7_goOn_121 (fun x24 => ?_)
          refine g_aload_n dX7_goOn_122 0 rfl ?_
          refine g_getR (b := mR μ21 4) fl_X7_15 sh_131 (by decide) rfl rfl dX7_goOn_123 ?_
          refine g_gPt (fun b25 h26 => ?_)
          refine g_iload_n dX7_goOn_126 3 rfl ?_
          refine g_iaload (pt_0 h26) dX7_goOn_127 (fun x27 => ?_)
          refine g_iadd dX7_goOn_128 ?_
          refine g_iastore (pt_0 h23) dX7_goOn_129 (fun μ28 => ?_)
          refine g_iinc dX7_goOn_130 4 rfl (v := (v4 + 1)) rfl (by decide) (lv' := [(4, .int (v4 + 1)), (0, .ref (gb g + 131)), (1, .ref (gb g + r1)), (2, .int v2), (3, .int v3), (5, .int (((v3 - v3 / (10 : Int32) * (10 : Int32)) * (10 : Int32)) + v4))]) rfl ?_
          refine g_goto (tgt := 19) dX7_goOn_133 (by decide) ?_
          refine g_lv [1, 2, 3, 4, 0] rfl ?_
          exact ih (v4 + 1) μ28
        · refine g_if_ne (tgt := 101) dX7_goOn_93 (by decide) (fun _ => ?_) (fun _ => ?_)
          · refine g_aload_n dX7_goOn_101 2 rfl ?_
            refine g_getR (b := mR μ6 7) fl_X7_24 sh_131 (by decide) rfl rfl dX7_goOn_102 ?_
            refine g_gPt (fun b30 h31 => ?_)
            refine g_iload dX7_goOn_105 1 rfl ?_
            refine g_iaload (pt_0 h31) dX7_goOn_107 (fun x32 => ?_)
            refine g_iload dX7_goOn_108 0 rfl ?_
            refine g_mmin mw_X7_72 (by omega) (Nat.le_of_ble_eq_true rfl) dX7_goOn_110 (fun x33 => ?_)
            refine g_lv [2, 3, 4, 5, 6, 1] rfl ?_
            exact hF29 x33
          · refine g_iload dX7_goOn_96 0 rfl ?_
            refine g_goto (tgt := 113) dX7_goOn_98 (by decide) ?_
            refine g_lv [2, 3, 4, 5, 6, 1] rfl ?_
            exact hF29 ((x12 * (10 : Int32)) + v4)
set_option maxHeartbeats 4000000 in
set_option maxRecDepth 100000 in
theorem ok_X7_goOn (g : GG) (F : Nat) (r1 : Nat) (v2 : Int32) (v3 : Int32) (hr1 : Bk r1) (μ : Mm) : Ct g yX7_goOn cX7_goOn 7 none 4 cvV [.ref (gb g + 131), .ref (gb g + r1), .int v2, .int v3] μ (f_X7_goOn F r1 v2 v3 μ) := by
  refine ct_V (by decide +kernel) (Nat.le_of_ble_eq_true rfl) (show Go g RX7 cX7_goOn 7 .return_ 4 cvV 0 [(0, .ref (gb g + 131)), (1, .ref (gb g + r1)), (2, .int v2), (3, .int v3)] [] μ (f_X7_goOn F r1 v2 v3 μ) from ?_)
  unfold f_X7_goOn
  refine g_aload_n dX7_goOn_0 0 rfl ?_
  refine g_getR (b := mR μ 4) fl_X7_15 sh_131 (by decide) rfl rfl dX7_goOn_1 ?_
  refine g_gPt (fun b1 h2 => ?_)
  refine g_iload_n dX7_goOn_4 3 rfl ?_
  refine g_iaload (pt_0 h2) dX7_goOn_5 (fun x3 => ?_)
  refine g_if_ne (tgt := 10) dX7_goOn_6 (by decide) (fun _ => ?_) (fun _ => ?_)
  · refine g_aload_n dX7_goOn_10 0 rfl ?_
    refine g_iload_n dX7_goOn_11 2 rfl ?_
    refine g_iload_n dX7_goOn_12 3 rfl ?_
    refine g_vV [.int v2, .int v3] [] mw_X7_64 (ok_X7_setPair g v2 v3 μ) (by omega) sh_131 (by decide) rfl rfl (Nat.le_of_ble_eq_true rfl) dX7_goOn_13 (fun μ5 _ => ?_)
    refine g_iconst dX7_goOn_16 (v := 0) (by decide) ?_
    refine g_istore dX7_goOn_17 (by decide) (lv' := [(4, .int 0), (0, .ref (gb g + 131)), (1, .ref (gb g + r1)), (2, .int v2), (3, .int v3)]) rfl ?_
    refine g_lv [1, 2, 3, 4, 0] rfl ?_
    refine okL_X7_goOn_19 g F r1 v2 v3 _ hr1 (fun μ34 => ?_) F 0 μ5
    exact g_ret dX7_goOn_136 rfl rfl
  · exact g_ret dX7_goOn_9 rfl rfl
set_option maxHeartbeats 4000000 in
set_option maxRecDepth 100000 in
theorem ok_X7_swapTables (g : GG)   (μ : Mm) : Ct g yX7_swapTables cX7_swapTables 3 none 1 cvV [.ref (gb g + 131)] μ (f_X7_swapTables  μ) := by
  refine ct_V (by decide +kernel) (Nat.le_of_ble_eq_true rfl) (show Go g RX7 cX7_swapTables 3 .return_ 1 cvV 0 [(0, .ref (gb g + 131))] [] μ (f_X7_swapTables  μ) from ?_)
  unfold f_X7_swapTables
  refine g_aload_n dX7_swapTables_0 0 rfl ?_
  refine g_getR (b := mR μ 4) fl_X7_15 sh_131 (by decide) rfl rfl dX7_swapTables_1 ?_
  refine g_gPt (fun b1 h2 => ?_)
  refine g_astore_n dX7_swapTables_4 rfl (by decide) (lv' := [(1, .ref (gb g + b1)), (0, .ref (gb g + 131))]) rfl ?_
  refine g_aload_n dX7_swapTables_5 1 rfl ?_
  refine g_aload_n dX7_swapTables_6 1 rfl ?_
  refine g_getR (b := mR μ 6) fl_X7_21 sh_131 (by decide) rfl rfl dX7_swapTables_7 ?_
  refine g_gPt (fun b3 h4 => ?_)
  refine g_putP3 fl_X7_15 rfl rfl dX7_swapTables_10 ?_
  refine g_aload_n dX7_swapTables_13 1 rfl ?_
  refine g_aload_n dX7_swapTables_14 0 rfl ?_
  refine g_putP5 fl_X7_21 rfl rfl dX7_swapTables_15 ?_
  refine g_aload_n dX7_swapTables_18 1 rfl ?_
  refine g_getR (b := mR (sR (sR μ 4 b3) 6 b1) 5) fl_X7_18 sh_131 (by decide) rfl rfl dX7_swapTables_19 ?_
  refine g_gPt (fun b5 h6 => ?_)
  refine g_astore_n dX7_swapTables_22 rfl (by decide) (lv' := [(2, .ref (gb g + b5)), (1, .ref (gb g + b1)), (0, .ref (gb g + 131))]) rfl ?_
  refine g_aload_n dX7_swapTables_23 2 rfl ?_
  refine g_aload_n dX7_swapTables_24 2 rfl ?_
  refine g_getR (b := mR (sR (sR μ 4 b3) 6 b1) 7) fl_X7_24 sh_131 (by decide) rfl rfl dX7_swapTables_25 ?_
  refine g_gPt (fun b7 h8 => ?_)
  refine g_putP4 fl_X7_18 rfl rfl dX7_swapTables_28 ?_
  refine g_aload_n dX7_swapTables_31 2 rfl ?_
  refine g_aload_n dX7_swapTables_32 0 rfl ?_
  refine g_putP6 fl_X7_24 rfl rfl dX7_swapTables_33 ?_
  exact g_ret dX7_swapTables_36 rfl rfl
set_option maxHeartbeats 4000000 in
set_option maxRecDepth 100000 in
theorem ok_X7_finish (g : GG) (F : Nat) (r1 : Nat) (v2 : Int32) (v3 : Int32) (hr1 : Bk r1) (μ : Mm) : Ct g yX7_finish cX7_finish 4 none 4 cvV [.ref (gb g + 131), .ref (gb g + r1), .int v2, .int v3] μ (f_X7_finish F r1 v2 v3 μ) := by
  refine ct_V (by decide +kernel) (Nat.le_of_ble_eq_true rfl) (show Go g RX7 cX7_finish 4 .return_ 4 cvV 0 [(0, .ref (gb g + 131)), (1, .ref (gb g + r1)), (2, .int v2), (3, .int v3)] [] μ (f_X7_finish F r1 v2 v3 μ) from ?_)
  unfold f_X7_finish
  refine g_aload_n dX7_finish_0 0 rfl ?_
  refine g_getR (b := mR μ 4) fl_X7_15 sh_131 (by decide) rfl rfl dX7_finish_1 ?_
  refine g_gPt (fun b1 h2 => ?_)
  refine g_iload_n dX7_finish_4 3 rfl ?_
  refine g_iaload (pt_0 h2) dX7_finish_5 (fun x3 => ?_)
  refine g_if_ne (tgt := 10) dX7_finish_6 (by decide) (fun _ => ?_) (fun _ => ?_)
  · refine g_aload_n dX7_finish_10 0 rfl ?_
    refine g_iload_n dX7_finish_11 2 rfl ?_
    refine g_iload_n dX7_finish_12 3 rfl ?_
    refine g_vV [.int v2, .int v3] [] mw_X7_64 (ok_X7_setPair g v2 v3 μ) (by omega) sh_131 (by decide) rfl rfl (Nat.le_of_ble_eq_true rfl) dX7_finish_13 (fun μ5 _ => ?_)
    refine g_aload_n dX7_finish_16 1 rfl ?_
    refine g_aload_n dX7_finish_17 0 rfl ?_
    refine g_getR (b := 132) fl_X7_9 sh_131 (by decide) rfl rfl dX7_finish_18 ?_
    refine g_iload_n dX7_finish_21 2 rfl ?_
    refine g_vIp [.ref (gb g + 132), .int v2] [] mw_X7_68 (ok_X0_drifted g F r1 132 v2 hr1 sh_132 μ5) (by omega) (bk_0 hr1) (by decide) rfl rfl (Nat.le_of_ble_eq_true rfl) dX7_finish_22 (fun x6 _ => ?_)
    refine g_aload_n dX7_finish_25 1 rfl ?_
    refine g_getR (b := (r1 + 8)) fl_X7_27 (bk_0 hr1) (by decide) rfl rfl dX7_finish_26 ?_
    refine g_iload_n dX7_finish_29 2 rfl ?_
    refine g_iaload (bk_8 hr1) dX7_finish_30 (fun x7 => ?_)
    refine g_icmp_ne (tgt := 82) dX7_finish_31 (by decide) (fun _ => ?_) (fun _ => ?_)
    · exact g_ret dX7_finish_82 rfl rfl
    · refine g_aload_n dX7_finish_34 0 rfl ?_
      refine g_aload_n dX7_finish_35 0 rfl ?_
      refine g_getI fl_X7_38 sh_131 (by decide) rfl dX7_finish_36 ?_
      refine g_jn (fun (a11 : Int32) oo => Go g RX7 cX7_finish 4 .return_ 4 cvV 64 [(0, .ref (gb g + 131)), (3, .int v3)] [.int a11, .ref (gb g + 131)] μ5 oo) (fun a11 => ?_) (fun K10 hF15 => ?_)
      · refine g_putI fl_X7_42 sh_131 (by decide) rfl dX7_finish_64 ?_
        refine g_aload_n dX7_finish_67 0 rfl ?_
        refine g_dup dX7_finish_68 rfl ?_
        refine g_getI fl_X7_38 sh_131 (by decide) rfl dX7_finish_69 ?_
        refine g_aload_n dX7_finish_72 0 rfl ?_
        refine g_getR (b := mR (sI μ5 131 1 a11) 4) fl_X7_15 sh_131 (by decide) rfl rfl dX7_finish_73 ?_
        refine g_gPt (fun b12 h13 => ?_)
        refine g_iload_n dX7_finish_76 1 rfl ?_
        refine g_iaload (pt_0 h13) dX7_finish_77 (fun x14 => ?_)
        refine g_iadd dX7_finish_78 ?_
        refine g_putI fl_X7_38 sh_131 (by decide) rfl dX7_finish_79 ?_
        exact g_ret dX7_finish_82 rfl rfl
      · refine g_if_ne (tgt := 51) dX7_finish_39 (by decide) (fun _ => ?_) (fun _ => ?_)
        · refine g_aload_n dX7_finish_51 0 rfl ?_
          refine g_getI fl_X7_42 sh_131 (by decide) rfl dX7_finish_52 ?_
          refine g_aload_n dX7_finish_55 0 rfl ?_
          refine g_getR (b := mR μ5 5) fl_X7_18 sh_131 (by decide) rfl rfl dX7_finish_56 ?_
          refine g_gPt (fun b16 h17 => ?_)
          refine g_iload_n dX7_finish_59 3 rfl ?_
          refine g_iaload (pt_0 h17) dX7_finish_60 (fun x18 => ?_)
          refine g_mmin mw_X7_72 (by omega) (Nat.le_of_ble_eq_true rfl) dX7_finish_61 (fun x19 => ?_)
          refine g_lv [0, 3] rfl ?_
          exact hF15 x19
        · refine g_aload_n dX7_finish_42 0 rfl ?_
          refine g_getR (b := mR μ5 5) fl_X7_18 sh_131 (by decide) rfl rfl dX7_finish_43 ?_
          refine g_gPt (fun b20 h21 => ?_)
          refine g_iload_n dX7_finish_46 3 rfl ?_
          refine g_iaload (pt_0 h21) dX7_finish_47 (fun x22 => ?_)
          refine g_goto (tgt := 64) dX7_finish_48 (by decide) ?_
          refine g_lv [0, 3] rfl ?_
          exact hF15 x22
  · exact g_ret dX7_finish_9 rfl rfl
set_option maxHeartbeats 4000000 in
set_option maxRecDepth 100000 in
theorem okL_X7_gather_35 (g : GG) (F : Nat) (r1 : Nat) (v2 : Int32) (k : Mm → Option (Mm)) (hr1 : Bk r1) (hk : ∀ (μ : Mm), Go g RX7 cX7_gather 6 .return_ 5 cvV 67 [(0, .ref (gb g + 131)), (1, .ref (gb g + r1)), (2, .int v2)] [] μ (k μ)) : ∀ (n : Nat) (v3 : Int32) (μ : Mm), Go g RX7 cX7_gather 6 .return_ 5 cvV 35 [(0, .ref (gb g + 131)), (1, .ref (gb g + r1)), (2, .int v2), (3, .int v3)] [] μ (L_X7_gather_35 F r1 v2 k n v3 μ) := by
  intro n
  induction n with
  | zero =>
    intro v3 μ
    exact g_none
  | succ n ih =>
    intro v3 μ
    rw [L_X7_gather_35_s]
    refine g_iload_n dX7_gather_35 3 rfl ?_
    refine g_bipush dX7_gather_36 (v := 9) (by decide) ?_
    refine g_icmp_gt (tgt := 67) dX7_gather_38 (by decide) (fun _ => ?_) (fun _ => ?_)
    · refine g_lv [0, 1, 2] rfl ?_
      exact hk μ
    · refine g_aload_n dX7_gather_41 0 rfl ?_
      refine g_getR (b := mR μ 4) fl_X7_15 sh_131 (by decide) rfl rfl dX7_gather_42 ?_
      refine g_gPt (fun b6 h7 => ?_)
      refine g_bipush dX7_gather_45 (v := 100) (by decide) ?_
      refine g_iload_n dX7_gather_47 3 rfl ?_
      refine g_iadd dX7_gather_48 ?_
      refine g_iconst dX7_gather_49 (v := 1) (by decide) ?_
      refine g_iastore (pt_0 h7) dX7_gather_50 (fun μ8 => ?_)
      refine g_aload_n dX7_gather_51 0 rfl ?_
      refine g_getR (b := mR μ8 5) fl_X7_18 sh_131 (by decide) rfl rfl dX7_gather_52 ?_
      refine g_gPt (fun b9 h10 => ?_)
      refine g_bipush dX7_gather_55 (v := 100) (by decide) ?_
      refine g_iload_n dX7_gather_57 3 rfl ?_
      refine g_iadd dX7_gather_58 ?_
      refine g_iload_n dX7_gather_59 3 rfl ?_
      refine g_iastore (pt_0 h10) dX7_gather_60 (fun μ11 => ?_)
      refine g_iinc dX7_gather_61 3 rfl (v := (v3 + 1)) rfl (by decide) (lv' := [(3, .int (v3 + 1)), (0, .ref (gb g + 131)), (1, .ref (gb g + r1)), (2, .int v2)]) rfl ?_
      refine g_goto (tgt := 35) dX7_gather_64 (by decide) ?_
      refine g_lv [1, 2, 3, 0] rfl ?_
      exact ih (v3 + 1) μ11
set_option maxHeartbeats 4000000 in
set_option maxRecDepth 100000 in
theorem okL_X7_gather_99 (g : GG) (F : Nat) (r1 : Nat) (v3 : Int32) (v4 : Int32) (k : Mm → Option (Mm)) (hr1 : Bk r1) (hk : ∀ (μ : Mm), Go g RX7 cX7_gather 6 .return_ 5 cvV 123 [(0, .ref (gb g + 131)), (1, .ref (gb g + r1)), (3, .int v3), (4, .int v4)] [] μ (k μ)) : ∀ (n : Nat) (v5 : Int32) (μ : Mm), Go g RX7 cX7_gather 6 .return_ 5 cvV 99 [(0, .ref (gb g + 131)), (1, .ref (gb g + r1)), (3, .int v3), (4, .int v4), (5, .int v5)] [] μ (L_X7_gather_99 F r1 v3 v4 k n v5 μ) := by
  intro n
  induction n with
  | zero =>
    intro v5 μ
    exact g_none
  | succ n ih =>
    intro v5 μ
    rw [L_X7_gather_99_s]
    refine g_iload dX7_gather_99 4 rfl ?_
    refine g_bipush dX7_gather_101 (v := 110) (by decide) ?_
    refine g_icmp_ge (tgt := 123) dX7_gather_103 (by decide) (fun _ => ?_) (fun _ => ?_)
    · refine g_lv [0, 1, 2, 3] rfl ?_
      exact hk μ
    · refine g_aload_n dX7_gather_106 0 rfl ?_
      refine g_aload_n dX7_gather_107 1 rfl ?_
      refine g_iload_n dX7_gather_108 2 rfl ?_
      refine g_iload dX7_gather_109 3 rfl ?_
      refine g_iadd dX7_gather_111 ?_
      refine g_iload dX7_gather_112 4 rfl ?_
      refine g_vV [.ref (gb g + r1), .int (v3 + v4), .int v5] [] mw_X7_54 (ok_X7_goOn g F r1 (v3 + v4) v5 hr1 μ) (by omega) sh_131 (by decide) rfl rfl (Nat.le_of_ble_eq_true rfl) dX7_gather_114 (fun μ18 _ => ?_)
      refine g_iinc dX7_gather_117 4 rfl (v := (v5 + 1)) rfl (by decide) (lv' := [(5, .int (v5 + 1)), (0, .ref (gb g + 131)), (1, .ref (gb g + r1)), (3, .int v3), (4, .int v4)]) rfl ?_
      refine g_goto (tgt := 99) dX7_gather_120 (by decide) ?_
      refine g_lv [1, 2, 3, 4, 0] rfl ?_
      exact ih (v5 + 1) μ18
set_option maxHeartbeats 4000000 in
set_option maxRecDepth 100000 in
theorem okL_X7_gather_77 (g : GG) (F : Nat) (r1 : Nat) (v3 : Int32) (k : Mm → Option (Mm)) (hr1 : Bk r1) (hk : ∀ (μ : Mm), Go g RX7 cX7_gather 6 .return_ 5 cvV 133 [(0, .ref (gb g + 131)), (1, .ref (gb g + r1)), (3, .int v3)] [] μ (k μ)) : ∀ (n : Nat) (v4 : Int32) (μ : Mm), Go g RX7 cX7_gather 6 .return_ 5 cvV 77 [(0, .ref (gb g + 131)), (1, .ref (gb g + r1)), (3, .int v3), (4, .int v4)] [] μ (L_X7_gather_77 F r1 v3 k n v4 μ) := by
  intro n
  induction n with
  | zero =>
    intro v4 μ
    exact g_none
  | succ n ih =>
    intro v4 μ
    rw [L_X7_gather_77_s]
    refine g_iload dX7_gather_77 3 rfl ?_
    refine g_aload_n dX7_gather_79 1 rfl ?_
    refine g_getI fl_X7_51 (bk_0 hr1) (by decide) rfl dX7_gather_80 ?_
    refine g_iconst dX7_gather_83 (v := 1) (by decide) ?_
    refine g_isub dX7_gather_84 ?_
    refine g_icmp_ge (tgt := 133) dX7_gather_85 (by decide) (fun _ => ?_) (fun _ => ?_)
    · refine g_lv [0, 1, 2] rfl ?_
      exact hk μ
    · refine g_aload_n dX7_gather_88 0 rfl ?_
      refine g_getR (b := mR μ 6) fl_X7_21 sh_131 (by decide) rfl rfl dX7_gather_89 ?_
      refine g_gPt (fun b13 h14 => ?_)
      refine g_iconst dX7_gather_92 (v := 0) (by decide) ?_
      refine g_sV [.ref (gb g + b13), .int 0] [] mw_X7_45 (ok_J7_fill_53178 g F 110 b13 0 (pt_0 h14) μ) (by omega) rfl rfl (Nat.le_of_ble_eq_true rfl) dX7_gather_93 (fun μ16 _ => ?_)
      refine g_iconst dX7_gather_96 (v := 0) (by decide) ?_
      refine g_istore dX7_gather_97 (by decide) (lv' := [(5, .int 0), (0, .ref (gb g + 131)), (1, .ref (gb g + r1)), (3, .int v3), (4, .int v4)]) rfl ?_
      refine g_lv [1, 2, 3, 4, 0] rfl ?_
      refine okL_X7_gather_99 g F r1 v3 v4 _ hr1 (fun μ19 => ?_) F 0 μ16
      refine g_aload_n dX7_gather_123 0 rfl ?_
      refine g_vV [] [] mw_X7_58 (ok_X7_swapTables g μ19) (by omega) sh_131 (by decide) rfl rfl (Nat.le_of_ble_eq_true rfl) dX7_gather_124 (fun μ21 _ => ?_)
      refine g_iinc dX7_gather_127 3 rfl (v := (v4 + 1)) rfl (by decide) (lv' := [(4, .int (v4 + 1)), (0, .ref (gb g + 131)), (1, .ref (gb g + r1)), (3, .int v3)]) rfl ?_
      refine g_goto (tgt := 77) dX7_gather_130 (by decide) ?_
      refine g_lv [1, 2, 3, 0] rfl ?_
      exact ih (v4 + 1) μ21
set_option maxHeartbeats 4000000 in
set_option maxRecDepth 100000 in
theorem okL_X7_gather_136 (g : GG) (F : Nat) (r1 : Nat) (v3 : Int32) (k : Mm → Option (Mm)) (hr1 : Bk r1) (hk : ∀ (μ : Mm), Go g RX7 cX7_gather 6 .return_ 5 cvV 164 [] [] μ (k μ)) : ∀ (n : Nat) (v4 : Int32) (μ : Mm), Go g RX7 cX7_gather 6 .return_ 5 cvV 136 [(0, .ref (gb g + 131)), (1, .ref (gb g + r1)), (3, .int v3), (4, .int v4)] [] μ (L_X7_gather_136 F r1 v3 k n v4 μ) := by
  intro n
  induction n with
  | zero =>
    intro v4 μ
    exact g_none
  | succ n ih =>
    intro v4 μ
    rw [L_X7_gather_136_s]
    refine g_iload dX7_gather_136 3 rfl ?_
    refine g_bipush dX7_gather_138 (v := 110) (by decide) ?_
    refine g_icmp_ge (tgt := 164) dX7_gather_140 (by decide) (fun _ => ?_) (fun _ => ?_)
    · refine g_lv [] rfl ?_
      exact hk μ
    · refine g_aload_n dX7_gather_143 0 rfl ?_
      refine g_aload_n dX7_gather_144 1 rfl ?_
      refine g_iload_n dX7_gather_145 2 rfl ?_
      refine g_aload_n dX7_gather_146 1 rfl ?_
      refine g_getI fl_X7_51 (bk_0 hr1) (by decide) rfl dX7_gather_147 ?_
      refine g_iadd dX7_gather_150 ?_
      refine g_iconst dX7_gather_151 (v := 1) (by decide) ?_
      refine g_isub dX7_gather_152 ?_
      refine g_iload dX7_gather_153 3 rfl ?_
      refine g_vV [.ref (gb g + r1), .int ((v3 + (mI μ r1 0)) - (1 : Int32)), .int v4] [] mw_X7_61 (ok_X7_finish g F r1 ((v3 + (mI μ r1 0)) - (1 : Int32)) v4 hr1 μ) (by omega) sh_131 (by decide) rfl rfl (Nat.le_of_ble_eq_true rfl) dX7_gather_155 (fun μ24 _ => ?_)
      refine g_iinc dX7_gather_158 3 rfl (v := (v4 + 1)) rfl (by decide) (lv' := [(4, .int (v4 + 1)), (0, .ref (gb g + 131)), (1, .ref (gb g + r1)), (3, .int v3)]) rfl ?_
      refine g_goto (tgt := 136) dX7_gather_161 (by decide) ?_
      refine g_lv [1, 2, 3, 0] rfl ?_
      exact ih (v4 + 1) μ24
set_option maxHeartbeats 4000000 in
set_option maxRecDepth 100000 in
theorem ok_X7_gather (g : GG) (F : Nat) (r1 : Nat) (v2 : Int32) (hr1 : Bk r1) (μ : Mm) : Ct g yX7_gather cX7_gather 6 none 5 cvV [.ref (gb g + 131), .ref (gb g + r1), .int v2] μ (f_X7_gather F r1 v2 μ) := by
  refine ct_V (by decide +kernel) (Nat.le_of_ble_eq_true rfl) (show Go g RX7 cX7_gather 6 .return_ 5 cvV 0 [(0, .ref (gb g + 131)), (1, .ref (gb g + r1)), (2, .int v2)] [] μ (f_X7_gather F r1 v2 μ) from ?_)
  unfold f_X7_gather
  refine g_aload_n dX7_gather_0 1 rfl ?_
  refine g_getR (b := (r1 + 8)) fl_X7_27 (bk_0 hr1) (by decide) rfl rfl dX7_gather_1 ?_
  refine g_iconst dX7_gather_4 (v := 0) (by decide) ?_
  refine g_aload_n dX7_gather_5 0 rfl ?_
  refine g_getR (b := 132) fl_X7_9 sh_131 (by decide) rfl rfl dX7_gather_6 ?_
  refine g_iconst dX7_gather_9 (v := 0) (by decide) ?_
  refine g_bipush dX7_gather_10 (v := 25) (by decide) ?_
  refine g_copyA mw_X7_32 (by omega) (bk_8 hr1) sh_132 dX7_gather_12 (fun μ1 => ?_)
  refine g_aload_n dX7_gather_15 0 rfl ?_
  refine g_iconst dX7_gather_16 (v := 0) (by decide) ?_
  refine g_putI fl_X7_38 sh_131 (by decide) rfl dX7_gather_17 ?_
  refine g_aload_n dX7_gather_20 0 rfl ?_
  refine g_iconst dX7_gather_21 (v := (-1)) (by decide) ?_
  refine g_putI fl_X7_42 sh_131 (by decide) rfl dX7_gather_22 ?_
  refine g_aload_n dX7_gather_25 0 rfl ?_
  refine g_getR (b := mR (sI (sI μ1 131 0 0) 131 1 (-1)) 4) fl_X7_15 sh_131 (by decide) rfl rfl dX7_gather_26 ?_
  refine g_gPt (fun b2 h3 => ?_)
  refine g_iconst dX7_gather_29 (v := 0) (by decide) ?_
  refine g_sV [.ref (gb g + b2), .int 0] [] mw_X7_45 (ok_J7_fill_53178 g F 110 b2 0 (pt_0 h3) (sI (sI μ1 131 0 0) 131 1 (-1))) (by omega) rfl rfl (Nat.le_of_ble_eq_true rfl) dX7_gather_30 (fun μ5 _ => ?_)
  refine g_iconst dX7_gather_33 (v := 0) (by decide) ?_
  refine g_istore_n dX7_gather_34 rfl (by decide) (lv' := [(3, .int 0), (0, .ref (gb g + 131)), (1, .ref (gb g + r1)), (2, .int v2)]) rfl ?_
  refine g_lv [1, 2, 3, 0] rfl ?_
  refine okL_X7_gather_35 g F r1 v2 _ hr1 (fun μ12 => ?_) F 0 μ5
  refine g_iload_n dX7_gather_67 2 rfl ?_
  refine g_aload_n dX7_gather_68 1 rfl ?_
  refine g_getI fl_X7_51 (bk_0 hr1) (by decide) rfl dX7_gather_69 ?_
  refine g_imul dX7_gather_72 ?_
  refine g_istore_n dX7_gather_73 rfl (by decide) (lv' := [(3, .int (v2 * (mI μ12 r1 0))), (0, .ref (gb g + 131)), (1, .ref (gb g + r1)), (2, .int v2)]) rfl ?_
  refine g_iconst dX7_gather_74 (v := 0) (by decide) ?_
  refine g_istore dX7_gather_75 (by decide) (lv' := [(4, .int 0), (3, .int (v2 * (mI μ12 r1 0))), (0, .ref (gb g + 131)), (1, .ref (gb g + r1)), (2, .int v2)]) rfl ?_
  refine g_lv [2, 3, 1, 0] rfl ?_
  refine okL_X7_gather_77 g F r1 (v2 * (mI μ12 r1 0)) _ hr1 (fun μ22 => ?_) F 0 μ12
  refine g_iconst dX7_gather_133 (v := 0) (by decide) ?_
  refine g_istore dX7_gather_134 (by decide) (lv' := [(4, .int 0), (0, .ref (gb g + 131)), (1, .ref (gb g + r1)), (3, .int (v2 * (mI μ12 r1 0)))]) rfl ?_
  refine g_lv [1, 2, 3, 0] rfl ?_
  refine okL_X7_gather_136 g F r1 (v2 * (mI μ12 r1 0)) _ hr1 (fun μ25 => ?_) F 0 μ22
  exact g_ret dX7_gather_164 rfl rfl
set_option maxHeartbeats 4000000 in
set_option maxRecDepth 100000 in
theorem okL_X7_couldHaveBeen_48 (g : GG) (F : Nat) (r1 : Nat) (v4 : Int32) (k : Mm → Option (Bool × Mm)) (hr1 : Bk r1) (hk : ∀ (μ : Mm), Go g RX7 cX7_couldHaveBeen 7 .ireturn 4 cvZ 81 [(0, .ref (gb g + 131)), (1, .ref (gb g + r1)), (4, .int v4)] [] μ (k μ)) : ∀ (n : Nat) (v5 : Int32) (v6 : Int32) (μ : Mm), Go g RX7 cX7_couldHaveBeen 7 .ireturn 4 cvZ 48 [(0, .ref (gb g + 131)), (1, .ref (gb g + r1)), (4, .int v4), (5, .int v5), (6, .int v6)] [] μ (L_X7_couldHaveBeen_48 F r1 v4 k n v5 v6 μ) := by
  intro n
  induction n with
  | zero =>
    intro v5 v6 μ
    exact g_none
  | succ n ih =>
    intro v5 v6 μ
    rw [L_X7_couldHaveBeen_48_s]
    refine g_iload dX7_couldHaveBeen_48 4 rfl ?_
    refine g_if_lt (tgt := 81) dX7_couldHaveBeen_50 (by decide) (fun _ => ?_) (fun _ => ?_)
    · refine g_lv [0, 1, 2] rfl ?_
      exact hk μ
    · refine g_aload_n dX7_couldHaveBeen_53 0 rfl ?_
      refine g_getR (b := 132) fl_X7_9 sh_131 (by decide) rfl rfl dX7_couldHaveBeen_54 ?_
      refine g_iload dX7_couldHaveBeen_57 2 rfl ?_
      refine g_iload dX7_couldHaveBeen_59 4 rfl ?_
      refine g_iadd dX7_couldHaveBeen_61 ?_
      refine g_iload dX7_couldHaveBeen_62 3 rfl ?_
      refine g_bipush dX7_couldHaveBeen_64 (v := 10) (by decide) ?_
      refine g_irem dX7_couldHaveBeen_66 ?_
      refine g_iastore sh_132 dX7_couldHaveBeen_67 (fun μ3 => ?_)
      refine g_iload dX7_couldHaveBeen_68 3 rfl ?_
      refine g_bipush dX7_couldHaveBeen_70 (v := 10) (by decide) ?_
      refine g_idiv dX7_couldHaveBeen_72 ?_
      refine g_istore dX7_couldHaveBeen_73 (by decide) (lv' := [(5, .int (v5 / (10 : Int32))), (0, .ref (gb g + 131)), (1, .ref (gb g + r1)), (4, .int v4), (6, .int v6)]) rfl ?_
      refine g_iinc dX7_couldHaveBeen_75 4 rfl (v := (v6 + (-1))) rfl (by decide) (lv' := [(6, .int (v6 + (-1))), (5, .int (v5 / (10 : Int32))), (0, .ref (gb g + 131)), (1, .ref (gb g + r1)), (4, .int v4)]) rfl ?_
      refine g_goto (tgt := 48) dX7_couldHaveBeen_78 (by decide) ?_
      refine g_lv [2, 3, 4, 1, 0] rfl ?_
      exact ih (v5 / (10 : Int32)) (v6 + (-1)) μ3
set_option maxHeartbeats 4000000 in
set_option maxRecDepth 100000 in
theorem okL_X7_couldHaveBeen_84 (g : GG) (F : Nat) (r1 : Nat) (v4 : Int32) (k : Option (Bool × Mm)) (μ : Mm) (hr1 : Bk r1) (hk : Go g RX7 cX7_couldHaveBeen 7 .ireturn 4 cvZ 127 [] [] μ k) : ∀ (n : Nat) (v6 : Int32), Go g RX7 cX7_couldHaveBeen 7 .ireturn 4 cvZ 84 [(0, .ref (gb g + 131)), (1, .ref (gb g + r1)), (4, .int v4), (6, .int v6)] [] μ (L_X7_couldHaveBeen_84 F r1 v4 k μ n v6) := by
  intro n
  induction n with
  | zero =>
    intro v6
    exact g_none
  | succ n ih =>
    intro v6
    rw [L_X7_couldHaveBeen_84_s]
    refine g_iload dX7_couldHaveBeen_84 3 rfl ?_
    refine g_aload_n dX7_couldHaveBeen_86 1 rfl ?_
    refine g_getI fl_X7_51 (bk_0 hr1) (by decide) rfl dX7_couldHaveBeen_87 ?_
    refine g_icmp_ge (tgt := 127) dX7_couldHaveBeen_90 (by decide) (fun _ => ?_) (fun _ => ?_)
    · refine g_lv [] rfl ?_
      exact hk 
    · refine g_aload_n dX7_couldHaveBeen_93 1 rfl ?_
      refine g_aload_n dX7_couldHaveBeen_94 0 rfl ?_
      refine g_getR (b := 132) fl_X7_9 sh_131 (by decide) rfl rfl dX7_couldHaveBeen_95 ?_
      refine g_iload dX7_couldHaveBeen_98 2 rfl ?_
      refine g_iload dX7_couldHaveBeen_100 3 rfl ?_
      refine g_iadd dX7_couldHaveBeen_102 ?_
      refine g_vIp [.ref (gb g + 132), .int (v4 + v6)] [] mw_X7_68 (ok_X0_drifted g F r1 132 (v4 + v6) hr1 sh_132 μ) (by omega) (bk_0 hr1) (by decide) rfl rfl (Nat.le_of_ble_eq_true rfl) dX7_couldHaveBeen_103 (fun x5 _ => ?_)
      refine g_aload_n dX7_couldHaveBeen_106 1 rfl ?_
      refine g_getR (b := (r1 + 8)) fl_X7_27 (bk_0 hr1) (by decide) rfl rfl dX7_couldHaveBeen_107 ?_
      refine g_iload dX7_couldHaveBeen_110 2 rfl ?_
      refine g_iload dX7_couldHaveBeen_112 3 rfl ?_
      refine g_iadd dX7_couldHaveBeen_114 ?_
      refine g_iaload (bk_8 hr1) dX7_couldHaveBeen_115 (fun x6 => ?_)
      refine g_icmp_eq (tgt := 121) dX7_couldHaveBeen_116 (by decide) (fun _ => ?_) (fun _ => ?_)
      · refine g_iinc dX7_couldHaveBeen_121 3 rfl (v := (v6 + 1)) rfl (by decide) (lv' := [(6, .int (v6 + 1)), (0, .ref (gb g + 131)), (1, .ref (gb g + r1)), (4, .int v4)]) rfl ?_
        refine g_goto (tgt := 84) dX7_couldHaveBeen_124 (by decide) ?_
        refine g_lv [1, 2, 3, 0] rfl ?_
        exact ih (v6 + 1)
      · refine g_iconst dX7_couldHaveBeen_119 (v := 0) (by decide) ?_
        exact g_ret dX7_couldHaveBeen_120 rfl rfl
set_option maxHeartbeats 4000000 in
set_option maxRecDepth 100000 in
theorem ok_X7_couldHaveBeen (g : GG) (F : Nat) (r1 : Nat) (v2 : Int32) (v3 : Int32) (hr1 : Bk r1) (μ : Mm) : Ct g yX7_couldHaveBeen cX7_couldHaveBeen 7 (some (.boolean)) 4 cvZ [.ref (gb g + 131), .ref (gb g + r1), .int v2, .int v3] μ (f_X7_couldHaveBeen F r1 v2 v3 μ) := by
  refine ct_Z (by decide +kernel) (Nat.le_of_ble_eq_true rfl) (show Go g RX7 cX7_couldHaveBeen 7 .ireturn 4 cvZ 0 [(0, .ref (gb g + 131)), (1, .ref (gb g + r1)), (2, .int v2), (3, .int v3)] [] μ (f_X7_couldHaveBeen F r1 v2 v3 μ) from ?_)
  unfold f_X7_couldHaveBeen
  refine g_iload_n dX7_couldHaveBeen_0 3 rfl ?_
  refine g_static (Or.inr rfl) fn_X7_78 dX7_couldHaveBeen_1 ?_
  refine g_aload_n dX7_couldHaveBeen_4 1 rfl ?_
  refine g_getI fl_X7_51 (bk_0 hr1) (by decide) rfl dX7_couldHaveBeen_5 ?_
  refine g_tenld dX7_couldHaveBeen_8 (fun x1 => ?_)
  refine g_icmp_lt (tgt := 14) dX7_couldHaveBeen_9 (by decide) (fun _ => ?_) (fun _ => ?_)
  · refine g_aload_n dX7_couldHaveBeen_14 1 rfl ?_
    refine g_getR (b := (r1 + 8)) fl_X7_27 (bk_0 hr1) (by decide) rfl rfl dX7_couldHaveBeen_15 ?_
    refine g_iconst dX7_couldHaveBeen_18 (v := 0) (by decide) ?_
    refine g_aload_n dX7_couldHaveBeen_19 0 rfl ?_
    refine g_getR (b := 132) fl_X7_9 sh_131 (by decide) rfl rfl dX7_couldHaveBeen_20 ?_
    refine g_iconst dX7_couldHaveBeen_23 (v := 0) (by decide) ?_
    refine g_bipush dX7_couldHaveBeen_24 (v := 25) (by decide) ?_
    refine g_copyA mw_X7_32 (by omega) (bk_8 hr1) sh_132 dX7_couldHaveBeen_26 (fun μ2 => ?_)
    refine g_iload_n dX7_couldHaveBeen_29 2 rfl ?_
    refine g_aload_n dX7_couldHaveBeen_30 1 rfl ?_
    refine g_getI fl_X7_51 (bk_0 hr1) (by decide) rfl dX7_couldHaveBeen_31 ?_
    refine g_imul dX7_couldHaveBeen_34 ?_
    refine g_istore dX7_couldHaveBeen_35 (by decide) (lv' := [(4, .int (v2 * (mI μ2 r1 0))), (0, .ref (gb g + 131)), (1, .ref (gb g + r1)), (2, .int v2), (3, .int v3)]) rfl ?_
    refine g_iload_n dX7_couldHaveBeen_37 4 rfl ?_
    refine g_istore dX7_couldHaveBeen_38 (by decide) (lv' := [(5, .int v3), (4, .int (v2 * (mI μ2 r1 0))), (0, .ref (gb g + 131)), (1, .ref (gb g + r1)), (2, .int v2), (3, .int v3)]) rfl ?_
    refine g_aload_n dX7_couldHaveBeen_40 3 rfl ?_
    refine g_getI fl_X7_51 (bk_0 hr1) (by decide) rfl dX7_couldHaveBeen_41 ?_
    refine g_iconst dX7_couldHaveBeen_44 (v := 1) (by decide) ?_
    refine g_isub dX7_couldHaveBeen_45 ?_
    refine g_istore dX7_couldHaveBeen_46 (by decide) (lv' := [(6, .int ((mI μ2 r1 0) - (1 : Int32))), (5, .int v3), (4, .int (v2 * (mI μ2 r1 0))), (0, .ref (gb g + 131)), (1, .ref (gb g + r1)), (2, .int v2), (3, .int v3)]) rfl ?_
    refine g_lv [3, 4, 2, 1, 0] rfl ?_
    refine okL_X7_couldHaveBeen_48 g F r1 (v2 * (mI μ2 r1 0)) _ hr1 (fun μ4 => ?_) F v3 ((mI μ2 r1 0) - (1 : Int32)) μ2
    refine g_iconst dX7_couldHaveBeen_81 (v := 0) (by decide) ?_
    refine g_istore dX7_couldHaveBeen_82 (by decide) (lv' := [(6, .int 0), (0, .ref (gb g + 131)), (1, .ref (gb g + r1)), (4, .int (v2 * (mI μ2 r1 0)))]) rfl ?_
    refine g_lv [1, 2, 3, 0] rfl ?_
    refine okL_X7_couldHaveBeen_84 g F r1 (v2 * (mI μ2 r1 0)) _ μ4 hr1 ?_ F 0
    refine g_iconst dX7_couldHaveBeen_127 (v := 1) (by decide) ?_
    exact g_ret dX7_couldHaveBeen_128 rfl rfl
  · refine g_iconst dX7_couldHaveBeen_12 (v := 0) (by decide) ?_
    exact g_ret dX7_couldHaveBeen_13 rfl rfl
set_option maxHeartbeats 4000000 in
set_option maxRecDepth 100000 in
theorem okL_X8_weigh_5 (g : GG) (F : Nat) (r1 : Nat) (v2 : Int32) (k : Int32 → Option (Mm)) (μ : Mm) (hr1 : Bk r1) (hk : ∀ (v3 : Int32), Go g RX8 cX8_weigh 5 .return_ 2 cvV 57 [(0, .ref (gb g + 107)), (2, .int v2), (3, .int v3)] [] μ (k v3)) : ∀ (n : Nat) (v3 : Int32) (v4 : Int32), Go g RX8 cX8_weigh 5 .return_ 2 cvV 5 [(0, .ref (gb g + 107)), (1, .ref (gb g + r1)), (2, .int v2), (3, .int v3), (4, .int v4)] [] μ (L_X8_weigh_5 F r1 v2 k μ n v3 v4) := by
  intro n
  induction n with
  | zero =>
    intro v3 v4
    exact g_none
  | succ n ih =>
    intro v3 v4
    rw [L_X8_weigh_5_s]
    refine g_iload dX8_weigh_5 4 rfl ?_
    refine g_aload_n dX8_weigh_7 1 rfl ?_
    refine g_vIp [] [.int v4] mw_X8_82 (ok_X0_cells g r1 hr1 μ) (by omega) (bk_0 hr1) (by decide) rfl rfl (Nat.le_of_ble_eq_true rfl) dX8_weigh_8 (fun x1 _ => ?_)
    refine g_icmp_ge (tgt := 57) dX8_weigh_11 (by decide) (fun _ => ?_) (fun _ => ?_)
    · refine g_lv [0, 2, 3] rfl ?_
      exact hk v3
    · refine g_aload_n dX8_weigh_14 0 rfl ?_
      refine g_getI fl_X8_29 sh_107 (by decide) rfl dX8_weigh_15 ?_
      refine g_iload dX8_weigh_18 4 rfl ?_
      refine g_ishr dX8_weigh_20 ?_
      refine g_iconst dX8_weigh_21 (v := 1) (by decide) ?_
      refine g_iand dX8_weigh_22 ?_
      refine g_if_eq (tgt := 51) dX8_weigh_23 (by decide) (fun _ => ?_) (fun _ => ?_)
      · refine g_iinc dX8_weigh_51 4 rfl (v := (v4 + 1)) rfl (by decide) (lv' := [(4, .int (v4 + 1)), (0, .ref (gb g + 107)), (1, .ref (gb g + r1)), (2, .int v2), (3, .int v3)]) rfl ?_
        refine g_goto (tgt := 5) dX8_weigh_54 (by decide) ?_
        refine g_lv [1, 2, 3, 4, 0] rfl ?_
        exact ih v3 (v4 + 1)
      · refine g_aload_n dX8_weigh_26 0 rfl ?_
        refine g_getR (b := 110) fl_X8_20 sh_107 (by decide) rfl rfl dX8_weigh_27 ?_
        refine g_aload_n dX8_weigh_30 0 rfl ?_
        refine g_getI fl_X8_39 sh_107 (by decide) rfl dX8_weigh_31 ?_
        refine g_aaload5 sh_110 dX8_weigh_34 (fun q3 h4 => ?_)
        refine g_iload dX8_weigh_35 4 rfl ?_
        refine g_iaload (rdE_110 h4) dX8_weigh_37 (fun x5 => ?_)
        refine g_aload_n dX8_weigh_38 1 rfl ?_
        refine g_getR (b := (r1 + 9)) fl_X8_92 (bk_0 hr1) (by decide) rfl rfl dX8_weigh_39 ?_
        refine g_iload dX8_weigh_42 4 rfl ?_
        refine g_iaload (bk_9 hr1) dX8_weigh_44 (fun x6 => ?_)
        have hJ9 : ∀ (w8 : Int32), w8 = (if x5 = x6 then v3 else (v3 + 1)) → Go g RX8 cX8_weigh 5 .return_ 2 cvV 51 [(0, .ref (gb g + 107)), (1, .ref (gb g + r1)), (2, .int v2), (3, .int w8), (4, .int v4)] [] μ (L_X8_weigh_5 F r1 v2 k μ n (if x5 = x6 then v3 else (v3 + 1)) (v4 + 1)) := by
          intro w8 ew8
          subst ew8
          refine g_iinc dX8_weigh_51 4 rfl (v := (v4 + 1)) rfl (by decide) (lv' := [(4, .int (v4 + 1)), (0, .ref (gb g + 107)), (1, .ref (gb g + r1)), (2, .int v2), (3, .int (if x5 = x6 then v3 else (v3 + 1)))]) rfl ?_
          refine g_goto (tgt := 5) dX8_weigh_54 (by decide) ?_
          refine g_lv [1, 2, 3, 4, 0] rfl ?_
          exact ih (if x5 = x6 then v3 else (v3 + 1)) (v4 + 1)
        refine g_same (g_icmp_eq (tgt := 51) dX8_weigh_45 (by decide) (fun c7 => ?_) (fun c7 => ?_))
        · refine g_lv [0, 1, 2, 3, 4] rfl ?_
          exact hJ9 _ (by rw [if_pos c7])
        · refine g_iinc dX8_weigh_48 3 rfl (v := (v3 + 1)) rfl (by decide) (lv' := [(3, .int (v3 + 1)), (0, .ref (gb g + 107)), (1, .ref (gb g + r1)), (2, .int v2), (4, .int v4)]) rfl ?_
          refine g_lv [1, 2, 3, 0, 4] rfl ?_
          exact hJ9 _ (by rw [if_neg c7])
set_option maxHeartbeats 4000000 in
set_option maxRecDepth 100000 in
theorem ok_X8_weigh (g : GG) (F : Nat) (r1 : Nat) (v2 : Int32) (hr1 : Bk r1) (μ : Mm) : Ct g yX8_weigh cX8_weigh 5 none 2 cvV [.ref (gb g + 107), .ref (gb g + r1), .int v2] μ (f_X8_weigh F r1 v2 μ) := by
  refine ct_V (by decide +kernel) (Nat.le_of_ble_eq_true rfl) (show Go g RX8 cX8_weigh 5 .return_ 2 cvV 0 [(0, .ref (gb g + 107)), (1, .ref (gb g + r1)), (2, .int v2)] [] μ (f_X8_weigh F r1 v2 μ) from ?_)
  unfold f_X8_weigh
  refine g_iconst dX8_weigh_0 (v := 0) (by decide) ?_
  refine g_istore_n dX8_weigh_1 rfl (by decide) (lv' := [(3, .int 0), (0, .ref (gb g + 107)), (1, .ref (gb g + r1)), (2, .int v2)]) rfl ?_
  refine g_iconst dX8_weigh_2 (v := 0) (by decide) ?_
  refine g_istore dX8_weigh_3 (by decide) (lv' := [(4, .int 0), (3, .int 0), (0, .ref (gb g + 107)), (1, .ref (gb g + r1)), (2, .int v2)]) rfl ?_
  refine g_lv [2, 3, 4, 1, 0] rfl ?_
  refine okL_X8_weigh_5 g F r1 v2 _ μ hr1 (fun u10 => ?_) F 0 0
  refine g_iload_n dX8_weigh_57 2 rfl ?_
  refine g_aload_n dX8_weigh_58 0 rfl ?_
  refine g_getI fl_X8_42 sh_107 (by decide) rfl dX8_weigh_59 ?_
  refine g_icmp_lt (tgt := 81) dX8_weigh_62 (by decide) (fun _ => ?_) (fun _ => ?_)
  · refine g_aload_n dX8_weigh_81 0 rfl ?_
    refine g_iload_n dX8_weigh_82 2 rfl ?_
    refine g_putI fl_X8_42 sh_107 (by decide) rfl dX8_weigh_83 ?_
    refine g_aload_n dX8_weigh_86 0 rfl ?_
    refine g_iload_n dX8_weigh_87 1 rfl ?_
    refine g_putI fl_X8_45 sh_107 (by decide) rfl dX8_weigh_88 ?_
    refine g_aload_n dX8_weigh_91 0 rfl ?_
    refine g_getR (b := 109) fl_X8_15 sh_107 (by decide) rfl rfl dX8_weigh_92 ?_
    refine g_iconst dX8_weigh_95 (v := 0) (by decide) ?_
    refine g_aload_n dX8_weigh_96 0 rfl ?_
    refine g_getR (b := 108) fl_X8_9 sh_107 (by decide) rfl rfl dX8_weigh_97 ?_
    refine g_iconst dX8_weigh_100 (v := 0) (by decide) ?_
    refine g_aload_n dX8_weigh_101 0 rfl ?_
    refine g_getI fl_X8_39 sh_107 (by decide) rfl dX8_weigh_102 ?_
    refine g_copyA mw_X8_52 (by omega) sh_109 sh_108 dX8_weigh_105 (fun μ12 => ?_)
    exact g_ret dX8_weigh_108 rfl rfl
  · refine g_iload_n dX8_weigh_65 2 rfl ?_
    refine g_aload_n dX8_weigh_66 0 rfl ?_
    refine g_getI fl_X8_42 sh_107 (by decide) rfl dX8_weigh_67 ?_
    refine g_icmp_ne (tgt := 108) dX8_weigh_70 (by decide) (fun _ => ?_) (fun _ => ?_)
    · exact g_ret dX8_weigh_108 rfl rfl
    · refine g_iload_n dX8_weigh_73 1 rfl ?_
      refine g_aload_n dX8_weigh_74 0 rfl ?_
      refine g_getI fl_X8_45 sh_107 (by decide) rfl dX8_weigh_75 ?_
      refine g_icmp_le (tgt := 108) dX8_weigh_78 (by decide) (fun _ => ?_) (fun _ => ?_)
      · exact g_ret dX8_weigh_108 rfl rfl
      · refine g_aload_n dX8_weigh_81 0 rfl ?_
        refine g_iload_n dX8_weigh_82 2 rfl ?_
        refine g_putI fl_X8_42 sh_107 (by decide) rfl dX8_weigh_83 ?_
        refine g_aload_n dX8_weigh_86 0 rfl ?_
        refine g_iload_n dX8_weigh_87 1 rfl ?_
        refine g_putI fl_X8_45 sh_107 (by decide) rfl dX8_weigh_88 ?_
        refine g_aload_n dX8_weigh_91 0 rfl ?_
        refine g_getR (b := 109) fl_X8_15 sh_107 (by decide) rfl rfl dX8_weigh_92 ?_
        refine g_iconst dX8_weigh_95 (v := 0) (by decide) ?_
        refine g_aload_n dX8_weigh_96 0 rfl ?_
        refine g_getR (b := 108) fl_X8_9 sh_107 (by decide) rfl rfl dX8_weigh_97 ?_
        refine g_iconst dX8_weigh_100 (v := 0) (by decide) ?_
        refine g_aload_n dX8_weigh_101 0 rfl ?_
        refine g_getI fl_X8_39 sh_107 (by decide) rfl dX8_weigh_102 ?_
        refine g_copyA mw_X8_52 (by omega) sh_109 sh_108 dX8_weigh_105 (fun μ16 => ?_)
        exact g_ret dX8_weigh_108 rfl rfl
set_option maxHeartbeats 4000000 in
set_option maxRecDepth 100000 in
theorem okL_X8_tapAndPass_50 (g : GG) (F : Nat) (r1 : Nat) (v2 : Int32) (v3 : Int32) (r5 : Nat) (k : Mm → Option (Mm)) (hr1 : Bk r1) (hr5 : shp r5 = (0, 25)) (hk : ∀ (μ : Mm), Go g RX8 cX8_tapAndPass 7 .return_ 2 cvV 85 [(1, .ref (gb g + r1)), (3, .int v3), (5, .ref (gb g + r5))] [] μ (k μ)) : ∀ (n : Nat) (v6 : Int32) (μ : Mm), Go g RX8 cX8_tapAndPass 7 .return_ 2 cvV 50 [(0, .ref (gb g + 107)), (1, .ref (gb g + r1)), (2, .int v2), (3, .int v3), (5, .ref (gb g + r5)), (6, .int v6)] [] μ (L_X8_tapAndPass_50 F r1 v2 v3 r5 k n v6 μ) := by
  intro n
  induction n with
  | zero =>
    intro v6 μ
    exact g_none
  | succ n ih =>
    intro v6 μ
    rw [L_X8_tapAndPass_50_s]
    refine g_iload dX8_tapAndPass_50 5 rfl ?_
    refine g_aload_n dX8_tapAndPass_52 1 rfl ?_
    refine g_vIp [] [.int v6] mw_X8_82 (ok_X0_cells g r1 hr1 μ) (by omega) (bk_0 hr1) (by decide) rfl rfl (Nat.le_of_ble_eq_true rfl) dX8_tapAndPass_53 (fun x12 _ => ?_)
    refine g_icmp_ge (tgt := 85) dX8_tapAndPass_56 (by decide) (fun _ => ?_) (fun _ => ?_)
    · refine g_lv [1, 3, 4] rfl ?_
      exact hk μ
    · refine g_aload dX8_tapAndPass_59 4 rfl ?_
      refine g_iload dX8_tapAndPass_61 5 rfl ?_
      refine g_aload_n dX8_tapAndPass_63 0 rfl ?_
      refine g_getR (b := 117) fl_X8_23 sh_107 (by decide) rfl rfl dX8_tapAndPass_64 ?_
      refine g_iload_n dX8_tapAndPass_67 2 rfl ?_
      refine g_aaload5 sh_117 dX8_tapAndPass_68 (fun q13 h14 => ?_)
      refine g_iload dX8_tapAndPass_69 5 rfl ?_
      refine g_iaload (rdE_117 h14) dX8_tapAndPass_71 (fun x15 => ?_)
      refine g_iconst dX8_tapAndPass_72 (v := 1) (by decide) ?_
      refine g_isub dX8_tapAndPass_73 ?_
      refine g_iconst dX8_tapAndPass_74 (v := 0) (by decide) ?_
      refine g_mmax mw_X8_86 (by omega) (Nat.le_of_ble_eq_true rfl) dX8_tapAndPass_75 (fun x16 => ?_)
      refine g_iastore hr5 dX8_tapAndPass_78 (fun μ17 => ?_)
      refine g_iinc dX8_tapAndPass_79 5 rfl (v := (v6 + 1)) rfl (by decide) (lv' := [(6, .int (v6 + 1)), (0, .ref (gb g + 107)), (1, .ref (gb g + r1)), (2, .int v2), (3, .int v3), (5, .ref (gb g + r5))]) rfl ?_
      refine g_goto (tgt := 50) dX8_tapAndPass_82 (by decide) ?_
      refine g_lv [1, 2, 3, 4, 5, 0] rfl ?_
      exact ih (v6 + 1) μ17
set_option maxHeartbeats 4000000 in
set_option maxRecDepth 100000 in
theorem ok_X8_tapAndPass (g : GG) (F : Nat) (r1 : Nat) (v2 : Int32) (v3 : Int32) (hr1 : Bk r1) (μ : Mm) : Ct g yX8_tapAndPass cX8_tapAndPass 7 none 2 cvV [.ref (gb g + 107), .ref (gb g + r1), .int v2, .int v3] μ (f_X8_tapAndPass F r1 v2 v3 μ) := by
  refine ct_V (by decide +kernel) (Nat.le_of_ble_eq_true rfl) (show Go g RX8 cX8_tapAndPass 7 .return_ 2 cvV 0 [(0, .ref (gb g + 107)), (1, .ref (gb g + r1)), (2, .int v2), (3, .int v3)] [] μ (f_X8_tapAndPass F r1 v2 v3 μ) from ?_)
  unfold f_X8_tapAndPass
  refine g_aload_n dX8_tapAndPass_0 0 rfl ?_
  refine g_getR (b := 110) fl_X8_20 sh_107 (by decide) rfl rfl dX8_tapAndPass_1 ?_
  refine g_iload_n dX8_tapAndPass_4 2 rfl ?_
  refine g_iconst dX8_tapAndPass_5 (v := 1) (by decide) ?_
  refine g_iadd dX8_tapAndPass_6 ?_
  refine g_aaload5 sh_110 dX8_tapAndPass_7 (fun q1 h2 => ?_)
  refine g_astore dX8_tapAndPass_8 (by decide) (lv' := [(4, .ref (gb g + q1)), (0, .ref (gb g + 107)), (1, .ref (gb g + r1)), (2, .int v2), (3, .int v3)]) rfl ?_
  refine g_aload_n dX8_tapAndPass_10 1 rfl ?_
  refine g_getR (b := 117) fl_X8_23 sh_107 (by decide) rfl rfl dX8_tapAndPass_11 ?_
  refine g_iload_n dX8_tapAndPass_14 3 rfl ?_
  refine g_iconst dX8_tapAndPass_15 (v := 1) (by decide) ?_
  refine g_iadd dX8_tapAndPass_16 ?_
  refine g_aaload5 sh_117 dX8_tapAndPass_17 (fun q3 h4 => ?_)
  refine g_astore dX8_tapAndPass_18 (by decide) (lv' := [(5, .ref (gb g + q3)), (4, .ref (gb g + q1)), (0, .ref (gb g + 107)), (1, .ref (gb g + r1)), (2, .int v2), (3, .int v3)]) rfl ?_
  refine g_aload_n dX8_tapAndPass_20 2 rfl ?_
  refine g_getR (b := 124) fl_X8_26 sh_107 (by decide) rfl rfl dX8_tapAndPass_21 ?_
  refine g_iload_n dX8_tapAndPass_24 4 rfl ?_
  refine g_aaload5 sh_124 dX8_tapAndPass_25 (fun q5 h6 => ?_)
  refine g_iconst dX8_tapAndPass_26 (v := 0) (by decide) ?_
  refine g_aload dX8_tapAndPass_27 1 rfl ?_
  refine g_iconst dX8_tapAndPass_29 (v := 0) (by decide) ?_
  refine g_bipush dX8_tapAndPass_30 (v := 25) (by decide) ?_
  refine g_copyA mw_X8_52 (by omega) (rdE_124 h6) (rdE_110 h2) dX8_tapAndPass_32 (fun μ7 => ?_)
  refine g_aload dX8_tapAndPass_35 1 rfl ?_
  refine g_iload_n dX8_tapAndPass_37 5 rfl ?_
  refine g_aload_n dX8_tapAndPass_38 2 rfl ?_
  refine g_getR (b := 110) fl_X8_20 sh_107 (by decide) rfl rfl dX8_tapAndPass_39 ?_
  refine g_iload_n dX8_tapAndPass_42 4 rfl ?_
  refine g_aaload5 sh_110 dX8_tapAndPass_43 (fun q8 h9 => ?_)
  refine g_iload_n dX8_tapAndPass_44 5 rfl ?_
  refine g_iaload (rdE_110 h9) dX8_tapAndPass_45 (fun x10 => ?_)
  refine g_iastore (rdE_110 h2) dX8_tapAndPass_46 (fun μ11 => ?_)
  refine g_iconst dX8_tapAndPass_47 (v := 0) (by decide) ?_
  refine g_istore dX8_tapAndPass_48 (by decide) (lv' := [(6, .int 0), (5, .ref (gb g + q3)), (4, .ref (gb g + q1)), (0, .ref (gb g + 107)), (1, .ref (gb g + r1)), (2, .int v2), (3, .int v3)]) rfl ?_
  refine g_lv [3, 4, 5, 6, 1, 0] rfl ?_
  refine okL_X8_tapAndPass_50 g F r1 v2 v3 q3 _ hr1 (rdE_117 h4) (fun μ18 => ?_) F 0 μ11
  refine g_aload dX8_tapAndPass_85 2 rfl ?_
  refine g_iload_n dX8_tapAndPass_87 1 rfl ?_
  refine g_aload_n dX8_tapAndPass_88 0 rfl ?_
  refine g_getI fl_X8_89 (bk_0 hr1) (by decide) rfl dX8_tapAndPass_89 ?_
  refine g_iconst dX8_tapAndPass_92 (v := 1) (by decide) ?_
  refine g_isub dX8_tapAndPass_93 ?_
  refine g_iastore (rdE_117 h4) dX8_tapAndPass_94 (fun μ19 => ?_)
  exact g_ret dX8_tapAndPass_95 rfl rfl
set_option maxHeartbeats 4000000 in
set_option maxRecDepth 100000 in
theorem okL_X8_tryStep_42 (g : GG) (dr : Nat) (F : Nat) (rc_X8_tryStep : Nat → Int32 → Int32 → Int32 → Mm → Option (Mm)) (r1 : Nat) (v2 : Int32) (v3 : Int32) (v4 : Int32) (k : Mm → Option (Mm)) (hr1 : Bk r1) (hr_X8_tryStep : ∀ (r1 : Nat) (v2 : Int32) (v3 : Int32) (v4 : Int32) (hr1 : Bk r1) (μ : Mm), Ct g yX8_tryStep cX8_tryStep 7 none dr cvV [.ref (gb g + 107), .ref (gb g + r1), .int v2, .int v3, .int v4] μ (rc_X8_tryStep r1 v2 v3 v4 μ)) (hk : ∀ (μ : Mm), Go g RX8 cX8_tryStep 7 .return_ (dr + 4) cvV 110 [] [] μ (k μ)) : ∀ (n : Nat) (v5 : Int32) (μ : Mm), Go g RX8 cX8_tryStep 7 .return_ (dr + 4) cvV 42 [(0, .ref (gb g + 107)), (1, .ref (gb g + r1)), (2, .int v2), (3, .int v3), (4, .int v4), (5, .int v5)] [] μ (L_X8_tryStep_42 F rc_X8_tryStep r1 v2 v3 v4 k n v5 μ) := by
  intro n
  induction n with
  | zero =>
    intro v5 μ
    exact g_none
  | succ n ih =>
    intro v5 μ
    rw [L_X8_tryStep_42_s]
    refine g_iload dX8_tryStep_42 5 rfl ?_
    refine g_iconst dX8_tryStep_44 (v := 4) (by decide) ?_
    refine g_icmp_gt (tgt := 110) dX8_tryStep_45 (by decide) (fun _ => ?_) (fun _ => ?_)
    · refine g_lv [] rfl ?_
      exact hk μ
    · refine g_aload_n dX8_tryStep_48 1 rfl ?_
      refine g_iload_n dX8_tryStep_49 3 rfl ?_
      refine g_iload dX8_tryStep_50 5 rfl ?_
      refine g_vIp [.int v3, .int v5] [] mw_X8_75 (ok_X0_gone g r1 v3 v5 hr1 μ) (by omega) (bk_0 hr1) (by decide) rfl rfl (Nat.le_of_ble_eq_true rfl) dX8_tryStep_52 (fun x9 _ => ?_)
      refine g_istore dX8_tryStep_55 (by decide) (lv' := [(6, .int x9), (0, .ref (gb g + 107)), (1, .ref (gb g + r1)), (2, .int v2), (3, .int v3), (4, .int v4), (5, .int v5)]) rfl ?_
      refine g_iload dX8_tryStep_57 0 rfl ?_
      refine g_iconst dX8_tryStep_59 (v := (-1)) (by decide) ?_
      refine g_icmp_eq (tgt := 104) dX8_tryStep_60 (by decide) (fun _ => ?_) (fun _ => ?_)
      · refine g_iinc dX8_tryStep_104 6 rfl (v := (v5 + 1)) rfl (by decide) (lv' := [(5, .int (v5 + 1)), (6, .int x9), (0, .ref (gb g + 107)), (1, .ref (gb g + r1)), (2, .int v2), (3, .int v3), (4, .int v4)]) rfl ?_
        refine g_goto (tgt := 42) dX8_tryStep_107 (by decide) ?_
        refine g_lv [2, 3, 4, 5, 6, 0] rfl ?_
        exact ih (v5 + 1) μ
      · refine g_aload_n dX8_tryStep_63 1 rfl ?_
        refine g_getR (b := 109) fl_X8_15 sh_107 (by decide) rfl rfl dX8_tryStep_64 ?_
        refine g_iload_n dX8_tryStep_67 3 rfl ?_
        refine g_iload dX8_tryStep_68 6 rfl ?_
        refine g_iastore sh_109 dX8_tryStep_70 (fun μ11 => ?_)
        refine g_aload_n dX8_tryStep_71 1 rfl ?_
        refine g_aload_n dX8_tryStep_72 2 rfl ?_
        refine g_iload_n dX8_tryStep_73 3 rfl ?_
        refine g_iload dX8_tryStep_74 0 rfl ?_
        refine g_vV [.ref (gb g + r1), .int v2, .int x9] [] mw_X8_78 (ok_X8_tapAndPass g F r1 v2 x9 hr1 μ11) (by omega) sh_107 (by decide) rfl rfl (Nat.le_of_ble_eq_true rfl) dX8_tryStep_76 (fun μ13 _ => ?_)
        refine g_aload_n dX8_tryStep_79 1 rfl ?_
        refine g_aload_n dX8_tryStep_80 2 rfl ?_
        refine g_iload_n dX8_tryStep_81 3 rfl ?_
        refine g_iconst dX8_tryStep_82 (v := 1) (by decide) ?_
        refine g_iadd dX8_tryStep_83 ?_
        refine g_iload dX8_tryStep_84 0 rfl ?_
        refine g_iload dX8_tryStep_86 6 rfl ?_
        refine g_iconst dX8_tryStep_88 (v := 4) (by decide) ?_
        have hJ18 : ∀ (w15 : Int32), w15 = (if v5 = 4 then (v4 + (1 : Int32)) else v4) → Go g RX8 cX8_tryStep 7 .return_ (dr + 4) cvV 101 [(0, .ref (gb g + 107)), (1, .ref (gb g + r1)), (2, .int v2), (3, .int v3), (4, .int v4), (5, .int v5)] [.int w15, .int x9, .int (v2 + (1 : Int32)), .ref (gb g + r1), .ref (gb g + 107)] μ13 ((rc_X8_tryStep r1 (v2 + (1 : Int32)) x9 (if v5 = 4 then (v4 + (1 : Int32)) else v4) μ13).bind fun μ17 => L_X8_tryStep_42 F rc_X8_tryStep r1 v2 v3 v4 k n (v5 + 1) μ17) := by
          intro w15 ew15
          subst ew15
          refine g_vV [.ref (gb g + r1), .int (v2 + (1 : Int32)), .int x9, .int (if v5 = 4 then (v4 + (1 : Int32)) else v4)] [] mw_X8_63 (hr_X8_tryStep r1 (v2 + (1 : Int32)) x9 (if v5 = 4 then (v4 + (1 : Int32)) else v4) hr1 μ13) (by omega) sh_107 (by decide) rfl rfl (Nat.le_of_ble_eq_true rfl) dX8_tryStep_101 (fun μ17 _ => ?_)
          refine g_iinc dX8_tryStep_104 5 rfl (v := (v5 + 1)) rfl (by decide) (lv' := [(5, .int (v5 + 1)), (0, .ref (gb g + 107)), (1, .ref (gb g + r1)), (2, .int v2), (3, .int v3), (4, .int v4)]) rfl ?_
          refine g_goto (tgt := 42) dX8_tryStep_107 (by decide) ?_
          refine g_lv [1, 2, 3, 4, 5, 0] rfl ?_
          exact ih (v5 + 1) μ17
        refine g_same (g_icmp_ne (tgt := 99) dX8_tryStep_89 (by decide) (fun c14 => ?_) (fun c14 => ?_))
        · refine g_iload dX8_tryStep_99 5 rfl ?_
          refine g_lv [1, 2, 3, 4, 5, 6] rfl ?_
          exact hJ18 _ (by rw [if_neg c14])
        · refine g_iload dX8_tryStep_92 5 rfl ?_
          refine g_iconst dX8_tryStep_94 (v := 1) (by decide) ?_
          refine g_iadd dX8_tryStep_95 ?_
          refine g_goto (tgt := 101) dX8_tryStep_96 (by decide) ?_
          refine g_lv [1, 2, 3, 4, 5, 6] rfl ?_
          exact hJ18 _ (by rw [if_pos c14])
set_option maxHeartbeats 4000000 in
set_option maxRecDepth 100000 in
theorem ok_X8_tryStep (g : GG) (dr : Nat) (F : Nat) (rc_X8_tryStep : Nat → Int32 → Int32 → Int32 → Mm → Option (Mm)) (r1 : Nat) (v2 : Int32) (v3 : Int32) (v4 : Int32) (hr1 : Bk r1) (hr_X8_tryStep : ∀ (r1 : Nat) (v2 : Int32) (v3 : Int32) (v4 : Int32) (hr1 : Bk r1) (μ : Mm), Ct g yX8_tryStep cX8_tryStep 7 none dr cvV [.ref (gb g + 107), .ref (gb g + r1), .int v2, .int v3, .int v4] μ (rc_X8_tryStep r1 v2 v3 v4 μ)) (μ : Mm) : Ct g yX8_tryStep cX8_tryStep 7 none (dr + 4) cvV [.ref (gb g + 107), .ref (gb g + r1), .int v2, .int v3, .int v4] μ (f_X8_tryStep F rc_X8_tryStep r1 v2 v3 v4 μ) := by
  refine ct_V (by decide +kernel) (Nat.le_of_ble_eq_true rfl) (show Go g RX8 cX8_tryStep 7 .return_ (dr + 4) cvV 0 [(0, .ref (gb g + 107)), (1, .ref (gb g + r1)), (2, .int v2), (3, .int v3), (4, .int v4)] [] μ (f_X8_tryStep F rc_X8_tryStep r1 v2 v3 v4 μ) from ?_)
  unfold f_X8_tryStep
  refine g_iload_n dX8_tryStep_0 2 rfl ?_
  refine g_aload_n dX8_tryStep_1 0 rfl ?_
  refine g_getI fl_X8_39 sh_107 (by decide) rfl dX8_tryStep_2 ?_
  refine g_icmp_lt (tgt := 16) dX8_tryStep_5 (by decide) (fun _ => ?_) (fun _ => ?_)
  · refine g_aload_n dX8_tryStep_16 1 rfl ?_
    refine g_aload_n dX8_tryStep_17 0 rfl ?_
    refine g_getR (b := 110) fl_X8_20 sh_107 (by decide) rfl rfl dX8_tryStep_18 ?_
    refine g_iload_n dX8_tryStep_21 2 rfl ?_
    refine g_aaload5 sh_110 dX8_tryStep_22 (fun q1 h2 => ?_)
    refine g_aload_n dX8_tryStep_23 0 rfl ?_
    refine g_getR (b := 117) fl_X8_23 sh_107 (by decide) rfl rfl dX8_tryStep_24 ?_
    refine g_iload_n dX8_tryStep_27 2 rfl ?_
    refine g_aaload5 sh_117 dX8_tryStep_28 (fun q3 h4 => ?_)
    refine g_aload_n dX8_tryStep_29 0 rfl ?_
    refine g_getR (b := 124) fl_X8_26 sh_107 (by decide) rfl rfl dX8_tryStep_30 ?_
    refine g_iload_n dX8_tryStep_33 2 rfl ?_
    refine g_aaload5 sh_124 dX8_tryStep_34 (fun q5 h6 => ?_)
    refine g_vZ [.ref (gb g + q1), .ref (gb g + q3), .ref (gb g + q5)] [] mw_X8_71 (ok_X0_drift g F r1 q1 q3 q5 hr1 (rdE_110 h2) (rdE_117 h4) (rdE_124 h6) μ) (by omega) (bk_0 hr1) (by decide) rfl rfl (Nat.le_of_ble_eq_true rfl) dX8_tryStep_35 (fun x7 μ8 _ => ?_)
    refine g_pop dX8_tryStep_38 rfl ?_
    refine g_iconst dX8_tryStep_39 (v := 0) (by decide) ?_
    refine g_istore dX8_tryStep_40 (by decide) (lv' := [(5, .int 0), (0, .ref (gb g + 107)), (1, .ref (gb g + r1)), (2, .int v2), (3, .int v3), (4, .int v4)]) rfl ?_
    refine g_lv [1, 2, 3, 4, 5, 0] rfl ?_
    refine okL_X8_tryStep_42 g dr F rc_X8_tryStep r1 v2 v3 v4 _ hr1 hr_X8_tryStep (fun μ19 => ?_) F 0 μ8
    exact g_ret dX8_tryStep_110 rfl rfl
  · refine g_aload_n dX8_tryStep_8 0 rfl ?_
    refine g_aload_n dX8_tryStep_9 1 rfl ?_
    refine g_iload dX8_tryStep_10 4 rfl ?_
    refine g_vV [.ref (gb g + r1), .int v4] [] mw_X8_67 (ok_X8_weigh g F r1 v4 hr1 μ) (by omega) sh_107 (by decide) rfl rfl (Nat.le_of_ble_eq_true rfl) dX8_tryStep_12 (fun μ21 _ => ?_)
    exact g_ret dX8_tryStep_15 rfl rfl
theorem okt_X8_tryStep (g : GG) (F : Nat) : ∀ (D : Nat) (r1 : Nat) (v2 : Int32) (v3 : Int32) (v4 : Int32) (hr1 : Bk r1) (μ : Mm), Ct g yX8_tryStep cX8_tryStep 7 none (D * 4) cvV [.ref (gb g + 107), .ref (gb g + r1), .int v2, .int v3, .int v4] μ (t_X8_tryStep F D r1 v2 v3 v4 μ) := by
  intro D
  induction D with
  | zero =>
    intro r1 v2 v3 v4 hr1 μ r hr
    cases hr
  | succ D ih =>
    intro r1 v2 v3 v4 hr1 μ
    rw [t_X8_tryStep_s, show (D + 1) * 4 = D * 4 + 4 by omega]
    exact ok_X8_tryStep g (D * 4) F (t_X8_tryStep F D) r1 v2 v3 v4 hr1 (fun r1 v2 v3 v4 hr1 μ => ih r1 v2 v3 v4 hr1 μ) μ
set_option maxHeartbeats 4000000 in
set_option maxRecDepth 100000 in
theorem ok_X8_seek (g : GG) (F : Nat) (r1 : Nat) (v2 : Int32) (v3 : Int32) (hr1 : Bk r1) (μ : Mm) : Ct g yX8_seek cX8_seek 4 none 37 cvV [.ref (gb g + 107), .ref (gb g + r1), .int v2, .int v3] μ (f_X8_seek F r1 v2 v3 μ) := by
  refine ct_V (by decide +kernel) (Nat.le_of_ble_eq_true rfl) (show Go g RX8 cX8_seek 4 .return_ 37 cvV 0 [(0, .ref (gb g + 107)), (1, .ref (gb g + r1)), (2, .int v2), (3, .int v3)] [] μ (f_X8_seek F r1 v2 v3 μ) from ?_)
  unfold f_X8_seek
  refine g_aload_n dX8_seek_0 0 rfl ?_
  refine g_iload_n dX8_seek_1 2 rfl ?_
  refine g_putI fl_X8_29 sh_107 (by decide) rfl dX8_seek_2 ?_
  refine g_aload_n dX8_seek_5 0 rfl ?_
  refine g_iload_n dX8_seek_6 3 rfl ?_
  refine g_iconst dX8_seek_7 (v := 5) (by decide) ?_
  refine g_mmin mw_X8_33 (by omega) (Nat.le_of_ble_eq_true rfl) dX8_seek_8 (fun x1 => ?_)
  refine g_putI fl_X8_39 sh_107 (by decide) rfl dX8_seek_11 ?_
  refine g_aload_n dX8_seek_14 0 rfl ?_
  refine g_bipush dX8_seek_15 (v := 26) (by decide) ?_
  refine g_putI fl_X8_42 sh_107 (by decide) rfl dX8_seek_17 ?_
  refine g_aload_n dX8_seek_20 0 rfl ?_
  refine g_iconst dX8_seek_21 (v := 0) (by decide) ?_
  refine g_putI fl_X8_45 sh_107 (by decide) rfl dX8_seek_22 ?_
  refine g_aload_n dX8_seek_25 1 rfl ?_
  refine g_getR (b := (r1 + 8)) fl_X8_48 (bk_0 hr1) (by decide) rfl rfl dX8_seek_26 ?_
  refine g_iconst dX8_seek_29 (v := 0) (by decide) ?_
  refine g_aload_n dX8_seek_30 0 rfl ?_
  refine g_getR (b := 110) fl_X8_20 sh_107 (by decide) rfl rfl dX8_seek_31 ?_
  refine g_iconst dX8_seek_34 (v := 0) (by decide) ?_
  refine g_aaload5 sh_110 dX8_seek_35 (fun q2 h3 => ?_)
  refine g_iconst dX8_seek_36 (v := 0) (by decide) ?_
  refine g_bipush dX8_seek_37 (v := 25) (by decide) ?_
  refine g_copyA mw_X8_52 (by omega) (bk_8 hr1) (rdE_110 h3) dX8_seek_39 (fun μ4 => ?_)
  refine g_aload_n dX8_seek_42 1 rfl ?_
  refine g_getR (b := (r1 + 10)) fl_X8_58 (bk_0 hr1) (by decide) rfl rfl dX8_seek_43 ?_
  refine g_iconst dX8_seek_46 (v := 0) (by decide) ?_
  refine g_aload_n dX8_seek_47 0 rfl ?_
  refine g_getR (b := 117) fl_X8_23 sh_107 (by decide) rfl rfl dX8_seek_48 ?_
  refine g_iconst dX8_seek_51 (v := 0) (by decide) ?_
  refine g_aaload5 sh_117 dX8_seek_52 (fun q5 h6 => ?_)
  refine g_iconst dX8_seek_53 (v := 0) (by decide) ?_
  refine g_bipush dX8_seek_54 (v := 25) (by decide) ?_
  refine g_copyA mw_X8_52 (by omega) (bk_10 hr1) (rdE_117 h6) dX8_seek_56 (fun μ7 => ?_)
  refine g_aload_n dX8_seek_59 0 rfl ?_
  refine g_aload_n dX8_seek_60 1 rfl ?_
  refine g_iconst dX8_seek_61 (v := 0) (by decide) ?_
  refine g_aload_n dX8_seek_62 1 rfl ?_
  refine g_getI fl_X8_60 (bk_0 hr1) (by decide) rfl dX8_seek_63 ?_
  refine g_iconst dX8_seek_66 (v := 0) (by decide) ?_
  refine g_vV [.ref (gb g + r1), .int 0, .int (mI μ7 r1 4), .int 0] [] mw_X8_63 (okt_X8_tryStep g F 9 r1 0 (mI μ7 r1 4) 0 hr1 μ7) (by omega) sh_107 (by decide) rfl rfl (Nat.le_of_ble_eq_true rfl) dX8_seek_67 (fun μ9 _ => ?_)
  exact g_ret dX8_seek_70 rfl rfl
set_option maxHeartbeats 4000000 in
set_option maxRecDepth 100000 in
theorem okL_X9_append_3 (g : GG) (F : Nat) (v1 : Int32) (k : Mm → Option (Mm))  (hk : ∀ (μ : Mm), Go g RX9 cX9_append 3 .return_ 1 cvV 46 [] [] μ (k μ)) : ∀ (n : Nat) (v2 : Int32) (μ : Mm), Go g RX9 cX9_append 3 .return_ 1 cvV 3 [(0, .ref (gb g + 9)), (1, .int v1), (2, .int v2)] [] μ (L_X9_append_3 F v1 k n v2 μ) := by
  intro n
  induction n with
  | zero =>
    intro v2 μ
    exact g_none
  | succ n ih =>
    intro v2 μ
    rw [L_X9_append_3_s]
    refine g_iload_n dX9_append_3 2 rfl ?_
    refine g_if_lt (tgt := 46) dX9_append_4 (by decide) (fun _ => ?_) (fun _ => ?_)
    · refine g_lv [] rfl ?_
      exact hk μ
    · refine g_aload_n dX9_append_7 0 rfl ?_
      refine g_getI fl_X9_42 sh_9 (by decide) rfl dX9_append_8 ?_
      refine g_sipush dX9_append_11 (v := 900) (by decide) ?_
      refine g_icmp_ge (tgt := 46) dX9_append_14 (by decide) (fun _ => ?_) (fun _ => ?_)
      · refine g_lv [] rfl ?_
        exact hk μ
      · refine g_aload_n dX9_append_17 0 rfl ?_
        refine g_getR (b := 10) fl_X9_11 sh_9 (by decide) rfl rfl dX9_append_18 ?_
        refine g_aload_n dX9_append_21 0 rfl ?_
        refine g_getI fl_X9_42 sh_9 (by decide) rfl dX9_append_22 ?_
        refine g_iload_n dX9_append_25 1 rfl ?_
        refine g_iload_n dX9_append_26 2 rfl ?_
        refine g_ishr dX9_append_27 ?_
        refine g_i2b dX9_append_28 ?_
        refine g_bastore sh_10 dX9_append_29 (fun μ1 => ?_)
        refine g_aload_n dX9_append_30 0 rfl ?_
        refine g_dup dX9_append_31 rfl ?_
        refine g_getI fl_X9_42 sh_9 (by decide) rfl dX9_append_32 ?_
        refine g_iconst dX9_append_35 (v := 1) (by decide) ?_
        refine g_iadd dX9_append_36 ?_
        refine g_putI fl_X9_42 sh_9 (by decide) rfl dX9_append_37 ?_
        refine g_iinc dX9_append_40 2 rfl (v := (v2 + (-8))) rfl (by decide) (lv' := [(2, .int (v2 + (-8))), (0, .ref (gb g + 9)), (1, .int v1)]) rfl ?_
        refine g_goto (tgt := 3) dX9_append_43 (by decide) ?_
        refine g_lv [1, 2, 0] rfl ?_
        exact ih (v2 + (-8)) (sI μ1 9 1 ((mI μ1 9 1) + (1 : Int32)))
set_option maxHeartbeats 4000000 in
set_option maxRecDepth 100000 in
theorem ok_X9_append (g : GG) (F : Nat) (v1 : Int32)  (μ : Mm) : Ct g yX9_append cX9_append 3 none 1 cvV [.ref (gb g + 9), .int v1] μ (f_X9_append F v1 μ) := by
  refine ct_V (by decide +kernel) (Nat.le_of_ble_eq_true rfl) (show Go g RX9 cX9_append 3 .return_ 1 cvV 0 [(0, .ref (gb g + 9)), (1, .int v1)] [] μ (f_X9_append F v1 μ) from ?_)
  unfold f_X9_append
  refine g_bipush dX9_append_0 (v := 24) (by decide) ?_
  refine g_istore_n dX9_append_2 rfl (by decide) (lv' := [(2, .int 24), (0, .ref (gb g + 9)), (1, .int v1)]) rfl ?_
  refine g_lv [1, 2, 0] rfl ?_
  refine okL_X9_append_3 g F v1 _ (fun μ2 => ?_) F 24 μ
  exact g_ret dX9_append_46 rfl rfl
set_option maxHeartbeats 4000000 in
set_option maxRecDepth 100000 in
theorem ok_X10_isNumber (g : GG) (v1 : Int32)  (μ : Mm) : Ct g yX10_isNumber cX10_isNumber 2 (some (.boolean)) 2 (cvZp μ) [.ref (gb g + 1), .int v1] μ (f_X10_isNumber v1 μ) := by
  refine ct_Zp (by decide +kernel) (Nat.le_of_ble_eq_true rfl) (show Go g RX10 cX10_isNumber 2 .ireturn 2 (cvZp μ) 0 [(0, .ref (gb g + 1)), (1, .int v1)] [] μ (f_X10_isNumber v1 μ) from ?_)
  unfold f_X10_isNumber
  refine g_iload_n dX10_isNumber_0 1 rfl ?_
  refine g_iconst dX10_isNumber_1 (v := 0) (by decide) ?_
  refine g_iconst dX10_isNumber_2 (v := 3) (by decide) ?_
  refine g_sZp [.int v1, .int 0, .int 3] [] mw_X10_29 (ok_X11_within g v1 0 3 μ) (by omega) rfl rfl (Nat.le_of_ble_eq_true rfl) dX10_isNumber_3 (fun x1 _ => ?_)
  exact g_ret dX10_isNumber_6 rfl rfl
set_option maxHeartbeats 4000000 in
set_option maxRecDepth 100000 in
theorem ok_X10_isMissing (g : GG) (v1 : Int32)  (μ : Mm) : Ct g yX10_isMissing cX10_isMissing 2 (some (.boolean)) 1 (cvZp μ) [.ref (gb g + 1), .int v1] μ (f_X10_isMissing v1 μ) := by
  refine ct_Zp (by decide +kernel) (Nat.le_of_ble_eq_true rfl) (show Go g RX10 cX10_isMissing 2 .ireturn 1 (cvZp μ) 0 [(0, .ref (gb g + 1)), (1, .int v1)] [] μ (f_X10_isMissing v1 μ) from ?_)
  unfold f_X10_isMissing
  refine g_aload_n dX10_isMissing_0 0 rfl ?_
  refine g_getR (b := 7) fl_X10_16 sh_1 (by decide) rfl rfl dX10_isMissing_1 ?_
  refine g_iload_n dX10_isMissing_4 1 rfl ?_
  refine g_iaload sh_7 dX10_isMissing_5 (fun x1 => ?_)
  refine g_iconst dX10_isMissing_6 (v := (-1)) (by decide) ?_
  refine g_icmp_ne (tgt := 14) dX10_isMissing_7 (by decide) (fun _ => ?_) (fun _ => ?_)
  · refine g_iconst dX10_isMissing_14 (v := 0) (by decide) ?_
    exact g_ret dX10_isMissing_15 rfl rfl
  · refine g_iconst dX10_isMissing_10 (v := 1) (by decide) ?_
    refine g_goto (tgt := 15) dX10_isMissing_11 (by decide) ?_
    exact g_ret dX10_isMissing_15 rfl rfl
set_option maxHeartbeats 4000000 in
set_option maxRecDepth 100000 in
theorem okL_J7_fill_d0a16_6 (g : GG) (F : Nat) (NN : Nat) (r0 : Nat) (v1 : Int64) (v4 : Int32) (k : Mm → Option (Mm)) (hr0 : shp r0 = (1, NN)) (hk : ∀ (μ : Mm), Go g RJ7 cJ7_fill_d0a16 5 .return_ 1 cvV 22 [] [] μ (k μ)) : ∀ (n : Nat) (v3 : Int32) (μ : Mm), Go g RJ7 cJ7_fill_d0a16 5 .return_ 1 cvV 6 [(0, .ref (gb g + r0)), (1, .long v1), (3, .int v3), (4, .int v4)] [] μ (L_J7_fill_d0a16_6 F NN r0 v1 v4 k n v3 μ) := by
  intro n
  induction n with
  | zero =>
    intro v3 μ
    exact g_none
  | succ n ih =>
    intro v3 μ
    rw [L_J7_fill_d0a16_6_s]
    refine g_iload_n dJ7_fill_d0a16_6 2 rfl ?_
    refine g_iload dJ7_fill_d0a16_7 3 rfl ?_
    refine g_icmp_ge (tgt := 22) dJ7_fill_d0a16_9 (by decide) (fun _ => ?_) (fun _ => ?_)
    · refine g_lv [] rfl ?_
      exact hk μ
    · refine g_aload_n dJ7_fill_d0a16_12 0 rfl ?_
      refine g_iload_n dJ7_fill_d0a16_13 2 rfl ?_
      refine g_lload_n dJ7_fill_d0a16_14 1 rfl ?_
      refine g_lastore hr0 dJ7_fill_d0a16_15 (fun μ1 => ?_)
      refine g_iinc dJ7_fill_d0a16_16 2 rfl (v := (v3 + 1)) rfl (by decide) (lv' := [(3, .int (v3 + 1)), (0, .ref (gb g + r0)), (1, .long v1), (4, .int v4)]) rfl ?_
      refine g_goto (tgt := 6) dJ7_fill_d0a16_19 (by decide) ?_
      refine g_lv [1, 2, 0, 3] rfl ?_
      exact ih (v3 + 1) μ1
set_option maxHeartbeats 4000000 in
set_option maxRecDepth 100000 in
theorem ok_J7_fill_d0a16 (g : GG) (F : Nat) (NN : Nat) (r0 : Nat) (v1 : Int64) (hr0 : shp r0 = (1, NN)) (μ : Mm) : Ct g yJ7_fill_d0a16 cJ7_fill_d0a16 5 none 1 cvV [.ref (gb g + r0), .long v1] μ (f_J7_fill_d0a16 F NN r0 v1 μ) := by
  refine ct_V (by decide +kernel) (Nat.le_of_ble_eq_true rfl) (show Go g RJ7 cJ7_fill_d0a16 5 .return_ 1 cvV 0 [(0, .ref (gb g + r0)), (1, .long v1)] [] μ (f_J7_fill_d0a16 F NN r0 v1 μ) from ?_)
  unfold f_J7_fill_d0a16
  refine g_iconst dJ7_fill_d0a16_0 (v := 0) (by decide) ?_
  refine g_istore_n dJ7_fill_d0a16_1 rfl (by decide) (lv' := [(3, .int 0), (0, .ref (gb g + r0)), (1, .long v1)]) rfl ?_
  refine g_aload_n dJ7_fill_d0a16_2 1 rfl ?_
  refine g_alenL hr0 dJ7_fill_d0a16_3 ?_
  refine g_istore dJ7_fill_d0a16_4 (by decide) (lv' := [(4, .int (Int32.ofNat NN)), (3, .int 0), (0, .ref (gb g + r0)), (1, .long v1)]) rfl ?_
  refine g_lv [2, 3, 1, 0] rfl ?_
  refine okL_J7_fill_d0a16_6 g F NN r0 v1 (Int32.ofNat NN) _ hr0 (fun μ2 => ?_) F 0 μ
  exact g_ret dJ7_fill_d0a16_22 rfl rfl
set_option maxHeartbeats 4000000 in
set_option maxRecDepth 100000 in
theorem ok_X10_make (g : GG) (F : Nat) (v1 : Int32) (v2 : Int32) (v3 : Int32)  (μ : Mm) : Ct g yX10_make cX10_make 4 none 2 cvV [.ref (gb g + 1), .int v1, .int v2, .int v3] μ (f_X10_make F v1 v2 v3 μ) := by
  refine ct_V (by decide +kernel) (Nat.le_of_ble_eq_true rfl) (show Go g RX10 cX10_make 4 .return_ 2 cvV 0 [(0, .ref (gb g + 1)), (1, .int v1), (2, .int v2), (3, .int v3)] [] μ (f_X10_make F v1 v2 v3 μ) from ?_)
  unfold f_X10_make
  refine g_aload_n dX10_make_0 0 rfl ?_
  refine g_getR (b := 8) fl_X10_20 sh_1 (by decide) rfl rfl dX10_make_1 ?_
  refine g_iload_n dX10_make_4 1 rfl ?_
  refine g_iload_n dX10_make_5 2 rfl ?_
  refine g_iastore sh_8 dX10_make_6 (fun μ1 => ?_)
  refine g_aload_n dX10_make_7 0 rfl ?_
  refine g_getR (b := 7) fl_X10_16 sh_1 (by decide) rfl rfl dX10_make_8 ?_
  refine g_iload_n dX10_make_11 1 rfl ?_
  refine g_iload_n dX10_make_12 3 rfl ?_
  refine g_iastore sh_7 dX10_make_13 (fun μ2 => ?_)
  refine g_aload_n dX10_make_14 0 rfl ?_
  refine g_getR (b := 2) fl_X10_13 sh_1 (by decide) rfl rfl dX10_make_15 ?_
  refine g_iload_n dX10_make_18 1 rfl ?_
  refine g_aaload6 sh_2 dX10_make_19 (fun q3 h4 => ?_)
  refine g_lconst dX10_make_20 (v := 0) (by decide) ?_
  refine g_sV [.ref (gb g + q3), .long 0] [] mw_X10_33 (ok_J7_fill_d0a16 g F 60 q3 0 (rdE_2 h4) μ2) (by omega) rfl rfl (Nat.le_of_ble_eq_true rfl) dX10_make_21 (fun μ6 _ => ?_)
  exact g_ret dX10_make_24 rfl rfl
set_option maxHeartbeats 4000000 in
set_option maxRecDepth 100000 in
theorem ok_X10_holds (g : GG) (v1 : Int32) (v2 : Int32) (v3 : Int32)  (μ : Mm) : Ct g yX10_holds cX10_holds 4 (some (.boolean)) 1 (cvZp μ) [.ref (gb g + 1), .int v1, .int v2, .int v3] μ (f_X10_holds v1 v2 v3 μ) := by
  refine ct_Zp (by decide +kernel) (Nat.le_of_ble_eq_true rfl) (show Go g RX10 cX10_holds 4 .ireturn 1 (cvZp μ) 0 [(0, .ref (gb g + 1)), (1, .int v1), (2, .int v2), (3, .int v3)] [] μ (f_X10_holds v1 v2 v3 μ) from ?_)
  unfold f_X10_holds
  refine g_iload_n dX10_holds_0 2 rfl ?_
  refine g_if_lt (tgt := 30) dX10_holds_1 (by decide) (fun _ => ?_) (fun _ => ?_)
  · refine g_iconst dX10_holds_30 (v := 0) (by decide) ?_
    exact g_ret dX10_holds_31 rfl rfl
  · refine g_iload_n dX10_holds_4 2 rfl ?_
    refine g_aload_n dX10_holds_5 0 rfl ?_
    refine g_getR (b := 7) fl_X10_16 sh_1 (by decide) rfl rfl dX10_holds_6 ?_
    refine g_iload_n dX10_holds_9 1 rfl ?_
    refine g_iaload sh_7 dX10_holds_10 (fun x1 => ?_)
    refine g_icmp_gt (tgt := 30) dX10_holds_11 (by decide) (fun _ => ?_) (fun _ => ?_)
    · refine g_iconst dX10_holds_30 (v := 0) (by decide) ?_
      exact g_ret dX10_holds_31 rfl rfl
    · refine g_iload_n dX10_holds_14 3 rfl ?_
      refine g_aload_n dX10_holds_15 0 rfl ?_
      refine g_getR (b := 7) fl_X10_16 sh_1 (by decide) rfl rfl dX10_holds_16 ?_
      refine g_iload_n dX10_holds_19 1 rfl ?_
      refine g_iaload sh_7 dX10_holds_20 (fun x2 => ?_)
      refine g_iload_n dX10_holds_21 2 rfl ?_
      refine g_isub dX10_holds_22 ?_
      refine g_icmp_gt (tgt := 30) dX10_holds_23 (by decide) (fun _ => ?_) (fun _ => ?_)
      · refine g_iconst dX10_holds_30 (v := 0) (by decide) ?_
        exact g_ret dX10_holds_31 rfl rfl
      · refine g_iconst dX10_holds_26 (v := 1) (by decide) ?_
        refine g_goto (tgt := 31) dX10_holds_27 (by decide) ?_
        exact g_ret dX10_holds_31 rfl rfl
set_option maxHeartbeats 4000000 in
set_option maxRecDepth 100000 in
theorem ok_X10_lookAt (g : GG) (v1 : Int32) (v2 : Int32)  (μ : Mm) : Ct g yX10_lookAt cX10_lookAt 3 (some (.int)) 3 (cvIp μ) [.ref (gb g + 1), .int v1, .int v2] μ (f_X10_lookAt v1 v2 μ) := by
  refine ct_Ip (by decide +kernel) (Nat.le_of_ble_eq_true rfl) (show Go g RX10 cX10_lookAt 3 .ireturn 3 (cvIp μ) 0 [(0, .ref (gb g + 1)), (1, .int v1), (2, .int v2)] [] μ (f_X10_lookAt v1 v2 μ) from ?_)
  unfold f_X10_lookAt
  refine g_aload_n dX10_lookAt_0 0 rfl ?_
  refine g_iload_n dX10_lookAt_1 1 rfl ?_
  refine g_vZp [.int v1] [] mw_X10_36 (ok_X10_isNumber g v1 μ) (by omega) sh_1 (by decide) rfl rfl (Nat.le_of_ble_eq_true rfl) dX10_lookAt_2 (fun x1 _ => ?_)
  refine g_ifneB (tgt := 10) dX10_lookAt_5 (by decide) (fun _ => ?_) (fun _ => ?_)
  · refine g_aload_n dX10_lookAt_10 0 rfl ?_
    refine g_iload_n dX10_lookAt_11 1 rfl ?_
    refine g_vZp [.int v1] [] mw_X10_40 (ok_X10_isMissing g v1 μ) (by omega) sh_1 (by decide) rfl rfl (Nat.le_of_ble_eq_true rfl) dX10_lookAt_12 (fun x2 _ => ?_)
    refine g_ifeqB (tgt := 20) dX10_lookAt_15 (by decide) (fun _ => ?_) (fun _ => ?_)
    · refine g_iload_n dX10_lookAt_20 2 rfl ?_
      refine g_iconst dX10_lookAt_21 (v := 0) (by decide) ?_
      refine g_aload_n dX10_lookAt_22 0 rfl ?_
      refine g_getR (b := 7) fl_X10_16 sh_1 (by decide) rfl rfl dX10_lookAt_23 ?_
      refine g_iload_n dX10_lookAt_26 1 rfl ?_
      refine g_iaload sh_7 dX10_lookAt_27 (fun x3 => ?_)
      refine g_iconst dX10_lookAt_28 (v := 1) (by decide) ?_
      refine g_isub dX10_lookAt_29 ?_
      refine g_sZp [.int v2, .int 0, .int (x3 - (1 : Int32))] [] mw_X10_29 (ok_X11_within g v2 0 (x3 - (1 : Int32)) μ) (by omega) rfl rfl (Nat.le_of_ble_eq_true rfl) dX10_lookAt_30 (fun x4 _ => ?_)
      have hJ7 : ∀ (w6 : Int32), w6 = (if x4 = true then (0 : Int32) else 4) → Go g RX10 cX10_lookAt 3 .ireturn 3 (cvIp μ) 41 [] [.int w6] μ (some (if x4 = true then (0 : Int32) else 4)) := by
        intro w6 ew6
        subst ew6
        exact g_ret dX10_lookAt_41 rfl rfl
      refine g_same (g_ifeqB (tgt := 40) dX10_lookAt_33 (by decide) (fun c5 => ?_) (fun c5 => ?_))
      · refine g_iconst dX10_lookAt_40 (v := 4) (by decide) ?_
        refine g_lv [] rfl ?_
        exact hJ7 _ (by rw [if_neg c5])
      · refine g_iconst dX10_lookAt_36 (v := 0) (by decide) ?_
        refine g_goto (tgt := 41) dX10_lookAt_37 (by decide) ?_
        refine g_lv [] rfl ?_
        exact hJ7 _ (by rw [if_pos c5])
    · refine g_iconst dX10_lookAt_18 (v := 3) (by decide) ?_
      exact g_ret dX10_lookAt_19 rfl rfl
  · refine g_iconst dX10_lookAt_8 (v := 1) (by decide) ?_
    exact g_ret dX10_lookAt_9 rfl rfl
set_option maxHeartbeats 4000000 in
set_option maxRecDepth 100000 in
theorem ok_X10_cut (g : GG) (v0 : Int64) (v2 : Int32)  (μ : Mm) : Ct g yX10_cut cX10_cut 3 (some (.long)) 1 (cvJp μ) [.long v0, .int v2] μ (f_X10_cut v0 v2 μ) := by
  refine ct_Jp (by decide +kernel) (Nat.le_of_ble_eq_true rfl) (show Go g RX10 cX10_cut 3 .lreturn 1 (cvJp μ) 0 [(0, .long v0), (2, .int v2)] [] μ (f_X10_cut v0 v2 μ) from ?_)
  unfold f_X10_cut
  refine g_iload_n dX10_cut_0 1 rfl ?_
  refine g_if (fun hs0 => ?_) (fun hs0 => ?_)
  · refine g_tswIn 0 (tgt := 28) (off := 27) dX10_cut_1 hs0 (by decide) (by decide) (by decide) (by decide) ?_
    refine g_lload_n dX10_cut_28 0 rfl ?_
    refine g_l2i dX10_cut_29 ?_
    refine g_i2b dX10_cut_30 ?_
    refine g_i2l dX10_cut_31 ?_
    exact g_ret dX10_cut_32 rfl rfl
  · refine g_if (fun hs1 => ?_) (fun hs1 => ?_)
    · refine g_tswIn 1 (tgt := 33) (off := 32) dX10_cut_1 hs1 (by decide) (by decide) (by decide) (by decide) ?_
      refine g_lload_n dX10_cut_33 0 rfl ?_
      refine g_l2i dX10_cut_34 ?_
      refine g_i2s dX10_cut_35 ?_
      refine g_i2l dX10_cut_36 ?_
      exact g_ret dX10_cut_37 rfl rfl
    · refine g_if (fun hs2 => ?_) (fun hs2 => ?_)
      · refine g_tswIn 2 (tgt := 38) (off := 37) dX10_cut_1 hs2 (by decide) (by decide) (by decide) (by decide) ?_
        refine g_lload_n dX10_cut_38 0 rfl ?_
        refine g_l2i dX10_cut_39 ?_
        refine g_i2l dX10_cut_40 ?_
        exact g_ret dX10_cut_41 rfl rfl
      · refine g_tswOut (tgt := 42) dX10_cut_1 (by have n0 := lv_neT (a := 0) hs0 (by decide); have n1 := lv_neT (a := 1) hs1 (by decide); have n2 := lv_neT (a := 2) hs2 (by decide); omega) (by decide) ?_
        refine g_lload_n dX10_cut_42 0 rfl ?_
        exact g_ret dX10_cut_43 rfl rfl
set_option maxHeartbeats 4000000 in
set_option maxRecDepth 100000 in
theorem ok_X10_put (g : GG) (v1 : Int32) (v2 : Int32) (v3 : Int64)  (μ : Mm) : Ct g yX10_put cX10_put 5 none 2 cvV [.ref (gb g + 1), .int v1, .int v2, .long v3] μ (f_X10_put v1 v2 v3 μ) := by
  refine ct_V (by decide +kernel) (Nat.le_of_ble_eq_true rfl) (show Go g RX10 cX10_put 5 .return_ 2 cvV 0 [(0, .ref (gb g + 1)), (1, .int v1), (2, .int v2), (3, .long v3)] [] μ (f_X10_put v1 v2 v3 μ) from ?_)
  unfold f_X10_put
  refine g_aload_n dX10_put_0 0 rfl ?_
  refine g_getR (b := 2) fl_X10_13 sh_1 (by decide) rfl rfl dX10_put_1 ?_
  refine g_iload_n dX10_put_4 1 rfl ?_
  refine g_aaload6 sh_2 dX10_put_5 (fun q1 h2 => ?_)
  refine g_iload_n dX10_put_6 2 rfl ?_
  refine g_lload_n dX10_put_7 3 rfl ?_
  refine g_aload_n dX10_put_8 0 rfl ?_
  refine g_getR (b := 8) fl_X10_20 sh_1 (by decide) rfl rfl dX10_put_9 ?_
  refine g_iload_n dX10_put_12 1 rfl ?_
  refine g_iaload sh_8 dX10_put_13 (fun x3 => ?_)
  refine g_sJp [.long v3, .int x3] [.int v2, .ref (gb g + q1)] mw_X10_43 (ok_X10_cut g v3 x3 μ) (by omega) rfl rfl (Nat.le_of_ble_eq_true rfl) dX10_put_14 (fun x4 _ => ?_)
  refine g_lastore (rdE_2 h2) dX10_put_17 (fun μ5 => ?_)
  exact g_ret dX10_put_18 rfl rfl
set_option maxHeartbeats 4000000 in
set_option maxRecDepth 100000 in
theorem ok_X11_refuse (g : GG) (v1 : Int32)  (μ : Mm) : Ct g yX11_refuse cX11_refuse 2 (some (.int)) 1 cvI [.ref (gb g + 0), .int v1] μ (f_X11_refuse v1 μ) := by
  refine ct_I (by decide +kernel) (Nat.le_of_ble_eq_true rfl) (show Go g RX11 cX11_refuse 2 .ireturn 1 cvI 0 [(0, .ref (gb g + 0)), (1, .int v1)] [] μ (f_X11_refuse v1 μ) from ?_)
  unfold f_X11_refuse
  refine g_aload_n dX11_refuse_0 0 rfl ?_
  refine g_iload_n dX11_refuse_1 1 rfl ?_
  refine g_putI fl_X11_7 sh_0 (by decide) rfl dX11_refuse_2 ?_
  refine g_iconst dX11_refuse_5 (v := (-1)) (by decide) ?_
  exact g_ret dX11_refuse_6 rfl rfl
set_option maxHeartbeats 4000000 in
set_option maxRecDepth 100000 in
theorem ok_X11_answer (g : GG) (v1 : Int32)  (μ : Mm) : Ct g yX11_answer cX11_answer 2 (some (.int)) 1 cvI [.ref (gb g + 0), .int v1] μ (f_X11_answer v1 μ) := by
  refine ct_I (by decide +kernel) (Nat.le_of_ble_eq_true rfl) (show Go g RX11 cX11_answer 2 .ireturn 1 cvI 0 [(0, .ref (gb g + 0)), (1, .int v1)] [] μ (f_X11_answer v1 μ) from ?_)
  unfold f_X11_answer
  refine g_aload_n dX11_answer_0 0 rfl ?_
  refine g_iconst dX11_answer_1 (v := 0) (by decide) ?_
  refine g_putI fl_X11_7 sh_0 (by decide) rfl dX11_answer_2 ?_
  refine g_iload_n dX11_answer_5 1 rfl ?_
  exact g_ret dX11_answer_6 rfl rfl
set_option maxHeartbeats 4000000 in
set_option maxRecDepth 100000 in
theorem ok_X11_verdict (g : GG) (v1 : Int32)  (μ : Mm) : Ct g yX11_verdict cX11_verdict 2 (some (.boolean)) 1 cvZ [.ref (gb g + 0), .int v1] μ (f_X11_verdict v1 μ) := by
  refine ct_Z (by decide +kernel) (Nat.le_of_ble_eq_true rfl) (show Go g RX11 cX11_verdict 2 .ireturn 1 cvZ 0 [(0, .ref (gb g + 0)), (1, .int v1)] [] μ (f_X11_verdict v1 μ) from ?_)
  unfold f_X11_verdict
  refine g_aload_n dX11_verdict_0 0 rfl ?_
  refine g_iload_n dX11_verdict_1 1 rfl ?_
  refine g_putI fl_X11_7 sh_0 (by decide) rfl dX11_verdict_2 ?_
  refine g_iload_n dX11_verdict_5 1 rfl ?_
  refine g_if_ne (tgt := 13) dX11_verdict_6 (by decide) (fun _ => ?_) (fun _ => ?_)
  · refine g_iconst dX11_verdict_13 (v := 0) (by decide) ?_
    exact g_ret dX11_verdict_14 rfl rfl
  · refine g_iconst dX11_verdict_9 (v := 1) (by decide) ?_
    refine g_goto (tgt := 14) dX11_verdict_10 (by decide) ?_
    exact g_ret dX11_verdict_14 rfl rfl
set_option maxHeartbeats 4000000 in
set_option maxRecDepth 100000 in
theorem okL_X11_commonDivisor_9 (g : GG) (F : Nat)  (k : Int64 → Option (Int64)) (μ : Mm)  (hk : ∀ (v4 : Int64), Go g RX11 cX11_commonDivisor 11 .lreturn 1 (cvJp μ) 45 [(4, .long v4)] [] μ (k v4)) : ∀ (n : Nat) (v4 : Int64) (v6 : Int64) (v8 : Int32), Go g RX11 cX11_commonDivisor 11 .lreturn 1 (cvJp μ) 9 [(4, .long v4), (6, .long v6), (8, .int v8)] [] μ (L_X11_commonDivisor_9 F k μ n v4 v6 v8) := by
  intro n
  induction n with
  | zero =>
    intro v4 v6 v8
    exact g_none
  | succ n ih =>
    intro v4 v6 v8
    rw [L_X11_commonDivisor_9_s]
    refine g_iload dX11_commonDivisor_9 2 rfl ?_
    refine g_sipush dX11_commonDivisor_11 (v := 200) (by decide) ?_
    refine g_icmp_ge (tgt := 45) dX11_commonDivisor_14 (by decide) (fun _ => ?_) (fun _ => ?_)
    · refine g_lv [0] rfl ?_
      exact hk v4
    · refine g_lload dX11_commonDivisor_17 1 rfl ?_
      refine g_lconst dX11_commonDivisor_19 (v := 0) (by decide) ?_
      refine g_lcmp dX11_commonDivisor_20 ?_
      refine g_if_eq (tgt := 45) dX11_commonDivisor_21 (by decide) (fun _ => ?_) (fun _ => ?_)
      · refine g_lv [0] rfl ?_
        exact hk v4
      · refine g_lload dX11_commonDivisor_24 0 rfl ?_
        refine g_lload dX11_commonDivisor_26 1 rfl ?_
        refine g_lrem dX11_commonDivisor_28 ?_
        refine g_lstore dX11_commonDivisor_29 (by decide) (lv' := [(9, .long (v4 - v4 / v6 * v6)), (4, .long v4), (6, .long v6), (8, .int v8)]) rfl ?_
        refine g_lload dX11_commonDivisor_31 2 rfl ?_
        refine g_lstore dX11_commonDivisor_33 (by decide) (lv' := [(4, .long v6), (9, .long (v4 - v4 / v6 * v6)), (6, .long v6), (8, .int v8)]) rfl ?_
        refine g_lload dX11_commonDivisor_35 1 rfl ?_
        refine g_lstore dX11_commonDivisor_37 (by decide) (lv' := [(6, .long (v4 - v4 / v6 * v6)), (4, .long v6), (9, .long (v4 - v4 / v6 * v6)), (8, .int v8)]) rfl ?_
        refine g_iinc dX11_commonDivisor_39 3 rfl (v := (v8 + 1)) rfl (by decide) (lv' := [(8, .int (v8 + 1)), (6, .long (v4 - v4 / v6 * v6)), (4, .long v6), (9, .long (v4 - v4 / v6 * v6))]) rfl ?_
        refine g_goto (tgt := 9) dX11_commonDivisor_42 (by decide) ?_
        refine g_lv [2, 1, 0] rfl ?_
        exact ih v6 (v4 - v4 / v6 * v6) (v8 + 1)
set_option maxHeartbeats 4000000 in
set_option maxRecDepth 100000 in
theorem ok_X11_commonDivisor (g : GG) (F : Nat) (v0 : Int64) (v2 : Int64)  (μ : Mm) : Ct g yX11_commonDivisor cX11_commonDivisor 11 (some (.long)) 1 (cvJp μ) [.long v0, .long v2] μ (f_X11_commonDivisor F v0 v2 μ) := by
  refine ct_Jp (by decide +kernel) (Nat.le_of_ble_eq_true rfl) (show Go g RX11 cX11_commonDivisor 11 .lreturn 1 (cvJp μ) 0 [(0, .long v0), (2, .long v2)] [] μ (f_X11_commonDivisor F v0 v2 μ) from ?_)
  unfold f_X11_commonDivisor
  refine g_lload_n dX11_commonDivisor_0 0 rfl ?_
  refine g_lstore dX11_commonDivisor_1 (by decide) (lv' := [(4, .long v0), (0, .long v0), (2, .long v2)]) rfl ?_
  refine g_lload_n dX11_commonDivisor_3 2 rfl ?_
  refine g_lstore dX11_commonDivisor_4 (by decide) (lv' := [(6, .long v2), (4, .long v0), (0, .long v0), (2, .long v2)]) rfl ?_
  refine g_iconst dX11_commonDivisor_6 (v := 0) (by decide) ?_
  refine g_istore dX11_commonDivisor_7 (by decide) (lv' := [(8, .int 0), (6, .long v2), (4, .long v0), (0, .long v0), (2, .long v2)]) rfl ?_
  refine g_lv [2, 1, 0] rfl ?_
  refine okL_X11_commonDivisor_9 g F _ μ (fun u1 => ?_) F v0 v2 0
  refine g_lload dX11_commonDivisor_45 0 rfl ?_
  exact g_ret dX11_commonDivisor_47 rfl rfl
set_option maxHeartbeats 4000000 in
set_option maxRecDepth 100000 in
theorem ok_X11_tellFraction (g : GG) (F : Nat) (v1 : Int64) (v3 : Int64)  (μ : Mm) : Ct g yX11_tellFraction cX11_tellFraction 7 (some (.boolean)) 2 cvZ [.ref (gb g + 0), .long v1, .long v3] μ (f_X11_tellFraction F v1 v3 μ) := by
  refine ct_Z (by decide +kernel) (Nat.le_of_ble_eq_true rfl) (show Go g RX11 cX11_tellFraction 7 .ireturn 2 cvZ 0 [(0, .ref (gb g + 0)), (1, .long v1), (3, .long v3)] [] μ (f_X11_tellFraction F v1 v3 μ) from ?_)
  unfold f_X11_tellFraction
  refine g_lload_n dX11_tellFraction_0 1 rfl ?_
  refine g_lload_n dX11_tellFraction_1 2 rfl ?_
  refine g_sJp [.long v1, .long v3] [] mw_X11_105 (ok_X11_commonDivisor g F v1 v3 μ) (by omega) rfl rfl (Nat.le_of_ble_eq_true rfl) dX11_tellFraction_2 (fun x1 _ => ?_)
  refine g_lstore dX11_tellFraction_5 (by decide) (lv' := [(5, .long x1), (0, .ref (gb g + 0)), (1, .long v1), (3, .long v3)]) rfl ?_
  refine g_lload dX11_tellFraction_7 0 rfl ?_
  refine g_lconst dX11_tellFraction_9 (v := 0) (by decide) ?_
  refine g_lcmp dX11_tellFraction_10 ?_
  refine g_if_gt (tgt := 21) dX11_tellFraction_11 (by decide) (fun _ => ?_) (fun _ => ?_)
  · refine g_aload_n dX11_tellFraction_21 1 rfl ?_
    refine g_lload_n dX11_tellFraction_22 2 rfl ?_
    refine g_lload dX11_tellFraction_23 0 rfl ?_
    refine g_ldiv dX11_tellFraction_25 ?_
    refine g_putJ fl_X11_13 sh_0 (by decide) rfl dX11_tellFraction_26 ?_
    refine g_aload_n dX11_tellFraction_29 1 rfl ?_
    refine g_lload_n dX11_tellFraction_30 3 rfl ?_
    refine g_lload dX11_tellFraction_31 0 rfl ?_
    refine g_ldiv dX11_tellFraction_33 ?_
    refine g_putJ fl_X11_17 sh_0 (by decide) rfl dX11_tellFraction_34 ?_
    refine g_aload_n dX11_tellFraction_37 1 rfl ?_
    refine g_iconst dX11_tellFraction_38 (v := 0) (by decide) ?_
    refine g_vZ [.int 0] [] mw_X11_109 (ok_X11_verdict g 0 (sJ (sJ μ 0 1 (v1 / x1)) 0 2 (v3 / x1))) (by omega) sh_0 (by decide) rfl rfl (Nat.le_of_ble_eq_true rfl) dX11_tellFraction_39 (fun x2 μ3 _ => ?_)
    exact g_ret dX11_tellFraction_42 rfl rfl
  · refine g_aload_n dX11_tellFraction_14 1 rfl ?_
    refine g_bipush dX11_tellFraction_15 (v := 8) (by decide) ?_
    refine g_vZ [.int 8] [] mw_X11_109 (ok_X11_verdict g 8 μ) (by omega) sh_0 (by decide) rfl rfl (Nat.le_of_ble_eq_true rfl) dX11_tellFraction_17 (fun x4 μ5 _ => ?_)
    exact g_ret dX11_tellFraction_20 rfl rfl
set_option maxHeartbeats 4000000 in
set_option maxRecDepth 100000 in
theorem ok_X11_status (g : GG)   (μ : Mm) : Ct g yX11_status cX11_status 1 (some (.int)) 1 (cvIp μ) [.ref (gb g + 0)] μ (f_X11_status  μ) := by
  refine ct_Ip (by decide +kernel) (Nat.le_of_ble_eq_true rfl) (show Go g RX11 cX11_status 1 .ireturn 1 (cvIp μ) 0 [(0, .ref (gb g + 0))] [] μ (f_X11_status  μ) from ?_)
  unfold f_X11_status
  refine g_aload_n dX11_status_0 0 rfl ?_
  refine g_getI fl_X11_7 sh_0 (by decide) rfl dX11_status_1 ?_
  exact g_ret dX11_status_4 rfl rfl
set_option maxHeartbeats 4000000 in
set_option maxRecDepth 100000 in
theorem ok_X11_top (g : GG)   (μ : Mm) : Ct g yX11_top cX11_top 1 (some (.long)) 1 (cvJp μ) [.ref (gb g + 0)] μ (f_X11_top  μ) := by
  refine ct_Jp (by decide +kernel) (Nat.le_of_ble_eq_true rfl) (show Go g RX11 cX11_top 1 .lreturn 1 (cvJp μ) 0 [(0, .ref (gb g + 0))] [] μ (f_X11_top  μ) from ?_)
  unfold f_X11_top
  refine g_aload_n dX11_top_0 0 rfl ?_
  refine g_getJ fl_X11_13 sh_0 (by decide) rfl dX11_top_1 ?_
  exact g_ret dX11_top_4 rfl rfl
set_option maxHeartbeats 4000000 in
set_option maxRecDepth 100000 in
theorem ok_X11_bottom (g : GG)   (μ : Mm) : Ct g yX11_bottom cX11_bottom 1 (some (.long)) 1 (cvJp μ) [.ref (gb g + 0)] μ (f_X11_bottom  μ) := by
  refine ct_Jp (by decide +kernel) (Nat.le_of_ble_eq_true rfl) (show Go g RX11 cX11_bottom 1 .lreturn 1 (cvJp μ) 0 [(0, .ref (gb g + 0))] [] μ (f_X11_bottom  μ) from ?_)
  unfold f_X11_bottom
  refine g_aload_n dX11_bottom_0 0 rfl ?_
  refine g_getJ fl_X11_17 sh_0 (by decide) rfl dX11_bottom_1 ?_
  exact g_ret dX11_bottom_4 rfl rfl
set_option maxHeartbeats 4000000 in
set_option maxRecDepth 100000 in
theorem ok_X11_tray (g : GG) (F : Nat) (v1 : Int32) (v2 : Int32) (v3 : Int32)  (μ : Mm) : Ct g yX11_tray cX11_tray 4 (some (.boolean)) 3 cvZ [.ref (gb g + 0), .int v1, .int v2, .int v3] μ (f_X11_tray F v1 v2 v3 μ) := by
  refine ct_Z (by decide +kernel) (Nat.le_of_ble_eq_true rfl) (show Go g RX11 cX11_tray 4 .ireturn 3 cvZ 0 [(0, .ref (gb g + 0)), (1, .int v1), (2, .int v2), (3, .int v3)] [] μ (f_X11_tray F v1 v2 v3 μ) from ?_)
  unfold f_X11_tray
  refine g_aload_n dX11_tray_0 0 rfl ?_
  refine g_getR (b := 1) fl_X11_26 sh_0 (by decide) rfl rfl dX11_tray_1 ?_
  refine g_iload_n dX11_tray_4 1 rfl ?_
  refine g_vZp [.int v1] [] mw_X11_113 (ok_X10_isNumber g v1 μ) (by omega) sh_1 (by decide) rfl rfl (Nat.le_of_ble_eq_true rfl) dX11_tray_5 (fun x1 _ => ?_)
  refine g_ifeqB (tgt := 20) dX11_tray_8 (by decide) (fun _ => ?_) (fun _ => ?_)
  · refine g_aload_n dX11_tray_20 0 rfl ?_
    refine g_iconst dX11_tray_21 (v := 1) (by decide) ?_
    refine g_vZ [.int 1] [] mw_X11_109 (ok_X11_verdict g 1 μ) (by omega) sh_0 (by decide) rfl rfl (Nat.le_of_ble_eq_true rfl) dX11_tray_22 (fun x2 μ3 _ => ?_)
    exact g_ret dX11_tray_25 rfl rfl
  · refine g_iload_n dX11_tray_11 2 rfl ?_
    refine g_iconst dX11_tray_12 (v := 0) (by decide) ?_
    refine g_iconst dX11_tray_13 (v := 3) (by decide) ?_
    refine g_sZp [.int v2, .int 0, .int 3] [] mw_X11_116 (ok_X11_within g v2 0 3 μ) (by omega) rfl rfl (Nat.le_of_ble_eq_true rfl) dX11_tray_14 (fun x4 _ => ?_)
    refine g_ifneB (tgt := 26) dX11_tray_17 (by decide) (fun _ => ?_) (fun _ => ?_)
    · refine g_iload_n dX11_tray_26 3 rfl ?_
      refine g_bipush dX11_tray_27 (v := 60) (by decide) ?_
      refine g_icmp_le (tgt := 38) dX11_tray_29 (by decide) (fun _ => ?_) (fun _ => ?_)
      · refine g_iload_n dX11_tray_38 3 rfl ?_
        refine g_if_ge (tgt := 49) dX11_tray_39 (by decide) (fun _ => ?_) (fun _ => ?_)
        · refine g_aload_n dX11_tray_49 0 rfl ?_
          refine g_getR (b := 1) fl_X11_26 sh_0 (by decide) rfl rfl dX11_tray_50 ?_
          refine g_iload_n dX11_tray_53 1 rfl ?_
          refine g_iload_n dX11_tray_54 2 rfl ?_
          refine g_iload_n dX11_tray_55 3 rfl ?_
          refine g_vV [.int v1, .int v2, .int v3] [] mw_X11_120 (ok_X10_make g F v1 v2 v3 μ) (by omega) sh_1 (by decide) rfl rfl (Nat.le_of_ble_eq_true rfl) dX11_tray_56 (fun μ6 _ => ?_)
          refine g_aload_n dX11_tray_59 0 rfl ?_
          refine g_iconst dX11_tray_60 (v := 0) (by decide) ?_
          refine g_vZ [.int 0] [] mw_X11_109 (ok_X11_verdict g 0 μ6) (by omega) sh_0 (by decide) rfl rfl (Nat.le_of_ble_eq_true rfl) dX11_tray_61 (fun x7 μ8 _ => ?_)
          exact g_ret dX11_tray_64 rfl rfl
        · refine g_aload_n dX11_tray_42 0 rfl ?_
          refine g_bipush dX11_tray_43 (v := 6) (by decide) ?_
          refine g_vZ [.int 6] [] mw_X11_109 (ok_X11_verdict g 6 μ) (by omega) sh_0 (by decide) rfl rfl (Nat.le_of_ble_eq_true rfl) dX11_tray_45 (fun x9 μ10 _ => ?_)
          exact g_ret dX11_tray_48 rfl rfl
      · refine g_aload_n dX11_tray_32 0 rfl ?_
        refine g_iconst dX11_tray_33 (v := 5) (by decide) ?_
        refine g_vZ [.int 5] [] mw_X11_109 (ok_X11_verdict g 5 μ) (by omega) sh_0 (by decide) rfl rfl (Nat.le_of_ble_eq_true rfl) dX11_tray_34 (fun x11 μ12 _ => ?_)
        exact g_ret dX11_tray_37 rfl rfl
    · refine g_aload_n dX11_tray_20 0 rfl ?_
      refine g_iconst dX11_tray_21 (v := 1) (by decide) ?_
      refine g_vZ [.int 1] [] mw_X11_109 (ok_X11_verdict g 1 μ) (by omega) sh_0 (by decide) rfl rfl (Nat.le_of_ble_eq_true rfl) dX11_tray_22 (fun x13 μ14 _ => ?_)
      exact g_ret dX11_tray_25 rfl rfl
