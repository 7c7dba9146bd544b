set_option maxHeartbeats 4000000 in
set_option maxRecDepth 100000 in
theorem ok_X12_enact (g : GG) (v1 : Int32) (v2 : Int32) (v3 : Int32) (v4 : Int32)  (μ : Mm) : Ct g yX12_enact cX12_enact 6 (some (.int)) 2 cvI [.ref (gb g + 141), .int v1, .int v2, .int v3, .int v4] μ (f_X12_enact v1 v2 v3 v4 μ) := by
  refine ct_I (by decide +kernel) (Nat.le_of_ble_eq_true rfl) (show Go g RX12 cX12_enact 6 .ireturn 2 cvI 0 [(0, .ref (gb g + 141)), (1, .int v1), (2, .int v2), (3, .int v3), (4, .int v4)] [] μ (f_X12_enact v1 v2 v3 v4 μ) from ?_)
  unfold f_X12_enact
  refine g_aload_n dX12_enact_0 0 rfl ?_
  refine g_iconst dX12_enact_1 (v := 0) (by decide) ?_
  refine g_putI fl_X12_72 sh_141 (by decide) rfl dX12_enact_2 ?_
  refine g_aload_n dX12_enact_5 0 rfl ?_
  refine g_iconst dX12_enact_6 (v := 0) (by decide) ?_
  refine g_putI fl_X12_75 sh_141 (by decide) rfl dX12_enact_7 ?_
  refine g_iload_n dX12_enact_10 1 rfl ?_
  refine g_i2l dX12_enact_11 ?_
  refine g_lconst dX12_enact_12 (v := 0) (by decide) ?_
  refine g_ldc2 kl_X12_249 dX12_enact_13 ?_
  refine g_sZp [.long (v1.toInt64), .long 0, .long 9] [] mw_X12_107 (ok_X12_isIn g (v1.toInt64) 0 9 (sI (sI μ 141 1 0) 141 0 0)) (by omega) rfl rfl (Nat.le_of_ble_eq_true rfl) dX12_enact_16 (fun x1 _ => ?_)
  refine g_ifeqB (tgt := 63) dX12_enact_19 (by decide) (fun _ => ?_) (fun _ => ?_)
  · refine g_aload_n dX12_enact_63 0 rfl ?_
    refine g_iconst dX12_enact_64 (v := 5) (by decide) ?_
    refine g_vI [.int 5] [] mw_X12_318 (ok_X12_refuse g 5 (sI (sI μ 141 1 0) 141 0 0)) (by omega) sh_141 (by decide) rfl rfl (Nat.le_of_ble_eq_true rfl) dX12_enact_65 (fun x2 μ3 _ => ?_)
    exact g_ret dX12_enact_68 rfl rfl
  · refine g_iload_n dX12_enact_22 2 rfl ?_
    refine g_i2l dX12_enact_23 ?_
    refine g_lconst dX12_enact_24 (v := 0) (by decide) ?_
    refine g_ldc2 kl_X12_249 dX12_enact_25 ?_
    refine g_sZp [.long (v2.toInt64), .long 0, .long 9] [] mw_X12_107 (ok_X12_isIn g (v2.toInt64) 0 9 (sI (sI μ 141 1 0) 141 0 0)) (by omega) rfl rfl (Nat.le_of_ble_eq_true rfl) dX12_enact_28 (fun x4 _ => ?_)
    refine g_ifeqB (tgt := 63) dX12_enact_31 (by decide) (fun _ => ?_) (fun _ => ?_)
    · refine g_aload_n dX12_enact_63 0 rfl ?_
      refine g_iconst dX12_enact_64 (v := 5) (by decide) ?_
      refine g_vI [.int 5] [] mw_X12_318 (ok_X12_refuse g 5 (sI (sI μ 141 1 0) 141 0 0)) (by omega) sh_141 (by decide) rfl rfl (Nat.le_of_ble_eq_true rfl) dX12_enact_65 (fun x5 μ6 _ => ?_)
      exact g_ret dX12_enact_68 rfl rfl
    · refine g_iload_n dX12_enact_34 3 rfl ?_
      refine g_i2l dX12_enact_35 ?_
      refine g_lconst dX12_enact_36 (v := 0) (by decide) ?_
      refine g_ldc2 kl_X12_368 dX12_enact_37 ?_
      refine g_sZp [.long (v3.toInt64), .long 0, .long 4] [] mw_X12_107 (ok_X12_isIn g (v3.toInt64) 0 4 (sI (sI μ 141 1 0) 141 0 0)) (by omega) rfl rfl (Nat.le_of_ble_eq_true rfl) dX12_enact_40 (fun x7 _ => ?_)
      refine g_ifeqB (tgt := 63) dX12_enact_43 (by decide) (fun _ => ?_) (fun _ => ?_)
      · refine g_aload_n dX12_enact_63 0 rfl ?_
        refine g_iconst dX12_enact_64 (v := 5) (by decide) ?_
        refine g_vI [.int 5] [] mw_X12_318 (ok_X12_refuse g 5 (sI (sI μ 141 1 0) 141 0 0)) (by omega) sh_141 (by decide) rfl rfl (Nat.le_of_ble_eq_true rfl) dX12_enact_65 (fun x8 μ9 _ => ?_)
        exact g_ret dX12_enact_68 rfl rfl
      · refine g_iload_n dX12_enact_46 3 rfl ?_
        refine g_if_le (tgt := 69) dX12_enact_47 (by decide) (fun _ => ?_) (fun _ => ?_)
        · refine g_aload_n dX12_enact_69 0 rfl ?_
          refine g_getR (b := 146) fl_X12_35 sh_141 (by decide) rfl rfl dX12_enact_70 ?_
          refine g_iconst dX12_enact_73 (v := 1) (by decide) ?_
          refine g_iaload sh_146 dX12_enact_74 (fun x10 => ?_)
          refine g_istore dX12_enact_75 (by decide) (lv' := [(5, .int x10), (0, .ref (gb g + 141)), (1, .int v1), (2, .int v2), (3, .int v3), (4, .int v4)]) rfl ?_
          refine g_iload dX12_enact_77 0 rfl ?_
          refine g_bipush dX12_enact_79 (v := 10) (by decide) ?_
          refine g_icmp_ne (tgt := 91) dX12_enact_81 (by decide) (fun _ => ?_) (fun _ => ?_)
          · refine g_aload_n dX12_enact_91 1 rfl ?_
            refine g_iconst dX12_enact_92 (v := 0) (by decide) ?_
            refine g_iload dX12_enact_93 0 rfl ?_
            refine g_iload_n dX12_enact_95 2 rfl ?_
            refine g_iload_n dX12_enact_96 3 rfl ?_
            refine g_iload_n dX12_enact_97 4 rfl ?_
            refine g_iload_n dX12_enact_98 4 rfl ?_
            have hJ15 : ∀ (w12 : Int32), w12 = (if v3 = 0 then (0 : Int32) else v4) → Go g RX12 cX12_enact 6 .ireturn 2 cvI 108 [(5, .int x10)] [.int w12, .int v3, .int v2, .int v1, .int x10, .int 0, .ref (gb g + 141)] (sI (sI μ 141 1 0) 141 0 0) ((f_X12_lays 0 x10 v1 v2 v3 (if v3 = 0 then (0 : Int32) else v4) (sI (sI μ 141 1 0) 141 0 0)).bind fun μ14 => some (x10, μ14)) := by
              intro w12 ew12
              subst ew12
              refine g_vV [.int 0, .int x10, .int v1, .int v2, .int v3, .int (if v3 = 0 then (0 : Int32) else v4)] [] mw_X12_251 (ok_X12_lays g 0 x10 v1 v2 v3 (if v3 = 0 then (0 : Int32) else v4) (sI (sI μ 141 1 0) 141 0 0)) (by omega) sh_141 (by decide) rfl rfl (Nat.le_of_ble_eq_true rfl) dX12_enact_108 (fun μ14 _ => ?_)
              refine g_iload dX12_enact_111 0 rfl ?_
              exact g_ret dX12_enact_113 rfl rfl
            refine g_same (g_if_ne (tgt := 106) dX12_enact_99 (by decide) (fun c11 => ?_) (fun c11 => ?_))
            · refine g_iload dX12_enact_106 5 rfl ?_
              refine g_lv [0] rfl ?_
              exact hJ15 _ (by rw [if_neg c11])
            · refine g_iconst dX12_enact_102 (v := 0) (by decide) ?_
              refine g_goto (tgt := 108) dX12_enact_103 (by decide) ?_
              refine g_lv [0] rfl ?_
              exact hJ15 _ (by rw [if_pos c11])
          · refine g_aload_n dX12_enact_84 1 rfl ?_
            refine g_bipush dX12_enact_85 (v := 7) (by decide) ?_
            refine g_vI [.int 7] [] mw_X12_318 (ok_X12_refuse g 7 (sI (sI μ 141 1 0) 141 0 0)) (by omega) sh_141 (by decide) rfl rfl (Nat.le_of_ble_eq_true rfl) dX12_enact_87 (fun x16 μ17 _ => ?_)
            exact g_ret dX12_enact_90 rfl rfl
        · refine g_iload dX12_enact_50 4 rfl ?_
          refine g_i2l dX12_enact_52 ?_
          refine g_lconst dX12_enact_53 (v := 0) (by decide) ?_
          refine g_ldc2 kl_X12_249 dX12_enact_54 ?_
          refine g_sZp [.long (v4.toInt64), .long 0, .long 9] [] mw_X12_107 (ok_X12_isIn g (v4.toInt64) 0 9 (sI (sI μ 141 1 0) 141 0 0)) (by omega) rfl rfl (Nat.le_of_ble_eq_true rfl) dX12_enact_57 (fun x18 _ => ?_)
          refine g_ifneB (tgt := 69) dX12_enact_60 (by decide) (fun _ => ?_) (fun _ => ?_)
          · refine g_aload_n dX12_enact_69 0 rfl ?_
            refine g_getR (b := 146) fl_X12_35 sh_141 (by decide) rfl rfl dX12_enact_70 ?_
            refine g_iconst dX12_enact_73 (v := 1) (by decide) ?_
            refine g_iaload sh_146 dX12_enact_74 (fun x19 => ?_)
            refine g_istore dX12_enact_75 (by decide) (lv' := [(5, .int x19), (0, .ref (gb g + 141)), (1, .int v1), (2, .int v2), (3, .int v3), (4, .int v4)]) rfl ?_
            refine g_iload dX12_enact_77 0 rfl ?_
            refine g_bipush dX12_enact_79 (v := 10) (by decide) ?_
            refine g_icmp_ne (tgt := 91) dX12_enact_81 (by decide) (fun _ => ?_) (fun _ => ?_)
            · refine g_aload_n dX12_enact_91 1 rfl ?_
              refine g_iconst dX12_enact_92 (v := 0) (by decide) ?_
              refine g_iload dX12_enact_93 0 rfl ?_
              refine g_iload_n dX12_enact_95 2 rfl ?_
              refine g_iload_n dX12_enact_96 3 rfl ?_
              refine g_iload_n dX12_enact_97 4 rfl ?_
              refine g_iload_n dX12_enact_98 4 rfl ?_
              have hJ24 : ∀ (w21 : Int32), w21 = (if v3 = 0 then (0 : Int32) else v4) → Go g RX12 cX12_enact 6 .ireturn 2 cvI 108 [(5, .int x19)] [.int w21, .int v3, .int v2, .int v1, .int x19, .int 0, .ref (gb g + 141)] (sI (sI μ 141 1 0) 141 0 0) ((f_X12_lays 0 x19 v1 v2 v3 (if v3 = 0 then (0 : Int32) else v4) (sI (sI μ 141 1 0) 141 0 0)).bind fun μ23 => some (x19, μ23)) := by
                intro w21 ew21
                subst ew21
                refine g_vV [.int 0, .int x19, .int v1, .int v2, .int v3, .int (if v3 = 0 then (0 : Int32) else v4)] [] mw_X12_251 (ok_X12_lays g 0 x19 v1 v2 v3 (if v3 = 0 then (0 : Int32) else v4) (sI (sI μ 141 1 0) 141 0 0)) (by omega) sh_141 (by decide) rfl rfl (Nat.le_of_ble_eq_true rfl) dX12_enact_108 (fun μ23 _ => ?_)
                refine g_iload dX12_enact_111 0 rfl ?_
                exact g_ret dX12_enact_113 rfl rfl
              refine g_same (g_if_ne (tgt := 106) dX12_enact_99 (by decide) (fun c20 => ?_) (fun c20 => ?_))
              · refine g_iload dX12_enact_106 5 rfl ?_
                refine g_lv [0] rfl ?_
                exact hJ24 _ (by rw [if_neg c20])
              · refine g_iconst dX12_enact_102 (v := 0) (by decide) ?_
                refine g_goto (tgt := 108) dX12_enact_103 (by decide) ?_
                refine g_lv [0] rfl ?_
                exact hJ24 _ (by rw [if_pos c20])
            · refine g_aload_n dX12_enact_84 1 rfl ?_
              refine g_bipush dX12_enact_85 (v := 7) (by decide) ?_
              refine g_vI [.int 7] [] mw_X12_318 (ok_X12_refuse g 7 (sI (sI μ 141 1 0) 141 0 0)) (by omega) sh_141 (by decide) rfl rfl (Nat.le_of_ble_eq_true rfl) dX12_enact_87 (fun x25 μ26 _ => ?_)
              exact g_ret dX12_enact_90 rfl rfl
          · refine g_aload_n dX12_enact_63 0 rfl ?_
            refine g_iconst dX12_enact_64 (v := 5) (by decide) ?_
            refine g_vI [.int 5] [] mw_X12_318 (ok_X12_refuse g 5 (sI (sI μ 141 1 0) 141 0 0)) (by omega) sh_141 (by decide) rfl rfl (Nat.le_of_ble_eq_true rfl) dX12_enact_65 (fun x27 μ28 _ => ?_)
            exact g_ret dX12_enact_68 rfl rfl
set_option maxHeartbeats 4000000 in
set_option maxRecDepth 100000 in
theorem okL_X12_repeal_36 (g : GG) (F : Nat)  (k : Mm → Option (Int32 × Mm))  (hk : ∀ (μ : Mm), Go g RX12 cX12_repeal 3 .ireturn 3 cvI 132 [(0, .ref (gb g + 141))] [] μ (k μ)) : ∀ (n : Nat) (v2 : Int32) (μ : Mm), Go g RX12 cX12_repeal 3 .ireturn 3 cvI 36 [(0, .ref (gb g + 141)), (2, .int v2)] [] μ (L_X12_repeal_36 F k n v2 μ) := by
  intro n
  induction n with
  | zero =>
    intro v2 μ
    exact g_none
  | succ n ih =>
    intro v2 μ
    rw [L_X12_repeal_36_s]
    refine g_iload_n dX12_repeal_36 1 rfl ?_
    refine g_aload_n dX12_repeal_37 0 rfl ?_
    refine g_getR (b := 146) fl_X12_35 sh_141 (by decide) rfl rfl dX12_repeal_38 ?_
    refine g_iconst dX12_repeal_41 (v := 1) (by decide) ?_
    refine g_iaload sh_146 dX12_repeal_42 (fun x4 => ?_)
    refine g_icmp_ge (tgt := 132) dX12_repeal_43 (by decide) (fun _ => ?_) (fun _ => ?_)
    · refine g_lv [0] rfl ?_
      exact hk μ
    · refine g_aload_n dX12_repeal_46 0 rfl ?_
      refine g_getR (b := 146) fl_X12_35 sh_141 (by decide) rfl rfl dX12_repeal_47 ?_
      refine g_bipush dX12_repeal_50 (v := 88) (by decide) ?_
      refine g_iload_n dX12_repeal_52 1 rfl ?_
      refine g_iadd dX12_repeal_53 ?_
      refine g_aload_n dX12_repeal_54 0 rfl ?_
      refine g_getR (b := 146) fl_X12_35 sh_141 (by decide) rfl rfl dX12_repeal_55 ?_
      refine g_bipush dX12_repeal_58 (v := 88) (by decide) ?_
      refine g_iload_n dX12_repeal_60 1 rfl ?_
      refine g_iadd dX12_repeal_61 ?_
      refine g_iconst dX12_repeal_62 (v := 1) (by decide) ?_
      refine g_iadd dX12_repeal_63 ?_
      refine g_iaload sh_146 dX12_repeal_64 (fun x5 => ?_)
      refine g_iastore sh_146 dX12_repeal_65 (fun μ6 => ?_)
      refine g_aload_n dX12_repeal_66 0 rfl ?_
      refine g_getR (b := 146) fl_X12_35 sh_141 (by decide) rfl rfl dX12_repeal_67 ?_
      refine g_bipush dX12_repeal_70 (v := 98) (by decide) ?_
      refine g_iload_n dX12_repeal_72 1 rfl ?_
      refine g_iadd dX12_repeal_73 ?_
      refine g_aload_n dX12_repeal_74 0 rfl ?_
      refine g_getR (b := 146) fl_X12_35 sh_141 (by decide) rfl rfl dX12_repeal_75 ?_
      refine g_bipush dX12_repeal_78 (v := 98) (by decide) ?_
      refine g_iload_n dX12_repeal_80 1 rfl ?_
      refine g_iadd dX12_repeal_81 ?_
      refine g_iconst dX12_repeal_82 (v := 1) (by decide) ?_
      refine g_iadd dX12_repeal_83 ?_
      refine g_iaload sh_146 dX12_repeal_84 (fun x7 => ?_)
      refine g_iastore sh_146 dX12_repeal_85 (fun μ8 => ?_)
      refine g_aload_n dX12_repeal_86 0 rfl ?_
      refine g_getR (b := 146) fl_X12_35 sh_141 (by decide) rfl rfl dX12_repeal_87 ?_
      refine g_bipush dX12_repeal_90 (v := 108) (by decide) ?_
      refine g_iload_n dX12_repeal_92 1 rfl ?_
      refine g_iadd dX12_repeal_93 ?_
      refine g_aload_n dX12_repeal_94 0 rfl ?_
      refine g_getR (b := 146) fl_X12_35 sh_141 (by decide) rfl rfl dX12_repeal_95 ?_
      refine g_bipush dX12_repeal_98 (v := 108) (by decide) ?_
      refine g_iload_n dX12_repeal_100 1 rfl ?_
      refine g_iadd dX12_repeal_101 ?_
      refine g_iconst dX12_repeal_102 (v := 1) (by decide) ?_
      refine g_iadd dX12_repeal_103 ?_
      refine g_iaload sh_146 dX12_repeal_104 (fun x9 => ?_)
      refine g_iastore sh_146 dX12_repeal_105 (fun μ10 => ?_)
      refine g_aload_n dX12_repeal_106 0 rfl ?_
      refine g_getR (b := 146) fl_X12_35 sh_141 (by decide) rfl rfl dX12_repeal_107 ?_
      refine g_bipush dX12_repeal_110 (v := 118) (by decide) ?_
      refine g_iload_n dX12_repeal_112 1 rfl ?_
      refine g_iadd dX12_repeal_113 ?_
      refine g_aload_n dX12_repeal_114 0 rfl ?_
      refine g_getR (b := 146) fl_X12_35 sh_141 (by decide) rfl rfl dX12_repeal_115 ?_
      refine g_bipush dX12_repeal_118 (v := 118) (by decide) ?_
      refine g_iload_n dX12_repeal_120 1 rfl ?_
      refine g_iadd dX12_repeal_121 ?_
      refine g_iconst dX12_repeal_122 (v := 1) (by decide) ?_
      refine g_iadd dX12_repeal_123 ?_
      refine g_iaload sh_146 dX12_repeal_124 (fun x11 => ?_)
      refine g_iastore sh_146 dX12_repeal_125 (fun μ12 => ?_)
      refine g_iinc dX12_repeal_126 1 rfl (v := (v2 + 1)) rfl (by decide) (lv' := [(2, .int (v2 + 1)), (0, .ref (gb g + 141))]) rfl ?_
      refine g_goto (tgt := 36) dX12_repeal_129 (by decide) ?_
      refine g_lv [1, 0] rfl ?_
      exact ih (v2 + 1) μ12
set_option maxHeartbeats 4000000 in
set_option maxRecDepth 100000 in
theorem ok_X12_repeal (g : GG) (F : Nat) (v1 : Int32)  (μ : Mm) : Ct g yX12_repeal cX12_repeal 3 (some (.int)) 3 cvI [.ref (gb g + 141), .int v1] μ (f_X12_repeal F v1 μ) := by
  refine ct_I (by decide +kernel) (Nat.le_of_ble_eq_true rfl) (show Go g RX12 cX12_repeal 3 .ireturn 3 cvI 0 [(0, .ref (gb g + 141)), (1, .int v1)] [] μ (f_X12_repeal F v1 μ) from ?_)
  unfold f_X12_repeal
  refine g_aload_n dX12_repeal_0 0 rfl ?_
  refine g_iconst dX12_repeal_1 (v := 0) (by decide) ?_
  refine g_putI fl_X12_72 sh_141 (by decide) rfl dX12_repeal_2 ?_
  refine g_aload_n dX12_repeal_5 0 rfl ?_
  refine g_iconst dX12_repeal_6 (v := 0) (by decide) ?_
  refine g_putI fl_X12_75 sh_141 (by decide) rfl dX12_repeal_7 ?_
  refine g_aload_n dX12_repeal_10 0 rfl ?_
  refine g_iload_n dX12_repeal_11 1 rfl ?_
  refine g_vZp [.int v1] [] mw_X12_340 (ok_X12_isLawAt g v1 (sI (sI μ 141 1 0) 141 0 0)) (by omega) sh_141 (by decide) rfl rfl (Nat.le_of_ble_eq_true rfl) dX12_repeal_12 (fun x1 _ => ?_)
  refine g_ifneB (tgt := 24) dX12_repeal_15 (by decide) (fun _ => ?_) (fun _ => ?_)
  · refine g_aload_n dX12_repeal_24 0 rfl ?_
    refine g_getR (b := 146) fl_X12_35 sh_141 (by decide) rfl rfl dX12_repeal_25 ?_
    refine g_iconst dX12_repeal_28 (v := 1) (by decide) ?_
    refine g_dup2 dX12_repeal_29 rfl rfl ?_
    refine g_iaload sh_146 dX12_repeal_30 (fun x2 => ?_)
    refine g_iconst dX12_repeal_31 (v := 1) (by decide) ?_
    refine g_isub dX12_repeal_32 ?_
    refine g_iastore sh_146 dX12_repeal_33 (fun μ3 => ?_)
    refine g_iload_n dX12_repeal_34 1 rfl ?_
    refine g_istore_n dX12_repeal_35 rfl (by decide) (lv' := [(2, .int v1), (0, .ref (gb g + 141)), (1, .int v1)]) rfl ?_
    refine g_lv [1, 0] rfl ?_
    refine okL_X12_repeal_36 g F _ (fun μ13 => ?_) F v1 μ3
    refine g_aload_n dX12_repeal_132 0 rfl ?_
    refine g_getR (b := 146) fl_X12_35 sh_141 (by decide) rfl rfl dX12_repeal_133 ?_
    refine g_iconst dX12_repeal_136 (v := 1) (by decide) ?_
    refine g_iaload sh_146 dX12_repeal_137 (fun x14 => ?_)
    exact g_ret dX12_repeal_138 rfl rfl
  · refine g_aload_n dX12_repeal_18 0 rfl ?_
    refine g_iconst dX12_repeal_19 (v := 2) (by decide) ?_
    refine g_vI [.int 2] [] mw_X12_318 (ok_X12_refuse g 2 (sI (sI μ 141 1 0) 141 0 0)) (by omega) sh_141 (by decide) rfl rfl (Nat.le_of_ble_eq_true rfl) dX12_repeal_20 (fun x15 μ16 _ => ?_)
    exact g_ret dX12_repeal_23 rfl rfl
set_option maxHeartbeats 4000000 in
set_option maxRecDepth 100000 in
theorem ok_X12_rule (g : GG) (v1 : Int32) (v2 : Int32)  (μ : Mm) : Ct g yX12_rule cX12_rule 3 (some (.boolean)) 2 cvZ [.ref (gb g + 141), .int v1, .int v2] μ (f_X12_rule v1 v2 μ) := by
  refine ct_Z (by decide +kernel) (Nat.le_of_ble_eq_true rfl) (show Go g RX12 cX12_rule 3 .ireturn 2 cvZ 0 [(0, .ref (gb g + 141)), (1, .int v1), (2, .int v2)] [] μ (f_X12_rule v1 v2 μ) from ?_)
  unfold f_X12_rule
  refine g_aload_n dX12_rule_0 0 rfl ?_
  refine g_iconst dX12_rule_1 (v := 0) (by decide) ?_
  refine g_putI fl_X12_72 sh_141 (by decide) rfl dX12_rule_2 ?_
  refine g_aload_n dX12_rule_5 0 rfl ?_
  refine g_iconst dX12_rule_6 (v := 0) (by decide) ?_
  refine g_putI fl_X12_75 sh_141 (by decide) rfl dX12_rule_7 ?_
  refine g_iload_n dX12_rule_10 1 rfl ?_
  refine g_i2l dX12_rule_11 ?_
  refine g_ldc2 kl_X12_105 dX12_rule_12 ?_
  refine g_ldc2 kl_X12_368 dX12_rule_15 ?_
  refine g_sZp [.long (v1.toInt64), .long 3, .long 4] [] mw_X12_107 (ok_X12_isIn g (v1.toInt64) 3 4 (sI (sI μ 141 1 0) 141 0 0)) (by omega) rfl rfl (Nat.le_of_ble_eq_true rfl) dX12_rule_18 (fun x1 _ => ?_)
  refine g_ifeqB (tgt := 56) dX12_rule_21 (by decide) (fun _ => ?_) (fun _ => ?_)
  · refine g_aload_n dX12_rule_56 0 rfl ?_
    refine g_iconst dX12_rule_57 (v := 5) (by decide) ?_
    refine g_vZ [.int 5] [] mw_X12_87 (ok_X12_no g 5 (sI (sI μ 141 1 0) 141 0 0)) (by omega) sh_141 (by decide) rfl rfl (Nat.le_of_ble_eq_true rfl) dX12_rule_58 (fun x2 μ3 _ => ?_)
    exact g_ret dX12_rule_61 rfl rfl
  · refine g_iload_n dX12_rule_24 2 rfl ?_
    refine g_i2l dX12_rule_25 ?_
    refine g_iload_n dX12_rule_26 1 rfl ?_
    refine g_iconst dX12_rule_27 (v := 3) (by decide) ?_
    have hJ13 : ∀ (w5 : Int64), w5 = (if v1 = 3 then (1 : Int64) else 0) → Go g RX12 cX12_rule 3 .ireturn 2 cvZ 36 [(0, .ref (gb g + 141)), (1, .int v1), (2, .int v2)] [.long w5, .long (v2.toInt64)] (sI (sI μ 141 1 0) 141 0 0) ((f_X12_isIn (v2.toInt64) (if v1 = 3 then (1 : Int64) else 0) (if v1 = 3 then (9 : Int64) else 16) (sI (sI μ 141 1 0) 141 0 0)).bind fun x8 => (if x8 = true then (wrA (sI (sI μ 141 1 0) 141 0 0) 146 2000 v1 v2).bind fun μ9 => some (true, μ9) else bd (f_X12_no 5 (sI (sI μ 141 1 0) 141 0 0)) fun x10 μ11 => some (x10, μ11))) := by
      intro w5 ew5
      subst ew5
      refine g_iload_n dX12_rule_36 1 rfl ?_
      refine g_iconst dX12_rule_37 (v := 3) (by decide) ?_
      have hJ12 : ∀ (w7 : Int64), w7 = (if v1 = 3 then (9 : Int64) else 16) → Go g RX12 cX12_rule 3 .ireturn 2 cvZ 50 [(0, .ref (gb g + 141)), (1, .int v1), (2, .int v2)] [.long w7, .long (if v1 = 3 then (1 : Int64) else 0), .long (v2.toInt64)] (sI (sI μ 141 1 0) 141 0 0) ((f_X12_isIn (v2.toInt64) (if v1 = 3 then (1 : Int64) else 0) (if v1 = 3 then (9 : Int64) else 16) (sI (sI μ 141 1 0) 141 0 0)).bind fun x8 => (if x8 = true then (wrA (sI (sI μ 141 1 0) 141 0 0) 146 2000 v1 v2).bind fun μ9 => some (true, μ9) else bd (f_X12_no 5 (sI (sI μ 141 1 0) 141 0 0)) fun x10 μ11 => some (x10, μ11))) := by
        intro w7 ew7
        subst ew7
        refine g_sZp [.long (v2.toInt64), .long (if v1 = 3 then (1 : Int64) else 0), .long (if v1 = 3 then (9 : Int64) else 16)] [] mw_X12_107 (ok_X12_isIn g (v2.toInt64) (if v1 = 3 then (1 : Int64) else 0) (if v1 = 3 then (9 : Int64) else 16) (sI (sI μ 141 1 0) 141 0 0)) (by omega) rfl rfl (Nat.le_of_ble_eq_true rfl) dX12_rule_50 (fun x8 _ => ?_)
        refine g_ifneB (tgt := 62) dX12_rule_53 (by decide) (fun _ => ?_) (fun _ => ?_)
        · refine g_aload_n dX12_rule_62 0 rfl ?_
          refine g_getR (b := 146) fl_X12_35 sh_141 (by decide) rfl rfl dX12_rule_63 ?_
          refine g_iload_n dX12_rule_66 1 rfl ?_
          refine g_iload_n dX12_rule_67 2 rfl ?_
          refine g_iastore sh_146 dX12_rule_68 (fun μ9 => ?_)
          refine g_iconst dX12_rule_69 (v := 1) (by decide) ?_
          exact g_ret dX12_rule_70 rfl rfl
        · refine g_aload_n dX12_rule_56 0 rfl ?_
          refine g_iconst dX12_rule_57 (v := 5) (by decide) ?_
          refine g_vZ [.int 5] [] mw_X12_87 (ok_X12_no g 5 (sI (sI μ 141 1 0) 141 0 0)) (by omega) sh_141 (by decide) rfl rfl (Nat.le_of_ble_eq_true rfl) dX12_rule_58 (fun x10 μ11 _ => ?_)
          exact g_ret dX12_rule_61 rfl rfl
      refine g_same (g_icmp_ne (tgt := 47) dX12_rule_38 (by decide) (fun c6 => ?_) (fun c6 => ?_))
      · refine g_ldc2 kl_X12_381 dX12_rule_47 ?_
        refine g_lv [0, 1, 2] rfl ?_
        exact hJ12 _ (by rw [if_neg c6])
      · refine g_ldc2 kl_X12_249 dX12_rule_41 ?_
        refine g_goto (tgt := 50) dX12_rule_44 (by decide) ?_
        refine g_lv [0, 1, 2] rfl ?_
        exact hJ12 _ (by rw [if_pos c6])
    refine g_same (g_icmp_ne (tgt := 35) dX12_rule_28 (by decide) (fun c4 => ?_) (fun c4 => ?_))
    · refine g_lconst dX12_rule_35 (v := 0) (by decide) ?_
      refine g_lv [0, 1, 2] rfl ?_
      exact hJ13 _ (by rw [if_neg c4])
    · refine g_lconst dX12_rule_31 (v := 1) (by decide) ?_
      refine g_goto (tgt := 36) dX12_rule_32 (by decide) ?_
      refine g_lv [0, 1, 2] rfl ?_
      exact hJ13 _ (by rw [if_pos c4])
set_option maxHeartbeats 4000000 in
set_option maxRecDepth 100000 in
theorem okL_X12_puts_2 (g : GG) (F : Nat)  (k : Mm → Option (Mm))  (hk : ∀ (μ : Mm), Go g RX12 cX12_puts 2 .return_ 1 cvV 27 [] [] μ (k μ)) : ∀ (n : Nat) (v1 : Int32) (μ : Mm), Go g RX12 cX12_puts 2 .return_ 1 cvV 2 [(0, .ref (gb g + 141)), (1, .int v1)] [] μ (L_X12_puts_2 F k n v1 μ) := by
  intro n
  induction n with
  | zero =>
    intro v1 μ
    exact g_none
  | succ n ih =>
    intro v1 μ
    rw [L_X12_puts_2_s]
    refine g_iload_n dX12_puts_2 1 rfl ?_
    refine g_sipush dX12_puts_3 (v := 128) (by decide) ?_
    refine g_icmp_ge (tgt := 27) dX12_puts_6 (by decide) (fun _ => ?_) (fun _ => ?_)
    · refine g_lv [] rfl ?_
      exact hk μ
    · refine g_aload_n dX12_puts_9 0 rfl ?_
      refine g_getR (b := 147) fl_X12_38 sh_141 (by decide) rfl rfl dX12_puts_10 ?_
      refine g_iload_n dX12_puts_13 1 rfl ?_
      refine g_aload_n dX12_puts_14 0 rfl ?_
      refine g_getR (b := 146) fl_X12_35 sh_141 (by decide) rfl rfl dX12_puts_15 ?_
      refine g_iload_n dX12_puts_18 1 rfl ?_
      refine g_iaload sh_146 dX12_puts_19 (fun x1 => ?_)
      refine g_iastore sh_147 dX12_puts_20 (fun μ2 => ?_)
      refine g_iinc dX12_puts_21 1 rfl (v := (v1 + 1)) rfl (by decide) (lv' := [(1, .int (v1 + 1)), (0, .ref (gb g + 141))]) rfl ?_
      refine g_goto (tgt := 2) dX12_puts_24 (by decide) ?_
      refine g_lv [1, 0] rfl ?_
      exact ih (v1 + 1) μ2
set_option maxHeartbeats 4000000 in
set_option maxRecDepth 100000 in
theorem ok_X12_puts (g : GG) (F : Nat)   (μ : Mm) : Ct g yX12_puts cX12_puts 2 none 1 cvV [.ref (gb g + 141)] μ (f_X12_puts F μ) := by
  refine ct_V (by decide +kernel) (Nat.le_of_ble_eq_true rfl) (show Go g RX12 cX12_puts 2 .return_ 1 cvV 0 [(0, .ref (gb g + 141))] [] μ (f_X12_puts F μ) from ?_)
  unfold f_X12_puts
  refine g_iconst dX12_puts_0 (v := 0) (by decide) ?_
  refine g_istore_n dX12_puts_1 rfl (by decide) (lv' := [(1, .int 0), (0, .ref (gb g + 141))]) rfl ?_
  refine g_lv [1, 0] rfl ?_
  refine okL_X12_puts_2 g F _ (fun μ3 => ?_) F 0 μ
  exact g_ret dX12_puts_27 rfl rfl
set_option maxHeartbeats 4000000 in
set_option maxRecDepth 100000 in
theorem okL_X12_gives_2 (g : GG) (F : Nat)  (k : Mm → Option (Mm))  (hk : ∀ (μ : Mm), Go g RX12 cX12_gives 2 .return_ 1 cvV 27 [] [] μ (k μ)) : ∀ (n : Nat) (v1 : Int32) (μ : Mm), Go g RX12 cX12_gives 2 .return_ 1 cvV 2 [(0, .ref (gb g + 141)), (1, .int v1)] [] μ (L_X12_gives_2 F k n v1 μ) := by
  intro n
  induction n with
  | zero =>
    intro v1 μ
    exact g_none
  | succ n ih =>
    intro v1 μ
    rw [L_X12_gives_2_s]
    refine g_iload_n dX12_gives_2 1 rfl ?_
    refine g_sipush dX12_gives_3 (v := 128) (by decide) ?_
    refine g_icmp_ge (tgt := 27) dX12_gives_6 (by decide) (fun _ => ?_) (fun _ => ?_)
    · refine g_lv [] rfl ?_
      exact hk μ
    · refine g_aload_n dX12_gives_9 0 rfl ?_
      refine g_getR (b := 146) fl_X12_35 sh_141 (by decide) rfl rfl dX12_gives_10 ?_
      refine g_iload_n dX12_gives_13 1 rfl ?_
      refine g_aload_n dX12_gives_14 0 rfl ?_
      refine g_getR (b := 147) fl_X12_38 sh_141 (by decide) rfl rfl dX12_gives_15 ?_
      refine g_iload_n dX12_gives_18 1 rfl ?_
      refine g_iaload sh_147 dX12_gives_19 (fun x1 => ?_)
      refine g_iastore sh_146 dX12_gives_20 (fun μ2 => ?_)
      refine g_iinc dX12_gives_21 1 rfl (v := (v1 + 1)) rfl (by decide) (lv' := [(1, .int (v1 + 1)), (0, .ref (gb g + 141))]) rfl ?_
      refine g_goto (tgt := 2) dX12_gives_24 (by decide) ?_
      refine g_lv [1, 0] rfl ?_
      exact ih (v1 + 1) μ2
set_option maxHeartbeats 4000000 in
set_option maxRecDepth 100000 in
theorem ok_X12_gives (g : GG) (F : Nat)   (μ : Mm) : Ct g yX12_gives cX12_gives 2 none 1 cvV [.ref (gb g + 141)] μ (f_X12_gives F μ) := by
  refine ct_V (by decide +kernel) (Nat.le_of_ble_eq_true rfl) (show Go g RX12 cX12_gives 2 .return_ 1 cvV 0 [(0, .ref (gb g + 141))] [] μ (f_X12_gives F μ) from ?_)
  unfold f_X12_gives
  refine g_iconst dX12_gives_0 (v := 0) (by decide) ?_
  refine g_istore_n dX12_gives_1 rfl (by decide) (lv' := [(1, .int 0), (0, .ref (gb g + 141))]) rfl ?_
  refine g_lv [1, 0] rfl ?_
  refine okL_X12_gives_2 g F _ (fun μ3 => ?_) F 0 μ
  exact g_ret dX12_gives_27 rfl rfl
set_option maxHeartbeats 4000000 in
set_option maxRecDepth 100000 in
theorem ok_X12_isAhead (g : GG) (v0 : Int32)  (μ : Mm) : Ct g yX12_isAhead cX12_isAhead 1 (some (.boolean)) 2 (cvZp μ) [.int v0] μ (f_X12_isAhead v0 μ) := by
  refine ct_Zp (by decide +kernel) (Nat.le_of_ble_eq_true rfl) (show Go g RX12 cX12_isAhead 1 .ireturn 2 (cvZp μ) 0 [(0, .int v0)] [] μ (f_X12_isAhead v0 μ) from ?_)
  unfold f_X12_isAhead
  refine g_iload_n dX12_isAhead_0 0 rfl ?_
  refine g_i2l dX12_isAhead_1 ?_
  refine g_lconst dX12_isAhead_2 (v := 0) (by decide) ?_
  refine g_ldc2 kl_X12_383 dX12_isAhead_3 ?_
  refine g_sZp [.long (v0.toInt64), .long 0, .long 300] [] mw_X12_107 (ok_X12_isIn g (v0.toInt64) 0 300 μ) (by omega) rfl rfl (Nat.le_of_ble_eq_true rfl) dX12_isAhead_6 (fun x1 _ => ?_)
  exact g_ret dX12_isAhead_9 rfl rfl
set_option maxHeartbeats 4000000 in
set_option maxRecDepth 100000 in
theorem okL_X12_digitIn_43 (g : GG) (F : Nat) (v1 : Int32) (v2 : Int32) (k : Mm → Option (Int32 × Mm))  (hk : ∀ (μ : Mm), Go g RX12 cX12_digitIn 4 .ireturn 8 cvI 59 [(0, .ref (gb g + 141)), (1, .int v1)] [] μ (k μ)) : ∀ (n : Nat) (v3 : Int32) (μ : Mm), Go g RX12 cX12_digitIn 4 .ireturn 8 cvI 43 [(0, .ref (gb g + 141)), (1, .int v1), (2, .int v2), (3, .int v3)] [] μ (L_X12_digitIn_43 F v1 v2 k n v3 μ) := by
  intro n
  induction n with
  | zero =>
    intro v3 μ
    exact g_none
  | succ n ih =>
    intro v3 μ
    rw [L_X12_digitIn_43_s]
    refine g_iload_n dX12_digitIn_43 3 rfl ?_
    refine g_iload_n dX12_digitIn_44 2 rfl ?_
    refine g_icmp_ge (tgt := 59) dX12_digitIn_45 (by decide) (fun _ => ?_) (fun _ => ?_)
    · refine g_lv [0, 1] rfl ?_
      exact hk μ
    · refine g_aload_n dX12_digitIn_48 0 rfl ?_
      refine g_vZ [] [] mw_X12_365 (ok_X12_goesHour g F μ) (by omega) sh_141 (by decide) rfl rfl (Nat.le_of_ble_eq_true rfl) dX12_digitIn_49 (fun x5 μ6 _ => ?_)
      refine g_pop dX12_digitIn_52 rfl ?_
      refine g_iinc dX12_digitIn_53 3 rfl (v := (v3 + 1)) rfl (by decide) (lv' := [(3, .int (v3 + 1)), (0, .ref (gb g + 141)), (1, .int v1), (2, .int v2)]) rfl ?_
      refine g_goto (tgt := 43) dX12_digitIn_56 (by decide) ?_
      refine g_lv [1, 2, 3, 0] rfl ?_
      exact ih (v3 + 1) μ6
set_option maxHeartbeats 4000000 in
set_option maxRecDepth 100000 in
theorem ok_X12_digitIn (g : GG) (F : Nat) (v1 : Int32) (v2 : Int32)  (μ : Mm) : Ct g yX12_digitIn cX12_digitIn 4 (some (.int)) 8 cvI [.ref (gb g + 141), .int v1, .int v2] μ (f_X12_digitIn F v1 v2 μ) := by
  refine ct_I (by decide +kernel) (Nat.le_of_ble_eq_true rfl) (show Go g RX12 cX12_digitIn 4 .ireturn 8 cvI 0 [(0, .ref (gb g + 141)), (1, .int v1), (2, .int v2)] [] μ (f_X12_digitIn F v1 v2 μ) from ?_)
  unfold f_X12_digitIn
  refine g_aload_n dX12_digitIn_0 0 rfl ?_
  refine g_iconst dX12_digitIn_1 (v := 0) (by decide) ?_
  refine g_putI fl_X12_72 sh_141 (by decide) rfl dX12_digitIn_2 ?_
  refine g_aload_n dX12_digitIn_5 0 rfl ?_
  refine g_iconst dX12_digitIn_6 (v := 0) (by decide) ?_
  refine g_putI fl_X12_75 sh_141 (by decide) rfl dX12_digitIn_7 ?_
  refine g_aload_n dX12_digitIn_10 0 rfl ?_
  refine g_iload_n dX12_digitIn_11 1 rfl ?_
  refine g_vZp [.int v1] [] mw_X12_330 (ok_X12_isCellAt g v1 (sI (sI μ 141 1 0) 141 0 0)) (by omega) sh_141 (by decide) rfl rfl (Nat.le_of_ble_eq_true rfl) dX12_digitIn_12 (fun x1 _ => ?_)
  refine g_ifneB (tgt := 24) dX12_digitIn_15 (by decide) (fun _ => ?_) (fun _ => ?_)
  · refine g_iload_n dX12_digitIn_24 2 rfl ?_
    refine g_sZp [.int v2] [] mw_X12_385 (ok_X12_isAhead g v2 (sI (sI μ 141 1 0) 141 0 0)) (by omega) rfl rfl (Nat.le_of_ble_eq_true rfl) dX12_digitIn_25 (fun x2 _ => ?_)
    refine g_ifneB (tgt := 37) dX12_digitIn_28 (by decide) (fun _ => ?_) (fun _ => ?_)
    · refine g_aload_n dX12_digitIn_37 0 rfl ?_
      refine g_vV [] [] mw_X12_388 (ok_X12_puts g F (sI (sI μ 141 1 0) 141 0 0)) (by omega) sh_141 (by decide) rfl rfl (Nat.le_of_ble_eq_true rfl) dX12_digitIn_38 (fun μ4 _ => ?_)
      refine g_iconst dX12_digitIn_41 (v := 0) (by decide) ?_
      refine g_istore_n dX12_digitIn_42 rfl (by decide) (lv' := [(3, .int 0), (0, .ref (gb g + 141)), (1, .int v1), (2, .int v2)]) rfl ?_
      refine g_lv [1, 2, 3, 0] rfl ?_
      refine okL_X12_digitIn_43 g F v1 v2 _ (fun μ7 => ?_) F 0 μ4
      refine g_aload_n dX12_digitIn_59 0 rfl ?_
      refine g_getR (b := 146) fl_X12_35 sh_141 (by decide) rfl rfl dX12_digitIn_60 ?_
      refine g_bipush dX12_digitIn_63 (v := 13) (by decide) ?_
      refine g_iload_n dX12_digitIn_65 1 rfl ?_
      refine g_iadd dX12_digitIn_66 ?_
      refine g_iaload sh_146 dX12_digitIn_67 (fun x8 => ?_)
      refine g_istore_n dX12_digitIn_68 rfl (by decide) (lv' := [(3, .int x8), (0, .ref (gb g + 141)), (1, .int v1)]) rfl ?_
      refine g_aload_n dX12_digitIn_69 1 rfl ?_
      refine g_vV [] [] mw_X12_391 (ok_X12_gives g F μ7) (by omega) sh_141 (by decide) rfl rfl (Nat.le_of_ble_eq_true rfl) dX12_digitIn_70 (fun μ10 _ => ?_)
      refine g_iload_n dX12_digitIn_73 0 rfl ?_
      exact g_ret dX12_digitIn_74 rfl rfl
    · refine g_aload_n dX12_digitIn_31 0 rfl ?_
      refine g_iconst dX12_digitIn_32 (v := 5) (by decide) ?_
      refine g_vI [.int 5] [] mw_X12_318 (ok_X12_refuse g 5 (sI (sI μ 141 1 0) 141 0 0)) (by omega) sh_141 (by decide) rfl rfl (Nat.le_of_ble_eq_true rfl) dX12_digitIn_33 (fun x11 μ12 _ => ?_)
      exact g_ret dX12_digitIn_36 rfl rfl
  · refine g_aload_n dX12_digitIn_18 0 rfl ?_
    refine g_iconst dX12_digitIn_19 (v := 2) (by decide) ?_
    refine g_vI [.int 2] [] mw_X12_318 (ok_X12_refuse g 2 (sI (sI μ 141 1 0) 141 0 0)) (by omega) sh_141 (by decide) rfl rfl (Nat.le_of_ble_eq_true rfl) dX12_digitIn_20 (fun x13 μ14 _ => ?_)
    exact g_ret dX12_digitIn_23 rfl rfl
set_option maxHeartbeats 4000000 in
set_option maxRecDepth 100000 in
theorem okL_X12_wrongIn_29 (g : GG) (F : Nat) (v1 : Int32) (k : Mm → Option (Int32 × Mm))  (hk : ∀ (μ : Mm), Go g RX12 cX12_wrongIn 3 .ireturn 8 cvI 45 [(0, .ref (gb g + 141))] [] μ (k μ)) : ∀ (n : Nat) (v2 : Int32) (μ : Mm), Go g RX12 cX12_wrongIn 3 .ireturn 8 cvI 29 [(0, .ref (gb g + 141)), (1, .int v1), (2, .int v2)] [] μ (L_X12_wrongIn_29 F v1 k n v2 μ) := by
  intro n
  induction n with
  | zero =>
    intro v2 μ
    exact g_none
  | succ n ih =>
    intro v2 μ
    rw [L_X12_wrongIn_29_s]
    refine g_iload_n dX12_wrongIn_29 2 rfl ?_
    refine g_iload_n dX12_wrongIn_30 1 rfl ?_
    refine g_icmp_ge (tgt := 45) dX12_wrongIn_31 (by decide) (fun _ => ?_) (fun _ => ?_)
    · refine g_lv [0] rfl ?_
      exact hk μ
    · refine g_aload_n dX12_wrongIn_34 0 rfl ?_
      refine g_vZ [] [] mw_X12_365 (ok_X12_goesHour g F μ) (by omega) sh_141 (by decide) rfl rfl (Nat.le_of_ble_eq_true rfl) dX12_wrongIn_35 (fun x4 μ5 _ => ?_)
      refine g_pop dX12_wrongIn_38 rfl ?_
      refine g_iinc dX12_wrongIn_39 2 rfl (v := (v2 + 1)) rfl (by decide) (lv' := [(2, .int (v2 + 1)), (0, .ref (gb g + 141)), (1, .int v1)]) rfl ?_
      refine g_goto (tgt := 29) dX12_wrongIn_42 (by decide) ?_
      refine g_lv [1, 2, 0] rfl ?_
      exact ih (v2 + 1) μ5
set_option maxHeartbeats 4000000 in
set_option maxRecDepth 100000 in
theorem ok_X12_wrongIn (g : GG) (F : Nat) (v1 : Int32)  (μ : Mm) : Ct g yX12_wrongIn cX12_wrongIn 3 (some (.int)) 8 cvI [.ref (gb g + 141), .int v1] μ (f_X12_wrongIn F v1 μ) := by
  refine ct_I (by decide +kernel) (Nat.le_of_ble_eq_true rfl) (show Go g RX12 cX12_wrongIn 3 .ireturn 8 cvI 0 [(0, .ref (gb g + 141)), (1, .int v1)] [] μ (f_X12_wrongIn F v1 μ) from ?_)
  unfold f_X12_wrongIn
  refine g_aload_n dX12_wrongIn_0 0 rfl ?_
  refine g_iconst dX12_wrongIn_1 (v := 0) (by decide) ?_
  refine g_putI fl_X12_72 sh_141 (by decide) rfl dX12_wrongIn_2 ?_
  refine g_aload_n dX12_wrongIn_5 0 rfl ?_
  refine g_iconst dX12_wrongIn_6 (v := 0) (by decide) ?_
  refine g_putI fl_X12_75 sh_141 (by decide) rfl dX12_wrongIn_7 ?_
  refine g_iload_n dX12_wrongIn_10 1 rfl ?_
  refine g_sZp [.int v1] [] mw_X12_385 (ok_X12_isAhead g v1 (sI (sI μ 141 1 0) 141 0 0)) (by omega) rfl rfl (Nat.le_of_ble_eq_true rfl) dX12_wrongIn_11 (fun x1 _ => ?_)
  refine g_ifneB (tgt := 23) dX12_wrongIn_14 (by decide) (fun _ => ?_) (fun _ => ?_)
  · refine g_aload_n dX12_wrongIn_23 0 rfl ?_
    refine g_vV [] [] mw_X12_388 (ok_X12_puts g F (sI (sI μ 141 1 0) 141 0 0)) (by omega) sh_141 (by decide) rfl rfl (Nat.le_of_ble_eq_true rfl) dX12_wrongIn_24 (fun μ3 _ => ?_)
    refine g_iconst dX12_wrongIn_27 (v := 0) (by decide) ?_
    refine g_istore_n dX12_wrongIn_28 rfl (by decide) (lv' := [(2, .int 0), (0, .ref (gb g + 141)), (1, .int v1)]) rfl ?_
    refine g_lv [1, 2, 0] rfl ?_
    refine okL_X12_wrongIn_29 g F v1 _ (fun μ6 => ?_) F 0 μ3
    refine g_aload_n dX12_wrongIn_45 0 rfl ?_
    refine g_vIp [] [] mw_X12_321 (ok_X12_allWrong g F μ6) (by omega) sh_141 (by decide) rfl rfl (Nat.le_of_ble_eq_true rfl) dX12_wrongIn_46 (fun x7 _ => ?_)
    refine g_istore_n dX12_wrongIn_49 rfl (by decide) (lv' := [(2, .int x7), (0, .ref (gb g + 141))]) rfl ?_
    refine g_aload_n dX12_wrongIn_50 1 rfl ?_
    refine g_vV [] [] mw_X12_391 (ok_X12_gives g F μ6) (by omega) sh_141 (by decide) rfl rfl (Nat.le_of_ble_eq_true rfl) dX12_wrongIn_51 (fun μ9 _ => ?_)
    refine g_iload_n dX12_wrongIn_54 0 rfl ?_
    exact g_ret dX12_wrongIn_55 rfl rfl
  · refine g_aload_n dX12_wrongIn_17 0 rfl ?_
    refine g_iconst dX12_wrongIn_18 (v := 5) (by decide) ?_
    refine g_vI [.int 5] [] mw_X12_318 (ok_X12_refuse g 5 (sI (sI μ 141 1 0) 141 0 0)) (by omega) sh_141 (by decide) rfl rfl (Nat.le_of_ble_eq_true rfl) dX12_wrongIn_19 (fun x10 μ11 _ => ?_)
    exact g_ret dX12_wrongIn_22 rfl rfl
set_option maxHeartbeats 4000000 in
set_option maxRecDepth 100000 in
theorem okL_X12_wrongBy_32 (g : GG) (F : Nat) (v1 : Int32) (k : Int32 → Mm → Option (Int32 × Mm))  (hk : ∀ (v2 : Int32) (μ : Mm), Go g RX12 cX12_wrongBy 4 .ireturn 8 cvI 64 [(0, .ref (gb g + 141)), (2, .int v2)] [] μ (k v2 μ)) : ∀ (n : Nat) (v2 : Int32) (v3 : Int32) (μ : Mm), Go g RX12 cX12_wrongBy 4 .ireturn 8 cvI 32 [(0, .ref (gb g + 141)), (1, .int v1), (2, .int v2), (3, .int v3)] [] μ (L_X12_wrongBy_32 F v1 k n v2 v3 μ) := by
  intro n
  induction n with
  | zero =>
    intro v2 v3 μ
    exact g_none
  | succ n ih =>
    intro v2 v3 μ
    rw [L_X12_wrongBy_32_s]
    refine g_iload_n dX12_wrongBy_32 3 rfl ?_
    refine g_sipush dX12_wrongBy_33 (v := 300) (by decide) ?_
    refine g_icmp_gt (tgt := 64) dX12_wrongBy_36 (by decide) (fun _ => ?_) (fun _ => ?_)
    · refine g_lv [0, 2] rfl ?_
      exact hk v2 μ
    · refine g_iload_n dX12_wrongBy_39 2 rfl ?_
      refine g_if_ge (tgt := 64) dX12_wrongBy_40 (by decide) (fun _ => ?_) (fun _ => ?_)
      · refine g_lv [0, 2] rfl ?_
        exact hk v2 μ
      · refine g_aload_n dX12_wrongBy_43 0 rfl ?_
        refine g_iload_n dX12_wrongBy_44 1 rfl ?_
        refine g_vZp [.int v1] [] mw_X12_304 (ok_X12_isWrong g v1 μ) (by omega) sh_141 (by decide) rfl rfl (Nat.le_of_ble_eq_true rfl) dX12_wrongBy_45 (fun x4 _ => ?_)
        have hJ9 : ∀ (w6 : Int32), w6 = (if x4 = true then v3 else v2) → Go g RX12 cX12_wrongBy 4 .ireturn 8 cvI 53 [(0, .ref (gb g + 141)), (1, .int v1), (2, .int w6), (3, .int v3)] [] μ (bd (f_X12_goesHour F μ) fun x7 μ8 => L_X12_wrongBy_32 F v1 k n (if x4 = true then v3 else v2) (v3 + 1) μ8) := by
          intro w6 ew6
          subst ew6
          refine g_aload_n dX12_wrongBy_53 0 rfl ?_
          refine g_vZ [] [] mw_X12_365 (ok_X12_goesHour g F μ) (by omega) sh_141 (by decide) rfl rfl (Nat.le_of_ble_eq_true rfl) dX12_wrongBy_54 (fun x7 μ8 _ => ?_)
          refine g_pop dX12_wrongBy_57 rfl ?_
          refine g_iinc dX12_wrongBy_58 3 rfl (v := (v3 + 1)) rfl (by decide) (lv' := [(3, .int (v3 + 1)), (0, .ref (gb g + 141)), (1, .int v1), (2, .int (if x4 = true then v3 else v2))]) rfl ?_
          refine g_goto (tgt := 32) dX12_wrongBy_61 (by decide) ?_
          refine g_lv [1, 2, 3, 0] rfl ?_
          exact ih (if x4 = true then v3 else v2) (v3 + 1) μ8
        refine g_same (g_ifeqB (tgt := 53) dX12_wrongBy_48 (by decide) (fun c5 => ?_) (fun c5 => ?_))
        · refine g_lv [0, 1, 2, 3] rfl ?_
          exact hJ9 _ (by rw [if_neg c5])
        · refine g_iload_n dX12_wrongBy_51 3 rfl ?_
          refine g_istore_n dX12_wrongBy_52 rfl (by decide) (lv' := [(2, .int v3), (0, .ref (gb g + 141)), (1, .int v1), (3, .int v3)]) rfl ?_
          refine g_lv [1, 2, 0, 3] rfl ?_
          exact hJ9 _ (by rw [if_pos c5])
set_option maxHeartbeats 4000000 in
set_option maxRecDepth 100000 in
theorem ok_X12_wrongBy (g : GG) (F : Nat) (v1 : Int32)  (μ : Mm) : Ct g yX12_wrongBy cX12_wrongBy 4 (some (.int)) 8 cvI [.ref (gb g + 141), .int v1] μ (f_X12_wrongBy F v1 μ) := by
  refine ct_I (by decide +kernel) (Nat.le_of_ble_eq_true rfl) (show Go g RX12 cX12_wrongBy 4 .ireturn 8 cvI 0 [(0, .ref (gb g + 141)), (1, .int v1)] [] μ (f_X12_wrongBy F v1 μ) from ?_)
  unfold f_X12_wrongBy
  refine g_aload_n dX12_wrongBy_0 0 rfl ?_
  refine g_iconst dX12_wrongBy_1 (v := 0) (by decide) ?_
  refine g_putI fl_X12_72 sh_141 (by decide) rfl dX12_wrongBy_2 ?_
  refine g_aload_n dX12_wrongBy_5 0 rfl ?_
  refine g_iconst dX12_wrongBy_6 (v := 0) (by decide) ?_
  refine g_putI fl_X12_75 sh_141 (by decide) rfl dX12_wrongBy_7 ?_
  refine g_aload_n dX12_wrongBy_10 0 rfl ?_
  refine g_iload_n dX12_wrongBy_11 1 rfl ?_
  refine g_vZp [.int v1] [] mw_X12_330 (ok_X12_isCellAt g v1 (sI (sI μ 141 1 0) 141 0 0)) (by omega) sh_141 (by decide) rfl rfl (Nat.le_of_ble_eq_true rfl) dX12_wrongBy_12 (fun x1 _ => ?_)
  refine g_ifneB (tgt := 24) dX12_wrongBy_15 (by decide) (fun _ => ?_) (fun _ => ?_)
  · refine g_iconst dX12_wrongBy_24 (v := (-1)) (by decide) ?_
    refine g_istore_n dX12_wrongBy_25 rfl (by decide) (lv' := [(2, .int (-1)), (0, .ref (gb g + 141)), (1, .int v1)]) rfl ?_
    refine g_aload_n dX12_wrongBy_26 1 rfl ?_
    refine g_vV [] [] mw_X12_388 (ok_X12_puts g F (sI (sI μ 141 1 0) 141 0 0)) (by omega) sh_141 (by decide) rfl rfl (Nat.le_of_ble_eq_true rfl) dX12_wrongBy_27 (fun μ3 _ => ?_)
    refine g_iconst dX12_wrongBy_30 (v := 0) (by decide) ?_
    refine g_istore_n dX12_wrongBy_31 rfl (by decide) (lv' := [(3, .int 0), (2, .int (-1)), (0, .ref (gb g + 141)), (1, .int v1)]) rfl ?_
    refine g_lv [2, 3, 1, 0] rfl ?_
    refine okL_X12_wrongBy_32 g F v1 _ (fun u10 μ11 => ?_) F (-1) 0 μ3
    refine g_aload_n dX12_wrongBy_64 0 rfl ?_
    refine g_vV [] [] mw_X12_391 (ok_X12_gives g F μ11) (by omega) sh_141 (by decide) rfl rfl (Nat.le_of_ble_eq_true rfl) dX12_wrongBy_65 (fun μ13 _ => ?_)
    refine g_iload_n dX12_wrongBy_68 1 rfl ?_
    refine g_if_ge (tgt := 81) dX12_wrongBy_69 (by decide) (fun _ => ?_) (fun _ => ?_)
    · refine g_iload_n dX12_wrongBy_81 1 rfl ?_
      exact g_ret dX12_wrongBy_82 rfl rfl
    · refine g_aload_n dX12_wrongBy_72 0 rfl ?_
      refine g_bipush dX12_wrongBy_73 (v := 8) (by decide) ?_
      refine g_vI [.int 8] [] mw_X12_318 (ok_X12_refuse g 8 μ13) (by omega) sh_141 (by decide) rfl rfl (Nat.le_of_ble_eq_true rfl) dX12_wrongBy_75 (fun x15 μ16 _ => ?_)
      refine g_goto (tgt := 82) dX12_wrongBy_78 (by decide) ?_
      exact g_ret dX12_wrongBy_82 rfl rfl
  · refine g_aload_n dX12_wrongBy_18 0 rfl ?_
    refine g_iconst dX12_wrongBy_19 (v := 2) (by decide) ?_
    refine g_vI [.int 2] [] mw_X12_318 (ok_X12_refuse g 2 (sI (sI μ 141 1 0) 141 0 0)) (by omega) sh_141 (by decide) rfl rfl (Nat.le_of_ble_eq_true rfl) dX12_wrongBy_20 (fun x17 μ18 _ => ?_)
    exact g_ret dX12_wrongBy_23 rfl rfl
set_option maxHeartbeats 4000000 in
set_option maxRecDepth 100000 in
theorem okL_X12_evenIn_18 (g : GG) (F : Nat)  (k : Int32 → Mm → Option (Int32 × Mm))  (hk : ∀ (v1 : Int32) (μ : Mm), Go g RX12 cX12_evenIn 3 .ireturn 8 cvI 49 [(0, .ref (gb g + 141)), (1, .int v1)] [] μ (k v1 μ)) : ∀ (n : Nat) (v1 : Int32) (v2 : Int32) (μ : Mm), Go g RX12 cX12_evenIn 3 .ireturn 8 cvI 18 [(0, .ref (gb g + 141)), (1, .int v1), (2, .int v2)] [] μ (L_X12_evenIn_18 F k n v1 v2 μ) := by
  intro n
  induction n with
  | zero =>
    intro v1 v2 μ
    exact g_none
  | succ n ih =>
    intro v1 v2 μ
    rw [L_X12_evenIn_18_s]
    refine g_iload_n dX12_evenIn_18 2 rfl ?_
    refine g_sipush dX12_evenIn_19 (v := 300) (by decide) ?_
    refine g_icmp_gt (tgt := 49) dX12_evenIn_22 (by decide) (fun _ => ?_) (fun _ => ?_)
    · refine g_lv [0, 1] rfl ?_
      exact hk v1 μ
    · refine g_iload_n dX12_evenIn_25 1 rfl ?_
      refine g_if_ge (tgt := 49) dX12_evenIn_26 (by decide) (fun _ => ?_) (fun _ => ?_)
      · refine g_lv [0, 1] rfl ?_
        exact hk v1 μ
      · refine g_aload_n dX12_evenIn_29 0 rfl ?_
        refine g_vZp [] [] mw_X12_327 (ok_X12_isEven g F μ) (by omega) sh_141 (by decide) rfl rfl (Nat.le_of_ble_eq_true rfl) dX12_evenIn_30 (fun x3 _ => ?_)
        have hJ8 : ∀ (w5 : Int32), w5 = (if x3 = true then v2 else v1) → Go g RX12 cX12_evenIn 3 .ireturn 8 cvI 38 [(0, .ref (gb g + 141)), (1, .int w5), (2, .int v2)] [] μ (bd (f_X12_goesHour F μ) fun x6 μ7 => L_X12_evenIn_18 F k n (if x3 = true then v2 else v1) (v2 + 1) μ7) := by
          intro w5 ew5
          subst ew5
          refine g_aload_n dX12_evenIn_38 0 rfl ?_
          refine g_vZ [] [] mw_X12_365 (ok_X12_goesHour g F μ) (by omega) sh_141 (by decide) rfl rfl (Nat.le_of_ble_eq_true rfl) dX12_evenIn_39 (fun x6 μ7 _ => ?_)
          refine g_pop dX12_evenIn_42 rfl ?_
          refine g_iinc dX12_evenIn_43 2 rfl (v := (v2 + 1)) rfl (by decide) (lv' := [(2, .int (v2 + 1)), (0, .ref (gb g + 141)), (1, .int (if x3 = true then v2 else v1))]) rfl ?_
          refine g_goto (tgt := 18) dX12_evenIn_46 (by decide) ?_
          refine g_lv [1, 2, 0] rfl ?_
          exact ih (if x3 = true then v2 else v1) (v2 + 1) μ7
        refine g_same (g_ifeqB (tgt := 38) dX12_evenIn_33 (by decide) (fun c4 => ?_) (fun c4 => ?_))
        · refine g_lv [0, 1, 2] rfl ?_
          exact hJ8 _ (by rw [if_neg c4])
        · refine g_iload_n dX12_evenIn_36 2 rfl ?_
          refine g_istore_n dX12_evenIn_37 rfl (by decide) (lv' := [(1, .int v2), (0, .ref (gb g + 141)), (2, .int v2)]) rfl ?_
          refine g_lv [1, 0, 2] rfl ?_
          exact hJ8 _ (by rw [if_pos c4])
set_option maxHeartbeats 4000000 in
set_option maxRecDepth 100000 in
theorem ok_X12_evenIn (g : GG) (F : Nat)   (μ : Mm) : Ct g yX12_evenIn cX12_evenIn 3 (some (.int)) 8 cvI [.ref (gb g + 141)] μ (f_X12_evenIn F μ) := by
  refine ct_I (by decide +kernel) (Nat.le_of_ble_eq_true rfl) (show Go g RX12 cX12_evenIn 3 .ireturn 8 cvI 0 [(0, .ref (gb g + 141))] [] μ (f_X12_evenIn F μ) from ?_)
  unfold f_X12_evenIn
  refine g_aload_n dX12_evenIn_0 0 rfl ?_
  refine g_iconst dX12_evenIn_1 (v := 0) (by decide) ?_
  refine g_putI fl_X12_72 sh_141 (by decide) rfl dX12_evenIn_2 ?_
  refine g_aload_n dX12_evenIn_5 0 rfl ?_
  refine g_iconst dX12_evenIn_6 (v := 0) (by decide) ?_
  refine g_putI fl_X12_75 sh_141 (by decide) rfl dX12_evenIn_7 ?_
  refine g_iconst dX12_evenIn_10 (v := (-1)) (by decide) ?_
  refine g_istore_n dX12_evenIn_11 rfl (by decide) (lv' := [(1, .int (-1)), (0, .ref (gb g + 141))]) rfl ?_
  refine g_aload_n dX12_evenIn_12 1 rfl ?_
  refine g_vV [] [] mw_X12_388 (ok_X12_puts g F (sI (sI μ 141 1 0) 141 0 0)) (by omega) sh_141 (by decide) rfl rfl (Nat.le_of_ble_eq_true rfl) dX12_evenIn_13 (fun μ2 _ => ?_)
  refine g_iconst dX12_evenIn_16 (v := 0) (by decide) ?_
  refine g_istore_n dX12_evenIn_17 rfl (by decide) (lv' := [(2, .int 0), (1, .int (-1)), (0, .ref (gb g + 141))]) rfl ?_
  refine g_lv [2, 1, 0] rfl ?_
  refine okL_X12_evenIn_18 g F _ (fun u9 μ10 => ?_) F (-1) 0 μ2
  refine g_aload_n dX12_evenIn_49 0 rfl ?_
  refine g_vV [] [] mw_X12_391 (ok_X12_gives g F μ10) (by omega) sh_141 (by decide) rfl rfl (Nat.le_of_ble_eq_true rfl) dX12_evenIn_50 (fun μ12 _ => ?_)
  refine g_iload_n dX12_evenIn_53 1 rfl ?_
  refine g_if_ge (tgt := 66) dX12_evenIn_54 (by decide) (fun _ => ?_) (fun _ => ?_)
  · refine g_iload_n dX12_evenIn_66 1 rfl ?_
    exact g_ret dX12_evenIn_67 rfl rfl
  · refine g_aload_n dX12_evenIn_57 0 rfl ?_
    refine g_bipush dX12_evenIn_58 (v := 8) (by decide) ?_
    refine g_vI [.int 8] [] mw_X12_318 (ok_X12_refuse g 8 μ12) (by omega) sh_141 (by decide) rfl rfl (Nat.le_of_ble_eq_true rfl) dX12_evenIn_60 (fun x14 μ15 _ => ?_)
    refine g_goto (tgt := 67) dX12_evenIn_63 (by decide) ?_
    exact g_ret dX12_evenIn_67 rfl rfl
set_option maxHeartbeats 4000000 in
set_option maxRecDepth 100000 in
theorem okL_X12_stillIn_18 (g : GG) (F : Nat)  (k : Int32 → Mm → Option (Int32 × Mm))  (hk : ∀ (v1 : Int32) (μ : Mm), Go g RX12 cX12_stillIn 3 .ireturn 8 cvI 44 [(0, .ref (gb g + 141)), (1, .int v1)] [] μ (k v1 μ)) : ∀ (n : Nat) (v1 : Int32) (v2 : Int32) (μ : Mm), Go g RX12 cX12_stillIn 3 .ireturn 8 cvI 18 [(0, .ref (gb g + 141)), (1, .int v1), (2, .int v2)] [] μ (L_X12_stillIn_18 F k n v1 v2 μ) := by
  intro n
  induction n with
  | zero =>
    intro v1 v2 μ
    exact g_none
  | succ n ih =>
    intro v1 v2 μ
    rw [L_X12_stillIn_18_s]
    refine g_iload_n dX12_stillIn_18 2 rfl ?_
    refine g_sipush dX12_stillIn_19 (v := 300) (by decide) ?_
    refine g_icmp_gt (tgt := 44) dX12_stillIn_22 (by decide) (fun _ => ?_) (fun _ => ?_)
    · refine g_lv [0, 1] rfl ?_
      exact hk v1 μ
    · refine g_iload_n dX12_stillIn_25 1 rfl ?_
      refine g_if_ge (tgt := 44) dX12_stillIn_26 (by decide) (fun _ => ?_) (fun _ => ?_)
      · refine g_lv [0, 1] rfl ?_
        exact hk v1 μ
      · refine g_aload_n dX12_stillIn_29 0 rfl ?_
        refine g_vZ [] [] mw_X12_365 (ok_X12_goesHour g F μ) (by omega) sh_141 (by decide) rfl rfl (Nat.le_of_ble_eq_true rfl) dX12_stillIn_30 (fun x3 μ4 _ => ?_)
        have hJ7 : ∀ (w6 : Int32), w6 = (if x3 = true then v1 else v2) → Go g RX12 cX12_stillIn 3 .ireturn 8 cvI 38 [(0, .ref (gb g + 141)), (1, .int w6), (2, .int v2)] [] μ4 (L_X12_stillIn_18 F k n (if x3 = true then v1 else v2) (v2 + 1) μ4) := by
          intro w6 ew6
          subst ew6
          refine g_iinc dX12_stillIn_38 2 rfl (v := (v2 + 1)) rfl (by decide) (lv' := [(2, .int (v2 + 1)), (0, .ref (gb g + 141)), (1, .int (if x3 = true then v1 else v2))]) rfl ?_
          refine g_goto (tgt := 18) dX12_stillIn_41 (by decide) ?_
          refine g_lv [1, 2, 0] rfl ?_
          exact ih (if x3 = true then v1 else v2) (v2 + 1) μ4
        refine g_same (g_ifneB (tgt := 38) dX12_stillIn_33 (by decide) (fun c5 => ?_) (fun c5 => ?_))
        · refine g_lv [0, 1, 2] rfl ?_
          exact hJ7 _ (by rw [if_pos c5])
        · refine g_iload_n dX12_stillIn_36 2 rfl ?_
          refine g_istore_n dX12_stillIn_37 rfl (by decide) (lv' := [(1, .int v2), (0, .ref (gb g + 141)), (2, .int v2)]) rfl ?_
          refine g_lv [1, 0, 2] rfl ?_
          exact hJ7 _ (by rw [if_neg c5])
set_option maxHeartbeats 4000000 in
set_option maxRecDepth 100000 in
theorem ok_X12_stillIn (g : GG) (F : Nat)   (μ : Mm) : Ct g yX12_stillIn cX12_stillIn 3 (some (.int)) 8 cvI [.ref (gb g + 141)] μ (f_X12_stillIn F μ) := by
  refine ct_I (by decide +kernel) (Nat.le_of_ble_eq_true rfl) (show Go g RX12 cX12_stillIn 3 .ireturn 8 cvI 0 [(0, .ref (gb g + 141))] [] μ (f_X12_stillIn F μ) from ?_)
  unfold f_X12_stillIn
  refine g_aload_n dX12_stillIn_0 0 rfl ?_
  refine g_iconst dX12_stillIn_1 (v := 0) (by decide) ?_
  refine g_putI fl_X12_72 sh_141 (by decide) rfl dX12_stillIn_2 ?_
  refine g_aload_n dX12_stillIn_5 0 rfl ?_
  refine g_iconst dX12_stillIn_6 (v := 0) (by decide) ?_
  refine g_putI fl_X12_75 sh_141 (by decide) rfl dX12_stillIn_7 ?_
  refine g_iconst dX12_stillIn_10 (v := (-1)) (by decide) ?_
  refine g_istore_n dX12_stillIn_11 rfl (by decide) (lv' := [(1, .int (-1)), (0, .ref (gb g + 141))]) rfl ?_
  refine g_aload_n dX12_stillIn_12 1 rfl ?_
  refine g_vV [] [] mw_X12_388 (ok_X12_puts g F (sI (sI μ 141 1 0) 141 0 0)) (by omega) sh_141 (by decide) rfl rfl (Nat.le_of_ble_eq_true rfl) dX12_stillIn_13 (fun μ2 _ => ?_)
  refine g_iconst dX12_stillIn_16 (v := 0) (by decide) ?_
  refine g_istore_n dX12_stillIn_17 rfl (by decide) (lv' := [(2, .int 0), (1, .int (-1)), (0, .ref (gb g + 141))]) rfl ?_
  refine g_lv [2, 1, 0] rfl ?_
  refine okL_X12_stillIn_18 g F _ (fun u8 μ9 => ?_) F (-1) 0 μ2
  refine g_aload_n dX12_stillIn_44 0 rfl ?_
  refine g_vV [] [] mw_X12_391 (ok_X12_gives g F μ9) (by omega) sh_141 (by decide) rfl rfl (Nat.le_of_ble_eq_true rfl) dX12_stillIn_45 (fun μ11 _ => ?_)
  refine g_iload_n dX12_stillIn_48 1 rfl ?_
  refine g_if_ge (tgt := 61) dX12_stillIn_49 (by decide) (fun _ => ?_) (fun _ => ?_)
  · refine g_iload_n dX12_stillIn_61 1 rfl ?_
    exact g_ret dX12_stillIn_62 rfl rfl
  · refine g_aload_n dX12_stillIn_52 0 rfl ?_
    refine g_bipush dX12_stillIn_53 (v := 8) (by decide) ?_
    refine g_vI [.int 8] [] mw_X12_318 (ok_X12_refuse g 8 μ11) (by omega) sh_141 (by decide) rfl rfl (Nat.le_of_ble_eq_true rfl) dX12_stillIn_55 (fun x13 μ14 _ => ?_)
    refine g_goto (tgt := 62) dX12_stillIn_58 (by decide) ?_
    exact g_ret dX12_stillIn_62 rfl rfl
set_option maxHeartbeats 4000000 in
set_option maxRecDepth 100000 in
theorem ok_X12_bears (g : GG) (F : Nat) (v1 : Int32)  (μ : Mm) : Ct g yX12_bears cX12_bears 3 (some (.int)) 6 cvI [.ref (gb g + 141), .int v1] μ (f_X12_bears F v1 μ) := by
  refine ct_I (by decide +kernel) (Nat.le_of_ble_eq_true rfl) (show Go g RX12 cX12_bears 3 .ireturn 6 cvI 0 [(0, .ref (gb g + 141)), (1, .int v1)] [] μ (f_X12_bears F v1 μ) from ?_)
  unfold f_X12_bears
  refine g_aload_n dX12_bears_0 0 rfl ?_
  refine g_iconst dX12_bears_1 (v := 0) (by decide) ?_
  refine g_putI fl_X12_72 sh_141 (by decide) rfl dX12_bears_2 ?_
  refine g_aload_n dX12_bears_5 0 rfl ?_
  refine g_iconst dX12_bears_6 (v := 0) (by decide) ?_
  refine g_putI fl_X12_75 sh_141 (by decide) rfl dX12_bears_7 ?_
  refine g_aload_n dX12_bears_10 0 rfl ?_
  refine g_iload_n dX12_bears_11 1 rfl ?_
  refine g_vZp [.int v1] [] mw_X12_330 (ok_X12_isCellAt g v1 (sI (sI μ 141 1 0) 141 0 0)) (by omega) sh_141 (by decide) rfl rfl (Nat.le_of_ble_eq_true rfl) dX12_bears_12 (fun x1 _ => ?_)
  refine g_ifneB (tgt := 24) dX12_bears_15 (by decide) (fun _ => ?_) (fun _ => ?_)
  · refine g_aload_n dX12_bears_24 0 rfl ?_
    refine g_iload_n dX12_bears_25 1 rfl ?_
    refine g_vIp [.int v1] [] mw_X12_356 (ok_X12_lawOn g F v1 (sI (sI μ 141 1 0) 141 0 0)) (by omega) sh_141 (by decide) rfl rfl (Nat.le_of_ble_eq_true rfl) dX12_bears_26 (fun x2 _ => ?_)
    refine g_istore_n dX12_bears_29 rfl (by decide) (lv' := [(2, .int x2), (0, .ref (gb g + 141)), (1, .int v1)]) rfl ?_
    refine g_iload_n dX12_bears_30 0 rfl ?_
    refine g_if_ge (tgt := 43) dX12_bears_31 (by decide) (fun _ => ?_) (fun _ => ?_)
    · refine g_iload_n dX12_bears_43 0 rfl ?_
      exact g_ret dX12_bears_44 rfl rfl
    · refine g_aload_n dX12_bears_34 1 rfl ?_
      refine g_bipush dX12_bears_35 (v := 8) (by decide) ?_
      refine g_vI [.int 8] [] mw_X12_318 (ok_X12_refuse g 8 (sI (sI μ 141 1 0) 141 0 0)) (by omega) sh_141 (by decide) rfl rfl (Nat.le_of_ble_eq_true rfl) dX12_bears_37 (fun x4 μ5 _ => ?_)
      refine g_goto (tgt := 44) dX12_bears_40 (by decide) ?_
      exact g_ret dX12_bears_44 rfl rfl
  · refine g_aload_n dX12_bears_18 0 rfl ?_
    refine g_iconst dX12_bears_19 (v := 2) (by decide) ?_
    refine g_vI [.int 2] [] mw_X12_318 (ok_X12_refuse g 2 (sI (sI μ 141 1 0) 141 0 0)) (by omega) sh_141 (by decide) rfl rfl (Nat.le_of_ble_eq_true rfl) dX12_bears_20 (fun x6 μ7 _ => ?_)
    exact g_ret dX12_bears_23 rfl rfl
set_option maxHeartbeats 4000000 in
set_option maxRecDepth 100000 in
theorem okL_X12_laysTurn_2 (g : GG) (F : Nat) (v1 : Int32) (k : Mm → Option (Mm))  (hk : ∀ (μ : Mm), Go g RX12 cX12_laysTurn 3 .return_ 1 cvV 33 [] [] μ (k μ)) : ∀ (n : Nat) (v2 : Int32) (μ : Mm), Go g RX12 cX12_laysTurn 3 .return_ 1 cvV 2 [(0, .ref (gb g + 141)), (1, .int v1), (2, .int v2)] [] μ (L_X12_laysTurn_2 F v1 k n v2 μ) := by
  intro n
  induction n with
  | zero =>
    intro v2 μ
    exact g_none
  | succ n ih =>
    intro v2 μ
    rw [L_X12_laysTurn_2_s]
    refine g_iload_n dX12_laysTurn_2 2 rfl ?_
    refine g_sipush dX12_laysTurn_3 (v := 128) (by decide) ?_
    refine g_icmp_ge (tgt := 33) dX12_laysTurn_6 (by decide) (fun _ => ?_) (fun _ => ?_)
    · refine g_lv [] rfl ?_
      exact hk μ
    · refine g_aload_n dX12_laysTurn_9 0 rfl ?_
      refine g_getR (b := 151) fl_X12_50 sh_141 (by decide) rfl rfl dX12_laysTurn_10 ?_
      refine g_sipush dX12_laysTurn_13 (v := 128) (by decide) ?_
      refine g_iload_n dX12_laysTurn_16 1 rfl ?_
      refine g_imul dX12_laysTurn_17 ?_
      refine g_iload_n dX12_laysTurn_18 2 rfl ?_
      refine g_iadd dX12_laysTurn_19 ?_
      refine g_aload_n dX12_laysTurn_20 0 rfl ?_
      refine g_getR (b := 146) fl_X12_35 sh_141 (by decide) rfl rfl dX12_laysTurn_21 ?_
      refine g_iload_n dX12_laysTurn_24 2 rfl ?_
      refine g_iaload sh_146 dX12_laysTurn_25 (fun x1 => ?_)
      refine g_iastore sh_151 dX12_laysTurn_26 (fun μ2 => ?_)
      refine g_iinc dX12_laysTurn_27 2 rfl (v := (v2 + 1)) rfl (by decide) (lv' := [(2, .int (v2 + 1)), (0, .ref (gb g + 141)), (1, .int v1)]) rfl ?_
      refine g_goto (tgt := 2) dX12_laysTurn_30 (by decide) ?_
      refine g_lv [1, 2, 0] rfl ?_
      exact ih (v2 + 1) μ2
set_option maxHeartbeats 4000000 in
set_option maxRecDepth 100000 in
theorem ok_X12_laysTurn (g : GG) (F : Nat) (v1 : Int32)  (μ : Mm) : Ct g yX12_laysTurn cX12_laysTurn 3 none 1 cvV [.ref (gb g + 141), .int v1] μ (f_X12_laysTurn F v1 μ) := by
  refine ct_V (by decide +kernel) (Nat.le_of_ble_eq_true rfl) (show Go g RX12 cX12_laysTurn 3 .return_ 1 cvV 0 [(0, .ref (gb g + 141)), (1, .int v1)] [] μ (f_X12_laysTurn F v1 μ) from ?_)
  unfold f_X12_laysTurn
  refine g_iconst dX12_laysTurn_0 (v := 0) (by decide) ?_
  refine g_istore_n dX12_laysTurn_1 rfl (by decide) (lv' := [(2, .int 0), (0, .ref (gb g + 141)), (1, .int v1)]) rfl ?_
  refine g_lv [1, 2, 0] rfl ?_
  refine okL_X12_laysTurn_2 g F v1 _ (fun μ3 => ?_) F 0 μ
  exact g_ret dX12_laysTurn_33 rfl rfl
set_option maxHeartbeats 4000000 in
set_option maxRecDepth 100000 in
theorem okL_X12_takesTurn_2 (g : GG) (F : Nat) (v1 : Int32) (k : Mm → Option (Mm))  (hk : ∀ (μ : Mm), Go g RX12 cX12_takesTurn 3 .return_ 1 cvV 33 [] [] μ (k μ)) : ∀ (n : Nat) (v2 : Int32) (μ : Mm), Go g RX12 cX12_takesTurn 3 .return_ 1 cvV 2 [(0, .ref (gb g + 141)), (1, .int v1), (2, .int v2)] [] μ (L_X12_takesTurn_2 F v1 k n v2 μ) := by
  intro n
  induction n with
  | zero =>
    intro v2 μ
    exact g_none
  | succ n ih =>
    intro v2 μ
    rw [L_X12_takesTurn_2_s]
    refine g_iload_n dX12_takesTurn_2 2 rfl ?_
    refine g_sipush dX12_takesTurn_3 (v := 128) (by decide) ?_
    refine g_icmp_ge (tgt := 33) dX12_takesTurn_6 (by decide) (fun _ => ?_) (fun _ => ?_)
    · refine g_lv [] rfl ?_
      exact hk μ
    · refine g_aload_n dX12_takesTurn_9 0 rfl ?_
      refine g_getR (b := 146) fl_X12_35 sh_141 (by decide) rfl rfl dX12_takesTurn_10 ?_
      refine g_iload_n dX12_takesTurn_13 2 rfl ?_
      refine g_aload_n dX12_takesTurn_14 0 rfl ?_
      refine g_getR (b := 151) fl_X12_50 sh_141 (by decide) rfl rfl dX12_takesTurn_15 ?_
      refine g_sipush dX12_takesTurn_18 (v := 128) (by decide) ?_
      refine g_iload_n dX12_takesTurn_21 1 rfl ?_
      refine g_imul dX12_takesTurn_22 ?_
      refine g_iload_n dX12_takesTurn_23 2 rfl ?_
      refine g_iadd dX12_takesTurn_24 ?_
      refine g_iaload sh_151 dX12_takesTurn_25 (fun x1 => ?_)
      refine g_iastore sh_146 dX12_takesTurn_26 (fun μ2 => ?_)
      refine g_iinc dX12_takesTurn_27 2 rfl (v := (v2 + 1)) rfl (by decide) (lv' := [(2, .int (v2 + 1)), (0, .ref (gb g + 141)), (1, .int v1)]) rfl ?_
      refine g_goto (tgt := 2) dX12_takesTurn_30 (by decide) ?_
      refine g_lv [1, 2, 0] rfl ?_
      exact ih (v2 + 1) μ2
set_option maxHeartbeats 4000000 in
set_option maxRecDepth 100000 in
theorem ok_X12_takesTurn (g : GG) (F : Nat) (v1 : Int32)  (μ : Mm) : Ct g yX12_takesTurn cX12_takesTurn 3 none 1 cvV [.ref (gb g + 141), .int v1] μ (f_X12_takesTurn F v1 μ) := by
  refine ct_V (by decide +kernel) (Nat.le_of_ble_eq_true rfl) (show Go g RX12 cX12_takesTurn 3 .return_ 1 cvV 0 [(0, .ref (gb g + 141)), (1, .int v1)] [] μ (f_X12_takesTurn F v1 μ) from ?_)
  unfold f_X12_takesTurn
  refine g_iconst dX12_takesTurn_0 (v := 0) (by decide) ?_
  refine g_istore_n dX12_takesTurn_1 rfl (by decide) (lv' := [(2, .int 0), (0, .ref (gb g + 141)), (1, .int v1)]) rfl ?_
  refine g_lv [1, 2, 0] rfl ?_
  refine okL_X12_takesTurn_2 g F v1 _ (fun μ3 => ?_) F 0 μ
  exact g_ret dX12_takesTurn_33 rfl rfl
set_option maxHeartbeats 4000000 in
set_option maxRecDepth 100000 in
theorem okL_X12_walks_97 (g : GG) (dr : Nat) (F : Nat) (rc_X12_walks : Int32 → Int32 → Int32 → Int32 → Mm → Option (Mm)) (v1 : Int32) (v2 : Int32) (v3 : Int32) (v4 : Int32) (k : Mm → Option (Mm))  (hr_X12_walks : ∀ (v1 : Int32) (v2 : Int32) (v3 : Int32) (v4 : Int32) (μ : Mm), Ct g yX12_walks cX12_walks 7 none dr cvV [.ref (gb g + 141), .int v1, .int v2, .int v3, .int v4] μ (rc_X12_walks v1 v2 v3 v4 μ)) (hk : ∀ (μ : Mm), Go g RX12 cX12_walks 7 .return_ (dr + 9) cvV 157 [] [] μ (k μ)) : ∀ (n : Nat) (v5 : Int32) (μ : Mm), Go g RX12 cX12_walks 7 .return_ (dr + 9) cvV 97 [(0, .ref (gb g + 141)), (1, .int v1), (2, .int v2), (3, .int v3), (4, .int v4), (5, .int v5)] [] μ (L_X12_walks_97 F rc_X12_walks v1 v2 v3 v4 k n v5 μ) := by
  intro n
  induction n with
  | zero =>
    intro v5 μ
    exact g_none
  | succ n ih =>
    intro v5 μ
    rw [L_X12_walks_97_s]
    refine g_iload dX12_walks_97 5 rfl ?_
    refine g_iconst dX12_walks_99 (v := 4) (by decide) ?_
    refine g_icmp_gt (tgt := 157) dX12_walks_100 (by decide) (fun _ => ?_) (fun _ => ?_)
    · refine g_lv [] rfl ?_
      exact hk μ
    · refine g_aload_n dX12_walks_103 0 rfl ?_
      refine g_iload dX12_walks_104 5 rfl ?_
      refine g_vZ [.int v5] [] mw_X12_370 (ok_X12_steps g F v5 μ) (by omega) sh_141 (by decide) rfl rfl (Nat.le_of_ble_eq_true rfl) dX12_walks_106 (fun x3 μ4 _ => ?_)
      refine g_ifneB (tgt := 115) dX12_walks_109 (by decide) (fun _ => ?_) (fun _ => ?_)
      · refine g_aload_n dX12_walks_115 0 rfl ?_
        refine g_getR (b := 152) fl_X12_53 sh_141 (by decide) rfl rfl dX12_walks_116 ?_
        refine g_iload_n dX12_walks_119 2 rfl ?_
        refine g_iload dX12_walks_120 5 rfl ?_
        refine g_iastore sh_152 dX12_walks_122 (fun μ6 => ?_)
        refine g_aload_n dX12_walks_123 0 rfl ?_
        refine g_iload_n dX12_walks_124 1 rfl ?_
        refine g_iload_n dX12_walks_125 2 rfl ?_
        refine g_iconst dX12_walks_126 (v := 1) (by decide) ?_
        refine g_iadd dX12_walks_127 ?_
        refine g_iload_n dX12_walks_128 3 rfl ?_
        refine g_iload dX12_walks_129 4 rfl ?_
        refine g_iload dX12_walks_131 5 rfl ?_
        refine g_iconst dX12_walks_133 (v := 4) (by decide) ?_
        have hJ13 : ∀ (w8 : Int32), w8 = (if v5 = 4 then (1 : Int32) else 0) → Go g RX12 cX12_walks 7 .return_ (dr + 9) cvV 142 [(0, .ref (gb g + 141)), (1, .int v1), (2, .int v2), (3, .int v3), (4, .int v4), (5, .int v5)] [.int w8, .int v4, .int v3, .int (v2 + (1 : Int32)), .int v1, .ref (gb g + 141)] μ6 ((rc_X12_walks v1 (v2 + (1 : Int32)) v3 (v4 + (if v5 = 4 then (1 : Int32) else 0)) μ6).bind fun μ10 => (f_X12_takesTurn F v2 μ10).bind fun μ12 => L_X12_walks_97 F rc_X12_walks v1 v2 v3 v4 k n (v5 + 1) μ12) := by
          intro w8 ew8
          subst ew8
          refine g_iadd dX12_walks_142 ?_
          refine g_vV [.int v1, .int (v2 + (1 : Int32)), .int v3, .int (v4 + (if v5 = 4 then (1 : Int32) else 0))] [] mw_X12_403 (hr_X12_walks v1 (v2 + (1 : Int32)) v3 (v4 + (if v5 = 4 then (1 : Int32) else 0)) μ6) (by omega) sh_141 (by decide) rfl rfl (Nat.le_of_ble_eq_true rfl) dX12_walks_143 (fun μ10 _ => ?_)
          refine g_aload_n dX12_walks_146 0 rfl ?_
          refine g_iload_n dX12_walks_147 2 rfl ?_
          refine g_vV [.int v2] [] mw_X12_407 (ok_X12_takesTurn g F v2 μ10) (by omega) sh_141 (by decide) rfl rfl (Nat.le_of_ble_eq_true rfl) dX12_walks_148 (fun μ12 _ => ?_)
          refine g_iinc dX12_walks_151 5 rfl (v := (v5 + 1)) rfl (by decide) (lv' := [(5, .int (v5 + 1)), (0, .ref (gb g + 141)), (1, .int v1), (2, .int v2), (3, .int v3), (4, .int v4)]) rfl ?_
          refine g_goto (tgt := 97) dX12_walks_154 (by decide) ?_
          refine g_lv [1, 2, 3, 4, 5, 0] rfl ?_
          exact ih (v5 + 1) μ12
        refine g_same (g_icmp_ne (tgt := 141) dX12_walks_134 (by decide) (fun c7 => ?_) (fun c7 => ?_))
        · refine g_iconst dX12_walks_141 (v := 0) (by decide) ?_
          refine g_lv [0, 1, 2, 3, 4, 5] rfl ?_
          exact hJ13 _ (by rw [if_neg c7])
        · refine g_iconst dX12_walks_137 (v := 1) (by decide) ?_
          refine g_goto (tgt := 142) dX12_walks_138 (by decide) ?_
          refine g_lv [0, 1, 2, 3, 4, 5] rfl ?_
          exact hJ13 _ (by rw [if_pos c7])
      · refine g_goto (tgt := 151) dX12_walks_112 (by decide) ?_
        refine g_iinc dX12_walks_151 5 rfl (v := (v5 + 1)) rfl (by decide) (lv' := [(5, .int (v5 + 1)), (0, .ref (gb g + 141)), (1, .int v1), (2, .int v2), (3, .int v3), (4, .int v4)]) rfl ?_
        refine g_goto (tgt := 97) dX12_walks_154 (by decide) ?_
        refine g_lv [1, 2, 3, 4, 5, 0] rfl ?_
        exact ih (v5 + 1) μ4
set_option maxHeartbeats 4000000 in
set_option maxRecDepth 100000 in
theorem okL_X12_walks_62 (g : GG) (dr : Nat) (F : Nat) (rc_X12_walks : Int32 → Int32 → Int32 → Int32 → Mm → Option (Mm)) (v3 : Int32) (k : Mm → Option (Mm))  (hr_X12_walks : ∀ (v1 : Int32) (v2 : Int32) (v3 : Int32) (v4 : Int32) (μ : Mm), Ct g yX12_walks cX12_walks 7 none dr cvV [.ref (gb g + 141), .int v1, .int v2, .int v3, .int v4] μ (rc_X12_walks v1 v2 v3 v4 μ)) (hk : ∀ (μ : Mm), Go g RX12 cX12_walks 7 .return_ (dr + 9) cvV 88 [] [] μ (k μ)) : ∀ (n : Nat) (v6 : Int32) (μ : Mm), Go g RX12 cX12_walks 7 .return_ (dr + 9) cvV 62 [(0, .ref (gb g + 141)), (3, .int v3), (6, .int v6)] [] μ (L_X12_walks_62 F rc_X12_walks v3 k n v6 μ) := by
  intro n
  induction n with
  | zero =>
    intro v6 μ
    exact g_none
  | succ n ih =>
    intro v6 μ
    rw [L_X12_walks_62_s]
    refine g_iload dX12_walks_62 2 rfl ?_
    refine g_iload_n dX12_walks_64 1 rfl ?_
    refine g_icmp_ge (tgt := 88) dX12_walks_65 (by decide) (fun _ => ?_) (fun _ => ?_)
    · refine g_lv [] rfl ?_
      exact hk μ
    · refine g_aload_n dX12_walks_68 0 rfl ?_
      refine g_getR (b := 153) fl_X12_56 sh_141 (by decide) rfl rfl dX12_walks_69 ?_
      refine g_iload dX12_walks_72 2 rfl ?_
      refine g_aload_n dX12_walks_74 0 rfl ?_
      refine g_getR (b := 152) fl_X12_53 sh_141 (by decide) rfl rfl dX12_walks_75 ?_
      refine g_iload dX12_walks_78 2 rfl ?_
      refine g_iaload sh_152 dX12_walks_80 (fun x16 => ?_)
      refine g_iastore sh_153 dX12_walks_81 (fun μ17 => ?_)
      refine g_iinc dX12_walks_82 2 rfl (v := (v6 + 1)) rfl (by decide) (lv' := [(6, .int (v6 + 1)), (0, .ref (gb g + 141)), (3, .int v3)]) rfl ?_
      refine g_goto (tgt := 62) dX12_walks_85 (by decide) ?_
      refine g_lv [1, 2, 0] rfl ?_
      exact ih (v6 + 1) μ17
set_option maxHeartbeats 4000000 in
set_option maxRecDepth 100000 in
theorem ok_X12_walks (g : GG) (dr : Nat) (F : Nat) (rc_X12_walks : Int32 → Int32 → Int32 → Int32 → Mm → Option (Mm)) (v1 : Int32) (v2 : Int32) (v3 : Int32) (v4 : Int32)  (hr_X12_walks : ∀ (v1 : Int32) (v2 : Int32) (v3 : Int32) (v4 : Int32) (μ : Mm), Ct g yX12_walks cX12_walks 7 none dr cvV [.ref (gb g + 141), .int v1, .int v2, .int v3, .int v4] μ (rc_X12_walks v1 v2 v3 v4 μ)) (μ : Mm) : Ct g yX12_walks cX12_walks 7 none (dr + 9) cvV [.ref (gb g + 141), .int v1, .int v2, .int v3, .int v4] μ (f_X12_walks F rc_X12_walks v1 v2 v3 v4 μ) := by
  refine ct_V (by decide +kernel) (Nat.le_of_ble_eq_true rfl) (show Go g RX12 cX12_walks 7 .return_ (dr + 9) cvV 0 [(0, .ref (gb g + 141)), (1, .int v1), (2, .int v2), (3, .int v3), (4, .int v4)] [] μ (f_X12_walks F rc_X12_walks v1 v2 v3 v4 μ) from ?_)
  unfold f_X12_walks
  refine g_iload_n dX12_walks_0 2 rfl ?_
  refine g_iload_n dX12_walks_1 3 rfl ?_
  refine g_icmp_ne (tgt := 89) dX12_walks_2 (by decide) (fun _ => ?_) (fun _ => ?_)
  · refine g_aload_n dX12_walks_89 0 rfl ?_
    refine g_iload_n dX12_walks_90 2 rfl ?_
    refine g_vV [.int v2] [] mw_X12_400 (ok_X12_laysTurn g F v2 μ) (by omega) sh_141 (by decide) rfl rfl (Nat.le_of_ble_eq_true rfl) dX12_walks_91 (fun μ2 _ => ?_)
    refine g_iconst dX12_walks_94 (v := 0) (by decide) ?_
    refine g_istore dX12_walks_95 (by decide) (lv' := [(5, .int 0), (0, .ref (gb g + 141)), (1, .int v1), (2, .int v2), (3, .int v3), (4, .int v4)]) rfl ?_
    refine g_lv [1, 2, 3, 4, 5, 0] rfl ?_
    refine okL_X12_walks_97 g dr F rc_X12_walks v1 v2 v3 v4 _ hr_X12_walks (fun μ14 => ?_) F 0 μ2
    exact g_ret dX12_walks_157 rfl rfl
  · refine g_aload_n dX12_walks_5 0 rfl ?_
    refine g_iload_n dX12_walks_6 1 rfl ?_
    refine g_vIp [.int v1] [] mw_X12_307 (ok_X12_wrongOf g F v1 μ) (by omega) sh_141 (by decide) rfl rfl (Nat.le_of_ble_eq_true rfl) dX12_walks_7 (fun x15 _ => ?_)
    refine g_istore dX12_walks_10 (by decide) (lv' := [(5, .int x15), (0, .ref (gb g + 141)), (1, .int v1), (2, .int v2), (3, .int v3), (4, .int v4)]) rfl ?_
    refine g_aload_n dX12_walks_12 1 rfl ?_
    refine g_getI fl_X12_394 sh_141 (by decide) rfl dX12_walks_13 ?_
    refine g_if_lt (tgt := 47) dX12_walks_16 (by decide) (fun _ => ?_) (fun _ => ?_)
    · refine g_aload_n dX12_walks_47 1 rfl ?_
      refine g_iload dX12_walks_48 0 rfl ?_
      refine g_putI fl_X12_394 sh_141 (by decide) rfl dX12_walks_50 ?_
      refine g_aload_n dX12_walks_53 1 rfl ?_
      refine g_iload dX12_walks_54 5 rfl ?_
      refine g_putI fl_X12_397 sh_141 (by decide) rfl dX12_walks_56 ?_
      refine g_iconst dX12_walks_59 (v := 0) (by decide) ?_
      refine g_istore dX12_walks_60 (by decide) (lv' := [(6, .int 0), (5, .int x15), (0, .ref (gb g + 141)), (1, .int v1), (2, .int v2), (3, .int v3), (4, .int v4)]) rfl ?_
      refine g_lv [2, 5, 0] rfl ?_
      refine okL_X12_walks_62 g dr F rc_X12_walks v3 _ hr_X12_walks (fun μ18 => ?_) F 0 (sI (sI μ 141 31 x15) 141 32 v4)
      exact g_ret dX12_walks_88 rfl rfl
    · refine g_iload dX12_walks_19 0 rfl ?_
      refine g_aload_n dX12_walks_21 1 rfl ?_
      refine g_getI fl_X12_394 sh_141 (by decide) rfl dX12_walks_22 ?_
      refine g_icmp_gt (tgt := 46) dX12_walks_25 (by decide) (fun _ => ?_) (fun _ => ?_)
      · exact g_ret dX12_walks_46 rfl rfl
      · refine g_iload dX12_walks_28 0 rfl ?_
        refine g_aload_n dX12_walks_30 1 rfl ?_
        refine g_getI fl_X12_394 sh_141 (by decide) rfl dX12_walks_31 ?_
        refine g_icmp_ne (tgt := 47) dX12_walks_34 (by decide) (fun _ => ?_) (fun _ => ?_)
        · refine g_aload_n dX12_walks_47 1 rfl ?_
          refine g_iload dX12_walks_48 0 rfl ?_
          refine g_putI fl_X12_394 sh_141 (by decide) rfl dX12_walks_50 ?_
          refine g_aload_n dX12_walks_53 1 rfl ?_
          refine g_iload dX12_walks_54 5 rfl ?_
          refine g_putI fl_X12_397 sh_141 (by decide) rfl dX12_walks_56 ?_
          refine g_iconst dX12_walks_59 (v := 0) (by decide) ?_
          refine g_istore dX12_walks_60 (by decide) (lv' := [(6, .int 0), (5, .int x15), (0, .ref (gb g + 141)), (1, .int v1), (2, .int v2), (3, .int v3), (4, .int v4)]) rfl ?_
          refine g_lv [2, 5, 0] rfl ?_
          refine okL_X12_walks_62 g dr F rc_X12_walks v3 _ hr_X12_walks (fun μ19 => ?_) F 0 (sI (sI μ 141 31 x15) 141 32 v4)
          exact g_ret dX12_walks_88 rfl rfl
        · refine g_iload dX12_walks_37 5 rfl ?_
          refine g_aload_n dX12_walks_39 1 rfl ?_
          refine g_getI fl_X12_397 sh_141 (by decide) rfl dX12_walks_40 ?_
          refine g_icmp_gt (tgt := 47) dX12_walks_43 (by decide) (fun _ => ?_) (fun _ => ?_)
          · refine g_aload_n dX12_walks_47 1 rfl ?_
            refine g_iload dX12_walks_48 0 rfl ?_
            refine g_putI fl_X12_394 sh_141 (by decide) rfl dX12_walks_50 ?_
            refine g_aload_n dX12_walks_53 1 rfl ?_
            refine g_iload dX12_walks_54 5 rfl ?_
            refine g_putI fl_X12_397 sh_141 (by decide) rfl dX12_walks_56 ?_
            refine g_iconst dX12_walks_59 (v := 0) (by decide) ?_
            refine g_istore dX12_walks_60 (by decide) (lv' := [(6, .int 0), (5, .int x15), (0, .ref (gb g + 141)), (1, .int v1), (2, .int v2), (3, .int v3), (4, .int v4)]) rfl ?_
            refine g_lv [2, 5, 0] rfl ?_
            refine okL_X12_walks_62 g dr F rc_X12_walks v3 _ hr_X12_walks (fun μ20 => ?_) F 0 (sI (sI μ 141 31 x15) 141 32 v4)
            exact g_ret dX12_walks_88 rfl rfl
          · exact g_ret dX12_walks_46 rfl rfl
theorem okt_X12_walks (g : GG) (F : Nat) : ∀ (D : Nat) (v1 : Int32) (v2 : Int32) (v3 : Int32) (v4 : Int32)  (μ : Mm), Ct g yX12_walks cX12_walks 7 none (D * 9) cvV [.ref (gb g + 141), .int v1, .int v2, .int v3, .int v4] μ (t_X12_walks F D v1 v2 v3 v4 μ) := by
  intro D
  induction D with
  | zero =>
    intro v1 v2 v3 v4 μ r hr
    cases hr
  | succ D ih =>
    intro v1 v2 v3 v4 μ
    rw [t_X12_walks_s, show (D + 1) * 9 = D * 9 + 9 by omega]
    exact ok_X12_walks g (D * 9) F (t_X12_walks F D) v1 v2 v3 v4 (fun v1 v2 v3 v4 μ => ih v1 v2 v3 v4 μ) μ
set_option maxHeartbeats 4000000 in
set_option maxRecDepth 100000 in
theorem ok_X12_whyNoRound (g : GG) (v1 : Int32) (v2 : Int32)  (μ : Mm) : Ct g yX12_whyNoRound cX12_whyNoRound 3 (some (.int)) 2 (cvIp μ) [.ref (gb g + 141), .int v1, .int v2] μ (f_X12_whyNoRound v1 v2 μ) := by
  refine ct_Ip (by decide +kernel) (Nat.le_of_ble_eq_true rfl) (show Go g RX12 cX12_whyNoRound 3 .ireturn 2 (cvIp μ) 0 [(0, .ref (gb g + 141)), (1, .int v1), (2, .int v2)] [] μ (f_X12_whyNoRound v1 v2 μ) from ?_)
  unfold f_X12_whyNoRound
  refine g_iload_n dX12_whyNoRound_0 1 rfl ?_
  refine g_i2l dX12_whyNoRound_1 ?_
  refine g_lconst dX12_whyNoRound_2 (v := 0) (by decide) ?_
  refine g_iconst dX12_whyNoRound_3 (v := 1) (by decide) ?_
  refine g_aload_n dX12_whyNoRound_4 0 rfl ?_
  refine g_vIp [] [.int 1, .long 0, .long (v1.toInt64)] mw_X12_301 (ok_X12_cells g μ) (by omega) sh_141 (by decide) rfl rfl (Nat.le_of_ble_eq_true rfl) dX12_whyNoRound_5 (fun x1 _ => ?_)
  refine g_ishl dX12_whyNoRound_8 ?_
  refine g_iconst dX12_whyNoRound_9 (v := 1) (by decide) ?_
  refine g_isub dX12_whyNoRound_10 ?_
  refine g_i2l dX12_whyNoRound_11 ?_
  refine g_sZp [.long (v1.toInt64), .long 0, .long ((((1 : Int32) <<< (x1 &&& 31)) - (1 : Int32)).toInt64)] [] mw_X12_107 (ok_X12_isIn g (v1.toInt64) 0 ((((1 : Int32) <<< (x1 &&& 31)) - (1 : Int32)).toInt64) μ) (by omega) rfl rfl (Nat.le_of_ble_eq_true rfl) dX12_whyNoRound_12 (fun x2 _ => ?_)
  refine g_ifeqB (tgt := 30) dX12_whyNoRound_15 (by decide) (fun _ => ?_) (fun _ => ?_)
  · refine g_iconst dX12_whyNoRound_30 (v := 5) (by decide) ?_
    exact g_ret dX12_whyNoRound_31 rfl rfl
  · refine g_iload_n dX12_whyNoRound_18 2 rfl ?_
    refine g_i2l dX12_whyNoRound_19 ?_
    refine g_lconst dX12_whyNoRound_20 (v := 1) (by decide) ?_
    refine g_ldc2 kl_X12_410 dX12_whyNoRound_21 ?_
    refine g_sZp [.long (v2.toInt64), .long 1, .long 5] [] mw_X12_107 (ok_X12_isIn g (v2.toInt64) 1 5 μ) (by omega) rfl rfl (Nat.le_of_ble_eq_true rfl) dX12_whyNoRound_24 (fun x3 _ => ?_)
    refine g_ifneB (tgt := 32) dX12_whyNoRound_27 (by decide) (fun _ => ?_) (fun _ => ?_)
    · refine g_aload_n dX12_whyNoRound_32 0 rfl ?_
      refine g_getR (b := 146) fl_X12_35 sh_141 (by decide) rfl rfl dX12_whyNoRound_33 ?_
      refine g_iconst dX12_whyNoRound_36 (v := 0) (by decide) ?_
      refine g_iaload sh_146 dX12_whyNoRound_37 (fun x4 => ?_)
      have hJ7 : ∀ (w6 : Int32), w6 = (if x4 = 0 then (8 : Int32) else 0) → Go g RX12 cX12_whyNoRound 3 .ireturn 2 (cvIp μ) 47 [] [.int w6] μ (some (if x4 = 0 then (8 : Int32) else 0)) := by
        intro w6 ew6
        subst ew6
        exact g_ret dX12_whyNoRound_47 rfl rfl
      refine g_same (g_if_ne (tgt := 46) dX12_whyNoRound_38 (by decide) (fun c5 => ?_) (fun c5 => ?_))
      · refine g_iconst dX12_whyNoRound_46 (v := 0) (by decide) ?_
        refine g_lv [] rfl ?_
        exact hJ7 _ (by rw [if_neg c5])
      · refine g_bipush dX12_whyNoRound_41 (v := 8) (by decide) ?_
        refine g_goto (tgt := 47) dX12_whyNoRound_43 (by decide) ?_
        refine g_lv [] rfl ?_
        exact hJ7 _ (by rw [if_pos c5])
    · refine g_iconst dX12_whyNoRound_30 (v := 5) (by decide) ?_
      exact g_ret dX12_whyNoRound_31 rfl rfl
set_option maxHeartbeats 4000000 in
set_option maxRecDepth 100000 in
theorem ok_X12_laysRound (g : GG) (F : Nat) (v1 : Int32) (v2 : Int32)  (μ : Mm) : Ct g yX12_laysRound cX12_laysRound 3 none 82 cvV [.ref (gb g + 141), .int v1, .int v2] μ (f_X12_laysRound F v1 v2 μ) := by
  refine ct_V (by decide +kernel) (Nat.le_of_ble_eq_true rfl) (show Go g RX12 cX12_laysRound 3 .return_ 82 cvV 0 [(0, .ref (gb g + 141)), (1, .int v1), (2, .int v2)] [] μ (f_X12_laysRound F v1 v2 μ) from ?_)
  unfold f_X12_laysRound
  refine g_aload_n dX12_laysRound_0 0 rfl ?_
  refine g_iconst dX12_laysRound_1 (v := (-1)) (by decide) ?_
  refine g_putI fl_X12_394 sh_141 (by decide) rfl dX12_laysRound_2 ?_
  refine g_aload_n dX12_laysRound_5 0 rfl ?_
  refine g_iload_n dX12_laysRound_6 1 rfl ?_
  refine g_iconst dX12_laysRound_7 (v := 0) (by decide) ?_
  refine g_iload_n dX12_laysRound_8 2 rfl ?_
  refine g_iconst dX12_laysRound_9 (v := 0) (by decide) ?_
  refine g_vV [.int v1, .int 0, .int v2, .int 0] [] mw_X12_403 (okt_X12_walks g F 9 v1 0 v2 0 (sI μ 141 31 (-1))) (by omega) sh_141 (by decide) rfl rfl (Nat.le_of_ble_eq_true rfl) dX12_laysRound_10 (fun μ2 _ => ?_)
  exact g_ret dX12_laysRound_13 rfl rfl
set_option maxHeartbeats 4000000 in
set_option maxRecDepth 100000 in
theorem ok_X12_round (g : GG) (F : Nat) (v1 : Int32) (v2 : Int32)  (μ : Mm) : Ct g yX12_round cX12_round 3 (some (.int)) 83 cvI [.ref (gb g + 141), .int v1, .int v2] μ (f_X12_round F v1 v2 μ) := by
  refine ct_I (by decide +kernel) (Nat.le_of_ble_eq_true rfl) (show Go g RX12 cX12_round 3 .ireturn 83 cvI 0 [(0, .ref (gb g + 141)), (1, .int v1), (2, .int v2)] [] μ (f_X12_round F v1 v2 μ) from ?_)
  unfold f_X12_round
  refine g_aload_n dX12_round_0 0 rfl ?_
  refine g_iconst dX12_round_1 (v := 0) (by decide) ?_
  refine g_putI fl_X12_72 sh_141 (by decide) rfl dX12_round_2 ?_
  refine g_aload_n dX12_round_5 0 rfl ?_
  refine g_aload_n dX12_round_6 0 rfl ?_
  refine g_iload_n dX12_round_7 1 rfl ?_
  refine g_iload_n dX12_round_8 2 rfl ?_
  refine g_vIp [.int v1, .int v2] [.ref (gb g + 141)] mw_X12_412 (ok_X12_whyNoRound g v1 v2 (sI μ 141 1 0)) (by omega) sh_141 (by decide) rfl rfl (Nat.le_of_ble_eq_true rfl) dX12_round_9 (fun x1 _ => ?_)
  refine g_putI fl_X12_75 sh_141 (by decide) rfl dX12_round_12 ?_
  refine g_aload_n dX12_round_15 0 rfl ?_
  refine g_getI fl_X12_75 sh_141 (by decide) rfl dX12_round_16 ?_
  refine g_if_le (tgt := 24) dX12_round_19 (by decide) (fun _ => ?_) (fun _ => ?_)
  · refine g_aload_n dX12_round_24 0 rfl ?_
    refine g_iload_n dX12_round_25 1 rfl ?_
    refine g_iload_n dX12_round_26 2 rfl ?_
    refine g_vV [.int v1, .int v2] [] mw_X12_415 (ok_X12_laysRound g F v1 v2 (sI (sI μ 141 1 0) 141 0 x1)) (by omega) sh_141 (by decide) rfl rfl (Nat.le_of_ble_eq_true rfl) dX12_round_27 (fun μ3 _ => ?_)
    refine g_aload_n dX12_round_30 0 rfl ?_
    refine g_getI fl_X12_394 sh_141 (by decide) rfl dX12_round_31 ?_
    exact g_ret dX12_round_34 rfl rfl
  · refine g_iconst dX12_round_22 (v := (-1)) (by decide) ?_
    exact g_ret dX12_round_23 rfl rfl
set_option maxHeartbeats 4000000 in
set_option maxRecDepth 100000 in
theorem ok_X12_roundAt (g : GG) (F : Nat) (v1 : Int32) (v2 : Int32) (v3 : Int32)  (μ : Mm) : Ct g yX12_roundAt cX12_roundAt 4 (some (.int)) 83 cvI [.ref (gb g + 141), .int v1, .int v2, .int v3] μ (f_X12_roundAt F v1 v2 v3 μ) := by
  refine ct_I (by decide +kernel) (Nat.le_of_ble_eq_true rfl) (show Go g RX12 cX12_roundAt 4 .ireturn 83 cvI 0 [(0, .ref (gb g + 141)), (1, .int v1), (2, .int v2), (3, .int v3)] [] μ (f_X12_roundAt F v1 v2 v3 μ) from ?_)
  unfold f_X12_roundAt
  refine g_aload_n dX12_roundAt_0 0 rfl ?_
  refine g_iconst dX12_roundAt_1 (v := 0) (by decide) ?_
  refine g_putI fl_X12_72 sh_141 (by decide) rfl dX12_roundAt_2 ?_
  refine g_aload_n dX12_roundAt_5 0 rfl ?_
  refine g_iload_n dX12_roundAt_6 3 rfl ?_
  refine g_i2l dX12_roundAt_7 ?_
  refine g_lconst dX12_roundAt_8 (v := 0) (by decide) ?_
  refine g_iload_n dX12_roundAt_9 2 rfl ?_
  refine g_i2l dX12_roundAt_10 ?_
  refine g_lconst dX12_roundAt_11 (v := 1) (by decide) ?_
  refine g_lsub dX12_roundAt_12 ?_
  refine g_sZp [.long (v3.toInt64), .long 0, .long ((v2.toInt64) - (1 : Int64))] [.ref (gb g + 141)] mw_X12_107 (ok_X12_isIn g (v3.toInt64) 0 ((v2.toInt64) - (1 : Int64)) (sI μ 141 1 0)) (by omega) rfl rfl (Nat.le_of_ble_eq_true rfl) dX12_roundAt_13 (fun x1 _ => ?_)
  refine g_jn (fun (a4 : Int32) oo => Go g RX12 cX12_roundAt 4 .ireturn 83 cvI 29 [(0, .ref (gb g + 141)), (1, .int v1), (2, .int v2), (3, .int v3)] [.int a4, .ref (gb g + 141)] (sI μ 141 1 0) oo) (fun a4 => ?_) (fun K3 hF8 => ?_)
  · refine g_putI fl_X12_75 sh_141 (by decide) rfl dX12_roundAt_29 ?_
    refine g_aload_n dX12_roundAt_32 0 rfl ?_
    refine g_getI fl_X12_75 sh_141 (by decide) rfl dX12_roundAt_33 ?_
    refine g_if_le (tgt := 41) dX12_roundAt_36 (by decide) (fun _ => ?_) (fun _ => ?_)
    · refine g_aload_n dX12_roundAt_41 0 rfl ?_
      refine g_iload_n dX12_roundAt_42 1 rfl ?_
      refine g_iload_n dX12_roundAt_43 2 rfl ?_
      refine g_vV [.int v1, .int v2] [] mw_X12_415 (ok_X12_laysRound g F v1 v2 (sI (sI μ 141 1 0) 141 0 a4)) (by omega) sh_141 (by decide) rfl rfl (Nat.le_of_ble_eq_true rfl) dX12_roundAt_44 (fun μ6 _ => ?_)
      refine g_aload_n dX12_roundAt_47 0 rfl ?_
      refine g_getR (b := 153) fl_X12_56 sh_141 (by decide) rfl rfl dX12_roundAt_48 ?_
      refine g_iload_n dX12_roundAt_51 3 rfl ?_
      refine g_iaload sh_153 dX12_roundAt_52 (fun x7 => ?_)
      exact g_ret dX12_roundAt_53 rfl rfl
    · refine g_iconst dX12_roundAt_39 (v := (-1)) (by decide) ?_
      exact g_ret dX12_roundAt_40 rfl rfl
  · refine g_ifeqB (tgt := 28) dX12_roundAt_16 (by decide) (fun _ => ?_) (fun _ => ?_)
    · refine g_iconst dX12_roundAt_28 (v := 5) (by decide) ?_
      refine g_lv [0, 1, 2, 3] rfl ?_
      exact hF8 5
    · refine g_aload_n dX12_roundAt_19 0 rfl ?_
      refine g_iload_n dX12_roundAt_20 1 rfl ?_
      refine g_iload_n dX12_roundAt_21 2 rfl ?_
      refine g_vIp [.int v1, .int v2] [.ref (gb g + 141)] mw_X12_412 (ok_X12_whyNoRound g v1 v2 (sI μ 141 1 0)) (by omega) sh_141 (by decide) rfl rfl (Nat.le_of_ble_eq_true rfl) dX12_roundAt_22 (fun x9 _ => ?_)
      refine g_goto (tgt := 29) dX12_roundAt_25 (by decide) ?_
      refine g_lv [0, 1, 2, 3] rfl ?_
      exact hF8 x9
set_option maxHeartbeats 4000000 in
set_option maxRecDepth 100000 in
theorem ok_X12_farOf (g : GG) (v1 : Int32)  (μ : Mm) : Ct g yX12_farOf cX12_farOf 2 (some (.int)) 2 (cvIp μ) [.ref (gb g + 141), .int v1] μ (f_X12_farOf v1 μ) := by
  refine ct_Ip (by decide +kernel) (Nat.le_of_ble_eq_true rfl) (show Go g RX12 cX12_farOf 2 .ireturn 2 (cvIp μ) 0 [(0, .ref (gb g + 141)), (1, .int v1)] [] μ (f_X12_farOf v1 μ) from ?_)
  unfold f_X12_farOf
  refine g_iload_n dX12_farOf_0 1 rfl ?_
  refine g_aload_n dX12_farOf_1 0 rfl ?_
  refine g_getR (b := 146) fl_X12_35 sh_141 (by decide) rfl rfl dX12_farOf_2 ?_
  refine g_iconst dX12_farOf_5 (v := 2) (by decide) ?_
  refine g_iaload sh_146 dX12_farOf_6 (fun x1 => ?_)
  refine g_idiv dX12_farOf_7 ?_
  refine g_aload_n dX12_farOf_8 0 rfl ?_
  refine g_getR (b := 146) fl_X12_35 sh_141 (by decide) rfl rfl dX12_farOf_9 ?_
  refine g_bipush dX12_farOf_12 (v := 7) (by decide) ?_
  refine g_iaload sh_146 dX12_farOf_14 (fun x2 => ?_)
  refine g_aload_n dX12_farOf_15 0 rfl ?_
  refine g_getR (b := 146) fl_X12_35 sh_141 (by decide) rfl rfl dX12_farOf_16 ?_
  refine g_iconst dX12_farOf_19 (v := 2) (by decide) ?_
  refine g_iaload sh_146 dX12_farOf_20 (fun x3 => ?_)
  refine g_idiv dX12_farOf_21 ?_
  refine g_isub dX12_farOf_22 ?_
  refine g_mabs mw_X12_418 (by omega) (Nat.le_of_ble_eq_true rfl) dX12_farOf_23 (fun x4 => ?_)
  refine g_iload_n dX12_farOf_26 1 rfl ?_
  refine g_aload_n dX12_farOf_27 0 rfl ?_
  refine g_getR (b := 146) fl_X12_35 sh_141 (by decide) rfl rfl dX12_farOf_28 ?_
  refine g_iconst dX12_farOf_31 (v := 2) (by decide) ?_
  refine g_iaload sh_146 dX12_farOf_32 (fun x5 => ?_)
  refine g_irem dX12_farOf_33 ?_
  refine g_aload_n dX12_farOf_34 0 rfl ?_
  refine g_getR (b := 146) fl_X12_35 sh_141 (by decide) rfl rfl dX12_farOf_35 ?_
  refine g_bipush dX12_farOf_38 (v := 7) (by decide) ?_
  refine g_iaload sh_146 dX12_farOf_40 (fun x6 => ?_)
  refine g_aload_n dX12_farOf_41 0 rfl ?_
  refine g_getR (b := 146) fl_X12_35 sh_141 (by decide) rfl rfl dX12_farOf_42 ?_
  refine g_iconst dX12_farOf_45 (v := 2) (by decide) ?_
  refine g_iaload sh_146 dX12_farOf_46 (fun x7 => ?_)
  refine g_irem dX12_farOf_47 ?_
  refine g_isub dX12_farOf_48 ?_
  refine g_mabs mw_X12_418 (by omega) (Nat.le_of_ble_eq_true rfl) dX12_farOf_49 (fun x8 => ?_)
  refine g_iadd dX12_farOf_52 ?_
  exact g_ret dX12_farOf_53 rfl rfl
set_option maxHeartbeats 4000000 in
set_option maxRecDepth 100000 in
theorem ok_X12_far (g : GG) (v1 : Int32)  (μ : Mm) : Ct g yX12_far cX12_far 2 (some (.int)) 3 cvI [.ref (gb g + 141), .int v1] μ (f_X12_far v1 μ) := by
  refine ct_I (by decide +kernel) (Nat.le_of_ble_eq_true rfl) (show Go g RX12 cX12_far 2 .ireturn 3 cvI 0 [(0, .ref (gb g + 141)), (1, .int v1)] [] μ (f_X12_far v1 μ) from ?_)
  unfold f_X12_far
  refine g_aload_n dX12_far_0 0 rfl ?_
  refine g_iconst dX12_far_1 (v := 0) (by decide) ?_
  refine g_putI fl_X12_72 sh_141 (by decide) rfl dX12_far_2 ?_
  refine g_aload_n dX12_far_5 0 rfl ?_
  refine g_iconst dX12_far_6 (v := 0) (by decide) ?_
  refine g_putI fl_X12_75 sh_141 (by decide) rfl dX12_far_7 ?_
  refine g_aload_n dX12_far_10 0 rfl ?_
  refine g_iload_n dX12_far_11 1 rfl ?_
  refine g_vZp [.int v1] [] mw_X12_330 (ok_X12_isCellAt g v1 (sI (sI μ 141 1 0) 141 0 0)) (by omega) sh_141 (by decide) rfl rfl (Nat.le_of_ble_eq_true rfl) dX12_far_12 (fun x1 _ => ?_)
  refine g_ifeqB (tgt := 26) dX12_far_15 (by decide) (fun _ => ?_) (fun _ => ?_)
  · refine g_aload_n dX12_far_26 0 rfl ?_
    refine g_iconst dX12_far_27 (v := 2) (by decide) ?_
    refine g_vI [.int 2] [] mw_X12_318 (ok_X12_refuse g 2 (sI (sI μ 141 1 0) 141 0 0)) (by omega) sh_141 (by decide) rfl rfl (Nat.le_of_ble_eq_true rfl) dX12_far_28 (fun x3 μ4 _ => ?_)
    exact g_ret dX12_far_31 rfl rfl
  · refine g_aload_n dX12_far_18 0 rfl ?_
    refine g_iload_n dX12_far_19 1 rfl ?_
    refine g_vIp [.int v1] [] mw_X12_420 (ok_X12_farOf g v1 (sI (sI μ 141 1 0) 141 0 0)) (by omega) sh_141 (by decide) rfl rfl (Nat.le_of_ble_eq_true rfl) dX12_far_20 (fun x5 _ => ?_)
    refine g_goto (tgt := 31) dX12_far_23 (by decide) ?_
    exact g_ret dX12_far_31 rfl rfl
set_option maxHeartbeats 4000000 in
set_option maxRecDepth 100000 in
theorem okL_X12_isPast_2 (g : GG) (F : Nat) (v1 : Int32) (k : Option (Bool)) (μ : Mm)  (hk : Go g RX12 cX12_isPast 3 .ireturn 7 (cvZp μ) 36 [] [] μ k) : ∀ (n : Nat) (v2 : Int32), Go g RX12 cX12_isPast 3 .ireturn 7 (cvZp μ) 2 [(0, .ref (gb g + 141)), (1, .int v1), (2, .int v2)] [] μ (L_X12_isPast_2 F v1 k μ n v2) := by
  intro n
  induction n with
  | zero =>
    intro v2
    exact g_none
  | succ n ih =>
    intro v2
    rw [L_X12_isPast_2_s]
    refine g_iload_n dX12_isPast_2 2 rfl ?_
    refine g_aload_n dX12_isPast_3 0 rfl ?_
    refine g_getR (b := 146) fl_X12_35 sh_141 (by decide) rfl rfl dX12_isPast_4 ?_
    refine g_iconst dX12_isPast_7 (v := 2) (by decide) ?_
    refine g_iaload sh_146 dX12_isPast_8 (fun x1 => ?_)
    refine g_icmp_ge (tgt := 36) dX12_isPast_9 (by decide) (fun _ => ?_) (fun _ => ?_)
    · refine g_lv [] rfl ?_
      exact hk 
    · refine g_aload_n dX12_isPast_12 0 rfl ?_
      refine g_iload_n dX12_isPast_13 1 rfl ?_
      refine g_iload_n dX12_isPast_14 2 rfl ?_
      refine g_iadd dX12_isPast_15 ?_
      refine g_vIp [.int (v1 + v2)] [] mw_X12_359 (ok_X12_becomesBy g F (v1 + v2) μ) (by omega) sh_141 (by decide) rfl rfl (Nat.le_of_ble_eq_true rfl) dX12_isPast_16 (fun x2 _ => ?_)
      refine g_aload_n dX12_isPast_19 0 rfl ?_
      refine g_getR (b := 154) fl_X12_59 sh_141 (by decide) rfl rfl dX12_isPast_20 ?_
      refine g_iload_n dX12_isPast_23 2 rfl ?_
      refine g_iaload sh_154 dX12_isPast_24 (fun x3 => ?_)
      refine g_icmp_eq (tgt := 30) dX12_isPast_25 (by decide) (fun _ => ?_) (fun _ => ?_)
      · refine g_iinc dX12_isPast_30 2 rfl (v := (v2 + 1)) rfl (by decide) (lv' := [(2, .int (v2 + 1)), (0, .ref (gb g + 141)), (1, .int v1)]) rfl ?_
        refine g_goto (tgt := 2) dX12_isPast_33 (by decide) ?_
        refine g_lv [1, 2, 0] rfl ?_
        exact ih (v2 + 1)
      · refine g_iconst dX12_isPast_28 (v := 0) (by decide) ?_
        exact g_ret dX12_isPast_29 rfl rfl
set_option maxHeartbeats 4000000 in
set_option maxRecDepth 100000 in
theorem ok_X12_isPast (g : GG) (F : Nat) (v1 : Int32)  (μ : Mm) : Ct g yX12_isPast cX12_isPast 3 (some (.boolean)) 7 (cvZp μ) [.ref (gb g + 141), .int v1] μ (f_X12_isPast F v1 μ) := by
  refine ct_Zp (by decide +kernel) (Nat.le_of_ble_eq_true rfl) (show Go g RX12 cX12_isPast 3 .ireturn 7 (cvZp μ) 0 [(0, .ref (gb g + 141)), (1, .int v1)] [] μ (f_X12_isPast F v1 μ) from ?_)
  unfold f_X12_isPast
  refine g_iconst dX12_isPast_0 (v := 0) (by decide) ?_
  refine g_istore_n dX12_isPast_1 rfl (by decide) (lv' := [(2, .int 0), (0, .ref (gb g + 141)), (1, .int v1)]) rfl ?_
  refine g_lv [1, 2, 0] rfl ?_
  refine okL_X12_isPast_2 g F v1 _ μ ?_ F 0
  refine g_iconst dX12_isPast_36 (v := 1) (by decide) ?_
  exact g_ret dX12_isPast_37 rfl rfl
set_option maxHeartbeats 4000000 in
set_option maxRecDepth 100000 in
theorem okL_X12_laysPast_30 (g : GG) (F : Nat) (v2 : Int32) (v3 : Int32) (k : Int32 → Mm → Option (Mm))  (hk : ∀ (v4 : Int32) (μ : Mm), Go g RX12 cX12_laysPast 8 .return_ 8 cvV 73 [(0, .ref (gb g + 141)), (2, .int v2), (3, .int v3), (4, .int v4)] [] μ (k v4 μ)) : ∀ (n : Nat) (v4 : Int32) (v5 : Int32) (μ : Mm), Go g RX12 cX12_laysPast 8 .return_ 8 cvV 30 [(0, .ref (gb g + 141)), (2, .int v2), (3, .int v3), (4, .int v4), (5, .int v5)] [] μ (L_X12_laysPast_30 F v2 v3 k n v4 v5 μ) := by
  intro n
  induction n with
  | zero =>
    intro v4 v5 μ
    exact g_none
  | succ n ih =>
    intro v4 v5 μ
    rw [L_X12_laysPast_30_s]
    refine g_iload dX12_laysPast_30 4 rfl ?_
    refine g_aload_n dX12_laysPast_32 0 rfl ?_
    refine g_getR (b := 146) fl_X12_35 sh_141 (by decide) rfl rfl dX12_laysPast_33 ?_
    refine g_iconst dX12_laysPast_36 (v := 2) (by decide) ?_
    refine g_iaload sh_146 dX12_laysPast_37 (fun x2 => ?_)
    refine g_icmp_ge (tgt := 73) dX12_laysPast_38 (by decide) (fun _ => ?_) (fun _ => ?_)
    · refine g_lv [0, 1, 2, 3] rfl ?_
      exact hk v4 μ
    · refine g_aload_n dX12_laysPast_41 0 rfl ?_
      refine g_getR (b := 154) fl_X12_59 sh_141 (by decide) rfl rfl dX12_laysPast_42 ?_
      refine g_iload dX12_laysPast_45 4 rfl ?_
      refine g_aload_n dX12_laysPast_47 0 rfl ?_
      refine g_getR (b := 146) fl_X12_35 sh_141 (by decide) rfl rfl dX12_laysPast_48 ?_
      refine g_bipush dX12_laysPast_51 (v := 13) (by decide) ?_
      refine g_iload_n dX12_laysPast_53 2 rfl ?_
      refine g_iadd dX12_laysPast_54 ?_
      refine g_iload dX12_laysPast_55 4 rfl ?_
      refine g_iadd dX12_laysPast_57 ?_
      refine g_iaload sh_146 dX12_laysPast_58 (fun x3 => ?_)
      refine g_iastore sh_154 dX12_laysPast_59 (fun μ4 => ?_)
      refine g_iload dX12_laysPast_60 3 rfl ?_
      refine g_bipush dX12_laysPast_62 (v := 10) (by decide) ?_
      refine g_imul dX12_laysPast_64 ?_
      refine g_istore dX12_laysPast_65 (by decide) (lv' := [(4, .int (v4 * (10 : Int32))), (0, .ref (gb g + 141)), (2, .int v2), (3, .int v3), (5, .int v5)]) rfl ?_
      refine g_iinc dX12_laysPast_67 4 rfl (v := (v5 + 1)) rfl (by decide) (lv' := [(5, .int (v5 + 1)), (4, .int (v4 * (10 : Int32))), (0, .ref (gb g + 141)), (2, .int v2), (3, .int v3)]) rfl ?_
      refine g_goto (tgt := 30) dX12_laysPast_70 (by decide) ?_
      refine g_lv [2, 3, 4, 1, 0] rfl ?_
      exact ih (v4 * (10 : Int32)) (v5 + 1) μ4
set_option maxHeartbeats 4000000 in
set_option maxRecDepth 100000 in
theorem okL_X12_laysPast_97 (g : GG) (F : Nat) (v2 : Int32) (v3 : Int32) (v4 : Int32) (v5 : Int32) (k : Mm → Option (Mm))  (hk : ∀ (μ : Mm), Go g RX12 cX12_laysPast 8 .return_ 8 cvV 132 [(0, .ref (gb g + 141)), (2, .int v2), (3, .int v3), (4, .int v4), (5, .int v5)] [] μ (k μ)) : ∀ (n : Nat) (v6 : Int32) (v7 : Int32) (μ : Mm), Go g RX12 cX12_laysPast 8 .return_ 8 cvV 97 [(0, .ref (gb g + 141)), (2, .int v2), (3, .int v3), (4, .int v4), (5, .int v5), (6, .int v6), (7, .int v7)] [] μ (L_X12_laysPast_97 F v2 v3 v4 v5 k n v6 v7 μ) := by
  intro n
  induction n with
  | zero =>
    intro v6 v7 μ
    exact g_none
  | succ n ih =>
    intro v6 v7 μ
    rw [L_X12_laysPast_97_s]
    refine g_iload dX12_laysPast_97 6 rfl ?_
    refine g_if_lt (tgt := 132) dX12_laysPast_99 (by decide) (fun _ => ?_) (fun _ => ?_)
    · refine g_lv [0, 1, 2, 3, 4] rfl ?_
      exact hk μ
    · refine g_aload_n dX12_laysPast_102 0 rfl ?_
      refine g_getR (b := 146) fl_X12_35 sh_141 (by decide) rfl rfl dX12_laysPast_103 ?_
      refine g_bipush dX12_laysPast_106 (v := 13) (by decide) ?_
      refine g_iload_n dX12_laysPast_108 2 rfl ?_
      refine g_iadd dX12_laysPast_109 ?_
      refine g_iload dX12_laysPast_110 6 rfl ?_
      refine g_iadd dX12_laysPast_112 ?_
      refine g_iload dX12_laysPast_113 5 rfl ?_
      refine g_bipush dX12_laysPast_115 (v := 10) (by decide) ?_
      refine g_irem dX12_laysPast_117 ?_
      refine g_iastore sh_146 dX12_laysPast_118 (fun μ8 => ?_)
      refine g_iload dX12_laysPast_119 5 rfl ?_
      refine g_bipush dX12_laysPast_121 (v := 10) (by decide) ?_
      refine g_idiv dX12_laysPast_123 ?_
      refine g_istore dX12_laysPast_124 (by decide) (lv' := [(6, .int (v6 / (10 : Int32))), (0, .ref (gb g + 141)), (2, .int v2), (3, .int v3), (4, .int v4), (5, .int v5), (7, .int v7)]) rfl ?_
      refine g_iinc dX12_laysPast_126 6 rfl (v := (v7 + (-1))) rfl (by decide) (lv' := [(7, .int (v7 + (-1))), (6, .int (v6 / (10 : Int32))), (0, .ref (gb g + 141)), (2, .int v2), (3, .int v3), (4, .int v4), (5, .int v5)]) rfl ?_
      refine g_goto (tgt := 97) dX12_laysPast_129 (by decide) ?_
      refine g_lv [2, 3, 4, 5, 6, 1, 0] rfl ?_
      exact ih (v6 / (10 : Int32)) (v7 + (-1)) μ8
set_option maxHeartbeats 4000000 in
set_option maxRecDepth 100000 in
theorem okL_X12_laysPast_76 (g : GG) (F : Nat) (v2 : Int32) (v3 : Int32) (v4 : Int32) (k : Mm → Option (Mm))  (hk : ∀ (μ : Mm), Go g RX12 cX12_laysPast 8 .return_ 8 cvV 199 [(0, .ref (gb g + 141)), (3, .int v3)] [] μ (k μ)) : ∀ (n : Nat) (v5 : Int32) (μ : Mm), Go g RX12 cX12_laysPast 8 .return_ 8 cvV 76 [(0, .ref (gb g + 141)), (2, .int v2), (3, .int v3), (4, .int v4), (5, .int v5)] [] μ (L_X12_laysPast_76 F v2 v3 v4 k n v5 μ) := by
  intro n
  induction n with
  | zero =>
    intro v5 μ
    exact g_none
  | succ n ih =>
    intro v5 μ
    rw [L_X12_laysPast_76_s]
    refine g_iload dX12_laysPast_76 4 rfl ?_
    refine g_iload dX12_laysPast_78 3 rfl ?_
    refine g_icmp_ge (tgt := 199) dX12_laysPast_80 (by decide) (fun _ => ?_) (fun _ => ?_)
    · refine g_lv [0, 2] rfl ?_
      exact hk μ
    · refine g_iload dX12_laysPast_83 4 rfl ?_
      refine g_istore dX12_laysPast_85 (by decide) (lv' := [(6, .int v5), (0, .ref (gb g + 141)), (2, .int v2), (3, .int v3), (4, .int v4), (5, .int v5)]) rfl ?_
      refine g_aload_n dX12_laysPast_87 1 rfl ?_
      refine g_getR (b := 146) fl_X12_35 sh_141 (by decide) rfl rfl dX12_laysPast_88 ?_
      refine g_iconst dX12_laysPast_91 (v := 2) (by decide) ?_
      refine g_iaload sh_146 dX12_laysPast_92 (fun x7 => ?_)
      refine g_iconst dX12_laysPast_93 (v := 1) (by decide) ?_
      refine g_isub dX12_laysPast_94 ?_
      refine g_istore dX12_laysPast_95 (by decide) (lv' := [(7, .int (x7 - (1 : Int32))), (6, .int v5), (0, .ref (gb g + 141)), (2, .int v2), (3, .int v3), (4, .int v4), (5, .int v5)]) rfl ?_
      refine g_lv [2, 3, 4, 5, 6, 1, 0] rfl ?_
      refine okL_X12_laysPast_97 g F v2 v3 v4 v5 _ (fun μ9 => ?_) F v5 (x7 - (1 : Int32)) μ
      refine g_aload_n dX12_laysPast_132 0 rfl ?_
      refine g_iload_n dX12_laysPast_133 2 rfl ?_
      refine g_vZp [.int v3] [] mw_X12_432 (ok_X12_isPast g F v3 μ9) (by omega) sh_141 (by decide) rfl rfl (Nat.le_of_ble_eq_true rfl) dX12_laysPast_134 (fun x10 _ => ?_)
      refine g_ifneB (tgt := 143) dX12_laysPast_137 (by decide) (fun _ => ?_) (fun _ => ?_)
      · refine g_aload_n dX12_laysPast_143 0 rfl ?_
        refine g_dup dX12_laysPast_144 rfl ?_
        refine g_getI fl_X12_423 sh_141 (by decide) rfl dX12_laysPast_145 ?_
        refine g_iconst dX12_laysPast_148 (v := 1) (by decide) ?_
        refine g_iadd dX12_laysPast_149 ?_
        refine g_putI fl_X12_423 sh_141 (by decide) rfl dX12_laysPast_150 ?_
        refine g_aload_n dX12_laysPast_153 0 rfl ?_
        refine g_dup dX12_laysPast_154 rfl ?_
        refine g_getI fl_X12_426 sh_141 (by decide) rfl dX12_laysPast_155 ?_
        refine g_iload dX12_laysPast_158 4 rfl ?_
        refine g_iload_n dX12_laysPast_160 1 rfl ?_
        have hJ17 : ∀ (w13 : Int32), w13 = (if v5 = v2 then (1 : Int32) else 0) → Go g RX12 cX12_laysPast 8 .return_ 8 cvV 169 [(0, .ref (gb g + 141)), (2, .int v2), (3, .int v3), (4, .int v4), (5, .int v5)] [.int w13, .int (mI (sI μ9 141 34 ((mI μ9 141 34) + (1 : Int32))) 141 35), .ref (gb g + 141)] (sI μ9 141 34 ((mI μ9 141 34) + (1 : Int32))) (L_X12_laysPast_76 F v2 v3 v4 k n (v5 + 1) (sI (sI (sI μ9 141 34 ((mI μ9 141 34) + (1 : Int32))) 141 35 ((mI (sI μ9 141 34 ((mI μ9 141 34) + (1 : Int32))) 141 35) + (if v5 = v2 then (1 : Int32) else 0))) 141 36 (if 0 ≤ (mI (sI (sI μ9 141 34 ((mI μ9 141 34) + (1 : Int32))) 141 35 ((mI (sI μ9 141 34 ((mI μ9 141 34) + (1 : Int32))) 141 35) + (if v5 = v2 then (1 : Int32) else 0))) 141 36) then (mI (sI (sI μ9 141 34 ((mI μ9 141 34) + (1 : Int32))) 141 35 ((mI (sI μ9 141 34 ((mI μ9 141 34) + (1 : Int32))) 141 35) + (if v5 = v2 then (1 : Int32) else 0))) 141 36) else v5))) := by
          intro w13 ew13
          subst ew13
          refine g_iadd dX12_laysPast_169 ?_
          refine g_putI fl_X12_426 sh_141 (by decide) rfl dX12_laysPast_170 ?_
          refine g_aload_n dX12_laysPast_173 0 rfl ?_
          refine g_aload_n dX12_laysPast_174 0 rfl ?_
          refine g_getI fl_X12_429 sh_141 (by decide) rfl dX12_laysPast_175 ?_
          have hJ16 : ∀ (w15 : Int32), w15 = (if 0 ≤ (mI (sI (sI μ9 141 34 ((mI μ9 141 34) + (1 : Int32))) 141 35 ((mI (sI μ9 141 34 ((mI μ9 141 34) + (1 : Int32))) 141 35) + (if v5 = v2 then (1 : Int32) else 0))) 141 36) then (mI (sI (sI μ9 141 34 ((mI μ9 141 34) + (1 : Int32))) 141 35 ((mI (sI μ9 141 34 ((mI μ9 141 34) + (1 : Int32))) 141 35) + (if v5 = v2 then (1 : Int32) else 0))) 141 36) else v5) → Go g RX12 cX12_laysPast 8 .return_ 8 cvV 190 [(0, .ref (gb g + 141)), (2, .int v2), (3, .int v3), (4, .int v4), (5, .int v5)] [.int w15, .ref (gb g + 141)] (sI (sI μ9 141 34 ((mI μ9 141 34) + (1 : Int32))) 141 35 ((mI (sI μ9 141 34 ((mI μ9 141 34) + (1 : Int32))) 141 35) + (if v5 = v2 then (1 : Int32) else 0))) (L_X12_laysPast_76 F v2 v3 v4 k n (v5 + 1) (sI (sI (sI μ9 141 34 ((mI μ9 141 34) + (1 : Int32))) 141 35 ((mI (sI μ9 141 34 ((mI μ9 141 34) + (1 : Int32))) 141 35) + (if v5 = v2 then (1 : Int32) else 0))) 141 36 (if 0 ≤ (mI (sI (sI μ9 141 34 ((mI μ9 141 34) + (1 : Int32))) 141 35 ((mI (sI μ9 141 34 ((mI μ9 141 34) + (1 : Int32))) 141 35) + (if v5 = v2 then (1 : Int32) else 0))) 141 36) then (mI (sI (sI μ9 141 34 ((mI μ9 141 34) + (1 : Int32))) 141 35 ((mI (sI μ9 141 34 ((mI μ9 141 34) + (1 : Int32))) 141 35) + (if v5 = v2 then (1 : Int32) else 0))) 141 36) else v5))) := by
            intro w15 ew15
            subst ew15
            refine g_putI fl_X12_429 sh_141 (by decide) rfl dX12_laysPast_190 ?_
            refine g_iinc dX12_laysPast_193 4 rfl (v := (v5 + 1)) rfl (by decide) (lv' := [(5, .int (v5 + 1)), (0, .ref (gb g + 141)), (2, .int v2), (3, .int v3), (4, .int v4)]) rfl ?_
            refine g_goto (tgt := 76) dX12_laysPast_196 (by decide) ?_
            refine g_lv [1, 2, 3, 4, 0] rfl ?_
            exact ih (v5 + 1) (sI (sI (sI μ9 141 34 ((mI μ9 141 34) + (1 : Int32))) 141 35 ((mI (sI μ9 141 34 ((mI μ9 141 34) + (1 : Int32))) 141 35) + (if v5 = v2 then (1 : Int32) else 0))) 141 36 (if 0 ≤ (mI (sI (sI μ9 141 34 ((mI μ9 141 34) + (1 : Int32))) 141 35 ((mI (sI μ9 141 34 ((mI μ9 141 34) + (1 : Int32))) 141 35) + (if v5 = v2 then (1 : Int32) else 0))) 141 36) then (mI (sI (sI μ9 141 34 ((mI μ9 141 34) + (1 : Int32))) 141 35 ((mI (sI μ9 141 34 ((mI μ9 141 34) + (1 : Int32))) 141 35) + (if v5 = v2 then (1 : Int32) else 0))) 141 36) else v5))
          refine g_same (g_if_ge (tgt := 186) dX12_laysPast_178 (by decide) (fun c14 => ?_) (fun c14 => ?_))
          · refine g_aload_n dX12_laysPast_186 0 rfl ?_
            refine g_getI fl_X12_429 sh_141 (by decide) rfl dX12_laysPast_187 ?_
            refine g_lv [0, 1, 2, 3, 4] rfl ?_
            exact hJ16 _ (by rw [if_pos c14])
          · refine g_iload dX12_laysPast_181 4 rfl ?_
            refine g_goto (tgt := 190) dX12_laysPast_183 (by decide) ?_
            refine g_lv [0, 1, 2, 3, 4] rfl ?_
            exact hJ16 _ (by rw [if_neg c14])
        refine g_same (g_icmp_ne (tgt := 168) dX12_laysPast_161 (by decide) (fun c12 => ?_) (fun c12 => ?_))
        · refine g_iconst dX12_laysPast_168 (v := 0) (by decide) ?_
          refine g_lv [0, 1, 2, 3, 4] rfl ?_
          exact hJ17 _ (by rw [if_neg c12])
        · refine g_iconst dX12_laysPast_164 (v := 1) (by decide) ?_
          refine g_goto (tgt := 169) dX12_laysPast_165 (by decide) ?_
          refine g_lv [0, 1, 2, 3, 4] rfl ?_
          exact hJ17 _ (by rw [if_pos c12])
      · refine g_goto (tgt := 193) dX12_laysPast_140 (by decide) ?_
        refine g_iinc dX12_laysPast_193 4 rfl (v := (v5 + 1)) rfl (by decide) (lv' := [(5, .int (v5 + 1)), (0, .ref (gb g + 141)), (2, .int v2), (3, .int v3), (4, .int v4)]) rfl ?_
        refine g_goto (tgt := 76) dX12_laysPast_196 (by decide) ?_
        refine g_lv [1, 2, 3, 4, 0] rfl ?_
        exact ih (v5 + 1) μ9
set_option maxHeartbeats 4000000 in
set_option maxRecDepth 100000 in
theorem okL_X12_laysPast_202 (g : GG) (F : Nat) (v3 : Int32) (k : Mm → Option (Mm))  (hk : ∀ (μ : Mm), Go g RX12 cX12_laysPast 8 .return_ 8 cvV 238 [] [] μ (k μ)) : ∀ (n : Nat) (v5 : Int32) (μ : Mm), Go g RX12 cX12_laysPast 8 .return_ 8 cvV 202 [(0, .ref (gb g + 141)), (3, .int v3), (5, .int v5)] [] μ (L_X12_laysPast_202 F v3 k n v5 μ) := by
  intro n
  induction n with
  | zero =>
    intro v5 μ
    exact g_none
  | succ n ih =>
    intro v5 μ
    rw [L_X12_laysPast_202_s]
    refine g_iload dX12_laysPast_202 2 rfl ?_
    refine g_aload_n dX12_laysPast_204 0 rfl ?_
    refine g_getR (b := 146) fl_X12_35 sh_141 (by decide) rfl rfl dX12_laysPast_205 ?_
    refine g_iconst dX12_laysPast_208 (v := 2) (by decide) ?_
    refine g_iaload sh_146 dX12_laysPast_209 (fun x19 => ?_)
    refine g_icmp_ge (tgt := 238) dX12_laysPast_210 (by decide) (fun _ => ?_) (fun _ => ?_)
    · refine g_lv [] rfl ?_
      exact hk μ
    · refine g_aload_n dX12_laysPast_213 0 rfl ?_
      refine g_getR (b := 146) fl_X12_35 sh_141 (by decide) rfl rfl dX12_laysPast_214 ?_
      refine g_bipush dX12_laysPast_217 (v := 13) (by decide) ?_
      refine g_iload_n dX12_laysPast_219 1 rfl ?_
      refine g_iadd dX12_laysPast_220 ?_
      refine g_iload dX12_laysPast_221 2 rfl ?_
      refine g_iadd dX12_laysPast_223 ?_
      refine g_aload_n dX12_laysPast_224 0 rfl ?_
      refine g_getR (b := 154) fl_X12_59 sh_141 (by decide) rfl rfl dX12_laysPast_225 ?_
      refine g_iload dX12_laysPast_228 2 rfl ?_
      refine g_iaload sh_154 dX12_laysPast_230 (fun x20 => ?_)
      refine g_iastore sh_146 dX12_laysPast_231 (fun μ21 => ?_)
      refine g_iinc dX12_laysPast_232 2 rfl (v := (v5 + 1)) rfl (by decide) (lv' := [(5, .int (v5 + 1)), (0, .ref (gb g + 141)), (3, .int v3)]) rfl ?_
      refine g_goto (tgt := 202) dX12_laysPast_235 (by decide) ?_
      refine g_lv [1, 2, 0] rfl ?_
      exact ih (v5 + 1) μ21
set_option maxHeartbeats 4000000 in
set_option maxRecDepth 100000 in
theorem ok_X12_laysPast (g : GG) (F : Nat) (v1 : Int32) (v2 : Int32)  (μ : Mm) : Ct g yX12_laysPast cX12_laysPast 8 none 8 cvV [.ref (gb g + 141), .int v1, .int v2] μ (f_X12_laysPast F v1 v2 μ) := by
  refine ct_V (by decide +kernel) (Nat.le_of_ble_eq_true rfl) (show Go g RX12 cX12_laysPast 8 .return_ 8 cvV 0 [(0, .ref (gb g + 141)), (1, .int v1), (2, .int v2)] [] μ (f_X12_laysPast F v1 v2 μ) from ?_)
  unfold f_X12_laysPast
  refine g_aload_n dX12_laysPast_0 0 rfl ?_
  refine g_getR (b := 146) fl_X12_35 sh_141 (by decide) rfl rfl dX12_laysPast_1 ?_
  refine g_iconst dX12_laysPast_4 (v := 2) (by decide) ?_
  refine g_iaload sh_146 dX12_laysPast_5 (fun x1 => ?_)
  refine g_iload_n dX12_laysPast_6 1 rfl ?_
  refine g_imul dX12_laysPast_7 ?_
  refine g_istore_n dX12_laysPast_8 rfl (by decide) (lv' := [(3, .int (x1 * v1)), (0, .ref (gb g + 141)), (1, .int v1), (2, .int v2)]) rfl ?_
  refine g_iconst dX12_laysPast_9 (v := 1) (by decide) ?_
  refine g_istore dX12_laysPast_10 (by decide) (lv' := [(4, .int 1), (3, .int (x1 * v1)), (0, .ref (gb g + 141)), (1, .int v1), (2, .int v2)]) rfl ?_
  refine g_aload_n dX12_laysPast_12 2 rfl ?_
  refine g_iconst dX12_laysPast_13 (v := 0) (by decide) ?_
  refine g_putI fl_X12_423 sh_141 (by decide) rfl dX12_laysPast_14 ?_
  refine g_aload_n dX12_laysPast_17 2 rfl ?_
  refine g_iconst dX12_laysPast_18 (v := 0) (by decide) ?_
  refine g_putI fl_X12_426 sh_141 (by decide) rfl dX12_laysPast_19 ?_
  refine g_aload_n dX12_laysPast_22 2 rfl ?_
  refine g_iconst dX12_laysPast_23 (v := (-1)) (by decide) ?_
  refine g_putI fl_X12_429 sh_141 (by decide) rfl dX12_laysPast_24 ?_
  refine g_iconst dX12_laysPast_27 (v := 0) (by decide) ?_
  refine g_istore dX12_laysPast_28 (by decide) (lv' := [(5, .int 0), (4, .int 1), (3, .int (x1 * v1)), (0, .ref (gb g + 141)), (1, .int v1), (2, .int v2)]) rfl ?_
  refine g_lv [3, 5, 2, 1, 0] rfl ?_
  refine okL_X12_laysPast_30 g F v2 (x1 * v1) _ (fun u5 μ6 => ?_) F 1 0 (sI (sI (sI μ 141 34 0) 141 35 0) 141 36 (-1))
  refine g_iconst dX12_laysPast_73 (v := 0) (by decide) ?_
  refine g_istore dX12_laysPast_74 (by decide) (lv' := [(5, .int 0), (0, .ref (gb g + 141)), (2, .int v2), (3, .int (x1 * v1)), (4, .int u5)]) rfl ?_
  refine g_lv [1, 2, 3, 4, 0] rfl ?_
  refine okL_X12_laysPast_76 g F v2 (x1 * v1) u5 _ (fun μ18 => ?_) F 0 μ6
  refine g_iconst dX12_laysPast_199 (v := 0) (by decide) ?_
  refine g_istore dX12_laysPast_200 (by decide) (lv' := [(5, .int 0), (0, .ref (gb g + 141)), (3, .int (x1 * v1))]) rfl ?_
  refine g_lv [1, 2, 0] rfl ?_
  refine okL_X12_laysPast_202 g F (x1 * v1) _ (fun μ22 => ?_) F 0 μ18
  exact g_ret dX12_laysPast_238 rfl rfl
set_option maxHeartbeats 4000000 in
set_option maxRecDepth 100000 in
theorem ok_X12_past (g : GG) (F : Nat) (v1 : Int32)  (μ : Mm) : Ct g yX12_past cX12_past 2 (some (.int)) 9 cvI [.ref (gb g + 141), .int v1] μ (f_X12_past F v1 μ) := by
  refine ct_I (by decide +kernel) (Nat.le_of_ble_eq_true rfl) (show Go g RX12 cX12_past 2 .ireturn 9 cvI 0 [(0, .ref (gb g + 141)), (1, .int v1)] [] μ (f_X12_past F v1 μ) from ?_)
  unfold f_X12_past
  refine g_aload_n dX12_past_0 0 rfl ?_
  refine g_iconst dX12_past_1 (v := 0) (by decide) ?_
  refine g_putI fl_X12_72 sh_141 (by decide) rfl dX12_past_2 ?_
  refine g_aload_n dX12_past_5 0 rfl ?_
  refine g_iconst dX12_past_6 (v := 0) (by decide) ?_
  refine g_putI fl_X12_75 sh_141 (by decide) rfl dX12_past_7 ?_
  refine g_aload_n dX12_past_10 0 rfl ?_
  refine g_iload_n dX12_past_11 1 rfl ?_
  refine g_vZp [.int v1] [] mw_X12_333 (ok_X12_isAccountAt g v1 (sI (sI μ 141 1 0) 141 0 0)) (by omega) sh_141 (by decide) rfl rfl (Nat.le_of_ble_eq_true rfl) dX12_past_12 (fun x1 _ => ?_)
  refine g_ifneB (tgt := 24) dX12_past_15 (by decide) (fun _ => ?_) (fun _ => ?_)
  · refine g_aload_n dX12_past_24 0 rfl ?_
    refine g_iload_n dX12_past_25 1 rfl ?_
    refine g_iconst dX12_past_26 (v := 0) (by decide) ?_
    refine g_vV [.int v1, .int 0] [] mw_X12_435 (ok_X12_laysPast g F v1 0 (sI (sI μ 141 1 0) 141 0 0)) (by omega) sh_141 (by decide) rfl rfl (Nat.le_of_ble_eq_true rfl) dX12_past_27 (fun μ3 _ => ?_)
    refine g_aload_n dX12_past_30 0 rfl ?_
    refine g_getI fl_X12_423 sh_141 (by decide) rfl dX12_past_31 ?_
    exact g_ret dX12_past_34 rfl rfl
  · refine g_aload_n dX12_past_18 0 rfl ?_
    refine g_iconst dX12_past_19 (v := 2) (by decide) ?_
    refine g_vI [.int 2] [] mw_X12_318 (ok_X12_refuse g 2 (sI (sI μ 141 1 0) 141 0 0)) (by omega) sh_141 (by decide) rfl rfl (Nat.le_of_ble_eq_true rfl) dX12_past_20 (fun x4 μ5 _ => ?_)
    exact g_ret dX12_past_23 rfl rfl
set_option maxHeartbeats 4000000 in
set_option maxRecDepth 100000 in
theorem ok_X12_likely (g : GG) (F : Nat) (v1 : Int32) (v2 : Int32)  (μ : Mm) : Ct g yX12_likely cX12_likely 3 (some (.int)) 9 cvI [.ref (gb g + 141), .int v1, .int v2] μ (f_X12_likely F v1 v2 μ) := by
  refine ct_I (by decide +kernel) (Nat.le_of_ble_eq_true rfl) (show Go g RX12 cX12_likely 3 .ireturn 9 cvI 0 [(0, .ref (gb g + 141)), (1, .int v1), (2, .int v2)] [] μ (f_X12_likely F v1 v2 μ) from ?_)
  unfold f_X12_likely
  refine g_aload_n dX12_likely_0 0 rfl ?_
  refine g_iconst dX12_likely_1 (v := 0) (by decide) ?_
  refine g_putI fl_X12_72 sh_141 (by decide) rfl dX12_likely_2 ?_
  refine g_aload_n dX12_likely_5 0 rfl ?_
  refine g_iconst dX12_likely_6 (v := 0) (by decide) ?_
  refine g_putI fl_X12_75 sh_141 (by decide) rfl dX12_likely_7 ?_
  refine g_aload_n dX12_likely_10 0 rfl ?_
  refine g_iload_n dX12_likely_11 1 rfl ?_
  refine g_vZp [.int v1] [] mw_X12_333 (ok_X12_isAccountAt g v1 (sI (sI μ 141 1 0) 141 0 0)) (by omega) sh_141 (by decide) rfl rfl (Nat.le_of_ble_eq_true rfl) dX12_likely_12 (fun x1 _ => ?_)
  refine g_ifneB (tgt := 24) dX12_likely_15 (by decide) (fun _ => ?_) (fun _ => ?_)
  · refine g_iload_n dX12_likely_24 2 rfl ?_
    refine g_if_ge (tgt := 34) dX12_likely_25 (by decide) (fun _ => ?_) (fun _ => ?_)
    · refine g_aload_n dX12_likely_34 0 rfl ?_
      refine g_iload_n dX12_likely_35 1 rfl ?_
      refine g_iload_n dX12_likely_36 2 rfl ?_
      refine g_vV [.int v1, .int v2] [] mw_X12_435 (ok_X12_laysPast g F v1 v2 (sI (sI μ 141 1 0) 141 0 0)) (by omega) sh_141 (by decide) rfl rfl (Nat.le_of_ble_eq_true rfl) dX12_likely_37 (fun μ3 _ => ?_)
      refine g_aload_n dX12_likely_40 0 rfl ?_
      refine g_getI fl_X12_426 sh_141 (by decide) rfl dX12_likely_41 ?_
      exact g_ret dX12_likely_44 rfl rfl
    · refine g_aload_n dX12_likely_28 0 rfl ?_
      refine g_iconst dX12_likely_29 (v := 5) (by decide) ?_
      refine g_vI [.int 5] [] mw_X12_318 (ok_X12_refuse g 5 (sI (sI μ 141 1 0) 141 0 0)) (by omega) sh_141 (by decide) rfl rfl (Nat.le_of_ble_eq_true rfl) dX12_likely_30 (fun x4 μ5 _ => ?_)
      exact g_ret dX12_likely_33 rfl rfl
  · refine g_aload_n dX12_likely_18 0 rfl ?_
    refine g_iconst dX12_likely_19 (v := 2) (by decide) ?_
    refine g_vI [.int 2] [] mw_X12_318 (ok_X12_refuse g 2 (sI (sI μ 141 1 0) 141 0 0)) (by omega) sh_141 (by decide) rfl rfl (Nat.le_of_ble_eq_true rfl) dX12_likely_20 (fun x6 μ7 _ => ?_)
    exact g_ret dX12_likely_23 rfl rfl
set_option maxHeartbeats 4000000 in
set_option maxRecDepth 100000 in
theorem ok_X12_leastPast (g : GG) (F : Nat) (v1 : Int32)  (μ : Mm) : Ct g yX12_leastPast cX12_leastPast 2 (some (.int)) 9 cvI [.ref (gb g + 141), .int v1] μ (f_X12_leastPast F v1 μ) := by
  refine ct_I (by decide +kernel) (Nat.le_of_ble_eq_true rfl) (show Go g RX12 cX12_leastPast 2 .ireturn 9 cvI 0 [(0, .ref (gb g + 141)), (1, .int v1)] [] μ (f_X12_leastPast F v1 μ) from ?_)
  unfold f_X12_leastPast
  refine g_aload_n dX12_leastPast_0 0 rfl ?_
  refine g_iconst dX12_leastPast_1 (v := 0) (by decide) ?_
  refine g_putI fl_X12_72 sh_141 (by decide) rfl dX12_leastPast_2 ?_
  refine g_aload_n dX12_leastPast_5 0 rfl ?_
  refine g_iconst dX12_leastPast_6 (v := 0) (by decide) ?_
  refine g_putI fl_X12_75 sh_141 (by decide) rfl dX12_leastPast_7 ?_
  refine g_aload_n dX12_leastPast_10 0 rfl ?_
  refine g_iload_n dX12_leastPast_11 1 rfl ?_
  refine g_vZp [.int v1] [] mw_X12_333 (ok_X12_isAccountAt g v1 (sI (sI μ 141 1 0) 141 0 0)) (by omega) sh_141 (by decide) rfl rfl (Nat.le_of_ble_eq_true rfl) dX12_leastPast_12 (fun x1 _ => ?_)
  refine g_ifneB (tgt := 24) dX12_leastPast_15 (by decide) (fun _ => ?_) (fun _ => ?_)
  · refine g_aload_n dX12_leastPast_24 0 rfl ?_
    refine g_iload_n dX12_leastPast_25 1 rfl ?_
    refine g_iconst dX12_leastPast_26 (v := 0) (by decide) ?_
    refine g_vV [.int v1, .int 0] [] mw_X12_435 (ok_X12_laysPast g F v1 0 (sI (sI μ 141 1 0) 141 0 0)) (by omega) sh_141 (by decide) rfl rfl (Nat.le_of_ble_eq_true rfl) dX12_leastPast_27 (fun μ3 _ => ?_)
    refine g_aload_n dX12_leastPast_30 0 rfl ?_
    refine g_getI fl_X12_429 sh_141 (by decide) rfl dX12_leastPast_31 ?_
    refine g_if_ge (tgt := 46) dX12_leastPast_34 (by decide) (fun _ => ?_) (fun _ => ?_)
    · refine g_aload_n dX12_leastPast_46 0 rfl ?_
      refine g_getI fl_X12_429 sh_141 (by decide) rfl dX12_leastPast_47 ?_
      exact g_ret dX12_leastPast_50 rfl rfl
    · refine g_aload_n dX12_leastPast_37 0 rfl ?_
      refine g_bipush dX12_leastPast_38 (v := 8) (by decide) ?_
      refine g_vI [.int 8] [] mw_X12_318 (ok_X12_refuse g 8 μ3) (by omega) sh_141 (by decide) rfl rfl (Nat.le_of_ble_eq_true rfl) dX12_leastPast_40 (fun x5 μ6 _ => ?_)
      refine g_goto (tgt := 50) dX12_leastPast_43 (by decide) ?_
      exact g_ret dX12_leastPast_50 rfl rfl
  · refine g_aload_n dX12_leastPast_18 0 rfl ?_
    refine g_iconst dX12_leastPast_19 (v := 2) (by decide) ?_
    refine g_vI [.int 2] [] mw_X12_318 (ok_X12_refuse g 2 (sI (sI μ 141 1 0) 141 0 0)) (by omega) sh_141 (by decide) rfl rfl (Nat.le_of_ble_eq_true rfl) dX12_leastPast_20 (fun x7 μ8 _ => ?_)
    exact g_ret dX12_leastPast_23 rfl rfl
