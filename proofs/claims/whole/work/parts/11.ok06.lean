set_option maxHeartbeats 4000000 in
set_option maxRecDepth 100000 in
theorem ok_X12_read (g : GG) (v1 : Int32) (v2 : Int32)  (μ : Mm) : Ct g yX12_read cX12_read 3 (some (.long)) 3 cvJ [.ref (gb g + 141), .int v1, .int v2] μ (f_X12_read v1 v2 μ) := by
  refine ct_J (by decide +kernel) (Nat.le_of_ble_eq_true rfl) (show Go g RX12 cX12_read 3 .lreturn 3 cvJ 0 [(0, .ref (gb g + 141)), (1, .int v1), (2, .int v2)] [] μ (f_X12_read v1 v2 μ) from ?_)
  unfold f_X12_read
  refine g_aload_n dX12_read_0 0 rfl ?_
  refine g_iconst dX12_read_1 (v := 0) (by decide) ?_
  refine g_putI fl_X12_72 sh_141 (by decide) rfl dX12_read_2 ?_
  refine g_aload_n dX12_read_5 0 rfl ?_
  refine g_aload_n dX12_read_6 0 rfl ?_
  refine g_iload_n dX12_read_7 1 rfl ?_
  refine g_iload_n dX12_read_8 2 rfl ?_
  refine g_vIp [.int v1, .int v2] [.ref (gb g + 141)] mw_X12_95 (ok_X12_placed g v1 v2 (sI μ 141 1 0)) (by omega) sh_141 (by decide) rfl rfl (Nat.le_of_ble_eq_true rfl) dX12_read_9 (fun x1 _ => ?_)
  refine g_putI fl_X12_75 sh_141 (by decide) rfl dX12_read_12 ?_
  refine g_aload_n dX12_read_15 0 rfl ?_
  refine g_getI fl_X12_75 sh_141 (by decide) rfl dX12_read_16 ?_
  refine g_if_le (tgt := 28) dX12_read_19 (by decide) (fun _ => ?_) (fun _ => ?_)
  · refine g_aload_n dX12_read_28 0 rfl ?_
    refine g_getR (b := 144) fl_X12_20 sh_141 (by decide) rfl rfl dX12_read_29 ?_
    refine g_bipush dX12_read_32 (v := 60) (by decide) ?_
    refine g_iload_n dX12_read_34 1 rfl ?_
    refine g_imul dX12_read_35 ?_
    refine g_iload_n dX12_read_36 2 rfl ?_
    refine g_iadd dX12_read_37 ?_
    refine g_laload sh_144 dX12_read_38 (fun x3 => ?_)
    exact g_ret dX12_read_39 rfl rfl
  · refine g_ldc2 kl_X12_103 dX12_read_22 ?_
    refine g_goto (tgt := 39) dX12_read_25 (by decide) ?_
    exact g_ret dX12_read_39 rfl rfl
set_option maxHeartbeats 4000000 in
set_option maxRecDepth 100000 in
theorem okL_X12_pour_158 (g : GG) (F : Nat) (v1 : Int32) (v2 : Int32) (v3 : Int32) (v4 : Int32) (v5 : Int32) (v6 : Int32) (k : Mm → Option (Bool × Mm))  (hk : ∀ (μ : Mm), Go g RX12 cX12_pour 9 .ireturn 2 cvZ 219 [] [] μ (k μ)) : ∀ (n : Nat) (v7 : Int32) (μ : Mm), Go g RX12 cX12_pour 9 .ireturn 2 cvZ 158 [(0, .ref (gb g + 141)), (1, .int v1), (2, .int v2), (3, .int v3), (4, .int v4), (5, .int v5), (6, .int v6), (7, .int v7)] [] μ (L_X12_pour_158 F v1 v2 v3 v4 v5 v6 k n v7 μ) := by
  intro n
  induction n with
  | zero =>
    intro v7 μ
    exact g_none
  | succ n ih =>
    intro v7 μ
    rw [L_X12_pour_158_s]
    refine g_iload dX12_pour_158 7 rfl ?_
    refine g_iload dX12_pour_160 5 rfl ?_
    refine g_icmp_ge (tgt := 219) dX12_pour_162 (by decide) (fun _ => ?_) (fun _ => ?_)
    · refine g_lv [] rfl ?_
      exact hk μ
    · refine g_iload dX12_pour_165 6 rfl ?_
      have hJ27 : ∀ (w24 : Int32), w24 = (if v6 = 0 then v7 else ((v5 - (1 : Int32)) - v7)) → Go g RX12 cX12_pour 9 .ireturn 2 cvZ 182 [(0, .ref (gb g + 141)), (1, .int v1), (2, .int v2), (3, .int v3), (4, .int v4), (5, .int v5), (6, .int v6), (7, .int v7)] [.int w24] μ ((rdL μ 144 240 ((((60 : Int32) * v1) + v2) + (if v6 = 0 then v7 else ((v5 - (1 : Int32)) - v7)))).bind fun x25 => (wrL μ 144 240 ((((60 : Int32) * v3) + v4) + (if v6 = 0 then v7 else ((v5 - (1 : Int32)) - v7))) x25).bind fun μ26 => L_X12_pour_158 F v1 v2 v3 v4 v5 v6 k n (v7 + 1) μ26) := by
        intro w24 ew24
        subst ew24
        refine g_istore dX12_pour_182 (by decide) (lv' := [(8, .int (if v6 = 0 then v7 else ((v5 - (1 : Int32)) - v7))), (0, .ref (gb g + 141)), (1, .int v1), (2, .int v2), (3, .int v3), (4, .int v4), (5, .int v5), (6, .int v6), (7, .int v7)]) rfl ?_
        refine g_aload_n dX12_pour_184 1 rfl ?_
        refine g_getR (b := 144) fl_X12_20 sh_141 (by decide) rfl rfl dX12_pour_185 ?_
        refine g_bipush dX12_pour_188 (v := 60) (by decide) ?_
        refine g_iload_n dX12_pour_190 4 rfl ?_
        refine g_imul dX12_pour_191 ?_
        refine g_iload dX12_pour_192 5 rfl ?_
        refine g_iadd dX12_pour_194 ?_
        refine g_iload dX12_pour_195 0 rfl ?_
        refine g_iadd dX12_pour_197 ?_
        refine g_aload_n dX12_pour_198 1 rfl ?_
        refine g_getR (b := 144) fl_X12_20 sh_141 (by decide) rfl rfl dX12_pour_199 ?_
        refine g_bipush dX12_pour_202 (v := 60) (by decide) ?_
        refine g_iload_n dX12_pour_204 2 rfl ?_
        refine g_imul dX12_pour_205 ?_
        refine g_iload_n dX12_pour_206 3 rfl ?_
        refine g_iadd dX12_pour_207 ?_
        refine g_iload dX12_pour_208 0 rfl ?_
        refine g_iadd dX12_pour_210 ?_
        refine g_laload sh_144 dX12_pour_211 (fun x25 => ?_)
        refine g_lastore sh_144 dX12_pour_212 (fun μ26 => ?_)
        refine g_iinc dX12_pour_213 8 rfl (v := (v7 + 1)) rfl (by decide) (lv' := [(7, .int (v7 + 1)), (8, .int (if v6 = 0 then v7 else ((v5 - (1 : Int32)) - v7))), (0, .ref (gb g + 141)), (1, .int v1), (2, .int v2), (3, .int v3), (4, .int v4), (5, .int v5), (6, .int v6)]) rfl ?_
        refine g_goto (tgt := 158) dX12_pour_216 (by decide) ?_
        refine g_lv [2, 3, 4, 5, 6, 7, 8, 0] rfl ?_
        exact ih (v7 + 1) μ26
      refine g_same (g_if_eq (tgt := 180) dX12_pour_167 (by decide) (fun c23 => ?_) (fun c23 => ?_))
      · refine g_iload dX12_pour_180 7 rfl ?_
        refine g_lv [0, 1, 2, 3, 4, 5, 6, 7] rfl ?_
        exact hJ27 _ (by rw [if_pos c23])
      · refine g_iload dX12_pour_170 5 rfl ?_
        refine g_iconst dX12_pour_172 (v := 1) (by decide) ?_
        refine g_isub dX12_pour_173 ?_
        refine g_iload dX12_pour_174 7 rfl ?_
        refine g_isub dX12_pour_176 ?_
        refine g_goto (tgt := 182) dX12_pour_177 (by decide) ?_
        refine g_lv [0, 1, 2, 3, 4, 5, 6, 7] rfl ?_
        exact hJ27 _ (by rw [if_neg c23])
set_option maxHeartbeats 4000000 in
set_option maxRecDepth 100000 in
theorem ok_X12_pour (g : GG) (F : Nat) (v1 : Int32) (v2 : Int32) (v3 : Int32) (v4 : Int32) (v5 : Int32)  (μ : Mm) : Ct g yX12_pour cX12_pour 9 (some (.boolean)) 2 cvZ [.ref (gb g + 141), .int v1, .int v2, .int v3, .int v4, .int v5] μ (f_X12_pour F v1 v2 v3 v4 v5 μ) := by
  refine ct_Z (by decide +kernel) (Nat.le_of_ble_eq_true rfl) (show Go g RX12 cX12_pour 9 .ireturn 2 cvZ 0 [(0, .ref (gb g + 141)), (1, .int v1), (2, .int v2), (3, .int v3), (4, .int v4), (5, .int v5)] [] μ (f_X12_pour F v1 v2 v3 v4 v5 μ) from ?_)
  unfold f_X12_pour
  refine g_aload_n dX12_pour_0 0 rfl ?_
  refine g_iconst dX12_pour_1 (v := 0) (by decide) ?_
  refine g_putI fl_X12_72 sh_141 (by decide) rfl dX12_pour_2 ?_
  refine g_aload_n dX12_pour_5 0 rfl ?_
  refine g_iconst dX12_pour_6 (v := 0) (by decide) ?_
  refine g_putI fl_X12_75 sh_141 (by decide) rfl dX12_pour_7 ?_
  refine g_iload_n dX12_pour_10 1 rfl ?_
  refine g_if_lt (tgt := 28) dX12_pour_11 (by decide) (fun _ => ?_) (fun _ => ?_)
  · refine g_aload_n dX12_pour_28 0 rfl ?_
    refine g_iconst dX12_pour_29 (v := 1) (by decide) ?_
    refine g_vZ [.int 1] [] mw_X12_87 (ok_X12_no g 1 (sI (sI μ 141 1 0) 141 0 0)) (by omega) sh_141 (by decide) rfl rfl (Nat.le_of_ble_eq_true rfl) dX12_pour_30 (fun x1 μ2 _ => ?_)
    exact g_ret dX12_pour_33 rfl rfl
  · refine g_iload_n dX12_pour_14 1 rfl ?_
    refine g_iconst dX12_pour_15 (v := 4) (by decide) ?_
    refine g_icmp_ge (tgt := 28) dX12_pour_16 (by decide) (fun _ => ?_) (fun _ => ?_)
    · refine g_aload_n dX12_pour_28 0 rfl ?_
      refine g_iconst dX12_pour_29 (v := 1) (by decide) ?_
      refine g_vZ [.int 1] [] mw_X12_87 (ok_X12_no g 1 (sI (sI μ 141 1 0) 141 0 0)) (by omega) sh_141 (by decide) rfl rfl (Nat.le_of_ble_eq_true rfl) dX12_pour_30 (fun x3 μ4 _ => ?_)
      exact g_ret dX12_pour_33 rfl rfl
    · refine g_iload_n dX12_pour_19 3 rfl ?_
      refine g_if_lt (tgt := 28) dX12_pour_20 (by decide) (fun _ => ?_) (fun _ => ?_)
      · refine g_aload_n dX12_pour_28 0 rfl ?_
        refine g_iconst dX12_pour_29 (v := 1) (by decide) ?_
        refine g_vZ [.int 1] [] mw_X12_87 (ok_X12_no g 1 (sI (sI μ 141 1 0) 141 0 0)) (by omega) sh_141 (by decide) rfl rfl (Nat.le_of_ble_eq_true rfl) dX12_pour_30 (fun x5 μ6 _ => ?_)
        exact g_ret dX12_pour_33 rfl rfl
      · refine g_iload_n dX12_pour_23 3 rfl ?_
        refine g_iconst dX12_pour_24 (v := 4) (by decide) ?_
        refine g_icmp_lt (tgt := 34) dX12_pour_25 (by decide) (fun _ => ?_) (fun _ => ?_)
        · refine g_aload_n dX12_pour_34 0 rfl ?_
          refine g_getR (b := 143) fl_X12_17 sh_141 (by decide) rfl rfl dX12_pour_35 ?_
          refine g_iload_n dX12_pour_38 1 rfl ?_
          refine g_iaload sh_143 dX12_pour_39 (fun x7 => ?_)
          refine g_if_lt (tgt := 52) dX12_pour_40 (by decide) (fun _ => ?_) (fun _ => ?_)
          · refine g_aload_n dX12_pour_52 0 rfl ?_
            refine g_iconst dX12_pour_53 (v := 3) (by decide) ?_
            refine g_vZ [.int 3] [] mw_X12_87 (ok_X12_no g 3 (sI (sI μ 141 1 0) 141 0 0)) (by omega) sh_141 (by decide) rfl rfl (Nat.le_of_ble_eq_true rfl) dX12_pour_54 (fun x8 μ9 _ => ?_)
            exact g_ret dX12_pour_57 rfl rfl
          · refine g_aload_n dX12_pour_43 0 rfl ?_
            refine g_getR (b := 143) fl_X12_17 sh_141 (by decide) rfl rfl dX12_pour_44 ?_
            refine g_iload_n dX12_pour_47 3 rfl ?_
            refine g_iaload sh_143 dX12_pour_48 (fun x10 => ?_)
            refine g_if_ge (tgt := 58) dX12_pour_49 (by decide) (fun _ => ?_) (fun _ => ?_)
            · refine g_aload_n dX12_pour_58 0 rfl ?_
              refine g_getR (b := 142) fl_X12_13 sh_141 (by decide) rfl rfl dX12_pour_59 ?_
              refine g_iload_n dX12_pour_62 1 rfl ?_
              refine g_iaload sh_142 dX12_pour_63 (fun x11 => ?_)
              refine g_aload_n dX12_pour_64 0 rfl ?_
              refine g_getR (b := 142) fl_X12_13 sh_141 (by decide) rfl rfl dX12_pour_65 ?_
              refine g_iload_n dX12_pour_68 3 rfl ?_
              refine g_iaload sh_142 dX12_pour_69 (fun x12 => ?_)
              refine g_icmp_eq (tgt := 80) dX12_pour_70 (by decide) (fun _ => ?_) (fun _ => ?_)
              · refine g_iload dX12_pour_80 5 rfl ?_
                refine g_if_ge (tgt := 92) dX12_pour_82 (by decide) (fun _ => ?_) (fun _ => ?_)
                · refine g_iload_n dX12_pour_92 2 rfl ?_
                  refine g_if_lt (tgt := 136) dX12_pour_93 (by decide) (fun _ => ?_) (fun _ => ?_)
                  · refine g_aload_n dX12_pour_136 0 rfl ?_
                    refine g_iconst dX12_pour_137 (v := 4) (by decide) ?_
                    refine g_vZ [.int 4] [] mw_X12_87 (ok_X12_no g 4 (sI (sI μ 141 1 0) 141 0 0)) (by omega) sh_141 (by decide) rfl rfl (Nat.le_of_ble_eq_true rfl) dX12_pour_138 (fun x13 μ14 _ => ?_)
                    exact g_ret dX12_pour_141 rfl rfl
                  · refine g_iload dX12_pour_96 4 rfl ?_
                    refine g_if_lt (tgt := 136) dX12_pour_98 (by decide) (fun _ => ?_) (fun _ => ?_)
                    · refine g_aload_n dX12_pour_136 0 rfl ?_
                      refine g_iconst dX12_pour_137 (v := 4) (by decide) ?_
                      refine g_vZ [.int 4] [] mw_X12_87 (ok_X12_no g 4 (sI (sI μ 141 1 0) 141 0 0)) (by omega) sh_141 (by decide) rfl rfl (Nat.le_of_ble_eq_true rfl) dX12_pour_138 (fun x15 μ16 _ => ?_)
                      exact g_ret dX12_pour_141 rfl rfl
                    · refine g_iload_n dX12_pour_101 2 rfl ?_
                      refine g_i2l dX12_pour_102 ?_
                      refine g_iload dX12_pour_103 5 rfl ?_
                      refine g_i2l dX12_pour_105 ?_
                      refine g_ladd dX12_pour_106 ?_
                      refine g_aload_n dX12_pour_107 0 rfl ?_
                      refine g_getR (b := 143) fl_X12_17 sh_141 (by decide) rfl rfl dX12_pour_108 ?_
                      refine g_iload_n dX12_pour_111 1 rfl ?_
                      refine g_iaload sh_143 dX12_pour_112 (fun x17 => ?_)
                      refine g_i2l dX12_pour_113 ?_
                      refine g_lcmp dX12_pour_114 ?_
                      refine g_if_gt (tgt := 136) dX12_pour_115 (by decide) (fun _ => ?_) (fun _ => ?_)
                      · refine g_aload_n dX12_pour_136 0 rfl ?_
                        refine g_iconst dX12_pour_137 (v := 4) (by decide) ?_
                        refine g_vZ [.int 4] [] mw_X12_87 (ok_X12_no g 4 (sI (sI μ 141 1 0) 141 0 0)) (by omega) sh_141 (by decide) rfl rfl (Nat.le_of_ble_eq_true rfl) dX12_pour_138 (fun x18 μ19 _ => ?_)
                        exact g_ret dX12_pour_141 rfl rfl
                      · refine g_iload dX12_pour_118 4 rfl ?_
                        refine g_i2l dX12_pour_120 ?_
                        refine g_iload dX12_pour_121 5 rfl ?_
                        refine g_i2l dX12_pour_123 ?_
                        refine g_ladd dX12_pour_124 ?_
                        refine g_aload_n dX12_pour_125 0 rfl ?_
                        refine g_getR (b := 143) fl_X12_17 sh_141 (by decide) rfl rfl dX12_pour_126 ?_
                        refine g_iload_n dX12_pour_129 3 rfl ?_
                        refine g_iaload sh_143 dX12_pour_130 (fun x20 => ?_)
                        refine g_i2l dX12_pour_131 ?_
                        refine g_lcmp dX12_pour_132 ?_
                        refine g_if_le (tgt := 142) dX12_pour_133 (by decide) (fun _ => ?_) (fun _ => ?_)
                        · refine g_iload_n dX12_pour_142 2 rfl ?_
                          refine g_iload dX12_pour_143 4 rfl ?_
                          have hJ29 : ∀ (w22 : Int32), w22 = (if v4 ≤ v2 then (0 : Int32) else 1) → Go g RX12 cX12_pour 9 .ireturn 2 cvZ 153 [(0, .ref (gb g + 141)), (1, .int v1), (2, .int v2), (3, .int v3), (4, .int v4), (5, .int v5)] [.int w22] (sI (sI μ 141 1 0) 141 0 0) (L_X12_pour_158 F v1 v2 v3 v4 v5 (if v4 ≤ v2 then (0 : Int32) else 1) (fun μ28 => some (true, μ28)) F 0 (sI (sI μ 141 1 0) 141 0 0)) := by
                            intro w22 ew22
                            subst ew22
                            refine g_istore dX12_pour_153 (by decide) (lv' := [(6, .int (if v4 ≤ v2 then (0 : Int32) else 1)), (0, .ref (gb g + 141)), (1, .int v1), (2, .int v2), (3, .int v3), (4, .int v4), (5, .int v5)]) rfl ?_
                            refine g_iconst dX12_pour_155 (v := 0) (by decide) ?_
                            refine g_istore dX12_pour_156 (by decide) (lv' := [(7, .int 0), (6, .int (if v4 ≤ v2 then (0 : Int32) else 1)), (0, .ref (gb g + 141)), (1, .int v1), (2, .int v2), (3, .int v3), (4, .int v4), (5, .int v5)]) rfl ?_
                            refine g_lv [2, 3, 4, 5, 6, 7, 1, 0] rfl ?_
                            refine okL_X12_pour_158 g F v1 v2 v3 v4 v5 (if v4 ≤ v2 then (0 : Int32) else 1) _ (fun μ28 => ?_) F 0 (sI (sI μ 141 1 0) 141 0 0)
                            refine g_iconst dX12_pour_219 (v := 1) (by decide) ?_
                            exact g_ret dX12_pour_220 rfl rfl
                          refine g_same (g_icmp_ge (tgt := 152) dX12_pour_145 (by decide) (fun c21 => ?_) (fun c21 => ?_))
                          · refine g_iconst dX12_pour_152 (v := 0) (by decide) ?_
                            refine g_lv [0, 1, 2, 3, 4, 5] rfl ?_
                            exact hJ29 _ (by rw [if_pos c21])
                          · refine g_iconst dX12_pour_148 (v := 1) (by decide) ?_
                            refine g_goto (tgt := 153) dX12_pour_149 (by decide) ?_
                            refine g_lv [0, 1, 2, 3, 4, 5] rfl ?_
                            exact hJ29 _ (by rw [if_neg c21])
                        · refine g_aload_n dX12_pour_136 0 rfl ?_
                          refine g_iconst dX12_pour_137 (v := 4) (by decide) ?_
                          refine g_vZ [.int 4] [] mw_X12_87 (ok_X12_no g 4 (sI (sI μ 141 1 0) 141 0 0)) (by omega) sh_141 (by decide) rfl rfl (Nat.le_of_ble_eq_true rfl) dX12_pour_138 (fun x30 μ31 _ => ?_)
                          exact g_ret dX12_pour_141 rfl rfl
                · refine g_aload_n dX12_pour_85 0 rfl ?_
                  refine g_bipush dX12_pour_86 (v := 6) (by decide) ?_
                  refine g_vZ [.int 6] [] mw_X12_87 (ok_X12_no g 6 (sI (sI μ 141 1 0) 141 0 0)) (by omega) sh_141 (by decide) rfl rfl (Nat.le_of_ble_eq_true rfl) dX12_pour_88 (fun x32 μ33 _ => ?_)
                  exact g_ret dX12_pour_91 rfl rfl
              · refine g_aload_n dX12_pour_73 0 rfl ?_
                refine g_bipush dX12_pour_74 (v := 11) (by decide) ?_
                refine g_vZ [.int 11] [] mw_X12_87 (ok_X12_no g 11 (sI (sI μ 141 1 0) 141 0 0)) (by omega) sh_141 (by decide) rfl rfl (Nat.le_of_ble_eq_true rfl) dX12_pour_76 (fun x34 μ35 _ => ?_)
                exact g_ret dX12_pour_79 rfl rfl
            · refine g_aload_n dX12_pour_52 0 rfl ?_
              refine g_iconst dX12_pour_53 (v := 3) (by decide) ?_
              refine g_vZ [.int 3] [] mw_X12_87 (ok_X12_no g 3 (sI (sI μ 141 1 0) 141 0 0)) (by omega) sh_141 (by decide) rfl rfl (Nat.le_of_ble_eq_true rfl) dX12_pour_54 (fun x36 μ37 _ => ?_)
              exact g_ret dX12_pour_57 rfl rfl
        · refine g_aload_n dX12_pour_28 0 rfl ?_
          refine g_iconst dX12_pour_29 (v := 1) (by decide) ?_
          refine g_vZ [.int 1] [] mw_X12_87 (ok_X12_no g 1 (sI (sI μ 141 1 0) 141 0 0)) (by omega) sh_141 (by decide) rfl rfl (Nat.le_of_ble_eq_true rfl) dX12_pour_30 (fun x38 μ39 _ => ?_)
          exact g_ret dX12_pour_33 rfl rfl
set_option maxHeartbeats 4000000 in
set_option maxRecDepth 100000 in
theorem ok_X12_isTray (g : GG) (v1 : Int32)  (μ : Mm) : Ct g yX12_isTray cX12_isTray 2 (some (.boolean)) 2 (cvZp μ) [.ref (gb g + 141), .int v1] μ (f_X12_isTray v1 μ) := by
  refine ct_Zp (by decide +kernel) (Nat.le_of_ble_eq_true rfl) (show Go g RX12 cX12_isTray 2 .ireturn 2 (cvZp μ) 0 [(0, .ref (gb g + 141)), (1, .int v1)] [] μ (f_X12_isTray v1 μ) from ?_)
  unfold f_X12_isTray
  refine g_iload_n dX12_isTray_0 1 rfl ?_
  refine g_i2l dX12_isTray_1 ?_
  refine g_lconst dX12_isTray_2 (v := 0) (by decide) ?_
  refine g_ldc2 kl_X12_105 dX12_isTray_3 ?_
  refine g_sZp [.long (v1.toInt64), .long 0, .long 3] [] mw_X12_107 (ok_X12_isIn g (v1.toInt64) 0 3 μ) (by omega) rfl rfl (Nat.le_of_ble_eq_true rfl) dX12_isTray_6 (fun x1 _ => ?_)
  exact g_ret dX12_isTray_9 rfl rfl
set_option maxHeartbeats 4000000 in
set_option maxRecDepth 100000 in
theorem ok_X12_has (g : GG) (v0 : Int32) (v1 : Int32)  (μ : Mm) : Ct g yX12_has cX12_has 2 (some (.boolean)) 1 (cvZp μ) [.int v0, .int v1] μ (f_X12_has v0 v1 μ) := by
  refine ct_Zp (by decide +kernel) (Nat.le_of_ble_eq_true rfl) (show Go g RX12 cX12_has 2 .ireturn 1 (cvZp μ) 0 [(0, .int v0), (1, .int v1)] [] μ (f_X12_has v0 v1 μ) from ?_)
  unfold f_X12_has
  refine g_iload_n dX12_has_0 0 rfl ?_
  refine g_iload_n dX12_has_1 1 rfl ?_
  refine g_ishr dX12_has_2 ?_
  refine g_iconst dX12_has_3 (v := 1) (by decide) ?_
  refine g_iand dX12_has_4 ?_
  refine g_iconst dX12_has_5 (v := 1) (by decide) ?_
  refine g_icmp_ne (tgt := 13) dX12_has_6 (by decide) (fun _ => ?_) (fun _ => ?_)
  · refine g_iconst dX12_has_13 (v := 0) (by decide) ?_
    exact g_ret dX12_has_14 rfl rfl
  · refine g_iconst dX12_has_9 (v := 1) (by decide) ?_
    refine g_goto (tgt := 14) dX12_has_10 (by decide) ?_
    exact g_ret dX12_has_14 rfl rfl
set_option maxHeartbeats 4000000 in
set_option maxRecDepth 100000 in
theorem ok_X12_look2 (g : GG) (v1 : Int32)  (μ : Mm) : Ct g yX12_look2 cX12_look2 2 (some (.int)) 1 (cvIp μ) [.ref (gb g + 141), .int v1] μ (f_X12_look2 v1 μ) := by
  refine ct_Ip (by decide +kernel) (Nat.le_of_ble_eq_true rfl) (show Go g RX12 cX12_look2 2 .ireturn 1 (cvIp μ) 0 [(0, .ref (gb g + 141)), (1, .int v1)] [] μ (f_X12_look2 v1 μ) from ?_)
  unfold f_X12_look2
  refine g_iload_n dX12_look2_0 1 rfl ?_
  refine g_aload_n dX12_look2_1 0 rfl ?_
  refine g_getI fl_X12_111 sh_141 (by decide) rfl dX12_look2_2 ?_
  refine g_icmp_ge (tgt := 21) dX12_look2_5 (by decide) (fun _ => ?_) (fun _ => ?_)
  · refine g_iconst dX12_look2_21 (v := 0) (by decide) ?_
    exact g_ret dX12_look2_22 rfl rfl
  · refine g_aload_n dX12_look2_8 0 rfl ?_
    refine g_getR (b := 145) fl_X12_24 sh_141 (by decide) rfl rfl dX12_look2_9 ?_
    refine g_iload_n dX12_look2_12 1 rfl ?_
    refine g_baload sh_145 dX12_look2_13 (fun x2 => ?_)
    refine g_sipush dX12_look2_14 (v := 255) (by decide) ?_
    refine g_iand dX12_look2_17 ?_
    refine g_goto (tgt := 22) dX12_look2_18 (by decide) ?_
    exact g_ret dX12_look2_22 rfl rfl
set_option maxHeartbeats 4000000 in
set_option maxRecDepth 100000 in
theorem ok_X12_isLetter (g : GG) (v0 : Int32)  (μ : Mm) : Ct g yX12_isLetter cX12_isLetter 1 (some (.boolean)) 1 (cvZp μ) [.int v0] μ (f_X12_isLetter v0 μ) := by
  refine ct_Zp (by decide +kernel) (Nat.le_of_ble_eq_true rfl) (show Go g RX12 cX12_isLetter 1 .ireturn 1 (cvZp μ) 0 [(0, .int v0)] [] μ (f_X12_isLetter v0 μ) from ?_)
  unfold f_X12_isLetter
  refine g_iload_n dX12_isLetter_0 0 rfl ?_
  refine g_bipush dX12_isLetter_1 (v := 97) (by decide) ?_
  refine g_icmp_lt (tgt := 16) dX12_isLetter_3 (by decide) (fun _ => ?_) (fun _ => ?_)
  · refine g_iconst dX12_isLetter_16 (v := 0) (by decide) ?_
    exact g_ret dX12_isLetter_17 rfl rfl
  · refine g_iload_n dX12_isLetter_6 0 rfl ?_
    refine g_bipush dX12_isLetter_7 (v := 122) (by decide) ?_
    refine g_icmp_gt (tgt := 16) dX12_isLetter_9 (by decide) (fun _ => ?_) (fun _ => ?_)
    · refine g_iconst dX12_isLetter_16 (v := 0) (by decide) ?_
      exact g_ret dX12_isLetter_17 rfl rfl
    · refine g_iconst dX12_isLetter_12 (v := 1) (by decide) ?_
      refine g_goto (tgt := 17) dX12_isLetter_13 (by decide) ?_
      exact g_ret dX12_isLetter_17 rfl rfl
set_option maxHeartbeats 4000000 in
set_option maxRecDepth 100000 in
theorem ok_X12_isDigit (g : GG) (v0 : Int32)  (μ : Mm) : Ct g yX12_isDigit cX12_isDigit 1 (some (.boolean)) 1 (cvZp μ) [.int v0] μ (f_X12_isDigit v0 μ) := by
  refine ct_Zp (by decide +kernel) (Nat.le_of_ble_eq_true rfl) (show Go g RX12 cX12_isDigit 1 .ireturn 1 (cvZp μ) 0 [(0, .int v0)] [] μ (f_X12_isDigit v0 μ) from ?_)
  unfold f_X12_isDigit
  refine g_iload_n dX12_isDigit_0 0 rfl ?_
  refine g_bipush dX12_isDigit_1 (v := 48) (by decide) ?_
  refine g_icmp_lt (tgt := 16) dX12_isDigit_3 (by decide) (fun _ => ?_) (fun _ => ?_)
  · refine g_iconst dX12_isDigit_16 (v := 0) (by decide) ?_
    exact g_ret dX12_isDigit_17 rfl rfl
  · refine g_iload_n dX12_isDigit_6 0 rfl ?_
    refine g_bipush dX12_isDigit_7 (v := 57) (by decide) ?_
    refine g_icmp_gt (tgt := 16) dX12_isDigit_9 (by decide) (fun _ => ?_) (fun _ => ?_)
    · refine g_iconst dX12_isDigit_16 (v := 0) (by decide) ?_
      exact g_ret dX12_isDigit_17 rfl rfl
    · refine g_iconst dX12_isDigit_12 (v := 1) (by decide) ?_
      refine g_goto (tgt := 17) dX12_isDigit_13 (by decide) ?_
      exact g_ret dX12_isDigit_17 rfl rfl
set_option maxHeartbeats 4000000 in
set_option maxRecDepth 100000 in
theorem ok_X12_isSignByte (g : GG) (v1 : Int32)  (μ : Mm) : Ct g yX12_isSignByte cX12_isSignByte 2 (some (.boolean)) 1 (cvZp μ) [.ref (gb g + 141), .int v1] μ (f_X12_isSignByte v1 μ) := by
  refine ct_Zp (by decide +kernel) (Nat.le_of_ble_eq_true rfl) (show Go g RX12 cX12_isSignByte 2 .ireturn 1 (cvZp μ) 0 [(0, .ref (gb g + 141)), (1, .int v1)] [] μ (f_X12_isSignByte v1 μ) from ?_)
  unfold f_X12_isSignByte
  refine g_iload_n dX12_isSignByte_0 1 rfl ?_
  refine g_bipush dX12_isSignByte_1 (v := 59) (by decide) ?_
  refine g_icmp_eq (tgt := 24) dX12_isSignByte_3 (by decide) (fun _ => ?_) (fun _ => ?_)
  · refine g_iconst dX12_isSignByte_24 (v := 1) (by decide) ?_
    refine g_goto (tgt := 29) dX12_isSignByte_25 (by decide) ?_
    exact g_ret dX12_isSignByte_29 rfl rfl
  · refine g_iload_n dX12_isSignByte_6 1 rfl ?_
    refine g_bipush dX12_isSignByte_7 (v := 60) (by decide) ?_
    refine g_icmp_eq (tgt := 24) dX12_isSignByte_9 (by decide) (fun _ => ?_) (fun _ => ?_)
    · refine g_iconst dX12_isSignByte_24 (v := 1) (by decide) ?_
      refine g_goto (tgt := 29) dX12_isSignByte_25 (by decide) ?_
      exact g_ret dX12_isSignByte_29 rfl rfl
    · refine g_iload_n dX12_isSignByte_12 1 rfl ?_
      refine g_bipush dX12_isSignByte_13 (v := 62) (by decide) ?_
      refine g_icmp_eq (tgt := 24) dX12_isSignByte_15 (by decide) (fun _ => ?_) (fun _ => ?_)
      · refine g_iconst dX12_isSignByte_24 (v := 1) (by decide) ?_
        refine g_goto (tgt := 29) dX12_isSignByte_25 (by decide) ?_
        exact g_ret dX12_isSignByte_29 rfl rfl
      · refine g_iload_n dX12_isSignByte_18 1 rfl ?_
        refine g_bipush dX12_isSignByte_19 (v := 61) (by decide) ?_
        refine g_icmp_ne (tgt := 28) dX12_isSignByte_21 (by decide) (fun _ => ?_) (fun _ => ?_)
        · refine g_iconst dX12_isSignByte_28 (v := 0) (by decide) ?_
          exact g_ret dX12_isSignByte_29 rfl rfl
        · refine g_iconst dX12_isSignByte_24 (v := 1) (by decide) ?_
          refine g_goto (tgt := 29) dX12_isSignByte_25 (by decide) ?_
          exact g_ret dX12_isSignByte_29 rfl rfl
set_option maxHeartbeats 4000000 in
set_option maxRecDepth 100000 in
theorem okL_X12_advance_8 (g : GG) (F : Nat)  (k : Mm → Option (Mm))  (hk : ∀ (μ : Mm), Go g RX12 cX12_advance 2 .return_ 2 cvV 58 [(0, .ref (gb g + 141))] [] μ (k μ)) : ∀ (n : Nat) (μ : Mm), Go g RX12 cX12_advance 2 .return_ 2 cvV 8 [(0, .ref (gb g + 141))] [] μ (L_X12_advance_8 F k n μ) := by
  intro n
  induction n with
  | zero =>
    intro μ
    exact g_none
  | succ n ih =>
    intro μ
    rw [L_X12_advance_8_s]
    refine g_aload_n dX12_advance_8 0 rfl ?_
    refine g_getI fl_X12_117 sh_141 (by decide) rfl dX12_advance_9 ?_
    refine g_aload_n dX12_advance_12 0 rfl ?_
    refine g_getI fl_X12_111 sh_141 (by decide) rfl dX12_advance_13 ?_
    refine g_icmp_ge (tgt := 58) dX12_advance_16 (by decide) (fun _ => ?_) (fun _ => ?_)
    · refine g_lv [0] rfl ?_
      exact hk μ
    · refine g_aload_n dX12_advance_19 0 rfl ?_
      refine g_aload_n dX12_advance_20 0 rfl ?_
      refine g_getI fl_X12_117 sh_141 (by decide) rfl dX12_advance_21 ?_
      refine g_vIp [.int (mI μ 141 15)] [] mw_X12_120 (ok_X12_look2 g (mI μ 141 15) μ) (by omega) sh_141 (by decide) rfl rfl (Nat.le_of_ble_eq_true rfl) dX12_advance_24 (fun x1 _ => ?_)
      refine g_bipush dX12_advance_27 (v := 10) (by decide) ?_
      refine g_icmp_eq (tgt := 45) dX12_advance_29 (by decide) (fun _ => ?_) (fun _ => ?_)
      · refine g_aload_n dX12_advance_45 0 rfl ?_
        refine g_dup dX12_advance_46 rfl ?_
        refine g_getI fl_X12_117 sh_141 (by decide) rfl dX12_advance_47 ?_
        refine g_iconst dX12_advance_50 (v := 1) (by decide) ?_
        refine g_iadd dX12_advance_51 ?_
        refine g_putI fl_X12_117 sh_141 (by decide) rfl dX12_advance_52 ?_
        refine g_goto (tgt := 8) dX12_advance_55 (by decide) ?_
        refine g_lv [0] rfl ?_
        exact ih (sI μ 141 15 ((mI μ 141 15) + (1 : Int32)))
      · refine g_aload_n dX12_advance_32 0 rfl ?_
        refine g_aload_n dX12_advance_33 0 rfl ?_
        refine g_getI fl_X12_117 sh_141 (by decide) rfl dX12_advance_34 ?_
        refine g_vIp [.int (mI μ 141 15)] [] mw_X12_120 (ok_X12_look2 g (mI μ 141 15) μ) (by omega) sh_141 (by decide) rfl rfl (Nat.le_of_ble_eq_true rfl) dX12_advance_37 (fun x2 _ => ?_)
        refine g_bipush dX12_advance_40 (v := 32) (by decide) ?_
        refine g_icmp_ne (tgt := 58) dX12_advance_42 (by decide) (fun _ => ?_) (fun _ => ?_)
        · refine g_lv [0] rfl ?_
          exact hk μ
        · refine g_aload_n dX12_advance_45 0 rfl ?_
          refine g_dup dX12_advance_46 rfl ?_
          refine g_getI fl_X12_117 sh_141 (by decide) rfl dX12_advance_47 ?_
          refine g_iconst dX12_advance_50 (v := 1) (by decide) ?_
          refine g_iadd dX12_advance_51 ?_
          refine g_putI fl_X12_117 sh_141 (by decide) rfl dX12_advance_52 ?_
          refine g_goto (tgt := 8) dX12_advance_55 (by decide) ?_
          refine g_lv [0] rfl ?_
          exact ih (sI μ 141 15 ((mI μ 141 15) + (1 : Int32)))
set_option maxHeartbeats 4000000 in
set_option maxRecDepth 100000 in
theorem okL_X12_advance_210 (g : GG) (F : Nat)  (k : Mm → Option (Mm))  (hk : ∀ (μ : Mm), Go g RX12 cX12_advance 2 .return_ 2 cvV 273 [(0, .ref (gb g + 141))] [] μ (k μ)) : ∀ (n : Nat) (μ : Mm), Go g RX12 cX12_advance 2 .return_ 2 cvV 210 [(0, .ref (gb g + 141))] [] μ (L_X12_advance_210 F k n μ) := by
  intro n
  induction n with
  | zero =>
    intro μ
    exact g_none
  | succ n ih =>
    intro μ
    rw [L_X12_advance_210_s]
    refine g_aload_n dX12_advance_210 0 rfl ?_
    refine g_aload_n dX12_advance_211 0 rfl ?_
    refine g_getI fl_X12_114 sh_141 (by decide) rfl dX12_advance_212 ?_
    refine g_vIp [.int (mI μ 141 16)] [] mw_X12_120 (ok_X12_look2 g (mI μ 141 16) μ) (by omega) sh_141 (by decide) rfl rfl (Nat.le_of_ble_eq_true rfl) dX12_advance_215 (fun x13 _ => ?_)
    refine g_sZp [.int x13] [] mw_X12_139 (ok_X12_isDigit g x13 μ) (by omega) rfl rfl (Nat.le_of_ble_eq_true rfl) dX12_advance_218 (fun x14 _ => ?_)
    refine g_ifeqB (tgt := 273) dX12_advance_221 (by decide) (fun _ => ?_) (fun _ => ?_)
    · refine g_lv [0] rfl ?_
      exact hk μ
    · refine g_aload_n dX12_advance_224 0 rfl ?_
      refine g_getI fl_X12_114 sh_141 (by decide) rfl dX12_advance_225 ?_
      refine g_aload_n dX12_advance_228 0 rfl ?_
      refine g_getI fl_X12_117 sh_141 (by decide) rfl dX12_advance_229 ?_
      refine g_isub dX12_advance_232 ?_
      refine g_iconst dX12_advance_233 (v := 4) (by decide) ?_
      refine g_icmp_ge (tgt := 260) dX12_advance_234 (by decide) (fun _ => ?_) (fun _ => ?_)
      · refine g_aload_n dX12_advance_260 0 rfl ?_
        refine g_dup dX12_advance_261 rfl ?_
        refine g_getI fl_X12_114 sh_141 (by decide) rfl dX12_advance_262 ?_
        refine g_iconst dX12_advance_265 (v := 1) (by decide) ?_
        refine g_iadd dX12_advance_266 ?_
        refine g_putI fl_X12_114 sh_141 (by decide) rfl dX12_advance_267 ?_
        refine g_goto (tgt := 210) dX12_advance_270 (by decide) ?_
        refine g_lv [0] rfl ?_
        exact ih (sI μ 141 16 ((mI μ 141 16) + (1 : Int32)))
      · refine g_aload_n dX12_advance_237 0 rfl ?_
        refine g_bipush dX12_advance_238 (v := 10) (by decide) ?_
        refine g_aload_n dX12_advance_240 0 rfl ?_
        refine g_getI fl_X12_142 sh_141 (by decide) rfl dX12_advance_241 ?_
        refine g_imul dX12_advance_244 ?_
        refine g_aload_n dX12_advance_245 0 rfl ?_
        refine g_aload_n dX12_advance_246 0 rfl ?_
        refine g_getI fl_X12_114 sh_141 (by decide) rfl dX12_advance_247 ?_
        refine g_vIp [.int (mI μ 141 16)] [.int ((10 : Int32) * (mI μ 141 17)), .ref (gb g + 141)] mw_X12_120 (ok_X12_look2 g (mI μ 141 16) μ) (by omega) sh_141 (by decide) rfl rfl (Nat.le_of_ble_eq_true rfl) dX12_advance_250 (fun x16 _ => ?_)
        refine g_iadd dX12_advance_253 ?_
        refine g_bipush dX12_advance_254 (v := 48) (by decide) ?_
        refine g_isub dX12_advance_256 ?_
        refine g_putI fl_X12_142 sh_141 (by decide) rfl dX12_advance_257 ?_
        refine g_aload_n dX12_advance_260 0 rfl ?_
        refine g_dup dX12_advance_261 rfl ?_
        refine g_getI fl_X12_114 sh_141 (by decide) rfl dX12_advance_262 ?_
        refine g_iconst dX12_advance_265 (v := 1) (by decide) ?_
        refine g_iadd dX12_advance_266 ?_
        refine g_putI fl_X12_114 sh_141 (by decide) rfl dX12_advance_267 ?_
        refine g_goto (tgt := 210) dX12_advance_270 (by decide) ?_
        refine g_lv [0] rfl ?_
        exact ih (sI (sI μ 141 17 ((((10 : Int32) * (mI μ 141 17)) + x16) - (48 : Int32))) 141 16 ((mI (sI μ 141 17 ((((10 : Int32) * (mI μ 141 17)) + x16) - (48 : Int32))) 141 16) + (1 : Int32)))
set_option maxHeartbeats 4000000 in
set_option maxRecDepth 100000 in
theorem okL_X12_advance_109 (g : GG) (F : Nat)  (k : Mm → Option (Mm))  (hk : ∀ (μ : Mm), Go g RX12 cX12_advance 2 .return_ 2 cvV 182 [(0, .ref (gb g + 141))] [] μ (k μ)) : ∀ (n : Nat) (μ : Mm), Go g RX12 cX12_advance 2 .return_ 2 cvV 109 [(0, .ref (gb g + 141))] [] μ (L_X12_advance_109 F k n μ) := by
  intro n
  induction n with
  | zero =>
    intro μ
    exact g_none
  | succ n ih =>
    intro μ
    rw [L_X12_advance_109_s]
    refine g_aload_n dX12_advance_109 0 rfl ?_
    refine g_aload_n dX12_advance_110 0 rfl ?_
    refine g_getI fl_X12_114 sh_141 (by decide) rfl dX12_advance_111 ?_
    refine g_vIp [.int (mI μ 141 16)] [] mw_X12_120 (ok_X12_look2 g (mI μ 141 16) μ) (by omega) sh_141 (by decide) rfl rfl (Nat.le_of_ble_eq_true rfl) dX12_advance_114 (fun x21 _ => ?_)
    refine g_sZp [.int x21] [] mw_X12_126 (ok_X12_isLetter g x21 μ) (by omega) rfl rfl (Nat.le_of_ble_eq_true rfl) dX12_advance_117 (fun x22 _ => ?_)
    refine g_ifeqB (tgt := 182) dX12_advance_120 (by decide) (fun _ => ?_) (fun _ => ?_)
    · refine g_lv [0] rfl ?_
      exact hk μ
    · refine g_aload_n dX12_advance_123 0 rfl ?_
      refine g_aload_n dX12_advance_124 0 rfl ?_
      refine g_getI fl_X12_114 sh_141 (by decide) rfl dX12_advance_125 ?_
      refine g_aload_n dX12_advance_128 0 rfl ?_
      refine g_getI fl_X12_117 sh_141 (by decide) rfl dX12_advance_129 ?_
      refine g_isub dX12_advance_132 ?_
      refine g_bipush dX12_advance_133 (v := 8) (by decide) ?_
      refine g_jn (fun (a25 : Int64) oo => Go g RX12 cX12_advance 2 .return_ 2 cvV 166 [(0, .ref (gb g + 141))] [.long a25, .ref (gb g + 141)] μ oo) (fun a25 => ?_) (fun K24 hF26 => ?_)
      · refine g_putJ fl_X12_129 sh_141 (by decide) rfl dX12_advance_166 ?_
        refine g_aload_n dX12_advance_169 0 rfl ?_
        refine g_dup dX12_advance_170 rfl ?_
        refine g_getI fl_X12_114 sh_141 (by decide) rfl dX12_advance_171 ?_
        refine g_iconst dX12_advance_174 (v := 1) (by decide) ?_
        refine g_iadd dX12_advance_175 ?_
        refine g_putI fl_X12_114 sh_141 (by decide) rfl dX12_advance_176 ?_
        refine g_goto (tgt := 109) dX12_advance_179 (by decide) ?_
        refine g_lv [0] rfl ?_
        exact ih (sI (sJ μ 141 19 a25) 141 16 ((mI (sJ μ 141 19 a25) 141 16) + (1 : Int32)))
      · refine g_icmp_ge (tgt := 163) dX12_advance_135 (by decide) (fun _ => ?_) (fun _ => ?_)
        · refine g_ldc2 kl_X12_103 dX12_advance_163 ?_
          refine g_lv [0] rfl ?_
          exact hF26 (-1)
        · refine g_aload_n dX12_advance_138 0 rfl ?_
          refine g_getJ fl_X12_129 sh_141 (by decide) rfl dX12_advance_139 ?_
          refine g_ldc2 kl_X12_132 dX12_advance_142 ?_
          refine g_lmul dX12_advance_145 ?_
          refine g_aload_n dX12_advance_146 0 rfl ?_
          refine g_aload_n dX12_advance_147 0 rfl ?_
          refine g_getI fl_X12_114 sh_141 (by decide) rfl dX12_advance_148 ?_
          refine g_vIp [.int (mI μ 141 16)] [.long ((mJ μ 141 19) * (32 : Int64)), .ref (gb g + 141)] mw_X12_120 (ok_X12_look2 g (mI μ 141 16) μ) (by omega) sh_141 (by decide) rfl rfl (Nat.le_of_ble_eq_true rfl) dX12_advance_151 (fun x27 _ => ?_)
          refine g_i2l dX12_advance_154 ?_
          refine g_ladd dX12_advance_155 ?_
          refine g_ldc2 kl_X12_134 dX12_advance_156 ?_
          refine g_lsub dX12_advance_159 ?_
          refine g_goto (tgt := 166) dX12_advance_160 (by decide) ?_
          refine g_lv [0] rfl ?_
          exact hF26 ((((mJ μ 141 19) * (32 : Int64)) + (x27.toInt64)) - (96 : Int64))
set_option maxHeartbeats 4000000 in
set_option maxRecDepth 100000 in
theorem ok_X12_advance (g : GG) (F : Nat)   (μ : Mm) : Ct g yX12_advance cX12_advance 2 none 2 cvV [.ref (gb g + 141)] μ (f_X12_advance F μ) := by
  refine ct_V (by decide +kernel) (Nat.le_of_ble_eq_true rfl) (show Go g RX12 cX12_advance 2 .return_ 2 cvV 0 [(0, .ref (gb g + 141))] [] μ (f_X12_advance F μ) from ?_)
  unfold f_X12_advance
  refine g_aload_n dX12_advance_0 0 rfl ?_
  refine g_aload_n dX12_advance_1 0 rfl ?_
  refine g_getI fl_X12_114 sh_141 (by decide) rfl dX12_advance_2 ?_
  refine g_putI fl_X12_117 sh_141 (by decide) rfl dX12_advance_5 ?_
  refine g_lv [0] rfl ?_
  refine okL_X12_advance_8 g F _ (fun μ3 => ?_) F (sI μ 141 15 (mI μ 141 16))
  refine g_aload_n dX12_advance_58 0 rfl ?_
  refine g_aload_n dX12_advance_59 0 rfl ?_
  refine g_getI fl_X12_117 sh_141 (by decide) rfl dX12_advance_60 ?_
  refine g_putI fl_X12_114 sh_141 (by decide) rfl dX12_advance_63 ?_
  refine g_aload_n dX12_advance_66 0 rfl ?_
  refine g_getI fl_X12_117 sh_141 (by decide) rfl dX12_advance_67 ?_
  refine g_aload_n dX12_advance_70 0 rfl ?_
  refine g_getI fl_X12_111 sh_141 (by decide) rfl dX12_advance_71 ?_
  refine g_icmp_lt (tgt := 83) dX12_advance_74 (by decide) (fun _ => ?_) (fun _ => ?_)
  · refine g_aload_n dX12_advance_83 0 rfl ?_
    refine g_aload_n dX12_advance_84 0 rfl ?_
    refine g_getI fl_X12_117 sh_141 (by decide) rfl dX12_advance_85 ?_
    refine g_vIp [.int (mI (sI μ3 141 16 (mI μ3 141 15)) 141 15)] [] mw_X12_120 (ok_X12_look2 g (mI (sI μ3 141 16 (mI μ3 141 15)) 141 15) (sI μ3 141 16 (mI μ3 141 15))) (by omega) sh_141 (by decide) rfl rfl (Nat.le_of_ble_eq_true rfl) dX12_advance_88 (fun x4 _ => ?_)
    refine g_istore_n dX12_advance_91 rfl (by decide) (lv' := [(1, .int x4), (0, .ref (gb g + 141))]) rfl ?_
    refine g_iload_n dX12_advance_92 0 rfl ?_
    refine g_sZp [.int x4] [] mw_X12_126 (ok_X12_isLetter g x4 (sI μ3 141 16 (mI μ3 141 15))) (by omega) rfl rfl (Nat.le_of_ble_eq_true rfl) dX12_advance_93 (fun x5 _ => ?_)
    refine g_ifeqB (tgt := 198) dX12_advance_96 (by decide) (fun _ => ?_) (fun _ => ?_)
    · refine g_iload_n dX12_advance_198 0 rfl ?_
      refine g_sZp [.int x4] [] mw_X12_139 (ok_X12_isDigit g x4 (sI μ3 141 16 (mI μ3 141 15))) (by omega) rfl rfl (Nat.le_of_ble_eq_true rfl) dX12_advance_199 (fun x7 _ => ?_)
      refine g_ifeqB (tgt := 298) dX12_advance_202 (by decide) (fun _ => ?_) (fun _ => ?_)
      · refine g_aload_n dX12_advance_298 1 rfl ?_
        refine g_aload_n dX12_advance_299 1 rfl ?_
        refine g_getI fl_X12_117 sh_141 (by decide) rfl dX12_advance_300 ?_
        refine g_iconst dX12_advance_303 (v := 1) (by decide) ?_
        refine g_iadd dX12_advance_304 ?_
        refine g_putI fl_X12_114 sh_141 (by decide) rfl dX12_advance_305 ?_
        refine g_aload_n dX12_advance_308 1 rfl ?_
        refine g_iload_n dX12_advance_309 0 rfl ?_
        refine g_putI fl_X12_142 sh_141 (by decide) rfl dX12_advance_310 ?_
        refine g_aload_n dX12_advance_313 1 rfl ?_
        refine g_aload_n dX12_advance_314 1 rfl ?_
        refine g_iload_n dX12_advance_315 0 rfl ?_
        refine g_vZp [.int x4] [.ref (gb g + 141)] mw_X12_145 (ok_X12_isSignByte g x4 (sI (sI (sI μ3 141 16 (mI μ3 141 15)) 141 16 ((mI (sI μ3 141 16 (mI μ3 141 15)) 141 15) + (1 : Int32))) 141 17 x4)) (by omega) sh_141 (by decide) rfl rfl (Nat.le_of_ble_eq_true rfl) dX12_advance_316 (fun x9 _ => ?_)
        have hJ12 : ∀ (w11 : Int32), w11 = (if x9 = true then (3 : Int32) else 4) → Go g RX12 cX12_advance 2 .return_ 2 cvV 327 [] [.int w11, .ref (gb g + 141)] (sI (sI (sI μ3 141 16 (mI μ3 141 15)) 141 16 ((mI (sI μ3 141 16 (mI μ3 141 15)) 141 15) + (1 : Int32))) 141 17 x4) (some (sI (sI (sI (sI μ3 141 16 (mI μ3 141 15)) 141 16 ((mI (sI μ3 141 16 (mI μ3 141 15)) 141 15) + (1 : Int32))) 141 17 x4) 141 14 (if x9 = true then (3 : Int32) else 4))) := by
          intro w11 ew11
          subst ew11
          refine g_putI fl_X12_123 sh_141 (by decide) rfl dX12_advance_327 ?_
          exact g_ret dX12_advance_330 rfl rfl
        refine g_same (g_ifeqB (tgt := 326) dX12_advance_319 (by decide) (fun c10 => ?_) (fun c10 => ?_))
        · refine g_iconst dX12_advance_326 (v := 4) (by decide) ?_
          refine g_lv [] rfl ?_
          exact hJ12 _ (by rw [if_neg c10])
        · refine g_iconst dX12_advance_322 (v := 3) (by decide) ?_
          refine g_goto (tgt := 327) dX12_advance_323 (by decide) ?_
          refine g_lv [] rfl ?_
          exact hJ12 _ (by rw [if_pos c10])
      · refine g_aload_n dX12_advance_205 1 rfl ?_
        refine g_iconst dX12_advance_206 (v := 0) (by decide) ?_
        refine g_putI fl_X12_142 sh_141 (by decide) rfl dX12_advance_207 ?_
        refine g_lv [1] rfl ?_
        refine okL_X12_advance_210 g F _ (fun μ17 => ?_) F (sI (sI μ3 141 16 (mI μ3 141 15)) 141 17 0)
        refine g_aload_n dX12_advance_273 0 rfl ?_
        refine g_aload_n dX12_advance_274 0 rfl ?_
        refine g_getI fl_X12_114 sh_141 (by decide) rfl dX12_advance_275 ?_
        refine g_aload_n dX12_advance_278 0 rfl ?_
        refine g_getI fl_X12_117 sh_141 (by decide) rfl dX12_advance_279 ?_
        refine g_isub dX12_advance_282 ?_
        refine g_iconst dX12_advance_283 (v := 4) (by decide) ?_
        have hJ20 : ∀ (w19 : Int32), w19 = (if ((mI μ17 141 16) - (mI μ17 141 15)) ≤ 4 then (2 : Int32) else 4) → Go g RX12 cX12_advance 2 .return_ 2 cvV 292 [] [.int w19, .ref (gb g + 141)] μ17 (some (sI μ17 141 14 (if ((mI μ17 141 16) - (mI μ17 141 15)) ≤ 4 then (2 : Int32) else 4))) := by
          intro w19 ew19
          subst ew19
          refine g_putI fl_X12_123 sh_141 (by decide) rfl dX12_advance_292 ?_
          refine g_goto (tgt := 330) dX12_advance_295 (by decide) ?_
          exact g_ret dX12_advance_330 rfl rfl
        refine g_same (g_icmp_le (tgt := 291) dX12_advance_284 (by decide) (fun c18 => ?_) (fun c18 => ?_))
        · refine g_iconst dX12_advance_291 (v := 2) (by decide) ?_
          refine g_lv [] rfl ?_
          exact hJ20 _ (by rw [if_pos c18])
        · refine g_iconst dX12_advance_287 (v := 4) (by decide) ?_
          refine g_goto (tgt := 292) dX12_advance_288 (by decide) ?_
          refine g_lv [] rfl ?_
          exact hJ20 _ (by rw [if_neg c18])
    · refine g_aload_n dX12_advance_99 1 rfl ?_
      refine g_iconst dX12_advance_100 (v := 1) (by decide) ?_
      refine g_putI fl_X12_123 sh_141 (by decide) rfl dX12_advance_101 ?_
      refine g_aload_n dX12_advance_104 1 rfl ?_
      refine g_lconst dX12_advance_105 (v := 0) (by decide) ?_
      refine g_putJ fl_X12_129 sh_141 (by decide) rfl dX12_advance_106 ?_
      refine g_lv [1] rfl ?_
      refine okL_X12_advance_109 g F _ (fun μ28 => ?_) F (sJ (sI (sI μ3 141 16 (mI μ3 141 15)) 141 14 1) 141 19 0)
      refine g_aload_n dX12_advance_182 0 rfl ?_
      refine g_aload_n dX12_advance_183 0 rfl ?_
      refine g_getI fl_X12_114 sh_141 (by decide) rfl dX12_advance_184 ?_
      refine g_aload_n dX12_advance_187 0 rfl ?_
      refine g_getI fl_X12_117 sh_141 (by decide) rfl dX12_advance_188 ?_
      refine g_isub dX12_advance_191 ?_
      refine g_putI fl_X12_136 sh_141 (by decide) rfl dX12_advance_192 ?_
      refine g_goto (tgt := 330) dX12_advance_195 (by decide) ?_
      exact g_ret dX12_advance_330 rfl rfl
  · refine g_aload_n dX12_advance_77 0 rfl ?_
    refine g_iconst dX12_advance_78 (v := 0) (by decide) ?_
    refine g_putI fl_X12_123 sh_141 (by decide) rfl dX12_advance_79 ?_
    exact g_ret dX12_advance_82 rfl rfl
set_option maxHeartbeats 4000000 in
set_option maxRecDepth 100000 in
theorem ok_X12_isSign (g : GG) (v1 : Int32)  (μ : Mm) : Ct g yX12_isSign cX12_isSign 2 (some (.boolean)) 1 (cvZp μ) [.ref (gb g + 141), .int v1] μ (f_X12_isSign v1 μ) := by
  refine ct_Zp (by decide +kernel) (Nat.le_of_ble_eq_true rfl) (show Go g RX12 cX12_isSign 2 .ireturn 1 (cvZp μ) 0 [(0, .ref (gb g + 141)), (1, .int v1)] [] μ (f_X12_isSign v1 μ) from ?_)
  unfold f_X12_isSign
  refine g_aload_n dX12_isSign_0 0 rfl ?_
  refine g_getI fl_X12_123 sh_141 (by decide) rfl dX12_isSign_1 ?_
  refine g_iconst dX12_isSign_4 (v := 3) (by decide) ?_
  refine g_icmp_ne (tgt := 20) dX12_isSign_5 (by decide) (fun _ => ?_) (fun _ => ?_)
  · refine g_iconst dX12_isSign_20 (v := 0) (by decide) ?_
    exact g_ret dX12_isSign_21 rfl rfl
  · refine g_aload_n dX12_isSign_8 0 rfl ?_
    refine g_getI fl_X12_142 sh_141 (by decide) rfl dX12_isSign_9 ?_
    refine g_iload_n dX12_isSign_12 1 rfl ?_
    refine g_icmp_ne (tgt := 20) dX12_isSign_13 (by decide) (fun _ => ?_) (fun _ => ?_)
    · refine g_iconst dX12_isSign_20 (v := 0) (by decide) ?_
      exact g_ret dX12_isSign_21 rfl rfl
    · refine g_iconst dX12_isSign_16 (v := 1) (by decide) ?_
      refine g_goto (tgt := 21) dX12_isSign_17 (by decide) ?_
      exact g_ret dX12_isSign_21 rfl rfl
set_option maxHeartbeats 4000000 in
set_option maxRecDepth 100000 in
theorem ok_X12_spelled (g : GG) (v0 : Int32) (v1 : Int32) (v2 : Int32) (v3 : Int32) (v4 : Int32) (v5 : Int32)  (μ : Mm) : Ct g yX12_spelled cX12_spelled 8 (some (.long)) 1 (cvJp μ) [.int v0, .int v1, .int v2, .int v3, .int v4, .int v5] μ (f_X12_spelled v0 v1 v2 v3 v4 v5 μ) := by
  refine ct_Jp (by decide +kernel) (Nat.le_of_ble_eq_true rfl) (show Go g RX12 cX12_spelled 8 .lreturn 1 (cvJp μ) 0 [(0, .int v0), (1, .int v1), (2, .int v2), (3, .int v3), (4, .int v4), (5, .int v5)] [] μ (f_X12_spelled v0 v1 v2 v3 v4 v5 μ) from ?_)
  unfold f_X12_spelled
  refine g_iload_n dX12_spelled_0 0 rfl ?_
  refine g_i2l dX12_spelled_1 ?_
  refine g_ldc2 kl_X12_134 dX12_spelled_2 ?_
  refine g_lsub dX12_spelled_5 ?_
  refine g_ldc2 kl_X12_132 dX12_spelled_6 ?_
  refine g_lmul dX12_spelled_9 ?_
  refine g_iload_n dX12_spelled_10 1 rfl ?_
  refine g_i2l dX12_spelled_11 ?_
  refine g_ladd dX12_spelled_12 ?_
  refine g_ldc2 kl_X12_134 dX12_spelled_13 ?_
  refine g_lsub dX12_spelled_16 ?_
  refine g_lstore dX12_spelled_17 (by decide) (lv' := [(6, .long (((((v0.toInt64) - (96 : Int64)) * (32 : Int64)) + (v1.toInt64)) - (96 : Int64))), (0, .int v0), (1, .int v1), (2, .int v2), (3, .int v3), (4, .int v4), (5, .int v5)]) rfl ?_
  refine g_iload_n dX12_spelled_19 3 rfl ?_
  have hJ12 : ∀ (w2 : Int64), w2 = (if v2 ≤ 0 then (((((v0.toInt64) - (96 : Int64)) * (32 : Int64)) + (v1.toInt64)) - (96 : Int64)) else ((((((((v0.toInt64) - (96 : Int64)) * (32 : Int64)) + (v1.toInt64)) - (96 : Int64)) * (32 : Int64)) + (v2.toInt64)) - (96 : Int64))) → Go g RX12 cX12_spelled 8 .lreturn 1 (cvJp μ) 41 [(3, .int v3), (4, .int v4), (5, .int v5)] [.long w2] μ (some (if v5 ≤ 0 then (if v4 ≤ 0 then (if v3 ≤ 0 then (if v2 ≤ 0 then (((((v0.toInt64) - (96 : Int64)) * (32 : Int64)) + (v1.toInt64)) - (96 : Int64)) else ((((((((v0.toInt64) - (96 : Int64)) * (32 : Int64)) + (v1.toInt64)) - (96 : Int64)) * (32 : Int64)) + (v2.toInt64)) - (96 : Int64))) else ((((if v2 ≤ 0 then (((((v0.toInt64) - (96 : Int64)) * (32 : Int64)) + (v1.toInt64)) - (96 : Int64)) else ((((((((v0.toInt64) - (96 : Int64)) * (32 : Int64)) + (v1.toInt64)) - (96 : Int64)) * (32 : Int64)) + (v2.toInt64)) - (96 : Int64))) * (32 : Int64)) + (v3.toInt64)) - (96 : Int64))) else ((((if v3 ≤ 0 then (if v2 ≤ 0 then (((((v0.toInt64) - (96 : Int64)) * (32 : Int64)) + (v1.toInt64)) - (96 : Int64)) else ((((((((v0.toInt64) - (96 : Int64)) * (32 : Int64)) + (v1.toInt64)) - (96 : Int64)) * (32 : Int64)) + (v2.toInt64)) - (96 : Int64))) else ((((if v2 ≤ 0 then (((((v0.toInt64) - (96 : Int64)) * (32 : Int64)) + (v1.toInt64)) - (96 : Int64)) else ((((((((v0.toInt64) - (96 : Int64)) * (32 : Int64)) + (v1.toInt64)) - (96 : Int64)) * (32 : Int64)) + (v2.toInt64)) - (96 : Int64))) * (32 : Int64)) + (v3.toInt64)) - (96 : Int64))) * (32 : Int64)) + (v4.toInt64)) - (96 : Int64))) else ((((if v4 ≤ 0 then (if v3 ≤ 0 then (if v2 ≤ 0 then (((((v0.toInt64) - (96 : Int64)) * (32 : Int64)) + (v1.toInt64)) - (96 : Int64)) else ((((((((v0.toInt64) - (96 : Int64)) * (32 : Int64)) + (v1.toInt64)) - (96 : Int64)) * (32 : Int64)) + (v2.toInt64)) - (96 : Int64))) else ((((if v2 ≤ 0 then (((((v0.toInt64) - (96 : Int64)) * (32 : Int64)) + (v1.toInt64)) - (96 : Int64)) else ((((((((v0.toInt64) - (96 : Int64)) * (32 : Int64)) + (v1.toInt64)) - (96 : Int64)) * (32 : Int64)) + (v2.toInt64)) - (96 : Int64))) * (32 : Int64)) + (v3.toInt64)) - (96 : Int64))) else ((((if v3 ≤ 0 then (if v2 ≤ 0 then (((((v0.toInt64) - (96 : Int64)) * (32 : Int64)) + (v1.toInt64)) - (96 : Int64)) else ((((((((v0.toInt64) - (96 : Int64)) * (32 : Int64)) + (v1.toInt64)) - (96 : Int64)) * (32 : Int64)) + (v2.toInt64)) - (96 : Int64))) else ((((if v2 ≤ 0 then (((((v0.toInt64) - (96 : Int64)) * (32 : Int64)) + (v1.toInt64)) - (96 : Int64)) else ((((((((v0.toInt64) - (96 : Int64)) * (32 : Int64)) + (v1.toInt64)) - (96 : Int64)) * (32 : Int64)) + (v2.toInt64)) - (96 : Int64))) * (32 : Int64)) + (v3.toInt64)) - (96 : Int64))) * (32 : Int64)) + (v4.toInt64)) - (96 : Int64))) * (32 : Int64)) + (v5.toInt64)) - (96 : Int64)))) := by
    intro w2 ew2
    subst ew2
    refine g_lstore dX12_spelled_41 (by decide) (lv' := [(6, .long (if v2 ≤ 0 then (((((v0.toInt64) - (96 : Int64)) * (32 : Int64)) + (v1.toInt64)) - (96 : Int64)) else ((((((((v0.toInt64) - (96 : Int64)) * (32 : Int64)) + (v1.toInt64)) - (96 : Int64)) * (32 : Int64)) + (v2.toInt64)) - (96 : Int64)))), (3, .int v3), (4, .int v4), (5, .int v5)]) rfl ?_
    refine g_iload_n dX12_spelled_43 1 rfl ?_
    have hJ11 : ∀ (w4 : Int64), w4 = (if v3 ≤ 0 then (if v2 ≤ 0 then (((((v0.toInt64) - (96 : Int64)) * (32 : Int64)) + (v1.toInt64)) - (96 : Int64)) else ((((((((v0.toInt64) - (96 : Int64)) * (32 : Int64)) + (v1.toInt64)) - (96 : Int64)) * (32 : Int64)) + (v2.toInt64)) - (96 : Int64))) else ((((if v2 ≤ 0 then (((((v0.toInt64) - (96 : Int64)) * (32 : Int64)) + (v1.toInt64)) - (96 : Int64)) else ((((((((v0.toInt64) - (96 : Int64)) * (32 : Int64)) + (v1.toInt64)) - (96 : Int64)) * (32 : Int64)) + (v2.toInt64)) - (96 : Int64))) * (32 : Int64)) + (v3.toInt64)) - (96 : Int64))) → Go g RX12 cX12_spelled 8 .lreturn 1 (cvJp μ) 65 [(4, .int v4), (5, .int v5)] [.long w4] μ (some (if v5 ≤ 0 then (if v4 ≤ 0 then (if v3 ≤ 0 then (if v2 ≤ 0 then (((((v0.toInt64) - (96 : Int64)) * (32 : Int64)) + (v1.toInt64)) - (96 : Int64)) else ((((((((v0.toInt64) - (96 : Int64)) * (32 : Int64)) + (v1.toInt64)) - (96 : Int64)) * (32 : Int64)) + (v2.toInt64)) - (96 : Int64))) else ((((if v2 ≤ 0 then (((((v0.toInt64) - (96 : Int64)) * (32 : Int64)) + (v1.toInt64)) - (96 : Int64)) else ((((((((v0.toInt64) - (96 : Int64)) * (32 : Int64)) + (v1.toInt64)) - (96 : Int64)) * (32 : Int64)) + (v2.toInt64)) - (96 : Int64))) * (32 : Int64)) + (v3.toInt64)) - (96 : Int64))) else ((((if v3 ≤ 0 then (if v2 ≤ 0 then (((((v0.toInt64) - (96 : Int64)) * (32 : Int64)) + (v1.toInt64)) - (96 : Int64)) else ((((((((v0.toInt64) - (96 : Int64)) * (32 : Int64)) + (v1.toInt64)) - (96 : Int64)) * (32 : Int64)) + (v2.toInt64)) - (96 : Int64))) else ((((if v2 ≤ 0 then (((((v0.toInt64) - (96 : Int64)) * (32 : Int64)) + (v1.toInt64)) - (96 : Int64)) else ((((((((v0.toInt64) - (96 : Int64)) * (32 : Int64)) + (v1.toInt64)) - (96 : Int64)) * (32 : Int64)) + (v2.toInt64)) - (96 : Int64))) * (32 : Int64)) + (v3.toInt64)) - (96 : Int64))) * (32 : Int64)) + (v4.toInt64)) - (96 : Int64))) else ((((if v4 ≤ 0 then (if v3 ≤ 0 then (if v2 ≤ 0 then (((((v0.toInt64) - (96 : Int64)) * (32 : Int64)) + (v1.toInt64)) - (96 : Int64)) else ((((((((v0.toInt64) - (96 : Int64)) * (32 : Int64)) + (v1.toInt64)) - (96 : Int64)) * (32 : Int64)) + (v2.toInt64)) - (96 : Int64))) else ((((if v2 ≤ 0 then (((((v0.toInt64) - (96 : Int64)) * (32 : Int64)) + (v1.toInt64)) - (96 : Int64)) else ((((((((v0.toInt64) - (96 : Int64)) * (32 : Int64)) + (v1.toInt64)) - (96 : Int64)) * (32 : Int64)) + (v2.toInt64)) - (96 : Int64))) * (32 : Int64)) + (v3.toInt64)) - (96 : Int64))) else ((((if v3 ≤ 0 then (if v2 ≤ 0 then (((((v0.toInt64) - (96 : Int64)) * (32 : Int64)) + (v1.toInt64)) - (96 : Int64)) else ((((((((v0.toInt64) - (96 : Int64)) * (32 : Int64)) + (v1.toInt64)) - (96 : Int64)) * (32 : Int64)) + (v2.toInt64)) - (96 : Int64))) else ((((if v2 ≤ 0 then (((((v0.toInt64) - (96 : Int64)) * (32 : Int64)) + (v1.toInt64)) - (96 : Int64)) else ((((((((v0.toInt64) - (96 : Int64)) * (32 : Int64)) + (v1.toInt64)) - (96 : Int64)) * (32 : Int64)) + (v2.toInt64)) - (96 : Int64))) * (32 : Int64)) + (v3.toInt64)) - (96 : Int64))) * (32 : Int64)) + (v4.toInt64)) - (96 : Int64))) * (32 : Int64)) + (v5.toInt64)) - (96 : Int64)))) := by
      intro w4 ew4
      subst ew4
      refine g_lstore dX12_spelled_65 (by decide) (lv' := [(6, .long (if v3 ≤ 0 then (if v2 ≤ 0 then (((((v0.toInt64) - (96 : Int64)) * (32 : Int64)) + (v1.toInt64)) - (96 : Int64)) else ((((((((v0.toInt64) - (96 : Int64)) * (32 : Int64)) + (v1.toInt64)) - (96 : Int64)) * (32 : Int64)) + (v2.toInt64)) - (96 : Int64))) else ((((if v2 ≤ 0 then (((((v0.toInt64) - (96 : Int64)) * (32 : Int64)) + (v1.toInt64)) - (96 : Int64)) else ((((((((v0.toInt64) - (96 : Int64)) * (32 : Int64)) + (v1.toInt64)) - (96 : Int64)) * (32 : Int64)) + (v2.toInt64)) - (96 : Int64))) * (32 : Int64)) + (v3.toInt64)) - (96 : Int64)))), (4, .int v4), (5, .int v5)]) rfl ?_
      refine g_iload dX12_spelled_67 1 rfl ?_
      have hJ10 : ∀ (w6 : Int64), w6 = (if v4 ≤ 0 then (if v3 ≤ 0 then (if v2 ≤ 0 then (((((v0.toInt64) - (96 : Int64)) * (32 : Int64)) + (v1.toInt64)) - (96 : Int64)) else ((((((((v0.toInt64) - (96 : Int64)) * (32 : Int64)) + (v1.toInt64)) - (96 : Int64)) * (32 : Int64)) + (v2.toInt64)) - (96 : Int64))) else ((((if v2 ≤ 0 then (((((v0.toInt64) - (96 : Int64)) * (32 : Int64)) + (v1.toInt64)) - (96 : Int64)) else ((((((((v0.toInt64) - (96 : Int64)) * (32 : Int64)) + (v1.toInt64)) - (96 : Int64)) * (32 : Int64)) + (v2.toInt64)) - (96 : Int64))) * (32 : Int64)) + (v3.toInt64)) - (96 : Int64))) else ((((if v3 ≤ 0 then (if v2 ≤ 0 then (((((v0.toInt64) - (96 : Int64)) * (32 : Int64)) + (v1.toInt64)) - (96 : Int64)) else ((((((((v0.toInt64) - (96 : Int64)) * (32 : Int64)) + (v1.toInt64)) - (96 : Int64)) * (32 : Int64)) + (v2.toInt64)) - (96 : Int64))) else ((((if v2 ≤ 0 then (((((v0.toInt64) - (96 : Int64)) * (32 : Int64)) + (v1.toInt64)) - (96 : Int64)) else ((((((((v0.toInt64) - (96 : Int64)) * (32 : Int64)) + (v1.toInt64)) - (96 : Int64)) * (32 : Int64)) + (v2.toInt64)) - (96 : Int64))) * (32 : Int64)) + (v3.toInt64)) - (96 : Int64))) * (32 : Int64)) + (v4.toInt64)) - (96 : Int64))) → Go g RX12 cX12_spelled 8 .lreturn 1 (cvJp μ) 91 [(5, .int v5)] [.long w6] μ (some (if v5 ≤ 0 then (if v4 ≤ 0 then (if v3 ≤ 0 then (if v2 ≤ 0 then (((((v0.toInt64) - (96 : Int64)) * (32 : Int64)) + (v1.toInt64)) - (96 : Int64)) else ((((((((v0.toInt64) - (96 : Int64)) * (32 : Int64)) + (v1.toInt64)) - (96 : Int64)) * (32 : Int64)) + (v2.toInt64)) - (96 : Int64))) else ((((if v2 ≤ 0 then (((((v0.toInt64) - (96 : Int64)) * (32 : Int64)) + (v1.toInt64)) - (96 : Int64)) else ((((((((v0.toInt64) - (96 : Int64)) * (32 : Int64)) + (v1.toInt64)) - (96 : Int64)) * (32 : Int64)) + (v2.toInt64)) - (96 : Int64))) * (32 : Int64)) + (v3.toInt64)) - (96 : Int64))) else ((((if v3 ≤ 0 then (if v2 ≤ 0 then (((((v0.toInt64) - (96 : Int64)) * (32 : Int64)) + (v1.toInt64)) - (96 : Int64)) else ((((((((v0.toInt64) - (96 : Int64)) * (32 : Int64)) + (v1.toInt64)) - (96 : Int64)) * (32 : Int64)) + (v2.toInt64)) - (96 : Int64))) else ((((if v2 ≤ 0 then (((((v0.toInt64) - (96 : Int64)) * (32 : Int64)) + (v1.toInt64)) - (96 : Int64)) else ((((((((v0.toInt64) - (96 : Int64)) * (32 : Int64)) + (v1.toInt64)) - (96 : Int64)) * (32 : Int64)) + (v2.toInt64)) - (96 : Int64))) * (32 : Int64)) + (v3.toInt64)) - (96 : Int64))) * (32 : Int64)) + (v4.toInt64)) - (96 : Int64))) else ((((if v4 ≤ 0 then (if v3 ≤ 0 then (if v2 ≤ 0 then (((((v0.toInt64) - (96 : Int64)) * (32 : Int64)) + (v1.toInt64)) - (96 : Int64)) else ((((((((v0.toInt64) - (96 : Int64)) * (32 : Int64)) + (v1.toInt64)) - (96 : Int64)) * (32 : Int64)) + (v2.toInt64)) - (96 : Int64))) else ((((if v2 ≤ 0 then (((((v0.toInt64) - (96 : Int64)) * (32 : Int64)) + (v1.toInt64)) - (96 : Int64)) else ((((((((v0.toInt64) - (96 : Int64)) * (32 : Int64)) + (v1.toInt64)) - (96 : Int64)) * (32 : Int64)) + (v2.toInt64)) - (96 : Int64))) * (32 : Int64)) + (v3.toInt64)) - (96 : Int64))) else ((((if v3 ≤ 0 then (if v2 ≤ 0 then (((((v0.toInt64) - (96 : Int64)) * (32 : Int64)) + (v1.toInt64)) - (96 : Int64)) else ((((((((v0.toInt64) - (96 : Int64)) * (32 : Int64)) + (v1.toInt64)) - (96 : Int64)) * (32 : Int64)) + (v2.toInt64)) - (96 : Int64))) else ((((if v2 ≤ 0 then (((((v0.toInt64) - (96 : Int64)) * (32 : Int64)) + (v1.toInt64)) - (96 : Int64)) else ((((((((v0.toInt64) - (96 : Int64)) * (32 : Int64)) + (v1.toInt64)) - (96 : Int64)) * (32 : Int64)) + (v2.toInt64)) - (96 : Int64))) * (32 : Int64)) + (v3.toInt64)) - (96 : Int64))) * (32 : Int64)) + (v4.toInt64)) - (96 : Int64))) * (32 : Int64)) + (v5.toInt64)) - (96 : Int64)))) := by
        intro w6 ew6
        subst ew6
        refine g_lstore dX12_spelled_91 (by decide) (lv' := [(6, .long (if v4 ≤ 0 then (if v3 ≤ 0 then (if v2 ≤ 0 then (((((v0.toInt64) - (96 : Int64)) * (32 : Int64)) + (v1.toInt64)) - (96 : Int64)) else ((((((((v0.toInt64) - (96 : Int64)) * (32 : Int64)) + (v1.toInt64)) - (96 : Int64)) * (32 : Int64)) + (v2.toInt64)) - (96 : Int64))) else ((((if v2 ≤ 0 then (((((v0.toInt64) - (96 : Int64)) * (32 : Int64)) + (v1.toInt64)) - (96 : Int64)) else ((((((((v0.toInt64) - (96 : Int64)) * (32 : Int64)) + (v1.toInt64)) - (96 : Int64)) * (32 : Int64)) + (v2.toInt64)) - (96 : Int64))) * (32 : Int64)) + (v3.toInt64)) - (96 : Int64))) else ((((if v3 ≤ 0 then (if v2 ≤ 0 then (((((v0.toInt64) - (96 : Int64)) * (32 : Int64)) + (v1.toInt64)) - (96 : Int64)) else ((((((((v0.toInt64) - (96 : Int64)) * (32 : Int64)) + (v1.toInt64)) - (96 : Int64)) * (32 : Int64)) + (v2.toInt64)) - (96 : Int64))) else ((((if v2 ≤ 0 then (((((v0.toInt64) - (96 : Int64)) * (32 : Int64)) + (v1.toInt64)) - (96 : Int64)) else ((((((((v0.toInt64) - (96 : Int64)) * (32 : Int64)) + (v1.toInt64)) - (96 : Int64)) * (32 : Int64)) + (v2.toInt64)) - (96 : Int64))) * (32 : Int64)) + (v3.toInt64)) - (96 : Int64))) * (32 : Int64)) + (v4.toInt64)) - (96 : Int64)))), (5, .int v5)]) rfl ?_
        refine g_iload dX12_spelled_93 1 rfl ?_
        have hJ9 : ∀ (w8 : Int64), w8 = (if v5 ≤ 0 then (if v4 ≤ 0 then (if v3 ≤ 0 then (if v2 ≤ 0 then (((((v0.toInt64) - (96 : Int64)) * (32 : Int64)) + (v1.toInt64)) - (96 : Int64)) else ((((((((v0.toInt64) - (96 : Int64)) * (32 : Int64)) + (v1.toInt64)) - (96 : Int64)) * (32 : Int64)) + (v2.toInt64)) - (96 : Int64))) else ((((if v2 ≤ 0 then (((((v0.toInt64) - (96 : Int64)) * (32 : Int64)) + (v1.toInt64)) - (96 : Int64)) else ((((((((v0.toInt64) - (96 : Int64)) * (32 : Int64)) + (v1.toInt64)) - (96 : Int64)) * (32 : Int64)) + (v2.toInt64)) - (96 : Int64))) * (32 : Int64)) + (v3.toInt64)) - (96 : Int64))) else ((((if v3 ≤ 0 then (if v2 ≤ 0 then (((((v0.toInt64) - (96 : Int64)) * (32 : Int64)) + (v1.toInt64)) - (96 : Int64)) else ((((((((v0.toInt64) - (96 : Int64)) * (32 : Int64)) + (v1.toInt64)) - (96 : Int64)) * (32 : Int64)) + (v2.toInt64)) - (96 : Int64))) else ((((if v2 ≤ 0 then (((((v0.toInt64) - (96 : Int64)) * (32 : Int64)) + (v1.toInt64)) - (96 : Int64)) else ((((((((v0.toInt64) - (96 : Int64)) * (32 : Int64)) + (v1.toInt64)) - (96 : Int64)) * (32 : Int64)) + (v2.toInt64)) - (96 : Int64))) * (32 : Int64)) + (v3.toInt64)) - (96 : Int64))) * (32 : Int64)) + (v4.toInt64)) - (96 : Int64))) else ((((if v4 ≤ 0 then (if v3 ≤ 0 then (if v2 ≤ 0 then (((((v0.toInt64) - (96 : Int64)) * (32 : Int64)) + (v1.toInt64)) - (96 : Int64)) else ((((((((v0.toInt64) - (96 : Int64)) * (32 : Int64)) + (v1.toInt64)) - (96 : Int64)) * (32 : Int64)) + (v2.toInt64)) - (96 : Int64))) else ((((if v2 ≤ 0 then (((((v0.toInt64) - (96 : Int64)) * (32 : Int64)) + (v1.toInt64)) - (96 : Int64)) else ((((((((v0.toInt64) - (96 : Int64)) * (32 : Int64)) + (v1.toInt64)) - (96 : Int64)) * (32 : Int64)) + (v2.toInt64)) - (96 : Int64))) * (32 : Int64)) + (v3.toInt64)) - (96 : Int64))) else ((((if v3 ≤ 0 then (if v2 ≤ 0 then (((((v0.toInt64) - (96 : Int64)) * (32 : Int64)) + (v1.toInt64)) - (96 : Int64)) else ((((((((v0.toInt64) - (96 : Int64)) * (32 : Int64)) + (v1.toInt64)) - (96 : Int64)) * (32 : Int64)) + (v2.toInt64)) - (96 : Int64))) else ((((if v2 ≤ 0 then (((((v0.toInt64) - (96 : Int64)) * (32 : Int64)) + (v1.toInt64)) - (96 : Int64)) else ((((((((v0.toInt64) - (96 : Int64)) * (32 : Int64)) + (v1.toInt64)) - (96 : Int64)) * (32 : Int64)) + (v2.toInt64)) - (96 : Int64))) * (32 : Int64)) + (v3.toInt64)) - (96 : Int64))) * (32 : Int64)) + (v4.toInt64)) - (96 : Int64))) * (32 : Int64)) + (v5.toInt64)) - (96 : Int64))) → Go g RX12 cX12_spelled 8 .lreturn 1 (cvJp μ) 117 [] [.long w8] μ (some (if v5 ≤ 0 then (if v4 ≤ 0 then (if v3 ≤ 0 then (if v2 ≤ 0 then (((((v0.toInt64) - (96 : Int64)) * (32 : Int64)) + (v1.toInt64)) - (96 : Int64)) else ((((((((v0.toInt64) - (96 : Int64)) * (32 : Int64)) + (v1.toInt64)) - (96 : Int64)) * (32 : Int64)) + (v2.toInt64)) - (96 : Int64))) else ((((if v2 ≤ 0 then (((((v0.toInt64) - (96 : Int64)) * (32 : Int64)) + (v1.toInt64)) - (96 : Int64)) else ((((((((v0.toInt64) - (96 : Int64)) * (32 : Int64)) + (v1.toInt64)) - (96 : Int64)) * (32 : Int64)) + (v2.toInt64)) - (96 : Int64))) * (32 : Int64)) + (v3.toInt64)) - (96 : Int64))) else ((((if v3 ≤ 0 then (if v2 ≤ 0 then (((((v0.toInt64) - (96 : Int64)) * (32 : Int64)) + (v1.toInt64)) - (96 : Int64)) else ((((((((v0.toInt64) - (96 : Int64)) * (32 : Int64)) + (v1.toInt64)) - (96 : Int64)) * (32 : Int64)) + (v2.toInt64)) - (96 : Int64))) else ((((if v2 ≤ 0 then (((((v0.toInt64) - (96 : Int64)) * (32 : Int64)) + (v1.toInt64)) - (96 : Int64)) else ((((((((v0.toInt64) - (96 : Int64)) * (32 : Int64)) + (v1.toInt64)) - (96 : Int64)) * (32 : Int64)) + (v2.toInt64)) - (96 : Int64))) * (32 : Int64)) + (v3.toInt64)) - (96 : Int64))) * (32 : Int64)) + (v4.toInt64)) - (96 : Int64))) else ((((if v4 ≤ 0 then (if v3 ≤ 0 then (if v2 ≤ 0 then (((((v0.toInt64) - (96 : Int64)) * (32 : Int64)) + (v1.toInt64)) - (96 : Int64)) else ((((((((v0.toInt64) - (96 : Int64)) * (32 : Int64)) + (v1.toInt64)) - (96 : Int64)) * (32 : Int64)) + (v2.toInt64)) - (96 : Int64))) else ((((if v2 ≤ 0 then (((((v0.toInt64) - (96 : Int64)) * (32 : Int64)) + (v1.toInt64)) - (96 : Int64)) else ((((((((v0.toInt64) - (96 : Int64)) * (32 : Int64)) + (v1.toInt64)) - (96 : Int64)) * (32 : Int64)) + (v2.toInt64)) - (96 : Int64))) * (32 : Int64)) + (v3.toInt64)) - (96 : Int64))) else ((((if v3 ≤ 0 then (if v2 ≤ 0 then (((((v0.toInt64) - (96 : Int64)) * (32 : Int64)) + (v1.toInt64)) - (96 : Int64)) else ((((((((v0.toInt64) - (96 : Int64)) * (32 : Int64)) + (v1.toInt64)) - (96 : Int64)) * (32 : Int64)) + (v2.toInt64)) - (96 : Int64))) else ((((if v2 ≤ 0 then (((((v0.toInt64) - (96 : Int64)) * (32 : Int64)) + (v1.toInt64)) - (96 : Int64)) else ((((((((v0.toInt64) - (96 : Int64)) * (32 : Int64)) + (v1.toInt64)) - (96 : Int64)) * (32 : Int64)) + (v2.toInt64)) - (96 : Int64))) * (32 : Int64)) + (v3.toInt64)) - (96 : Int64))) * (32 : Int64)) + (v4.toInt64)) - (96 : Int64))) * (32 : Int64)) + (v5.toInt64)) - (96 : Int64)))) := by
          intro w8 ew8
          subst ew8
          exact g_ret dX12_spelled_117 rfl rfl
        refine g_same (g_if_le (tgt := 115) dX12_spelled_95 (by decide) (fun c7 => ?_) (fun c7 => ?_))
        · refine g_lload dX12_spelled_115 0 rfl ?_
          refine g_lv [] rfl ?_
          exact hJ9 _ (by rw [if_pos c7])
        · refine g_lload dX12_spelled_98 0 rfl ?_
          refine g_ldc2 kl_X12_132 dX12_spelled_100 ?_
          refine g_lmul dX12_spelled_103 ?_
          refine g_iload dX12_spelled_104 1 rfl ?_
          refine g_i2l dX12_spelled_106 ?_
          refine g_ladd dX12_spelled_107 ?_
          refine g_ldc2 kl_X12_134 dX12_spelled_108 ?_
          refine g_lsub dX12_spelled_111 ?_
          refine g_goto (tgt := 117) dX12_spelled_112 (by decide) ?_
          refine g_lv [] rfl ?_
          exact hJ9 _ (by rw [if_neg c7])
      refine g_same (g_if_le (tgt := 89) dX12_spelled_69 (by decide) (fun c5 => ?_) (fun c5 => ?_))
      · refine g_lload dX12_spelled_89 0 rfl ?_
        refine g_lv [2] rfl ?_
        exact hJ10 _ (by rw [if_pos c5])
      · refine g_lload dX12_spelled_72 0 rfl ?_
        refine g_ldc2 kl_X12_132 dX12_spelled_74 ?_
        refine g_lmul dX12_spelled_77 ?_
        refine g_iload dX12_spelled_78 1 rfl ?_
        refine g_i2l dX12_spelled_80 ?_
        refine g_ladd dX12_spelled_81 ?_
        refine g_ldc2 kl_X12_134 dX12_spelled_82 ?_
        refine g_lsub dX12_spelled_85 ?_
        refine g_goto (tgt := 91) dX12_spelled_86 (by decide) ?_
        refine g_lv [2] rfl ?_
        exact hJ10 _ (by rw [if_neg c5])
    refine g_same (g_if_le (tgt := 63) dX12_spelled_44 (by decide) (fun c3 => ?_) (fun c3 => ?_))
    · refine g_lload dX12_spelled_63 0 rfl ?_
      refine g_lv [2, 3] rfl ?_
      exact hJ11 _ (by rw [if_pos c3])
    · refine g_lload dX12_spelled_47 0 rfl ?_
      refine g_ldc2 kl_X12_132 dX12_spelled_49 ?_
      refine g_lmul dX12_spelled_52 ?_
      refine g_iload_n dX12_spelled_53 1 rfl ?_
      refine g_i2l dX12_spelled_54 ?_
      refine g_ladd dX12_spelled_55 ?_
      refine g_ldc2 kl_X12_134 dX12_spelled_56 ?_
      refine g_lsub dX12_spelled_59 ?_
      refine g_goto (tgt := 65) dX12_spelled_60 (by decide) ?_
      refine g_lv [2, 3] rfl ?_
      exact hJ11 _ (by rw [if_neg c3])
  refine g_same (g_if_le (tgt := 39) dX12_spelled_20 (by decide) (fun c1 => ?_) (fun c1 => ?_))
  · refine g_lload dX12_spelled_39 0 rfl ?_
    refine g_lv [4, 5, 6] rfl ?_
    exact hJ12 _ (by rw [if_pos c1])
  · refine g_lload dX12_spelled_23 0 rfl ?_
    refine g_ldc2 kl_X12_132 dX12_spelled_25 ?_
    refine g_lmul dX12_spelled_28 ?_
    refine g_iload_n dX12_spelled_29 3 rfl ?_
    refine g_i2l dX12_spelled_30 ?_
    refine g_ladd dX12_spelled_31 ?_
    refine g_ldc2 kl_X12_134 dX12_spelled_32 ?_
    refine g_lsub dX12_spelled_35 ?_
    refine g_goto (tgt := 41) dX12_spelled_36 (by decide) ?_
    refine g_lv [4, 5, 6] rfl ?_
    exact hJ12 _ (by rw [if_neg c1])
set_option maxHeartbeats 4000000 in
set_option maxRecDepth 100000 in
theorem ok_X12_isWord (g : GG) (v1 : Int64)  (μ : Mm) : Ct g yX12_isWord cX12_isWord 3 (some (.boolean)) 1 (cvZp μ) [.ref (gb g + 141), .long v1] μ (f_X12_isWord v1 μ) := by
  refine ct_Zp (by decide +kernel) (Nat.le_of_ble_eq_true rfl) (show Go g RX12 cX12_isWord 3 .ireturn 1 (cvZp μ) 0 [(0, .ref (gb g + 141)), (1, .long v1)] [] μ (f_X12_isWord v1 μ) from ?_)
  unfold f_X12_isWord
  refine g_aload_n dX12_isWord_0 0 rfl ?_
  refine g_getI fl_X12_123 sh_141 (by decide) rfl dX12_isWord_1 ?_
  refine g_iconst dX12_isWord_4 (v := 1) (by decide) ?_
  refine g_icmp_ne (tgt := 21) dX12_isWord_5 (by decide) (fun _ => ?_) (fun _ => ?_)
  · refine g_iconst dX12_isWord_21 (v := 0) (by decide) ?_
    exact g_ret dX12_isWord_22 rfl rfl
  · refine g_aload_n dX12_isWord_8 0 rfl ?_
    refine g_getJ fl_X12_129 sh_141 (by decide) rfl dX12_isWord_9 ?_
    refine g_lload_n dX12_isWord_12 1 rfl ?_
    refine g_lcmp dX12_isWord_13 ?_
    refine g_if_ne (tgt := 21) dX12_isWord_14 (by decide) (fun _ => ?_) (fun _ => ?_)
    · refine g_iconst dX12_isWord_21 (v := 0) (by decide) ?_
      exact g_ret dX12_isWord_22 rfl rfl
    · refine g_iconst dX12_isWord_17 (v := 1) (by decide) ?_
      refine g_goto (tgt := 22) dX12_isWord_18 (by decide) ?_
      exact g_ret dX12_isWord_22 rfl rfl
set_option maxHeartbeats 4000000 in
set_option maxRecDepth 100000 in
theorem ok_X12_isWide (g : GG)   (μ : Mm) : Ct g yX12_isWide cX12_isWide 1 (some (.boolean)) 2 (cvZp μ) [.ref (gb g + 141)] μ (f_X12_isWide  μ) := by
  refine ct_Zp (by decide +kernel) (Nat.le_of_ble_eq_true rfl) (show Go g RX12 cX12_isWide 1 .ireturn 2 (cvZp μ) 0 [(0, .ref (gb g + 141))] [] μ (f_X12_isWide  μ) from ?_)
  unfold f_X12_isWide
  refine g_aload_n dX12_isWide_0 0 rfl ?_
  refine g_bipush dX12_isWide_1 (v := 119) (by decide) ?_
  refine g_bipush dX12_isWide_3 (v := 105) (by decide) ?_
  refine g_bipush dX12_isWide_5 (v := 100) (by decide) ?_
  refine g_bipush dX12_isWide_7 (v := 101) (by decide) ?_
  refine g_iconst dX12_isWide_9 (v := 0) (by decide) ?_
  refine g_iconst dX12_isWide_10 (v := 0) (by decide) ?_
  refine g_sJp [.int 119, .int 105, .int 100, .int 101, .int 0, .int 0] [.ref (gb g + 141)] mw_X12_148 (ok_X12_spelled g 119 105 100 101 0 0 μ) (by omega) rfl rfl (Nat.le_of_ble_eq_true rfl) dX12_isWide_11 (fun x1 _ => ?_)
  refine g_vZp [.long x1] [] mw_X12_152 (ok_X12_isWord g x1 μ) (by omega) sh_141 (by decide) rfl rfl (Nat.le_of_ble_eq_true rfl) dX12_isWide_14 (fun x2 _ => ?_)
  exact g_ret dX12_isWide_17 rfl rfl
set_option maxHeartbeats 4000000 in
set_option maxRecDepth 100000 in
theorem ok_X12_isTap (g : GG)   (μ : Mm) : Ct g yX12_isTap cX12_isTap 1 (some (.boolean)) 2 (cvZp μ) [.ref (gb g + 141)] μ (f_X12_isTap  μ) := by
  refine ct_Zp (by decide +kernel) (Nat.le_of_ble_eq_true rfl) (show Go g RX12 cX12_isTap 1 .ireturn 2 (cvZp μ) 0 [(0, .ref (gb g + 141))] [] μ (f_X12_isTap  μ) from ?_)
  unfold f_X12_isTap
  refine g_aload_n dX12_isTap_0 0 rfl ?_
  refine g_bipush dX12_isTap_1 (v := 116) (by decide) ?_
  refine g_bipush dX12_isTap_3 (v := 97) (by decide) ?_
  refine g_bipush dX12_isTap_5 (v := 112) (by decide) ?_
  refine g_iconst dX12_isTap_7 (v := 0) (by decide) ?_
  refine g_iconst dX12_isTap_8 (v := 0) (by decide) ?_
  refine g_iconst dX12_isTap_9 (v := 0) (by decide) ?_
  refine g_sJp [.int 116, .int 97, .int 112, .int 0, .int 0, .int 0] [.ref (gb g + 141)] mw_X12_148 (ok_X12_spelled g 116 97 112 0 0 0 μ) (by omega) rfl rfl (Nat.le_of_ble_eq_true rfl) dX12_isTap_10 (fun x1 _ => ?_)
  refine g_vZp [.long x1] [] mw_X12_152 (ok_X12_isWord g x1 μ) (by omega) sh_141 (by decide) rfl rfl (Nat.le_of_ble_eq_true rfl) dX12_isTap_13 (fun x2 _ => ?_)
  exact g_ret dX12_isTap_16 rfl rfl
set_option maxHeartbeats 4000000 in
set_option maxRecDepth 100000 in
theorem ok_X12_isOdds (g : GG)   (μ : Mm) : Ct g yX12_isOdds cX12_isOdds 1 (some (.boolean)) 2 (cvZp μ) [.ref (gb g + 141)] μ (f_X12_isOdds  μ) := by
  refine ct_Zp (by decide +kernel) (Nat.le_of_ble_eq_true rfl) (show Go g RX12 cX12_isOdds 1 .ireturn 2 (cvZp μ) 0 [(0, .ref (gb g + 141))] [] μ (f_X12_isOdds  μ) from ?_)
  unfold f_X12_isOdds
  refine g_aload_n dX12_isOdds_0 0 rfl ?_
  refine g_bipush dX12_isOdds_1 (v := 111) (by decide) ?_
  refine g_bipush dX12_isOdds_3 (v := 100) (by decide) ?_
  refine g_bipush dX12_isOdds_5 (v := 100) (by decide) ?_
  refine g_bipush dX12_isOdds_7 (v := 115) (by decide) ?_
  refine g_iconst dX12_isOdds_9 (v := 0) (by decide) ?_
  refine g_iconst dX12_isOdds_10 (v := 0) (by decide) ?_
  refine g_sJp [.int 111, .int 100, .int 100, .int 115, .int 0, .int 0] [.ref (gb g + 141)] mw_X12_148 (ok_X12_spelled g 111 100 100 115 0 0 μ) (by omega) rfl rfl (Nat.le_of_ble_eq_true rfl) dX12_isOdds_11 (fun x1 _ => ?_)
  refine g_vZp [.long x1] [] mw_X12_152 (ok_X12_isWord g x1 μ) (by omega) sh_141 (by decide) rfl rfl (Nat.le_of_ble_eq_true rfl) dX12_isOdds_14 (fun x2 _ => ?_)
  exact g_ret dX12_isOdds_17 rfl rfl
set_option maxHeartbeats 4000000 in
set_option maxRecDepth 100000 in
theorem ok_X12_isAccount (g : GG)   (μ : Mm) : Ct g yX12_isAccount cX12_isAccount 1 (some (.boolean)) 2 (cvZp μ) [.ref (gb g + 141)] μ (f_X12_isAccount  μ) := by
  refine ct_Zp (by decide +kernel) (Nat.le_of_ble_eq_true rfl) (show Go g RX12 cX12_isAccount 1 .ireturn 2 (cvZp μ) 0 [(0, .ref (gb g + 141))] [] μ (f_X12_isAccount  μ) from ?_)
  unfold f_X12_isAccount
  refine g_aload_n dX12_isAccount_0 0 rfl ?_
  refine g_bipush dX12_isAccount_1 (v := 97) (by decide) ?_
  refine g_bipush dX12_isAccount_3 (v := 99) (by decide) ?_
  refine g_bipush dX12_isAccount_5 (v := 99) (by decide) ?_
  refine g_bipush dX12_isAccount_7 (v := 111) (by decide) ?_
  refine g_bipush dX12_isAccount_9 (v := 117) (by decide) ?_
  refine g_bipush dX12_isAccount_11 (v := 110) (by decide) ?_
  refine g_sJp [.int 97, .int 99, .int 99, .int 111, .int 117, .int 110] [.ref (gb g + 141)] mw_X12_148 (ok_X12_spelled g 97 99 99 111 117 110 μ) (by omega) rfl rfl (Nat.le_of_ble_eq_true rfl) dX12_isAccount_13 (fun x1 _ => ?_)
  refine g_ldc2 kl_X12_132 dX12_isAccount_16 ?_
  refine g_lmul dX12_isAccount_19 ?_
  refine g_ldc2 kl_X12_156 dX12_isAccount_20 ?_
  refine g_ladd dX12_isAccount_23 ?_
  refine g_vZp [.long ((x1 * (32 : Int64)) + (20 : Int64))] [] mw_X12_152 (ok_X12_isWord g ((x1 * (32 : Int64)) + (20 : Int64)) μ) (by omega) sh_141 (by decide) rfl rfl (Nat.le_of_ble_eq_true rfl) dX12_isAccount_24 (fun x2 _ => ?_)
  exact g_ret dX12_isAccount_27 rfl rfl
set_option maxHeartbeats 4000000 in
set_option maxRecDepth 100000 in
theorem ok_X12_isLaw (g : GG)   (μ : Mm) : Ct g yX12_isLaw cX12_isLaw 1 (some (.boolean)) 2 (cvZp μ) [.ref (gb g + 141)] μ (f_X12_isLaw  μ) := by
  refine ct_Zp (by decide +kernel) (Nat.le_of_ble_eq_true rfl) (show Go g RX12 cX12_isLaw 1 .ireturn 2 (cvZp μ) 0 [(0, .ref (gb g + 141))] [] μ (f_X12_isLaw  μ) from ?_)
  unfold f_X12_isLaw
  refine g_aload_n dX12_isLaw_0 0 rfl ?_
  refine g_bipush dX12_isLaw_1 (v := 108) (by decide) ?_
  refine g_bipush dX12_isLaw_3 (v := 97) (by decide) ?_
  refine g_bipush dX12_isLaw_5 (v := 119) (by decide) ?_
  refine g_iconst dX12_isLaw_7 (v := 0) (by decide) ?_
  refine g_iconst dX12_isLaw_8 (v := 0) (by decide) ?_
  refine g_iconst dX12_isLaw_9 (v := 0) (by decide) ?_
  refine g_sJp [.int 108, .int 97, .int 119, .int 0, .int 0, .int 0] [.ref (gb g + 141)] mw_X12_148 (ok_X12_spelled g 108 97 119 0 0 0 μ) (by omega) rfl rfl (Nat.le_of_ble_eq_true rfl) dX12_isLaw_10 (fun x1 _ => ?_)
  refine g_vZp [.long x1] [] mw_X12_152 (ok_X12_isWord g x1 μ) (by omega) sh_141 (by decide) rfl rfl (Nat.le_of_ble_eq_true rfl) dX12_isLaw_13 (fun x2 _ => ?_)
  exact g_ret dX12_isLaw_16 rfl rfl
set_option maxHeartbeats 4000000 in
set_option maxRecDepth 100000 in
theorem ok_X12_isBecomes (g : GG)   (μ : Mm) : Ct g yX12_isBecomes cX12_isBecomes 1 (some (.boolean)) 2 (cvZp μ) [.ref (gb g + 141)] μ (f_X12_isBecomes  μ) := by
  refine ct_Zp (by decide +kernel) (Nat.le_of_ble_eq_true rfl) (show Go g RX12 cX12_isBecomes 1 .ireturn 2 (cvZp μ) 0 [(0, .ref (gb g + 141))] [] μ (f_X12_isBecomes  μ) from ?_)
  unfold f_X12_isBecomes
  refine g_aload_n dX12_isBecomes_0 0 rfl ?_
  refine g_bipush dX12_isBecomes_1 (v := 98) (by decide) ?_
  refine g_bipush dX12_isBecomes_3 (v := 101) (by decide) ?_
  refine g_bipush dX12_isBecomes_5 (v := 99) (by decide) ?_
  refine g_bipush dX12_isBecomes_7 (v := 111) (by decide) ?_
  refine g_bipush dX12_isBecomes_9 (v := 109) (by decide) ?_
  refine g_bipush dX12_isBecomes_11 (v := 101) (by decide) ?_
  refine g_sJp [.int 98, .int 101, .int 99, .int 111, .int 109, .int 101] [.ref (gb g + 141)] mw_X12_148 (ok_X12_spelled g 98 101 99 111 109 101 μ) (by omega) rfl rfl (Nat.le_of_ble_eq_true rfl) dX12_isBecomes_13 (fun x1 _ => ?_)
  refine g_ldc2 kl_X12_132 dX12_isBecomes_16 ?_
  refine g_lmul dX12_isBecomes_19 ?_
  refine g_ldc2 kl_X12_158 dX12_isBecomes_20 ?_
  refine g_ladd dX12_isBecomes_23 ?_
  refine g_vZp [.long ((x1 * (32 : Int64)) + (19 : Int64))] [] mw_X12_152 (ok_X12_isWord g ((x1 * (32 : Int64)) + (19 : Int64)) μ) (by omega) sh_141 (by decide) rfl rfl (Nat.le_of_ble_eq_true rfl) dX12_isBecomes_24 (fun x2 _ => ?_)
  exact g_ret dX12_isBecomes_27 rfl rfl
set_option maxHeartbeats 4000000 in
set_option maxRecDepth 100000 in
theorem ok_X12_isWatch (g : GG)   (μ : Mm) : Ct g yX12_isWatch cX12_isWatch 1 (some (.boolean)) 2 (cvZp μ) [.ref (gb g + 141)] μ (f_X12_isWatch  μ) := by
  refine ct_Zp (by decide +kernel) (Nat.le_of_ble_eq_true rfl) (show Go g RX12 cX12_isWatch 1 .ireturn 2 (cvZp μ) 0 [(0, .ref (gb g + 141))] [] μ (f_X12_isWatch  μ) from ?_)
  unfold f_X12_isWatch
  refine g_aload_n dX12_isWatch_0 0 rfl ?_
  refine g_bipush dX12_isWatch_1 (v := 119) (by decide) ?_
  refine g_bipush dX12_isWatch_3 (v := 97) (by decide) ?_
  refine g_bipush dX12_isWatch_5 (v := 116) (by decide) ?_
  refine g_bipush dX12_isWatch_7 (v := 99) (by decide) ?_
  refine g_bipush dX12_isWatch_9 (v := 104) (by decide) ?_
  refine g_iconst dX12_isWatch_11 (v := 0) (by decide) ?_
  refine g_sJp [.int 119, .int 97, .int 116, .int 99, .int 104, .int 0] [.ref (gb g + 141)] mw_X12_148 (ok_X12_spelled g 119 97 116 99 104 0 μ) (by omega) rfl rfl (Nat.le_of_ble_eq_true rfl) dX12_isWatch_12 (fun x1 _ => ?_)
  refine g_vZp [.long x1] [] mw_X12_152 (ok_X12_isWord g x1 μ) (by omega) sh_141 (by decide) rfl rfl (Nat.le_of_ble_eq_true rfl) dX12_isWatch_15 (fun x2 _ => ?_)
  exact g_ret dX12_isWatch_18 rfl rfl
set_option maxHeartbeats 4000000 in
set_option maxRecDepth 100000 in
theorem ok_X12_kindWord (g : GG)   (μ : Mm) : Ct g yX12_kindWord cX12_kindWord 1 (some (.int)) 2 (cvIp μ) [.ref (gb g + 141)] μ (f_X12_kindWord  μ) := by
  refine ct_Ip (by decide +kernel) (Nat.le_of_ble_eq_true rfl) (show Go g RX12 cX12_kindWord 1 .ireturn 2 (cvIp μ) 0 [(0, .ref (gb g + 141))] [] μ (f_X12_kindWord  μ) from ?_)
  unfold f_X12_kindWord
  refine g_aload_n dX12_kindWord_0 0 rfl ?_
  refine g_bipush dX12_kindWord_1 (v := 100) (by decide) ?_
  refine g_bipush dX12_kindWord_3 (v := 101) (by decide) ?_
  refine g_bipush dX12_kindWord_5 (v := 98) (by decide) ?_
  refine g_bipush dX12_kindWord_7 (v := 105) (by decide) ?_
  refine g_bipush dX12_kindWord_9 (v := 116) (by decide) ?_
  refine g_iconst dX12_kindWord_11 (v := 0) (by decide) ?_
  refine g_sJp [.int 100, .int 101, .int 98, .int 105, .int 116, .int 0] [.ref (gb g + 141)] mw_X12_148 (ok_X12_spelled g 100 101 98 105 116 0 μ) (by omega) rfl rfl (Nat.le_of_ble_eq_true rfl) dX12_kindWord_12 (fun x1 _ => ?_)
  refine g_vZp [.long x1] [] mw_X12_152 (ok_X12_isWord g x1 μ) (by omega) sh_141 (by decide) rfl rfl (Nat.le_of_ble_eq_true rfl) dX12_kindWord_15 (fun x2 _ => ?_)
  refine g_ifeqB (tgt := 23) dX12_kindWord_18 (by decide) (fun _ => ?_) (fun _ => ?_)
  · refine g_aload_n dX12_kindWord_23 0 rfl ?_
    refine g_bipush dX12_kindWord_24 (v := 99) (by decide) ?_
    refine g_bipush dX12_kindWord_26 (v := 114) (by decide) ?_
    refine g_bipush dX12_kindWord_28 (v := 101) (by decide) ?_
    refine g_bipush dX12_kindWord_30 (v := 100) (by decide) ?_
    refine g_bipush dX12_kindWord_32 (v := 105) (by decide) ?_
    refine g_bipush dX12_kindWord_34 (v := 116) (by decide) ?_
    refine g_sJp [.int 99, .int 114, .int 101, .int 100, .int 105, .int 116] [.ref (gb g + 141)] mw_X12_148 (ok_X12_spelled g 99 114 101 100 105 116 μ) (by omega) rfl rfl (Nat.le_of_ble_eq_true rfl) dX12_kindWord_36 (fun x3 _ => ?_)
    refine g_vZp [.long x3] [] mw_X12_152 (ok_X12_isWord g x3 μ) (by omega) sh_141 (by decide) rfl rfl (Nat.le_of_ble_eq_true rfl) dX12_kindWord_39 (fun x4 _ => ?_)
    have hJ7 : ∀ (w6 : Int32), w6 = (if x4 = true then (1 : Int32) else (-1)) → Go g RX12 cX12_kindWord 1 .ireturn 2 (cvIp μ) 50 [] [.int w6] μ (some (if x4 = true then (1 : Int32) else (-1))) := by
      intro w6 ew6
      subst ew6
      exact g_ret dX12_kindWord_50 rfl rfl
    refine g_same (g_ifeqB (tgt := 49) dX12_kindWord_42 (by decide) (fun c5 => ?_) (fun c5 => ?_))
    · refine g_iconst dX12_kindWord_49 (v := (-1)) (by decide) ?_
      refine g_lv [] rfl ?_
      exact hJ7 _ (by rw [if_neg c5])
    · refine g_iconst dX12_kindWord_45 (v := 1) (by decide) ?_
      refine g_goto (tgt := 50) dX12_kindWord_46 (by decide) ?_
      refine g_lv [] rfl ?_
      exact hJ7 _ (by rw [if_pos c5])
  · refine g_iconst dX12_kindWord_21 (v := 0) (by decide) ?_
    exact g_ret dX12_kindWord_22 rfl rfl
set_option maxHeartbeats 4000000 in
set_option maxRecDepth 100000 in
theorem ok_X12_placeWord (g : GG)   (μ : Mm) : Ct g yX12_placeWord cX12_placeWord 1 (some (.int)) 2 (cvIp μ) [.ref (gb g + 141)] μ (f_X12_placeWord  μ) := by
  refine ct_Ip (by decide +kernel) (Nat.le_of_ble_eq_true rfl) (show Go g RX12 cX12_placeWord 1 .ireturn 2 (cvIp μ) 0 [(0, .ref (gb g + 141))] [] μ (f_X12_placeWord  μ) from ?_)
  unfold f_X12_placeWord
  refine g_aload_n dX12_placeWord_0 0 rfl ?_
  refine g_bipush dX12_placeWord_1 (v := 108) (by decide) ?_
  refine g_bipush dX12_placeWord_3 (v := 101) (by decide) ?_
  refine g_bipush dX12_placeWord_5 (v := 102) (by decide) ?_
  refine g_bipush dX12_placeWord_7 (v := 116) (by decide) ?_
  refine g_iconst dX12_placeWord_9 (v := 0) (by decide) ?_
  refine g_iconst dX12_placeWord_10 (v := 0) (by decide) ?_
  refine g_sJp [.int 108, .int 101, .int 102, .int 116, .int 0, .int 0] [.ref (gb g + 141)] mw_X12_148 (ok_X12_spelled g 108 101 102 116 0 0 μ) (by omega) rfl rfl (Nat.le_of_ble_eq_true rfl) dX12_placeWord_11 (fun x1 _ => ?_)
  refine g_vZp [.long x1] [] mw_X12_152 (ok_X12_isWord g x1 μ) (by omega) sh_141 (by decide) rfl rfl (Nat.le_of_ble_eq_true rfl) dX12_placeWord_14 (fun x2 _ => ?_)
  refine g_ifeqB (tgt := 22) dX12_placeWord_17 (by decide) (fun _ => ?_) (fun _ => ?_)
  · refine g_aload_n dX12_placeWord_22 0 rfl ?_
    refine g_bipush dX12_placeWord_23 (v := 114) (by decide) ?_
    refine g_bipush dX12_placeWord_25 (v := 105) (by decide) ?_
    refine g_bipush dX12_placeWord_27 (v := 103) (by decide) ?_
    refine g_bipush dX12_placeWord_29 (v := 104) (by decide) ?_
    refine g_bipush dX12_placeWord_31 (v := 116) (by decide) ?_
    refine g_iconst dX12_placeWord_33 (v := 0) (by decide) ?_
    refine g_sJp [.int 114, .int 105, .int 103, .int 104, .int 116, .int 0] [.ref (gb g + 141)] mw_X12_148 (ok_X12_spelled g 114 105 103 104 116 0 μ) (by omega) rfl rfl (Nat.le_of_ble_eq_true rfl) dX12_placeWord_34 (fun x3 _ => ?_)
    refine g_vZp [.long x3] [] mw_X12_152 (ok_X12_isWord g x3 μ) (by omega) sh_141 (by decide) rfl rfl (Nat.le_of_ble_eq_true rfl) dX12_placeWord_37 (fun x4 _ => ?_)
    refine g_ifeqB (tgt := 45) dX12_placeWord_40 (by decide) (fun _ => ?_) (fun _ => ?_)
    · refine g_aload_n dX12_placeWord_45 0 rfl ?_
      refine g_bipush dX12_placeWord_46 (v := 97) (by decide) ?_
      refine g_bipush dX12_placeWord_48 (v := 98) (by decide) ?_
      refine g_bipush dX12_placeWord_50 (v := 111) (by decide) ?_
      refine g_bipush dX12_placeWord_52 (v := 118) (by decide) ?_
      refine g_bipush dX12_placeWord_54 (v := 101) (by decide) ?_
      refine g_iconst dX12_placeWord_56 (v := 0) (by decide) ?_
      refine g_sJp [.int 97, .int 98, .int 111, .int 118, .int 101, .int 0] [.ref (gb g + 141)] mw_X12_148 (ok_X12_spelled g 97 98 111 118 101 0 μ) (by omega) rfl rfl (Nat.le_of_ble_eq_true rfl) dX12_placeWord_57 (fun x5 _ => ?_)
      refine g_vZp [.long x5] [] mw_X12_152 (ok_X12_isWord g x5 μ) (by omega) sh_141 (by decide) rfl rfl (Nat.le_of_ble_eq_true rfl) dX12_placeWord_60 (fun x6 _ => ?_)
      refine g_ifeqB (tgt := 68) dX12_placeWord_63 (by decide) (fun _ => ?_) (fun _ => ?_)
      · refine g_aload_n dX12_placeWord_68 0 rfl ?_
        refine g_bipush dX12_placeWord_69 (v := 98) (by decide) ?_
        refine g_bipush dX12_placeWord_71 (v := 101) (by decide) ?_
        refine g_bipush dX12_placeWord_73 (v := 108) (by decide) ?_
        refine g_bipush dX12_placeWord_75 (v := 111) (by decide) ?_
        refine g_bipush dX12_placeWord_77 (v := 119) (by decide) ?_
        refine g_iconst dX12_placeWord_79 (v := 0) (by decide) ?_
        refine g_sJp [.int 98, .int 101, .int 108, .int 111, .int 119, .int 0] [.ref (gb g + 141)] mw_X12_148 (ok_X12_spelled g 98 101 108 111 119 0 μ) (by omega) rfl rfl (Nat.le_of_ble_eq_true rfl) dX12_placeWord_80 (fun x7 _ => ?_)
        refine g_vZp [.long x7] [] mw_X12_152 (ok_X12_isWord g x7 μ) (by omega) sh_141 (by decide) rfl rfl (Nat.le_of_ble_eq_true rfl) dX12_placeWord_83 (fun x8 _ => ?_)
        have hJ11 : ∀ (w10 : Int32), w10 = (if x8 = true then (4 : Int32) else (-1)) → Go g RX12 cX12_placeWord 1 .ireturn 2 (cvIp μ) 94 [] [.int w10] μ (some (if x8 = true then (4 : Int32) else (-1))) := by
          intro w10 ew10
          subst ew10
          exact g_ret dX12_placeWord_94 rfl rfl
        refine g_same (g_ifeqB (tgt := 93) dX12_placeWord_86 (by decide) (fun c9 => ?_) (fun c9 => ?_))
        · refine g_iconst dX12_placeWord_93 (v := (-1)) (by decide) ?_
          refine g_lv [] rfl ?_
          exact hJ11 _ (by rw [if_neg c9])
        · refine g_iconst dX12_placeWord_89 (v := 4) (by decide) ?_
          refine g_goto (tgt := 94) dX12_placeWord_90 (by decide) ?_
          refine g_lv [] rfl ?_
          exact hJ11 _ (by rw [if_pos c9])
      · refine g_iconst dX12_placeWord_66 (v := 3) (by decide) ?_
        exact g_ret dX12_placeWord_67 rfl rfl
    · refine g_iconst dX12_placeWord_43 (v := 2) (by decide) ?_
      exact g_ret dX12_placeWord_44 rfl rfl
  · refine g_iconst dX12_placeWord_20 (v := 1) (by decide) ?_
    exact g_ret dX12_placeWord_21 rfl rfl
set_option maxHeartbeats 4000000 in
set_option maxRecDepth 100000 in
theorem ok_X12_wayWord (g : GG)   (μ : Mm) : Ct g yX12_wayWord cX12_wayWord 1 (some (.int)) 3 (cvIp μ) [.ref (gb g + 141)] μ (f_X12_wayWord  μ) := by
  refine ct_Ip (by decide +kernel) (Nat.le_of_ble_eq_true rfl) (show Go g RX12 cX12_wayWord 1 .ireturn 3 (cvIp μ) 0 [(0, .ref (gb g + 141))] [] μ (f_X12_wayWord  μ) from ?_)
  unfold f_X12_wayWord
  refine g_aload_n dX12_wayWord_0 0 rfl ?_
  refine g_bipush dX12_wayWord_1 (v := 117) (by decide) ?_
  refine g_bipush dX12_wayWord_3 (v := 112) (by decide) ?_
  refine g_iconst dX12_wayWord_5 (v := 0) (by decide) ?_
  refine g_iconst dX12_wayWord_6 (v := 0) (by decide) ?_
  refine g_iconst dX12_wayWord_7 (v := 0) (by decide) ?_
  refine g_iconst dX12_wayWord_8 (v := 0) (by decide) ?_
  refine g_sJp [.int 117, .int 112, .int 0, .int 0, .int 0, .int 0] [.ref (gb g + 141)] mw_X12_148 (ok_X12_spelled g 117 112 0 0 0 0 μ) (by omega) rfl rfl (Nat.le_of_ble_eq_true rfl) dX12_wayWord_9 (fun x1 _ => ?_)
  refine g_vZp [.long x1] [] mw_X12_152 (ok_X12_isWord g x1 μ) (by omega) sh_141 (by decide) rfl rfl (Nat.le_of_ble_eq_true rfl) dX12_wayWord_12 (fun x2 _ => ?_)
  refine g_ifeqB (tgt := 20) dX12_wayWord_15 (by decide) (fun _ => ?_) (fun _ => ?_)
  · refine g_aload_n dX12_wayWord_20 0 rfl ?_
    refine g_bipush dX12_wayWord_21 (v := 100) (by decide) ?_
    refine g_bipush dX12_wayWord_23 (v := 111) (by decide) ?_
    refine g_bipush dX12_wayWord_25 (v := 119) (by decide) ?_
    refine g_bipush dX12_wayWord_27 (v := 110) (by decide) ?_
    refine g_iconst dX12_wayWord_29 (v := 0) (by decide) ?_
    refine g_iconst dX12_wayWord_30 (v := 0) (by decide) ?_
    refine g_sJp [.int 100, .int 111, .int 119, .int 110, .int 0, .int 0] [.ref (gb g + 141)] mw_X12_148 (ok_X12_spelled g 100 111 119 110 0 0 μ) (by omega) rfl rfl (Nat.le_of_ble_eq_true rfl) dX12_wayWord_31 (fun x3 _ => ?_)
    refine g_vZp [.long x3] [] mw_X12_152 (ok_X12_isWord g x3 μ) (by omega) sh_141 (by decide) rfl rfl (Nat.le_of_ble_eq_true rfl) dX12_wayWord_34 (fun x4 _ => ?_)
    refine g_ifeqB (tgt := 42) dX12_wayWord_37 (by decide) (fun _ => ?_) (fun _ => ?_)
    · refine g_aload_n dX12_wayWord_42 0 rfl ?_
      refine g_vIp [] [] mw_X12_160 (ok_X12_placeWord g μ) (by omega) sh_141 (by decide) rfl rfl (Nat.le_of_ble_eq_true rfl) dX12_wayWord_43 (fun x5 _ => ?_)
      refine g_iconst dX12_wayWord_46 (v := 1) (by decide) ?_
      refine g_icmp_eq (tgt := 58) dX12_wayWord_47 (by decide) (fun _ => ?_) (fun _ => ?_)
      · refine g_aload_n dX12_wayWord_58 0 rfl ?_
        refine g_vIp [] [] mw_X12_160 (ok_X12_placeWord g μ) (by omega) sh_141 (by decide) rfl rfl (Nat.le_of_ble_eq_true rfl) dX12_wayWord_59 (fun x6 _ => ?_)
        refine g_iconst dX12_wayWord_62 (v := 1) (by decide) ?_
        refine g_iadd dX12_wayWord_63 ?_
        exact g_ret dX12_wayWord_64 rfl rfl
      · refine g_aload_n dX12_wayWord_50 0 rfl ?_
        refine g_vIp [] [] mw_X12_160 (ok_X12_placeWord g μ) (by omega) sh_141 (by decide) rfl rfl (Nat.le_of_ble_eq_true rfl) dX12_wayWord_51 (fun x7 _ => ?_)
        refine g_iconst dX12_wayWord_54 (v := 2) (by decide) ?_
        refine g_icmp_ne (tgt := 65) dX12_wayWord_55 (by decide) (fun _ => ?_) (fun _ => ?_)
        · refine g_aload_n dX12_wayWord_65 0 rfl ?_
          refine g_bipush dX12_wayWord_66 (v := 115) (by decide) ?_
          refine g_bipush dX12_wayWord_68 (v := 116) (by decide) ?_
          refine g_bipush dX12_wayWord_70 (v := 97) (by decide) ?_
          refine g_bipush dX12_wayWord_72 (v := 121) (by decide) ?_
          refine g_iconst dX12_wayWord_74 (v := 0) (by decide) ?_
          refine g_iconst dX12_wayWord_75 (v := 0) (by decide) ?_
          refine g_sJp [.int 115, .int 116, .int 97, .int 121, .int 0, .int 0] [.ref (gb g + 141)] mw_X12_148 (ok_X12_spelled g 115 116 97 121 0 0 μ) (by omega) rfl rfl (Nat.le_of_ble_eq_true rfl) dX12_wayWord_76 (fun x8 _ => ?_)
          refine g_vZp [.long x8] [] mw_X12_152 (ok_X12_isWord g x8 μ) (by omega) sh_141 (by decide) rfl rfl (Nat.le_of_ble_eq_true rfl) dX12_wayWord_79 (fun x9 _ => ?_)
          have hJ12 : ∀ (w11 : Int32), w11 = (if x9 = true then (4 : Int32) else (-1)) → Go g RX12 cX12_wayWord 1 .ireturn 3 (cvIp μ) 90 [] [.int w11] μ (some (if x9 = true then (4 : Int32) else (-1))) := by
            intro w11 ew11
            subst ew11
            exact g_ret dX12_wayWord_90 rfl rfl
          refine g_same (g_ifeqB (tgt := 89) dX12_wayWord_82 (by decide) (fun c10 => ?_) (fun c10 => ?_))
          · refine g_iconst dX12_wayWord_89 (v := (-1)) (by decide) ?_
            refine g_lv [] rfl ?_
            exact hJ12 _ (by rw [if_neg c10])
          · refine g_iconst dX12_wayWord_85 (v := 4) (by decide) ?_
            refine g_goto (tgt := 90) dX12_wayWord_86 (by decide) ?_
            refine g_lv [] rfl ?_
            exact hJ12 _ (by rw [if_pos c10])
        · refine g_aload_n dX12_wayWord_58 0 rfl ?_
          refine g_vIp [] [] mw_X12_160 (ok_X12_placeWord g μ) (by omega) sh_141 (by decide) rfl rfl (Nat.le_of_ble_eq_true rfl) dX12_wayWord_59 (fun x13 _ => ?_)
          refine g_iconst dX12_wayWord_62 (v := 1) (by decide) ?_
          refine g_iadd dX12_wayWord_63 ?_
          exact g_ret dX12_wayWord_64 rfl rfl
    · refine g_iconst dX12_wayWord_40 (v := 1) (by decide) ?_
      exact g_ret dX12_wayWord_41 rfl rfl
  · refine g_iconst dX12_wayWord_18 (v := 0) (by decide) ?_
    exact g_ret dX12_wayWord_19 rfl rfl
set_option maxHeartbeats 4000000 in
set_option maxRecDepth 100000 in
theorem ok_X12_orderWord (g : GG)   (μ : Mm) : Ct g yX12_orderWord cX12_orderWord 1 (some (.int)) 2 (cvIp μ) [.ref (gb g + 141)] μ (f_X12_orderWord  μ) := by
  refine ct_Ip (by decide +kernel) (Nat.le_of_ble_eq_true rfl) (show Go g RX12 cX12_orderWord 1 .ireturn 2 (cvIp μ) 0 [(0, .ref (gb g + 141))] [] μ (f_X12_orderWord  μ) from ?_)
  unfold f_X12_orderWord
  refine g_aload_n dX12_orderWord_0 0 rfl ?_
  refine g_bipush dX12_orderWord_1 (v := 115) (by decide) ?_
  refine g_bipush dX12_orderWord_3 (v := 116) (by decide) ?_
  refine g_bipush dX12_orderWord_5 (v := 101) (by decide) ?_
  refine g_bipush dX12_orderWord_7 (v := 112) (by decide) ?_
  refine g_iconst dX12_orderWord_9 (v := 0) (by decide) ?_
  refine g_iconst dX12_orderWord_10 (v := 0) (by decide) ?_
  refine g_sJp [.int 115, .int 116, .int 101, .int 112, .int 0, .int 0] [.ref (gb g + 141)] mw_X12_148 (ok_X12_spelled g 115 116 101 112 0 0 μ) (by omega) rfl rfl (Nat.le_of_ble_eq_true rfl) dX12_orderWord_11 (fun x1 _ => ?_)
  refine g_vZp [.long x1] [] mw_X12_152 (ok_X12_isWord g x1 μ) (by omega) sh_141 (by decide) rfl rfl (Nat.le_of_ble_eq_true rfl) dX12_orderWord_14 (fun x2 _ => ?_)
  refine g_ifeqB (tgt := 22) dX12_orderWord_17 (by decide) (fun _ => ?_) (fun _ => ?_)
  · refine g_aload_n dX12_orderWord_22 0 rfl ?_
    refine g_bipush dX12_orderWord_23 (v := 100) (by decide) ?_
    refine g_bipush dX12_orderWord_25 (v := 111) (by decide) ?_
    refine g_bipush dX12_orderWord_27 (v := 122) (by decide) ?_
    refine g_bipush dX12_orderWord_29 (v := 101) (by decide) ?_
    refine g_iconst dX12_orderWord_31 (v := 0) (by decide) ?_
    refine g_iconst dX12_orderWord_32 (v := 0) (by decide) ?_
    refine g_sJp [.int 100, .int 111, .int 122, .int 101, .int 0, .int 0] [.ref (gb g + 141)] mw_X12_148 (ok_X12_spelled g 100 111 122 101 0 0 μ) (by omega) rfl rfl (Nat.le_of_ble_eq_true rfl) dX12_orderWord_33 (fun x3 _ => ?_)
    refine g_vZp [.long x3] [] mw_X12_152 (ok_X12_isWord g x3 μ) (by omega) sh_141 (by decide) rfl rfl (Nat.le_of_ble_eq_true rfl) dX12_orderWord_36 (fun x4 _ => ?_)
    refine g_ifeqB (tgt := 44) dX12_orderWord_39 (by decide) (fun _ => ?_) (fun _ => ?_)
    · refine g_aload_n dX12_orderWord_44 0 rfl ?_
      refine g_bipush dX12_orderWord_45 (v := 109) (by decide) ?_
      refine g_bipush dX12_orderWord_47 (v := 101) (by decide) ?_
      refine g_bipush dX12_orderWord_49 (v := 110) (by decide) ?_
      refine g_bipush dX12_orderWord_51 (v := 100) (by decide) ?_
      refine g_iconst dX12_orderWord_53 (v := 0) (by decide) ?_
      refine g_iconst dX12_orderWord_54 (v := 0) (by decide) ?_
      refine g_sJp [.int 109, .int 101, .int 110, .int 100, .int 0, .int 0] [.ref (gb g + 141)] mw_X12_148 (ok_X12_spelled g 109 101 110 100 0 0 μ) (by omega) rfl rfl (Nat.le_of_ble_eq_true rfl) dX12_orderWord_55 (fun x5 _ => ?_)
      refine g_vZp [.long x5] [] mw_X12_152 (ok_X12_isWord g x5 μ) (by omega) sh_141 (by decide) rfl rfl (Nat.le_of_ble_eq_true rfl) dX12_orderWord_58 (fun x6 _ => ?_)
      refine g_ifeqB (tgt := 66) dX12_orderWord_61 (by decide) (fun _ => ?_) (fun _ => ?_)
      · refine g_aload_n dX12_orderWord_66 0 rfl ?_
        refine g_bipush dX12_orderWord_67 (v := 115) (by decide) ?_
        refine g_bipush dX12_orderWord_69 (v := 116) (by decide) ?_
        refine g_bipush dX12_orderWord_71 (v := 101) (by decide) ?_
        refine g_bipush dX12_orderWord_73 (v := 97) (by decide) ?_
        refine g_bipush dX12_orderWord_75 (v := 108) (by decide) ?_
        refine g_iconst dX12_orderWord_77 (v := 0) (by decide) ?_
        refine g_sJp [.int 115, .int 116, .int 101, .int 97, .int 108, .int 0] [.ref (gb g + 141)] mw_X12_148 (ok_X12_spelled g 115 116 101 97 108 0 μ) (by omega) rfl rfl (Nat.le_of_ble_eq_true rfl) dX12_orderWord_78 (fun x7 _ => ?_)
        refine g_vZp [.long x7] [] mw_X12_152 (ok_X12_isWord g x7 μ) (by omega) sh_141 (by decide) rfl rfl (Nat.le_of_ble_eq_true rfl) dX12_orderWord_81 (fun x8 _ => ?_)
        refine g_ifeqB (tgt := 89) dX12_orderWord_84 (by decide) (fun _ => ?_) (fun _ => ?_)
        · refine g_aload_n dX12_orderWord_89 0 rfl ?_
          refine g_bipush dX12_orderWord_90 (v := 97) (by decide) ?_
          refine g_bipush dX12_orderWord_92 (v := 110) (by decide) ?_
          refine g_bipush dX12_orderWord_94 (v := 121) (by decide) ?_
          refine g_iconst dX12_orderWord_96 (v := 0) (by decide) ?_
          refine g_iconst dX12_orderWord_97 (v := 0) (by decide) ?_
          refine g_iconst dX12_orderWord_98 (v := 0) (by decide) ?_
          refine g_sJp [.int 97, .int 110, .int 121, .int 0, .int 0, .int 0] [.ref (gb g + 141)] mw_X12_148 (ok_X12_spelled g 97 110 121 0 0 0 μ) (by omega) rfl rfl (Nat.le_of_ble_eq_true rfl) dX12_orderWord_99 (fun x9 _ => ?_)
          refine g_vZp [.long x9] [] mw_X12_152 (ok_X12_isWord g x9 μ) (by omega) sh_141 (by decide) rfl rfl (Nat.le_of_ble_eq_true rfl) dX12_orderWord_102 (fun x10 _ => ?_)
          refine g_ifeqB (tgt := 110) dX12_orderWord_105 (by decide) (fun _ => ?_) (fun _ => ?_)
          · refine g_aload_n dX12_orderWord_110 0 rfl ?_
            refine g_bipush dX12_orderWord_111 (v := 119) (by decide) ?_
            refine g_bipush dX12_orderWord_113 (v := 104) (by decide) ?_
            refine g_bipush dX12_orderWord_115 (v := 101) (by decide) ?_
            refine g_bipush dX12_orderWord_117 (v := 110) (by decide) ?_
            refine g_iconst dX12_orderWord_119 (v := 0) (by decide) ?_
            refine g_iconst dX12_orderWord_120 (v := 0) (by decide) ?_
            refine g_sJp [.int 119, .int 104, .int 101, .int 110, .int 0, .int 0] [.ref (gb g + 141)] mw_X12_148 (ok_X12_spelled g 119 104 101 110 0 0 μ) (by omega) rfl rfl (Nat.le_of_ble_eq_true rfl) dX12_orderWord_121 (fun x11 _ => ?_)
            refine g_vZp [.long x11] [] mw_X12_152 (ok_X12_isWord g x11 μ) (by omega) sh_141 (by decide) rfl rfl (Nat.le_of_ble_eq_true rfl) dX12_orderWord_124 (fun x12 _ => ?_)
            refine g_ifeqB (tgt := 132) dX12_orderWord_127 (by decide) (fun _ => ?_) (fun _ => ?_)
            · refine g_aload_n dX12_orderWord_132 0 rfl ?_
              refine g_bipush dX12_orderWord_133 (v := 108) (by decide) ?_
              refine g_bipush dX12_orderWord_135 (v := 111) (by decide) ?_
              refine g_bipush dX12_orderWord_137 (v := 111) (by decide) ?_
              refine g_bipush dX12_orderWord_139 (v := 112) (by decide) ?_
              refine g_iconst dX12_orderWord_141 (v := 0) (by decide) ?_
              refine g_iconst dX12_orderWord_142 (v := 0) (by decide) ?_
              refine g_sJp [.int 108, .int 111, .int 111, .int 112, .int 0, .int 0] [.ref (gb g + 141)] mw_X12_148 (ok_X12_spelled g 108 111 111 112 0 0 μ) (by omega) rfl rfl (Nat.le_of_ble_eq_true rfl) dX12_orderWord_143 (fun x13 _ => ?_)
              refine g_vZp [.long x13] [] mw_X12_152 (ok_X12_isWord g x13 μ) (by omega) sh_141 (by decide) rfl rfl (Nat.le_of_ble_eq_true rfl) dX12_orderWord_146 (fun x14 _ => ?_)
              refine g_ifeqB (tgt := 155) dX12_orderWord_149 (by decide) (fun _ => ?_) (fun _ => ?_)
              · refine g_aload_n dX12_orderWord_155 0 rfl ?_
                refine g_bipush dX12_orderWord_156 (v := 115) (by decide) ?_
                refine g_bipush dX12_orderWord_158 (v := 116) (by decide) ?_
                refine g_bipush dX12_orderWord_160 (v := 111) (by decide) ?_
                refine g_bipush dX12_orderWord_162 (v := 112) (by decide) ?_
                refine g_iconst dX12_orderWord_164 (v := 0) (by decide) ?_
                refine g_iconst dX12_orderWord_165 (v := 0) (by decide) ?_
                refine g_sJp [.int 115, .int 116, .int 111, .int 112, .int 0, .int 0] [.ref (gb g + 141)] mw_X12_148 (ok_X12_spelled g 115 116 111 112 0 0 μ) (by omega) rfl rfl (Nat.le_of_ble_eq_true rfl) dX12_orderWord_166 (fun x15 _ => ?_)
                refine g_vZp [.long x15] [] mw_X12_152 (ok_X12_isWord g x15 μ) (by omega) sh_141 (by decide) rfl rfl (Nat.le_of_ble_eq_true rfl) dX12_orderWord_169 (fun x16 _ => ?_)
                have hJ19 : ∀ (w18 : Int32), w18 = (if x16 = true then (7 : Int32) else (-1)) → Go g RX12 cX12_orderWord 1 .ireturn 2 (cvIp μ) 181 [] [.int w18] μ (some (if x16 = true then (7 : Int32) else (-1))) := by
                  intro w18 ew18
                  subst ew18
                  exact g_ret dX12_orderWord_181 rfl rfl
                refine g_same (g_ifeqB (tgt := 180) dX12_orderWord_172 (by decide) (fun c17 => ?_) (fun c17 => ?_))
                · refine g_iconst dX12_orderWord_180 (v := (-1)) (by decide) ?_
                  refine g_lv [] rfl ?_
                  exact hJ19 _ (by rw [if_neg c17])
                · refine g_bipush dX12_orderWord_175 (v := 7) (by decide) ?_
                  refine g_goto (tgt := 181) dX12_orderWord_177 (by decide) ?_
                  refine g_lv [] rfl ?_
                  exact hJ19 _ (by rw [if_pos c17])
              · refine g_bipush dX12_orderWord_152 (v := 6) (by decide) ?_
                exact g_ret dX12_orderWord_154 rfl rfl
            · refine g_iconst dX12_orderWord_130 (v := 5) (by decide) ?_
              exact g_ret dX12_orderWord_131 rfl rfl
          · refine g_iconst dX12_orderWord_108 (v := 4) (by decide) ?_
            exact g_ret dX12_orderWord_109 rfl rfl
        · refine g_iconst dX12_orderWord_87 (v := 3) (by decide) ?_
          exact g_ret dX12_orderWord_88 rfl rfl
      · refine g_iconst dX12_orderWord_64 (v := 2) (by decide) ?_
        exact g_ret dX12_orderWord_65 rfl rfl
    · refine g_iconst dX12_orderWord_42 (v := 1) (by decide) ?_
      exact g_ret dX12_orderWord_43 rfl rfl
  · refine g_iconst dX12_orderWord_20 (v := 0) (by decide) ?_
    exact g_ret dX12_orderWord_21 rfl rfl
set_option maxHeartbeats 4000000 in
set_option maxRecDepth 100000 in
theorem ok_X12_testWord (g : GG)   (μ : Mm) : Ct g yX12_testWord cX12_testWord 1 (some (.int)) 2 (cvIp μ) [.ref (gb g + 141)] μ (f_X12_testWord  μ) := by
  refine ct_Ip (by decide +kernel) (Nat.le_of_ble_eq_true rfl) (show Go g RX12 cX12_testWord 1 .ireturn 2 (cvIp μ) 0 [(0, .ref (gb g + 141))] [] μ (f_X12_testWord  μ) from ?_)
  unfold f_X12_testWord
  refine g_aload_n dX12_testWord_0 0 rfl ?_
  refine g_bipush dX12_testWord_1 (v := 119) (by decide) ?_
  refine g_bipush dX12_testWord_3 (v := 114) (by decide) ?_
  refine g_bipush dX12_testWord_5 (v := 111) (by decide) ?_
  refine g_bipush dX12_testWord_7 (v := 110) (by decide) ?_
  refine g_bipush dX12_testWord_9 (v := 103) (by decide) ?_
  refine g_iconst dX12_testWord_11 (v := 0) (by decide) ?_
  refine g_sJp [.int 119, .int 114, .int 111, .int 110, .int 103, .int 0] [.ref (gb g + 141)] mw_X12_148 (ok_X12_spelled g 119 114 111 110 103 0 μ) (by omega) rfl rfl (Nat.le_of_ble_eq_true rfl) dX12_testWord_12 (fun x1 _ => ?_)
  refine g_vZp [.long x1] [] mw_X12_152 (ok_X12_isWord g x1 μ) (by omega) sh_141 (by decide) rfl rfl (Nat.le_of_ble_eq_true rfl) dX12_testWord_15 (fun x2 _ => ?_)
  refine g_ifeqB (tgt := 23) dX12_testWord_18 (by decide) (fun _ => ?_) (fun _ => ?_)
  · refine g_aload_n dX12_testWord_23 0 rfl ?_
    refine g_bipush dX12_testWord_24 (v := 100) (by decide) ?_
    refine g_bipush dX12_testWord_26 (v := 105) (by decide) ?_
    refine g_bipush dX12_testWord_28 (v := 103) (by decide) ?_
    refine g_bipush dX12_testWord_30 (v := 105) (by decide) ?_
    refine g_bipush dX12_testWord_32 (v := 116) (by decide) ?_
    refine g_iconst dX12_testWord_34 (v := 0) (by decide) ?_
    refine g_sJp [.int 100, .int 105, .int 103, .int 105, .int 116, .int 0] [.ref (gb g + 141)] mw_X12_148 (ok_X12_spelled g 100 105 103 105 116 0 μ) (by omega) rfl rfl (Nat.le_of_ble_eq_true rfl) dX12_testWord_35 (fun x3 _ => ?_)
    refine g_vZp [.long x3] [] mw_X12_152 (ok_X12_isWord g x3 μ) (by omega) sh_141 (by decide) rfl rfl (Nat.le_of_ble_eq_true rfl) dX12_testWord_38 (fun x4 _ => ?_)
    refine g_ifeqB (tgt := 46) dX12_testWord_41 (by decide) (fun _ => ?_) (fun _ => ?_)
    · refine g_aload_n dX12_testWord_46 0 rfl ?_
      refine g_bipush dX12_testWord_47 (v := 101) (by decide) ?_
      refine g_bipush dX12_testWord_49 (v := 118) (by decide) ?_
      refine g_bipush dX12_testWord_51 (v := 101) (by decide) ?_
      refine g_bipush dX12_testWord_53 (v := 110) (by decide) ?_
      refine g_iconst dX12_testWord_55 (v := 0) (by decide) ?_
      refine g_iconst dX12_testWord_56 (v := 0) (by decide) ?_
      refine g_sJp [.int 101, .int 118, .int 101, .int 110, .int 0, .int 0] [.ref (gb g + 141)] mw_X12_148 (ok_X12_spelled g 101 118 101 110 0 0 μ) (by omega) rfl rfl (Nat.le_of_ble_eq_true rfl) dX12_testWord_57 (fun x5 _ => ?_)
      refine g_vZp [.long x5] [] mw_X12_152 (ok_X12_isWord g x5 μ) (by omega) sh_141 (by decide) rfl rfl (Nat.le_of_ble_eq_true rfl) dX12_testWord_60 (fun x6 _ => ?_)
      have hJ9 : ∀ (w8 : Int32), w8 = (if x6 = true then (2 : Int32) else (-1)) → Go g RX12 cX12_testWord 1 .ireturn 2 (cvIp μ) 71 [] [.int w8] μ (some (if x6 = true then (2 : Int32) else (-1))) := by
        intro w8 ew8
        subst ew8
        exact g_ret dX12_testWord_71 rfl rfl
      refine g_same (g_ifeqB (tgt := 70) dX12_testWord_63 (by decide) (fun c7 => ?_) (fun c7 => ?_))
      · refine g_iconst dX12_testWord_70 (v := (-1)) (by decide) ?_
        refine g_lv [] rfl ?_
        exact hJ9 _ (by rw [if_neg c7])
      · refine g_iconst dX12_testWord_66 (v := 2) (by decide) ?_
        refine g_goto (tgt := 71) dX12_testWord_67 (by decide) ?_
        refine g_lv [] rfl ?_
        exact hJ9 _ (by rw [if_pos c7])
    · refine g_iconst dX12_testWord_44 (v := 1) (by decide) ?_
      exact g_ret dX12_testWord_45 rfl rfl
  · refine g_iconst dX12_testWord_21 (v := 0) (by decide) ?_
    exact g_ret dX12_testWord_22 rfl rfl
set_option maxHeartbeats 4000000 in
set_option maxRecDepth 100000 in
theorem ok_X12_isEnd (g : GG)   (μ : Mm) : Ct g yX12_isEnd cX12_isEnd 1 (some (.boolean)) 2 (cvZp μ) [.ref (gb g + 141)] μ (f_X12_isEnd  μ) := by
  refine ct_Zp (by decide +kernel) (Nat.le_of_ble_eq_true rfl) (show Go g RX12 cX12_isEnd 1 .ireturn 2 (cvZp μ) 0 [(0, .ref (gb g + 141))] [] μ (f_X12_isEnd  μ) from ?_)
  unfold f_X12_isEnd
  refine g_aload_n dX12_isEnd_0 0 rfl ?_
  refine g_bipush dX12_isEnd_1 (v := 101) (by decide) ?_
  refine g_bipush dX12_isEnd_3 (v := 110) (by decide) ?_
  refine g_bipush dX12_isEnd_5 (v := 100) (by decide) ?_
  refine g_iconst dX12_isEnd_7 (v := 0) (by decide) ?_
  refine g_iconst dX12_isEnd_8 (v := 0) (by decide) ?_
  refine g_iconst dX12_isEnd_9 (v := 0) (by decide) ?_
  refine g_sJp [.int 101, .int 110, .int 100, .int 0, .int 0, .int 0] [.ref (gb g + 141)] mw_X12_148 (ok_X12_spelled g 101 110 100 0 0 0 μ) (by omega) rfl rfl (Nat.le_of_ble_eq_true rfl) dX12_isEnd_10 (fun x1 _ => ?_)
  refine g_vZp [.long x1] [] mw_X12_152 (ok_X12_isWord g x1 μ) (by omega) sh_141 (by decide) rfl rfl (Nat.le_of_ble_eq_true rfl) dX12_isEnd_13 (fun x2 _ => ?_)
  exact g_ret dX12_isEnd_16 rfl rfl
set_option maxHeartbeats 4000000 in
set_option maxRecDepth 100000 in
theorem ok_X12_isKept (g : GG)   (μ : Mm) : Ct g yX12_isKept cX12_isKept 1 (some (.boolean)) 4 (cvZp μ) [.ref (gb g + 141)] μ (f_X12_isKept  μ) := by
  refine ct_Zp (by decide +kernel) (Nat.le_of_ble_eq_true rfl) (show Go g RX12 cX12_isKept 1 .ireturn 4 (cvZp μ) 0 [(0, .ref (gb g + 141))] [] μ (f_X12_isKept  μ) from ?_)
  unfold f_X12_isKept
  refine g_aload_n dX12_isKept_0 0 rfl ?_
  refine g_vZp [] [] mw_X12_164 (ok_X12_isWide g μ) (by omega) sh_141 (by decide) rfl rfl (Nat.le_of_ble_eq_true rfl) dX12_isKept_1 (fun x1 _ => ?_)
  refine g_ifneB (tgt := 49) dX12_isKept_4 (by decide) (fun _ => ?_) (fun _ => ?_)
  · refine g_iconst dX12_isKept_49 (v := 1) (by decide) ?_
    exact g_ret dX12_isKept_50 rfl rfl
  · refine g_aload_n dX12_isKept_7 0 rfl ?_
    refine g_vZp [] [] mw_X12_168 (ok_X12_isTap g μ) (by omega) sh_141 (by decide) rfl rfl (Nat.le_of_ble_eq_true rfl) dX12_isKept_8 (fun x2 _ => ?_)
    refine g_ifneB (tgt := 49) dX12_isKept_11 (by decide) (fun _ => ?_) (fun _ => ?_)
    · refine g_iconst dX12_isKept_49 (v := 1) (by decide) ?_
      exact g_ret dX12_isKept_50 rfl rfl
    · refine g_aload_n dX12_isKept_14 0 rfl ?_
      refine g_vZp [] [] mw_X12_171 (ok_X12_isOdds g μ) (by omega) sh_141 (by decide) rfl rfl (Nat.le_of_ble_eq_true rfl) dX12_isKept_15 (fun x3 _ => ?_)
      refine g_ifneB (tgt := 49) dX12_isKept_18 (by decide) (fun _ => ?_) (fun _ => ?_)
      · refine g_iconst dX12_isKept_49 (v := 1) (by decide) ?_
        exact g_ret dX12_isKept_50 rfl rfl
      · refine g_aload_n dX12_isKept_21 0 rfl ?_
        refine g_vZp [] [] mw_X12_174 (ok_X12_isAccount g μ) (by omega) sh_141 (by decide) rfl rfl (Nat.le_of_ble_eq_true rfl) dX12_isKept_22 (fun x4 _ => ?_)
        refine g_ifneB (tgt := 49) dX12_isKept_25 (by decide) (fun _ => ?_) (fun _ => ?_)
        · refine g_iconst dX12_isKept_49 (v := 1) (by decide) ?_
          exact g_ret dX12_isKept_50 rfl rfl
        · refine g_aload_n dX12_isKept_28 0 rfl ?_
          refine g_vZp [] [] mw_X12_177 (ok_X12_isLaw g μ) (by omega) sh_141 (by decide) rfl rfl (Nat.le_of_ble_eq_true rfl) dX12_isKept_29 (fun x5 _ => ?_)
          refine g_ifneB (tgt := 49) dX12_isKept_32 (by decide) (fun _ => ?_) (fun _ => ?_)
          · refine g_iconst dX12_isKept_49 (v := 1) (by decide) ?_
            exact g_ret dX12_isKept_50 rfl rfl
          · refine g_aload_n dX12_isKept_35 0 rfl ?_
            refine g_vZp [] [] mw_X12_180 (ok_X12_isBecomes g μ) (by omega) sh_141 (by decide) rfl rfl (Nat.le_of_ble_eq_true rfl) dX12_isKept_36 (fun x6 _ => ?_)
            refine g_ifneB (tgt := 49) dX12_isKept_39 (by decide) (fun _ => ?_) (fun _ => ?_)
            · refine g_iconst dX12_isKept_49 (v := 1) (by decide) ?_
              exact g_ret dX12_isKept_50 rfl rfl
            · refine g_aload_n dX12_isKept_42 0 rfl ?_
              refine g_vZp [] [] mw_X12_183 (ok_X12_isWatch g μ) (by omega) sh_141 (by decide) rfl rfl (Nat.le_of_ble_eq_true rfl) dX12_isKept_43 (fun x7 _ => ?_)
              refine g_ifeqB (tgt := 51) dX12_isKept_46 (by decide) (fun _ => ?_) (fun _ => ?_)
              · refine g_aload_n dX12_isKept_51 0 rfl ?_
                refine g_vIp [] [] mw_X12_186 (ok_X12_kindWord g μ) (by omega) sh_141 (by decide) rfl rfl (Nat.le_of_ble_eq_true rfl) dX12_isKept_52 (fun x8 _ => ?_)
                refine g_if_ge (tgt := 72) dX12_isKept_55 (by decide) (fun _ => ?_) (fun _ => ?_)
                · refine g_iconst dX12_isKept_72 (v := 1) (by decide) ?_
                  exact g_ret dX12_isKept_73 rfl rfl
                · refine g_aload_n dX12_isKept_58 0 rfl ?_
                  refine g_vIp [] [] mw_X12_160 (ok_X12_placeWord g μ) (by omega) sh_141 (by decide) rfl rfl (Nat.le_of_ble_eq_true rfl) dX12_isKept_59 (fun x9 _ => ?_)
                  refine g_if_ge (tgt := 72) dX12_isKept_62 (by decide) (fun _ => ?_) (fun _ => ?_)
                  · refine g_iconst dX12_isKept_72 (v := 1) (by decide) ?_
                    exact g_ret dX12_isKept_73 rfl rfl
                  · refine g_aload_n dX12_isKept_65 0 rfl ?_
                    refine g_vIp [] [] mw_X12_189 (ok_X12_wayWord g μ) (by omega) sh_141 (by decide) rfl rfl (Nat.le_of_ble_eq_true rfl) dX12_isKept_66 (fun x10 _ => ?_)
                    refine g_if_lt (tgt := 74) dX12_isKept_69 (by decide) (fun _ => ?_) (fun _ => ?_)
                    · refine g_aload_n dX12_isKept_74 0 rfl ?_
                      refine g_vIp [] [] mw_X12_192 (ok_X12_orderWord g μ) (by omega) sh_141 (by decide) rfl rfl (Nat.le_of_ble_eq_true rfl) dX12_isKept_75 (fun x11 _ => ?_)
                      refine g_if_ge (tgt := 95) dX12_isKept_78 (by decide) (fun _ => ?_) (fun _ => ?_)
                      · refine g_iconst dX12_isKept_95 (v := 1) (by decide) ?_
                        refine g_goto (tgt := 100) dX12_isKept_96 (by decide) ?_
                        exact g_ret dX12_isKept_100 rfl rfl
                      · refine g_aload_n dX12_isKept_81 0 rfl ?_
                        refine g_vIp [] [] mw_X12_195 (ok_X12_testWord g μ) (by omega) sh_141 (by decide) rfl rfl (Nat.le_of_ble_eq_true rfl) dX12_isKept_82 (fun x12 _ => ?_)
                        refine g_if_ge (tgt := 95) dX12_isKept_85 (by decide) (fun _ => ?_) (fun _ => ?_)
                        · refine g_iconst dX12_isKept_95 (v := 1) (by decide) ?_
                          refine g_goto (tgt := 100) dX12_isKept_96 (by decide) ?_
                          exact g_ret dX12_isKept_100 rfl rfl
                        · refine g_aload_n dX12_isKept_88 0 rfl ?_
                          refine g_vZp [] [] mw_X12_198 (ok_X12_isEnd g μ) (by omega) sh_141 (by decide) rfl rfl (Nat.le_of_ble_eq_true rfl) dX12_isKept_89 (fun x13 _ => ?_)
                          refine g_ifeqB (tgt := 99) dX12_isKept_92 (by decide) (fun _ => ?_) (fun _ => ?_)
                          · refine g_iconst dX12_isKept_99 (v := 0) (by decide) ?_
                            exact g_ret dX12_isKept_100 rfl rfl
                          · refine g_iconst dX12_isKept_95 (v := 1) (by decide) ?_
                            refine g_goto (tgt := 100) dX12_isKept_96 (by decide) ?_
                            exact g_ret dX12_isKept_100 rfl rfl
                    · refine g_iconst dX12_isKept_72 (v := 1) (by decide) ?_
                      exact g_ret dX12_isKept_73 rfl rfl
              · refine g_iconst dX12_isKept_49 (v := 1) (by decide) ?_
                exact g_ret dX12_isKept_50 rfl rfl
