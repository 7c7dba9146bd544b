set_option maxHeartbeats 4000000 in
set_option maxRecDepth 100000 in
theorem okL_X0_cellBySums_6 (g : GG) (F : Nat) (r0 : Nat) (k : Int32 → Int32 → Option (Int32)) (μ : Mm) (hr0 : Bk r0) (hk : ∀ (v1 : Int32) (v2 : Int32), Go g RX0 cX0_cellBySums 7 .ireturn 2 (cvIp μ) 46 [(0, .ref (gb g + r0)), (1, .int v1), (2, .int v2)] [] μ (k v1 v2)) : ∀ (n : Nat) (v1 : Int32) (v2 : Int32) (v3 : Int32), Go g RX0 cX0_cellBySums 7 .ireturn 2 (cvIp μ) 6 [(0, .ref (gb g + r0)), (1, .int v1), (2, .int v2), (3, .int v3)] [] μ (L_X0_cellBySums_6 F r0 k μ n v1 v2 v3) := by
  intro n
  induction n with
  | zero =>
    intro v1 v2 v3
    exact g_none
  | succ n ih =>
    intro v1 v2 v3
    rw [L_X0_cellBySums_6_s]
    refine g_iload_n dX0_cellBySums_6 3 rfl ?_
    refine g_aload_n dX0_cellBySums_7 0 rfl ?_
    refine g_getI fl_X0_51 (bk_0 hr0) (by decide) rfl dX0_cellBySums_8 ?_
    refine g_icmp_ge (tgt := 46) dX0_cellBySums_11 (by decide) (fun _ => ?_) (fun _ => ?_)
    · refine g_lv [0, 1, 2] rfl ?_
      exact hk v1 v2
    · refine g_aload_n dX0_cellBySums_14 0 rfl ?_
      refine g_aload_n dX0_cellBySums_15 0 rfl ?_
      refine g_getR (b := (r0 + 8)) fl_X0_26 (bk_0 hr0) (by decide) rfl rfl dX0_cellBySums_16 ?_
      refine g_iload_n dX0_cellBySums_19 3 rfl ?_
      refine g_vIp [.ref (gb g + (r0 + 8)), .int v3] [] mw_X0_170 (ok_X0_togetherInRow g F r0 (r0 + 8) v3 hr0 (bk_8 hr0) μ) (by omega) (bk_0 hr0) (by decide) rfl rfl (Nat.le_of_ble_eq_true rfl) dX0_cellBySums_20 (fun x1 _ => ?_)
      refine g_aload_n dX0_cellBySums_23 0 rfl ?_
      refine g_aload_n dX0_cellBySums_24 0 rfl ?_
      refine g_getR (b := (r0 + 9)) fl_X0_29 (bk_0 hr0) (by decide) rfl rfl dX0_cellBySums_25 ?_
      refine g_iload_n dX0_cellBySums_28 3 rfl ?_
      refine g_vIp [.ref (gb g + (r0 + 9)), .int v3] [.int x1] mw_X0_170 (ok_X0_togetherInRow g F r0 (r0 + 9) v3 hr0 (bk_9 hr0) μ) (by omega) (bk_0 hr0) (by decide) rfl rfl (Nat.le_of_ble_eq_true rfl) dX0_cellBySums_29 (fun x2 _ => ?_)
      have hJ6 : ∀ (w4 : Int32) (w5 : Int32), w4 = (if x1 = x2 then v1 else v3) → w5 = (if x1 = x2 then v2 else (v2 + 1)) → Go g RX0 cX0_cellBySums 7 .ireturn 2 (cvIp μ) 40 [(0, .ref (gb g + r0)), (1, .int w4), (2, .int w5), (3, .int v3)] [] μ (L_X0_cellBySums_6 F r0 k μ n (if x1 = x2 then v1 else v3) (if x1 = x2 then v2 else (v2 + 1)) (v3 + 1)) := by
        intro w4 w5 ew4 ew5
        subst ew4
        subst ew5
        refine g_iinc dX0_cellBySums_40 3 rfl (v := (v3 + 1)) rfl (by decide) (lv' := [(3, .int (v3 + 1)), (0, .ref (gb g + r0)), (1, .int (if x1 = x2 then v1 else v3)), (2, .int (if x1 = x2 then v2 else (v2 + 1)))]) rfl ?_
        refine g_goto (tgt := 6) dX0_cellBySums_43 (by decide) ?_
        refine g_lv [1, 2, 3, 0] rfl ?_
        exact ih (if x1 = x2 then v1 else v3) (if x1 = x2 then v2 else (v2 + 1)) (v3 + 1)
      refine g_same (g_icmp_eq (tgt := 40) dX0_cellBySums_32 (by decide) (fun c3 => ?_) (fun c3 => ?_))
      · refine g_lv [0, 1, 2, 3] rfl ?_
        exact hJ6 _ _ (by rw [if_pos c3]) (by rw [if_pos c3])
      · refine g_iinc dX0_cellBySums_35 2 rfl (v := (v2 + 1)) rfl (by decide) (lv' := [(2, .int (v2 + 1)), (0, .ref (gb g + r0)), (1, .int v1), (3, .int v3)]) rfl ?_
        refine g_iload_n dX0_cellBySums_38 3 rfl ?_
        refine g_istore_n dX0_cellBySums_39 rfl (by decide) (lv' := [(1, .int v3), (2, .int (v2 + 1)), (0, .ref (gb g + r0)), (3, .int v3)]) rfl ?_
        refine g_lv [2, 0, 1, 3] rfl ?_
        exact hJ6 _ _ (by rw [if_neg c3]) (by rw [if_neg c3])
set_option maxHeartbeats 4000000 in
set_option maxRecDepth 100000 in
theorem okL_X0_cellBySums_54 (g : GG) (F : Nat) (r0 : Nat) (v1 : Int32) (v2 : Int32) (k : Int32 → Int32 → Option (Int32)) (μ : Mm) (hr0 : Bk r0) (hk : ∀ (v3 : Int32) (v4 : Int32), Go g RX0 cX0_cellBySums 7 .ireturn 2 (cvIp μ) 98 [(0, .ref (gb g + r0)), (1, .int v1), (2, .int v2), (3, .int v3), (4, .int v4)] [] μ (k v3 v4)) : ∀ (n : Nat) (v3 : Int32) (v4 : Int32) (v5 : Int32), Go g RX0 cX0_cellBySums 7 .ireturn 2 (cvIp μ) 54 [(0, .ref (gb g + r0)), (1, .int v1), (2, .int v2), (3, .int v3), (4, .int v4), (5, .int v5)] [] μ (L_X0_cellBySums_54 F r0 v1 v2 k μ n v3 v4 v5) := by
  intro n
  induction n with
  | zero =>
    intro v3 v4 v5
    exact g_none
  | succ n ih =>
    intro v3 v4 v5
    rw [L_X0_cellBySums_54_s]
    refine g_iload dX0_cellBySums_54 5 rfl ?_
    refine g_aload_n dX0_cellBySums_56 0 rfl ?_
    refine g_getI fl_X0_41 (bk_0 hr0) (by decide) rfl dX0_cellBySums_57 ?_
    refine g_icmp_ge (tgt := 98) dX0_cellBySums_60 (by decide) (fun _ => ?_) (fun _ => ?_)
    · refine g_lv [0, 1, 2, 3, 4] rfl ?_
      exact hk v3 v4
    · refine g_aload_n dX0_cellBySums_63 0 rfl ?_
      refine g_aload_n dX0_cellBySums_64 0 rfl ?_
      refine g_getR (b := (r0 + 8)) fl_X0_26 (bk_0 hr0) (by decide) rfl rfl dX0_cellBySums_65 ?_
      refine g_iload dX0_cellBySums_68 5 rfl ?_
      refine g_vIp [.ref (gb g + (r0 + 8)), .int v5] [] mw_X0_173 (ok_X0_togetherInColumn g F r0 (r0 + 8) v5 hr0 (bk_8 hr0) μ) (by omega) (bk_0 hr0) (by decide) rfl rfl (Nat.le_of_ble_eq_true rfl) dX0_cellBySums_70 (fun x9 _ => ?_)
      refine g_aload_n dX0_cellBySums_73 0 rfl ?_
      refine g_aload_n dX0_cellBySums_74 0 rfl ?_
      refine g_getR (b := (r0 + 9)) fl_X0_29 (bk_0 hr0) (by decide) rfl rfl dX0_cellBySums_75 ?_
      refine g_iload dX0_cellBySums_78 5 rfl ?_
      refine g_vIp [.ref (gb g + (r0 + 9)), .int v5] [.int x9] mw_X0_173 (ok_X0_togetherInColumn g F r0 (r0 + 9) v5 hr0 (bk_9 hr0) μ) (by omega) (bk_0 hr0) (by decide) rfl rfl (Nat.le_of_ble_eq_true rfl) dX0_cellBySums_80 (fun x10 _ => ?_)
      have hJ14 : ∀ (w12 : Int32) (w13 : Int32), w12 = (if x9 = x10 then v3 else v5) → w13 = (if x9 = x10 then v4 else (v4 + 1)) → Go g RX0 cX0_cellBySums 7 .ireturn 2 (cvIp μ) 92 [(0, .ref (gb g + r0)), (1, .int v1), (2, .int v2), (3, .int w12), (4, .int w13), (5, .int v5)] [] μ (L_X0_cellBySums_54 F r0 v1 v2 k μ n (if x9 = x10 then v3 else v5) (if x9 = x10 then v4 else (v4 + 1)) (v5 + 1)) := by
        intro w12 w13 ew12 ew13
        subst ew12
        subst ew13
        refine g_iinc dX0_cellBySums_92 5 rfl (v := (v5 + 1)) rfl (by decide) (lv' := [(5, .int (v5 + 1)), (0, .ref (gb g + r0)), (1, .int v1), (2, .int v2), (3, .int (if x9 = x10 then v3 else v5)), (4, .int (if x9 = x10 then v4 else (v4 + 1)))]) rfl ?_
        refine g_goto (tgt := 54) dX0_cellBySums_95 (by decide) ?_
        refine g_lv [1, 2, 3, 4, 5, 0] rfl ?_
        exact ih (if x9 = x10 then v3 else v5) (if x9 = x10 then v4 else (v4 + 1)) (v5 + 1)
      refine g_same (g_icmp_eq (tgt := 92) dX0_cellBySums_83 (by decide) (fun c11 => ?_) (fun c11 => ?_))
      · refine g_lv [0, 1, 2, 3, 4, 5] rfl ?_
        exact hJ14 _ _ (by rw [if_pos c11]) (by rw [if_pos c11])
      · refine g_iinc dX0_cellBySums_86 4 rfl (v := (v4 + 1)) rfl (by decide) (lv' := [(4, .int (v4 + 1)), (0, .ref (gb g + r0)), (1, .int v1), (2, .int v2), (3, .int v3), (5, .int v5)]) rfl ?_
        refine g_iload dX0_cellBySums_89 5 rfl ?_
        refine g_istore_n dX0_cellBySums_91 rfl (by decide) (lv' := [(3, .int v5), (4, .int (v4 + 1)), (0, .ref (gb g + r0)), (1, .int v1), (2, .int v2), (5, .int v5)]) rfl ?_
        refine g_lv [2, 3, 4, 0, 1, 5] rfl ?_
        exact hJ14 _ _ (by rw [if_neg c11]) (by rw [if_neg c11])
set_option maxHeartbeats 4000000 in
set_option maxRecDepth 100000 in
theorem ok_X0_cellBySums (g : GG) (F : Nat) (r0 : Nat) (hr0 : Bk r0) (μ : Mm) : Ct g yX0_cellBySums cX0_cellBySums 7 (some (.int)) 2 (cvIp μ) [.ref (gb g + r0)] μ (f_X0_cellBySums F r0 μ) := by
  refine ct_Ip (by decide +kernel) (Nat.le_of_ble_eq_true rfl) (show Go g RX0 cX0_cellBySums 7 .ireturn 2 (cvIp μ) 0 [(0, .ref (gb g + r0))] [] μ (f_X0_cellBySums F r0 μ) from ?_)
  unfold f_X0_cellBySums
  refine g_iconst dX0_cellBySums_0 (v := (-1)) (by decide) ?_
  refine g_istore_n dX0_cellBySums_1 rfl (by decide) (lv' := [(1, .int (-1)), (0, .ref (gb g + r0))]) rfl ?_
  refine g_iconst dX0_cellBySums_2 (v := 0) (by decide) ?_
  refine g_istore_n dX0_cellBySums_3 rfl (by decide) (lv' := [(2, .int 0), (1, .int (-1)), (0, .ref (gb g + r0))]) rfl ?_
  refine g_iconst dX0_cellBySums_4 (v := 0) (by decide) ?_
  refine g_istore_n dX0_cellBySums_5 rfl (by decide) (lv' := [(3, .int 0), (2, .int 0), (1, .int (-1)), (0, .ref (gb g + r0))]) rfl ?_
  refine g_lv [3, 2, 1, 0] rfl ?_
  refine okL_X0_cellBySums_6 g F r0 _ μ hr0 (fun u7 u8 => ?_) F (-1) 0 0
  refine g_iconst dX0_cellBySums_46 (v := (-1)) (by decide) ?_
  refine g_istore_n dX0_cellBySums_47 rfl (by decide) (lv' := [(3, .int (-1)), (0, .ref (gb g + r0)), (1, .int u7), (2, .int u8)]) rfl ?_
  refine g_iconst dX0_cellBySums_48 (v := 0) (by decide) ?_
  refine g_istore dX0_cellBySums_49 (by decide) (lv' := [(4, .int 0), (3, .int (-1)), (0, .ref (gb g + r0)), (1, .int u7), (2, .int u8)]) rfl ?_
  refine g_iconst dX0_cellBySums_51 (v := 0) (by decide) ?_
  refine g_istore dX0_cellBySums_52 (by decide) (lv' := [(5, .int 0), (4, .int 0), (3, .int (-1)), (0, .ref (gb g + r0)), (1, .int u7), (2, .int u8)]) rfl ?_
  refine g_lv [3, 4, 5, 2, 1, 0] rfl ?_
  refine okL_X0_cellBySums_54 g F r0 u7 u8 _ μ hr0 (fun u15 u16 => ?_) F (-1) 0 0
  refine g_iload_n dX0_cellBySums_98 2 rfl ?_
  refine g_iconst dX0_cellBySums_99 (v := 1) (by decide) ?_
  refine g_icmp_ne (tgt := 109) dX0_cellBySums_100 (by decide) (fun _ => ?_) (fun _ => ?_)
  · refine g_iconst dX0_cellBySums_109 (v := (-1)) (by decide) ?_
    exact g_ret dX0_cellBySums_110 rfl rfl
  · refine g_iload dX0_cellBySums_103 4 rfl ?_
    refine g_iconst dX0_cellBySums_105 (v := 1) (by decide) ?_
    refine g_icmp_eq (tgt := 111) dX0_cellBySums_106 (by decide) (fun _ => ?_) (fun _ => ?_)
    · refine g_aload_n dX0_cellBySums_111 0 rfl ?_
      refine g_aload_n dX0_cellBySums_112 0 rfl ?_
      refine g_getR (b := (r0 + 8)) fl_X0_26 (bk_0 hr0) (by decide) rfl rfl dX0_cellBySums_113 ?_
      refine g_iload_n dX0_cellBySums_116 1 rfl ?_
      refine g_vIp [.ref (gb g + (r0 + 8)), .int u7] [] mw_X0_170 (ok_X0_togetherInRow g F r0 (r0 + 8) u7 hr0 (bk_8 hr0) μ) (by omega) (bk_0 hr0) (by decide) rfl rfl (Nat.le_of_ble_eq_true rfl) dX0_cellBySums_117 (fun x17 _ => ?_)
      refine g_aload_n dX0_cellBySums_120 0 rfl ?_
      refine g_aload_n dX0_cellBySums_121 0 rfl ?_
      refine g_getR (b := (r0 + 9)) fl_X0_29 (bk_0 hr0) (by decide) rfl rfl dX0_cellBySums_122 ?_
      refine g_iload_n dX0_cellBySums_125 1 rfl ?_
      refine g_vIp [.ref (gb g + (r0 + 9)), .int u7] [.int x17] mw_X0_170 (ok_X0_togetherInRow g F r0 (r0 + 9) u7 hr0 (bk_9 hr0) μ) (by omega) (bk_0 hr0) (by decide) rfl rfl (Nat.le_of_ble_eq_true rfl) dX0_cellBySums_126 (fun x18 _ => ?_)
      refine g_isub dX0_cellBySums_129 ?_
      refine g_istore dX0_cellBySums_130 (by decide) (lv' := [(5, .int (x17 - x18)), (0, .ref (gb g + r0)), (1, .int u7), (2, .int u8), (3, .int u15), (4, .int u16)]) rfl ?_
      refine g_aload_n dX0_cellBySums_132 1 rfl ?_
      refine g_aload_n dX0_cellBySums_133 1 rfl ?_
      refine g_getR (b := (r0 + 8)) fl_X0_26 (bk_0 hr0) (by decide) rfl rfl dX0_cellBySums_134 ?_
      refine g_iload_n dX0_cellBySums_137 4 rfl ?_
      refine g_vIp [.ref (gb g + (r0 + 8)), .int u15] [] mw_X0_173 (ok_X0_togetherInColumn g F r0 (r0 + 8) u15 hr0 (bk_8 hr0) μ) (by omega) (bk_0 hr0) (by decide) rfl rfl (Nat.le_of_ble_eq_true rfl) dX0_cellBySums_138 (fun x19 _ => ?_)
      refine g_aload_n dX0_cellBySums_141 1 rfl ?_
      refine g_aload_n dX0_cellBySums_142 1 rfl ?_
      refine g_getR (b := (r0 + 9)) fl_X0_29 (bk_0 hr0) (by decide) rfl rfl dX0_cellBySums_143 ?_
      refine g_iload_n dX0_cellBySums_146 4 rfl ?_
      refine g_vIp [.ref (gb g + (r0 + 9)), .int u15] [.int x19] mw_X0_173 (ok_X0_togetherInColumn g F r0 (r0 + 9) u15 hr0 (bk_9 hr0) μ) (by omega) (bk_0 hr0) (by decide) rfl rfl (Nat.le_of_ble_eq_true rfl) dX0_cellBySums_147 (fun x20 _ => ?_)
      refine g_isub dX0_cellBySums_150 ?_
      refine g_istore dX0_cellBySums_151 (by decide) (lv' := [(6, .int (x19 - x20)), (5, .int (x17 - x18)), (0, .ref (gb g + r0)), (1, .int u7), (2, .int u8), (3, .int u15), (4, .int u16)]) rfl ?_
      refine g_iload dX0_cellBySums_153 1 rfl ?_
      refine g_iload dX0_cellBySums_155 0 rfl ?_
      have hJ23 : ∀ (w22 : Int32), w22 = (if (x17 - x18) = (x19 - x20) then ((u7 * (mI μ r0 0)) + u15) else (-1)) → Go g RX0 cX0_cellBySums 7 .ireturn 2 (cvIp μ) 172 [] [.int w22] μ (some (if (x17 - x18) = (x19 - x20) then ((u7 * (mI μ r0 0)) + u15) else (-1))) := by
        intro w22 ew22
        subst ew22
        exact g_ret dX0_cellBySums_172 rfl rfl
      refine g_same (g_icmp_ne (tgt := 171) dX0_cellBySums_157 (by decide) (fun c21 => ?_) (fun c21 => ?_))
      · refine g_iconst dX0_cellBySums_171 (v := (-1)) (by decide) ?_
        refine g_lv [] rfl ?_
        exact hJ23 _ (by rw [if_neg c21])
      · refine g_iload_n dX0_cellBySums_160 3 rfl ?_
        refine g_aload_n dX0_cellBySums_161 2 rfl ?_
        refine g_getI fl_X0_41 (bk_0 hr0) (by decide) rfl dX0_cellBySums_162 ?_
        refine g_imul dX0_cellBySums_165 ?_
        refine g_iload_n dX0_cellBySums_166 5 rfl ?_
        refine g_iadd dX0_cellBySums_167 ?_
        refine g_goto (tgt := 172) dX0_cellBySums_168 (by decide) ?_
        refine g_lv [] rfl ?_
        exact hJ23 _ (by rw [if_pos c21])
    · refine g_iconst dX0_cellBySums_109 (v := (-1)) (by decide) ?_
      exact g_ret dX0_cellBySums_110 rfl rfl
set_option maxHeartbeats 4000000 in
set_option maxRecDepth 100000 in
theorem ok_X9_isLetter (g : GG) (v0 : Int32)  (μ : Mm) : Ct g yX9_isLetter cX9_isLetter 1 (some (.boolean)) 1 (cvZp μ) [.int v0] μ (f_X9_isLetter v0 μ) := by
  refine ct_Zp (by decide +kernel) (Nat.le_of_ble_eq_true rfl) (show Go g RX9 cX9_isLetter 1 .ireturn 1 (cvZp μ) 0 [(0, .int v0)] [] μ (f_X9_isLetter v0 μ) from ?_)
  unfold f_X9_isLetter
  refine g_iload_n dX9_isLetter_0 0 rfl ?_
  refine g_bipush dX9_isLetter_1 (v := 97) (by decide) ?_
  refine g_icmp_lt (tgt := 16) dX9_isLetter_3 (by decide) (fun _ => ?_) (fun _ => ?_)
  · refine g_iconst dX9_isLetter_16 (v := 0) (by decide) ?_
    exact g_ret dX9_isLetter_17 rfl rfl
  · refine g_iload_n dX9_isLetter_6 0 rfl ?_
    refine g_bipush dX9_isLetter_7 (v := 122) (by decide) ?_
    refine g_icmp_gt (tgt := 16) dX9_isLetter_9 (by decide) (fun _ => ?_) (fun _ => ?_)
    · refine g_iconst dX9_isLetter_16 (v := 0) (by decide) ?_
      exact g_ret dX9_isLetter_17 rfl rfl
    · refine g_iconst dX9_isLetter_12 (v := 1) (by decide) ?_
      refine g_goto (tgt := 17) dX9_isLetter_13 (by decide) ?_
      exact g_ret dX9_isLetter_17 rfl rfl
set_option maxHeartbeats 4000000 in
set_option maxRecDepth 100000 in
theorem okL_X9_lookAtWord_2 (g : GG) (F : Nat)  (k : Int64 → Mm → Option (Mm))  (hk : ∀ (v1 : Int64) (μ : Mm), Go g RX9 cX9_lookAtWord 4 .return_ 1 cvV 93 [(0, .ref (gb g + 9)), (1, .long v1)] [] μ (k v1 μ)) : ∀ (n : Nat) (v1 : Int64) (μ : Mm), Go g RX9 cX9_lookAtWord 4 .return_ 1 cvV 2 [(0, .ref (gb g + 9)), (1, .long v1)] [] μ (L_X9_lookAtWord_2 F k n v1 μ) := by
  intro n
  induction n with
  | zero =>
    intro v1 μ
    exact g_none
  | succ n ih =>
    intro v1 μ
    rw [L_X9_lookAtWord_2_s]
    refine g_aload_n dX9_lookAtWord_2 0 rfl ?_
    refine g_getI fl_X9_54 sh_9 (by decide) rfl dX9_lookAtWord_3 ?_
    refine g_aload_n dX9_lookAtWord_6 0 rfl ?_
    refine g_getI fl_X9_51 sh_9 (by decide) rfl dX9_lookAtWord_7 ?_
    refine g_icmp_ge (tgt := 93) dX9_lookAtWord_10 (by decide) (fun _ => ?_) (fun _ => ?_)
    · refine g_lv [0, 1] rfl ?_
      exact hk v1 μ
    · refine g_aload_n dX9_lookAtWord_13 0 rfl ?_
      refine g_getR (b := 10) fl_X9_11 sh_9 (by decide) rfl rfl dX9_lookAtWord_14 ?_
      refine g_aload_n dX9_lookAtWord_17 0 rfl ?_
      refine g_getI fl_X9_54 sh_9 (by decide) rfl dX9_lookAtWord_18 ?_
      refine g_baload sh_10 dX9_lookAtWord_21 (fun x1 => ?_)
      refine g_bipush dX9_lookAtWord_22 (v := 97) (by decide) ?_
      refine g_icmp_lt (tgt := 93) dX9_lookAtWord_24 (by decide) (fun _ => ?_) (fun _ => ?_)
      · refine g_lv [0, 1] rfl ?_
        exact hk v1 μ
      · refine g_aload_n dX9_lookAtWord_27 0 rfl ?_
        refine g_getR (b := 10) fl_X9_11 sh_9 (by decide) rfl rfl dX9_lookAtWord_28 ?_
        refine g_aload_n dX9_lookAtWord_31 0 rfl ?_
        refine g_getI fl_X9_54 sh_9 (by decide) rfl dX9_lookAtWord_32 ?_
        refine g_baload sh_10 dX9_lookAtWord_35 (fun x2 => ?_)
        refine g_bipush dX9_lookAtWord_36 (v := 122) (by decide) ?_
        refine g_icmp_gt (tgt := 93) dX9_lookAtWord_38 (by decide) (fun _ => ?_) (fun _ => ?_)
        · refine g_lv [0, 1] rfl ?_
          exact hk v1 μ
        · refine g_aload_n dX9_lookAtWord_41 0 rfl ?_
          refine g_getI fl_X9_54 sh_9 (by decide) rfl dX9_lookAtWord_42 ?_
          refine g_aload_n dX9_lookAtWord_45 0 rfl ?_
          refine g_getI fl_X9_60 sh_9 (by decide) rfl dX9_lookAtWord_46 ?_
          refine g_isub dX9_lookAtWord_49 ?_
          refine g_bipush dX9_lookAtWord_50 (v := 8) (by decide) ?_
          refine g_jn (fun (a5 : Int64) oo => Go g RX9 cX9_lookAtWord 4 .return_ 1 cvV 79 [(0, .ref (gb g + 9))] [.long a5] μ oo) (fun a5 => ?_) (fun K4 hF6 => ?_)
          · refine g_lstore_n dX9_lookAtWord_79 rfl (by decide) (lv' := [(1, .long a5), (0, .ref (gb g + 9))]) rfl ?_
            refine g_aload_n dX9_lookAtWord_80 1 rfl ?_
            refine g_dup dX9_lookAtWord_81 rfl ?_
            refine g_getI fl_X9_54 sh_9 (by decide) rfl dX9_lookAtWord_82 ?_
            refine g_iconst dX9_lookAtWord_85 (v := 1) (by decide) ?_
            refine g_iadd dX9_lookAtWord_86 ?_
            refine g_putI fl_X9_54 sh_9 (by decide) rfl dX9_lookAtWord_87 ?_
            refine g_goto (tgt := 2) dX9_lookAtWord_90 (by decide) ?_
            refine g_lv [1, 0] rfl ?_
            exact ih a5 (sI μ 9 10 ((mI μ 9 10) + (1 : Int32)))
          · refine g_icmp_ge (tgt := 78) dX9_lookAtWord_52 (by decide) (fun _ => ?_) (fun _ => ?_)
            · refine g_lconst dX9_lookAtWord_78 (v := 0) (by decide) ?_
              refine g_lv [0] rfl ?_
              exact hF6 0
            · refine g_lload_n dX9_lookAtWord_55 1 rfl ?_
              refine g_ldc2 kl_X9_38 dX9_lookAtWord_56 ?_
              refine g_lmul dX9_lookAtWord_59 ?_
              refine g_aload_n dX9_lookAtWord_60 0 rfl ?_
              refine g_getR (b := 10) fl_X9_11 sh_9 (by decide) rfl rfl dX9_lookAtWord_61 ?_
              refine g_aload_n dX9_lookAtWord_64 0 rfl ?_
              refine g_getI fl_X9_54 sh_9 (by decide) rfl dX9_lookAtWord_65 ?_
              refine g_baload sh_10 dX9_lookAtWord_68 (fun x7 => ?_)
              refine g_i2l dX9_lookAtWord_69 ?_
              refine g_ladd dX9_lookAtWord_70 ?_
              refine g_ldc2 kl_X9_40 dX9_lookAtWord_71 ?_
              refine g_lsub dX9_lookAtWord_74 ?_
              refine g_goto (tgt := 79) dX9_lookAtWord_75 (by decide) ?_
              refine g_lv [0] rfl ?_
              exact hF6 (((v1 * (32 : Int64)) + (x7.toInt64)) - (96 : Int64))
set_option maxHeartbeats 4000000 in
set_option maxRecDepth 100000 in
theorem okL_X9_lookAtWord_110 (g : GG) (F : Nat) (v1 : Int64) (k : Mm → Option (Mm))  (hk : ∀ (μ : Mm), Go g RX9 cX9_lookAtWord 4 .return_ 1 cvV 138 [] [] μ (k μ)) : ∀ (n : Nat) (v3 : Int32) (μ : Mm), Go g RX9 cX9_lookAtWord 4 .return_ 1 cvV 110 [(0, .ref (gb g + 9)), (1, .long v1), (3, .int v3)] [] μ (L_X9_lookAtWord_110 F v1 k n v3 μ) := by
  intro n
  induction n with
  | zero =>
    intro v3 μ
    exact g_none
  | succ n ih =>
    intro v3 μ
    rw [L_X9_lookAtWord_110_s]
    refine g_iload_n dX9_lookAtWord_110 2 rfl ?_
    refine g_bipush dX9_lookAtWord_111 (v := 28) (by decide) ?_
    refine g_icmp_ge (tgt := 138) dX9_lookAtWord_113 (by decide) (fun _ => ?_) (fun _ => ?_)
    · refine g_lv [] rfl ?_
      exact hk μ
    · refine g_aload_n dX9_lookAtWord_116 0 rfl ?_
      refine g_getR (b := 11) fl_X9_22 sh_9 (by decide) rfl rfl dX9_lookAtWord_117 ?_
      refine g_iload_n dX9_lookAtWord_120 2 rfl ?_
      refine g_laload sh_11 dX9_lookAtWord_121 (fun x10 => ?_)
      refine g_lload_n dX9_lookAtWord_122 1 rfl ?_
      refine g_lcmp dX9_lookAtWord_123 ?_
      refine g_if_ne (tgt := 132) dX9_lookAtWord_124 (by decide) (fun _ => ?_) (fun _ => ?_)
      · refine g_iinc dX9_lookAtWord_132 2 rfl (v := (v3 + 1)) rfl (by decide) (lv' := [(3, .int (v3 + 1)), (0, .ref (gb g + 9)), (1, .long v1)]) rfl ?_
        refine g_goto (tgt := 110) dX9_lookAtWord_135 (by decide) ?_
        refine g_lv [1, 2, 0] rfl ?_
        exact ih (v3 + 1) μ
      · refine g_aload_n dX9_lookAtWord_127 0 rfl ?_
        refine g_iload_n dX9_lookAtWord_128 2 rfl ?_
        refine g_putI fl_X9_86 sh_9 (by decide) rfl dX9_lookAtWord_129 ?_
        refine g_iinc dX9_lookAtWord_132 2 rfl (v := (v3 + 1)) rfl (by decide) (lv' := [(3, .int (v3 + 1)), (0, .ref (gb g + 9)), (1, .long v1)]) rfl ?_
        refine g_goto (tgt := 110) dX9_lookAtWord_135 (by decide) ?_
        refine g_lv [1, 2, 0] rfl ?_
        exact ih (v3 + 1) (sI μ 9 5 v3)
set_option maxHeartbeats 4000000 in
set_option maxRecDepth 100000 in
theorem ok_X9_lookAtWord (g : GG) (F : Nat)   (μ : Mm) : Ct g yX9_lookAtWord cX9_lookAtWord 4 none 1 cvV [.ref (gb g + 9)] μ (f_X9_lookAtWord F μ) := by
  refine ct_V (by decide +kernel) (Nat.le_of_ble_eq_true rfl) (show Go g RX9 cX9_lookAtWord 4 .return_ 1 cvV 0 [(0, .ref (gb g + 9))] [] μ (f_X9_lookAtWord F μ) from ?_)
  unfold f_X9_lookAtWord
  refine g_lconst dX9_lookAtWord_0 (v := 0) (by decide) ?_
  refine g_lstore_n dX9_lookAtWord_1 rfl (by decide) (lv' := [(1, .long 0), (0, .ref (gb g + 9))]) rfl ?_
  refine g_lv [1, 0] rfl ?_
  refine okL_X9_lookAtWord_2 g F _ (fun u8 μ9 => ?_) F 0 μ
  refine g_aload_n dX9_lookAtWord_93 0 rfl ?_
  refine g_iconst dX9_lookAtWord_94 (v := 1) (by decide) ?_
  refine g_putI fl_X9_63 sh_9 (by decide) rfl dX9_lookAtWord_95 ?_
  refine g_aload_n dX9_lookAtWord_98 0 rfl ?_
  refine g_lload_n dX9_lookAtWord_99 1 rfl ?_
  refine g_putJ fl_X9_82 sh_9 (by decide) rfl dX9_lookAtWord_100 ?_
  refine g_aload_n dX9_lookAtWord_103 0 rfl ?_
  refine g_iconst dX9_lookAtWord_104 (v := (-1)) (by decide) ?_
  refine g_putI fl_X9_86 sh_9 (by decide) rfl dX9_lookAtWord_105 ?_
  refine g_iconst dX9_lookAtWord_108 (v := 0) (by decide) ?_
  refine g_istore_n dX9_lookAtWord_109 rfl (by decide) (lv' := [(3, .int 0), (0, .ref (gb g + 9)), (1, .long u8)]) rfl ?_
  refine g_lv [1, 2, 0] rfl ?_
  refine okL_X9_lookAtWord_110 g F u8 _ (fun μ12 => ?_) F 0 (sI (sJ (sI μ9 9 4 1) 9 6 u8) 9 5 (-1))
  exact g_ret dX9_lookAtWord_138 rfl rfl
set_option maxHeartbeats 4000000 in
set_option maxRecDepth 100000 in
theorem ok_X9_isFigure (g : GG) (v0 : Int32)  (μ : Mm) : Ct g yX9_isFigure cX9_isFigure 1 (some (.boolean)) 1 (cvZp μ) [.int v0] μ (f_X9_isFigure v0 μ) := by
  refine ct_Zp (by decide +kernel) (Nat.le_of_ble_eq_true rfl) (show Go g RX9 cX9_isFigure 1 .ireturn 1 (cvZp μ) 0 [(0, .int v0)] [] μ (f_X9_isFigure v0 μ) from ?_)
  unfold f_X9_isFigure
  refine g_iload_n dX9_isFigure_0 0 rfl ?_
  refine g_bipush dX9_isFigure_1 (v := 48) (by decide) ?_
  refine g_icmp_lt (tgt := 16) dX9_isFigure_3 (by decide) (fun _ => ?_) (fun _ => ?_)
  · refine g_iconst dX9_isFigure_16 (v := 0) (by decide) ?_
    exact g_ret dX9_isFigure_17 rfl rfl
  · refine g_iload_n dX9_isFigure_6 0 rfl ?_
    refine g_bipush dX9_isFigure_7 (v := 57) (by decide) ?_
    refine g_icmp_gt (tgt := 16) dX9_isFigure_9 (by decide) (fun _ => ?_) (fun _ => ?_)
    · refine g_iconst dX9_isFigure_16 (v := 0) (by decide) ?_
      exact g_ret dX9_isFigure_17 rfl rfl
    · refine g_iconst dX9_isFigure_12 (v := 1) (by decide) ?_
      refine g_goto (tgt := 17) dX9_isFigure_13 (by decide) ?_
      exact g_ret dX9_isFigure_17 rfl rfl
set_option maxHeartbeats 4000000 in
set_option maxRecDepth 100000 in
theorem okL_X9_lookAtNumber_5 (g : GG) (F : Nat)  (k : Mm → Option (Mm))  (hk : ∀ (μ : Mm), Go g RX9 cX9_lookAtNumber 1 .return_ 1 cvV 101 [(0, .ref (gb g + 9))] [] μ (k μ)) : ∀ (n : Nat) (μ : Mm), Go g RX9 cX9_lookAtNumber 1 .return_ 1 cvV 5 [(0, .ref (gb g + 9))] [] μ (L_X9_lookAtNumber_5 F k n μ) := by
  intro n
  induction n with
  | zero =>
    intro μ
    exact g_none
  | succ n ih =>
    intro μ
    rw [L_X9_lookAtNumber_5_s]
    refine g_aload_n dX9_lookAtNumber_5 0 rfl ?_
    refine g_getI fl_X9_54 sh_9 (by decide) rfl dX9_lookAtNumber_6 ?_
    refine g_aload_n dX9_lookAtNumber_9 0 rfl ?_
    refine g_getI fl_X9_51 sh_9 (by decide) rfl dX9_lookAtNumber_10 ?_
    refine g_icmp_ge (tgt := 101) dX9_lookAtNumber_13 (by decide) (fun _ => ?_) (fun _ => ?_)
    · refine g_lv [0] rfl ?_
      exact hk μ
    · refine g_aload_n dX9_lookAtNumber_16 0 rfl ?_
      refine g_getR (b := 10) fl_X9_11 sh_9 (by decide) rfl rfl dX9_lookAtNumber_17 ?_
      refine g_aload_n dX9_lookAtNumber_20 0 rfl ?_
      refine g_getI fl_X9_54 sh_9 (by decide) rfl dX9_lookAtNumber_21 ?_
      refine g_baload sh_10 dX9_lookAtNumber_24 (fun x1 => ?_)
      refine g_bipush dX9_lookAtNumber_25 (v := 48) (by decide) ?_
      refine g_icmp_lt (tgt := 101) dX9_lookAtNumber_27 (by decide) (fun _ => ?_) (fun _ => ?_)
      · refine g_lv [0] rfl ?_
        exact hk μ
      · refine g_aload_n dX9_lookAtNumber_30 0 rfl ?_
        refine g_getR (b := 10) fl_X9_11 sh_9 (by decide) rfl rfl dX9_lookAtNumber_31 ?_
        refine g_aload_n dX9_lookAtNumber_34 0 rfl ?_
        refine g_getI fl_X9_54 sh_9 (by decide) rfl dX9_lookAtNumber_35 ?_
        refine g_baload sh_10 dX9_lookAtNumber_38 (fun x2 => ?_)
        refine g_bipush dX9_lookAtNumber_39 (v := 57) (by decide) ?_
        refine g_icmp_gt (tgt := 101) dX9_lookAtNumber_41 (by decide) (fun _ => ?_) (fun _ => ?_)
        · refine g_lv [0] rfl ?_
          exact hk μ
        · refine g_aload_n dX9_lookAtNumber_44 0 rfl ?_
          refine g_aload_n dX9_lookAtNumber_45 0 rfl ?_
          refine g_getI fl_X9_54 sh_9 (by decide) rfl dX9_lookAtNumber_46 ?_
          refine g_aload_n dX9_lookAtNumber_49 0 rfl ?_
          refine g_getI fl_X9_60 sh_9 (by decide) rfl dX9_lookAtNumber_50 ?_
          refine g_isub dX9_lookAtNumber_53 ?_
          refine g_iconst dX9_lookAtNumber_54 (v := 4) (by decide) ?_
          refine g_jn (fun (a5 : Int32) oo => Go g RX9 cX9_lookAtNumber 1 .return_ 1 cvV 85 [(0, .ref (gb g + 9))] [.int a5, .ref (gb g + 9)] μ oo) (fun a5 => ?_) (fun K4 hF6 => ?_)
          · refine g_putI fl_X9_86 sh_9 (by decide) rfl dX9_lookAtNumber_85 ?_
            refine g_aload_n dX9_lookAtNumber_88 0 rfl ?_
            refine g_dup dX9_lookAtNumber_89 rfl ?_
            refine g_getI fl_X9_54 sh_9 (by decide) rfl dX9_lookAtNumber_90 ?_
            refine g_iconst dX9_lookAtNumber_93 (v := 1) (by decide) ?_
            refine g_iadd dX9_lookAtNumber_94 ?_
            refine g_putI fl_X9_54 sh_9 (by decide) rfl dX9_lookAtNumber_95 ?_
            refine g_goto (tgt := 5) dX9_lookAtNumber_98 (by decide) ?_
            refine g_lv [0] rfl ?_
            exact ih (sI (sI μ 9 5 a5) 9 10 ((mI (sI μ 9 5 a5) 9 10) + (1 : Int32)))
          · refine g_icmp_ge (tgt := 81) dX9_lookAtNumber_55 (by decide) (fun _ => ?_) (fun _ => ?_)
            · refine g_aload_n dX9_lookAtNumber_81 0 rfl ?_
              refine g_getI fl_X9_86 sh_9 (by decide) rfl dX9_lookAtNumber_82 ?_
              refine g_lv [0] rfl ?_
              exact hF6 (mI μ 9 5)
            · refine g_aload_n dX9_lookAtNumber_58 0 rfl ?_
              refine g_getI fl_X9_86 sh_9 (by decide) rfl dX9_lookAtNumber_59 ?_
              refine g_bipush dX9_lookAtNumber_62 (v := 10) (by decide) ?_
              refine g_imul dX9_lookAtNumber_64 ?_
              refine g_aload_n dX9_lookAtNumber_65 0 rfl ?_
              refine g_getR (b := 10) fl_X9_11 sh_9 (by decide) rfl rfl dX9_lookAtNumber_66 ?_
              refine g_aload_n dX9_lookAtNumber_69 0 rfl ?_
              refine g_getI fl_X9_54 sh_9 (by decide) rfl dX9_lookAtNumber_70 ?_
              refine g_baload sh_10 dX9_lookAtNumber_73 (fun x7 => ?_)
              refine g_bipush dX9_lookAtNumber_74 (v := 48) (by decide) ?_
              refine g_isub dX9_lookAtNumber_76 ?_
              refine g_iadd dX9_lookAtNumber_77 ?_
              refine g_goto (tgt := 85) dX9_lookAtNumber_78 (by decide) ?_
              refine g_lv [0] rfl ?_
              exact hF6 (((mI μ 9 5) * (10 : Int32)) + (x7 - (48 : Int32)))
set_option maxHeartbeats 4000000 in
set_option maxRecDepth 100000 in
theorem ok_X9_lookAtNumber (g : GG) (F : Nat)   (μ : Mm) : Ct g yX9_lookAtNumber cX9_lookAtNumber 1 none 1 cvV [.ref (gb g + 9)] μ (f_X9_lookAtNumber F μ) := by
  refine ct_V (by decide +kernel) (Nat.le_of_ble_eq_true rfl) (show Go g RX9 cX9_lookAtNumber 1 .return_ 1 cvV 0 [(0, .ref (gb g + 9))] [] μ (f_X9_lookAtNumber F μ) from ?_)
  unfold f_X9_lookAtNumber
  refine g_aload_n dX9_lookAtNumber_0 0 rfl ?_
  refine g_iconst dX9_lookAtNumber_1 (v := 0) (by decide) ?_
  refine g_putI fl_X9_86 sh_9 (by decide) rfl dX9_lookAtNumber_2 ?_
  refine g_lv [0] rfl ?_
  refine okL_X9_lookAtNumber_5 g F _ (fun μ8 => ?_) F (sI μ 9 5 0)
  refine g_aload_n dX9_lookAtNumber_101 0 rfl ?_
  refine g_aload_n dX9_lookAtNumber_102 0 rfl ?_
  refine g_getI fl_X9_54 sh_9 (by decide) rfl dX9_lookAtNumber_103 ?_
  refine g_aload_n dX9_lookAtNumber_106 0 rfl ?_
  refine g_getI fl_X9_60 sh_9 (by decide) rfl dX9_lookAtNumber_107 ?_
  refine g_isub dX9_lookAtNumber_110 ?_
  refine g_iconst dX9_lookAtNumber_111 (v := 4) (by decide) ?_
  have hJ11 : ∀ (w10 : Int32), w10 = (if 4 < ((mI μ8 9 10) - (mI μ8 9 9)) then (4 : Int32) else 2) → Go g RX9 cX9_lookAtNumber 1 .return_ 1 cvV 120 [] [.int w10, .ref (gb g + 9)] μ8 (some (sI μ8 9 4 (if 4 < ((mI μ8 9 10) - (mI μ8 9 9)) then (4 : Int32) else 2))) := by
    intro w10 ew10
    subst ew10
    refine g_putI fl_X9_63 sh_9 (by decide) rfl dX9_lookAtNumber_120 ?_
    exact g_ret dX9_lookAtNumber_123 rfl rfl
  refine g_same (g_icmp_gt (tgt := 119) dX9_lookAtNumber_112 (by decide) (fun c9 => ?_) (fun c9 => ?_))
  · refine g_iconst dX9_lookAtNumber_119 (v := 4) (by decide) ?_
    refine g_lv [] rfl ?_
    exact hJ11 _ (by rw [if_pos c9])
  · refine g_iconst dX9_lookAtNumber_115 (v := 2) (by decide) ?_
    refine g_goto (tgt := 120) dX9_lookAtNumber_116 (by decide) ?_
    refine g_lv [] rfl ?_
    exact hJ11 _ (by rw [if_neg c9])
set_option maxHeartbeats 4000000 in
set_option maxRecDepth 100000 in
theorem ok_X9_lookAtSign (g : GG)   (μ : Mm) : Ct g yX9_lookAtSign cX9_lookAtSign 2 none 1 cvV [.ref (gb g + 9)] μ (f_X9_lookAtSign  μ) := by
  refine ct_V (by decide +kernel) (Nat.le_of_ble_eq_true rfl) (show Go g RX9 cX9_lookAtSign 2 .return_ 1 cvV 0 [(0, .ref (gb g + 9))] [] μ (f_X9_lookAtSign  μ) from ?_)
  unfold f_X9_lookAtSign
  refine g_aload_n dX9_lookAtSign_0 0 rfl ?_
  refine g_aload_n dX9_lookAtSign_1 0 rfl ?_
  refine g_getR (b := 10) fl_X9_11 sh_9 (by decide) rfl rfl dX9_lookAtSign_2 ?_
  refine g_aload_n dX9_lookAtSign_5 0 rfl ?_
  refine g_getI fl_X9_54 sh_9 (by decide) rfl dX9_lookAtSign_6 ?_
  refine g_baload sh_10 dX9_lookAtSign_9 (fun x1 => ?_)
  refine g_putI fl_X9_86 sh_9 (by decide) rfl dX9_lookAtSign_10 ?_
  refine g_aload_n dX9_lookAtSign_13 0 rfl ?_
  refine g_getI fl_X9_86 sh_9 (by decide) rfl dX9_lookAtSign_14 ?_
  refine g_bipush dX9_lookAtSign_17 (v := 59) (by decide) ?_
  have hJ10 : ∀ (w6 : Int32), w6 = (if (mI (sI μ 9 5 x1) 9 5) = 59 then (1 : Int32) else (if (mI (sI μ 9 5 x1) 9 5) = 60 then (1 : Int32) else (if (mI (sI μ 9 5 x1) 9 5) = 62 then (1 : Int32) else (if (mI (sI μ 9 5 x1) 9 5) = 61 then (1 : Int32) else 0)))) → Go g RX9 cX9_lookAtSign 2 .return_ 1 cvV 54 [(0, .ref (gb g + 9))] [.int w6] (sI μ 9 5 x1) (some (sI (sI (sI μ 9 5 x1) 9 4 (if (if (mI (sI μ 9 5 x1) 9 5) = 59 then (1 : Int32) else (if (mI (sI μ 9 5 x1) 9 5) = 60 then (1 : Int32) else (if (mI (sI μ 9 5 x1) 9 5) = 62 then (1 : Int32) else (if (mI (sI μ 9 5 x1) 9 5) = 61 then (1 : Int32) else 0)))) = 0 then (4 : Int32) else 3)) 9 10 ((mI (sI (sI μ 9 5 x1) 9 4 (if (if (mI (sI μ 9 5 x1) 9 5) = 59 then (1 : Int32) else (if (mI (sI μ 9 5 x1) 9 5) = 60 then (1 : Int32) else (if (mI (sI μ 9 5 x1) 9 5) = 62 then (1 : Int32) else (if (mI (sI μ 9 5 x1) 9 5) = 61 then (1 : Int32) else 0)))) = 0 then (4 : Int32) else 3)) 9 10) + (1 : Int32)))) := by
    intro w6 ew6
    subst ew6
    refine g_istore_n dX9_lookAtSign_54 rfl (by decide) (lv' := [(1, .int (if (mI (sI μ 9 5 x1) 9 5) = 59 then (1 : Int32) else (if (mI (sI μ 9 5 x1) 9 5) = 60 then (1 : Int32) else (if (mI (sI μ 9 5 x1) 9 5) = 62 then (1 : Int32) else (if (mI (sI μ 9 5 x1) 9 5) = 61 then (1 : Int32) else 0))))), (0, .ref (gb g + 9))]) rfl ?_
    refine g_aload_n dX9_lookAtSign_55 1 rfl ?_
    refine g_iload_n dX9_lookAtSign_56 0 rfl ?_
    have hJ9 : ∀ (w8 : Int32), w8 = (if (if (mI (sI μ 9 5 x1) 9 5) = 59 then (1 : Int32) else (if (mI (sI μ 9 5 x1) 9 5) = 60 then (1 : Int32) else (if (mI (sI μ 9 5 x1) 9 5) = 62 then (1 : Int32) else (if (mI (sI μ 9 5 x1) 9 5) = 61 then (1 : Int32) else 0)))) = 0 then (4 : Int32) else 3) → Go g RX9 cX9_lookAtSign 2 .return_ 1 cvV 65 [(0, .ref (gb g + 9))] [.int w8, .ref (gb g + 9)] (sI μ 9 5 x1) (some (sI (sI (sI μ 9 5 x1) 9 4 (if (if (mI (sI μ 9 5 x1) 9 5) = 59 then (1 : Int32) else (if (mI (sI μ 9 5 x1) 9 5) = 60 then (1 : Int32) else (if (mI (sI μ 9 5 x1) 9 5) = 62 then (1 : Int32) else (if (mI (sI μ 9 5 x1) 9 5) = 61 then (1 : Int32) else 0)))) = 0 then (4 : Int32) else 3)) 9 10 ((mI (sI (sI μ 9 5 x1) 9 4 (if (if (mI (sI μ 9 5 x1) 9 5) = 59 then (1 : Int32) else (if (mI (sI μ 9 5 x1) 9 5) = 60 then (1 : Int32) else (if (mI (sI μ 9 5 x1) 9 5) = 62 then (1 : Int32) else (if (mI (sI μ 9 5 x1) 9 5) = 61 then (1 : Int32) else 0)))) = 0 then (4 : Int32) else 3)) 9 10) + (1 : Int32)))) := by
      intro w8 ew8
      subst ew8
      refine g_putI fl_X9_63 sh_9 (by decide) rfl dX9_lookAtSign_65 ?_
      refine g_aload_n dX9_lookAtSign_68 0 rfl ?_
      refine g_dup dX9_lookAtSign_69 rfl ?_
      refine g_getI fl_X9_54 sh_9 (by decide) rfl dX9_lookAtSign_70 ?_
      refine g_iconst dX9_lookAtSign_73 (v := 1) (by decide) ?_
      refine g_iadd dX9_lookAtSign_74 ?_
      refine g_putI fl_X9_54 sh_9 (by decide) rfl dX9_lookAtSign_75 ?_
      exact g_ret dX9_lookAtSign_78 rfl rfl
    refine g_same (g_if_eq (tgt := 64) dX9_lookAtSign_57 (by decide) (fun c7 => ?_) (fun c7 => ?_))
    · refine g_iconst dX9_lookAtSign_64 (v := 4) (by decide) ?_
      refine g_lv [1] rfl ?_
      exact hJ9 _ (by rw [if_pos c7])
    · refine g_iconst dX9_lookAtSign_60 (v := 3) (by decide) ?_
      refine g_goto (tgt := 65) dX9_lookAtSign_61 (by decide) ?_
      refine g_lv [1] rfl ?_
      exact hJ9 _ (by rw [if_neg c7])
  refine g_same (g_icmp_eq (tgt := 49) dX9_lookAtSign_19 (by decide) (fun c2 => ?_) (fun c2 => ?_))
  · refine g_iconst dX9_lookAtSign_49 (v := 1) (by decide) ?_
    refine g_goto (tgt := 54) dX9_lookAtSign_50 (by decide) ?_
    refine g_lv [0] rfl ?_
    exact hJ10 _ (by rw [if_pos c2])
  · refine g_aload_n dX9_lookAtSign_22 0 rfl ?_
    refine g_getI fl_X9_86 sh_9 (by decide) rfl dX9_lookAtSign_23 ?_
    refine g_bipush dX9_lookAtSign_26 (v := 60) (by decide) ?_
    refine g_same (g_icmp_eq (tgt := 49) dX9_lookAtSign_28 (by decide) (fun c3 => ?_) (fun c3 => ?_))
    · refine g_iconst dX9_lookAtSign_49 (v := 1) (by decide) ?_
      refine g_goto (tgt := 54) dX9_lookAtSign_50 (by decide) ?_
      refine g_lv [0] rfl ?_
      exact hJ10 _ (by rw [if_neg c2, if_pos c3])
    · refine g_aload_n dX9_lookAtSign_31 0 rfl ?_
      refine g_getI fl_X9_86 sh_9 (by decide) rfl dX9_lookAtSign_32 ?_
      refine g_bipush dX9_lookAtSign_35 (v := 62) (by decide) ?_
      refine g_same (g_icmp_eq (tgt := 49) dX9_lookAtSign_37 (by decide) (fun c4 => ?_) (fun c4 => ?_))
      · refine g_iconst dX9_lookAtSign_49 (v := 1) (by decide) ?_
        refine g_goto (tgt := 54) dX9_lookAtSign_50 (by decide) ?_
        refine g_lv [0] rfl ?_
        exact hJ10 _ (by rw [if_neg c2, if_neg c3, if_pos c4])
      · refine g_aload_n dX9_lookAtSign_40 0 rfl ?_
        refine g_getI fl_X9_86 sh_9 (by decide) rfl dX9_lookAtSign_41 ?_
        refine g_bipush dX9_lookAtSign_44 (v := 61) (by decide) ?_
        refine g_same (g_icmp_ne (tgt := 53) dX9_lookAtSign_46 (by decide) (fun c5 => ?_) (fun c5 => ?_))
        · refine g_iconst dX9_lookAtSign_53 (v := 0) (by decide) ?_
          refine g_lv [0] rfl ?_
          exact hJ10 _ (by rw [if_neg c2, if_neg c3, if_neg c4, if_neg c5])
        · refine g_iconst dX9_lookAtSign_49 (v := 1) (by decide) ?_
          refine g_goto (tgt := 54) dX9_lookAtSign_50 (by decide) ?_
          refine g_lv [0] rfl ?_
          exact hJ10 _ (by rw [if_neg c2, if_neg c3, if_neg c4, if_pos c5])
set_option maxHeartbeats 4000000 in
set_option maxRecDepth 100000 in
theorem okL_X9_advance_0 (g : GG) (F : Nat)  (k : Mm → Option (Mm))  (hk : ∀ (μ : Mm), Go g RX9 cX9_advance 1 .return_ 2 cvV 52 [(0, .ref (gb g + 9))] [] μ (k μ)) : ∀ (n : Nat) (μ : Mm), Go g RX9 cX9_advance 1 .return_ 2 cvV 0 [(0, .ref (gb g + 9))] [] μ (L_X9_advance_0 F k n μ) := by
  intro n
  induction n with
  | zero =>
    intro μ
    exact g_none
  | succ n ih =>
    intro μ
    rw [L_X9_advance_0_s]
    refine g_aload_n dX9_advance_0 0 rfl ?_
    refine g_getI fl_X9_54 sh_9 (by decide) rfl dX9_advance_1 ?_
    refine g_aload_n dX9_advance_4 0 rfl ?_
    refine g_getI fl_X9_51 sh_9 (by decide) rfl dX9_advance_5 ?_
    refine g_icmp_ge (tgt := 52) dX9_advance_8 (by decide) (fun _ => ?_) (fun _ => ?_)
    · refine g_lv [0] rfl ?_
      exact hk μ
    · refine g_aload_n dX9_advance_11 0 rfl ?_
      refine g_getR (b := 10) fl_X9_11 sh_9 (by decide) rfl rfl dX9_advance_12 ?_
      refine g_aload_n dX9_advance_15 0 rfl ?_
      refine g_getI fl_X9_54 sh_9 (by decide) rfl dX9_advance_16 ?_
      refine g_baload sh_10 dX9_advance_19 (fun x1 => ?_)
      refine g_bipush dX9_advance_20 (v := 32) (by decide) ?_
      refine g_icmp_eq (tgt := 39) dX9_advance_22 (by decide) (fun _ => ?_) (fun _ => ?_)
      · refine g_aload_n dX9_advance_39 0 rfl ?_
        refine g_dup dX9_advance_40 rfl ?_
        refine g_getI fl_X9_54 sh_9 (by decide) rfl dX9_advance_41 ?_
        refine g_iconst dX9_advance_44 (v := 1) (by decide) ?_
        refine g_iadd dX9_advance_45 ?_
        refine g_putI fl_X9_54 sh_9 (by decide) rfl dX9_advance_46 ?_
        refine g_goto (tgt := 0) dX9_advance_49 (by decide) ?_
        refine g_lv [0] rfl ?_
        exact ih (sI μ 9 10 ((mI μ 9 10) + (1 : Int32)))
      · refine g_aload_n dX9_advance_25 0 rfl ?_
        refine g_getR (b := 10) fl_X9_11 sh_9 (by decide) rfl rfl dX9_advance_26 ?_
        refine g_aload_n dX9_advance_29 0 rfl ?_
        refine g_getI fl_X9_54 sh_9 (by decide) rfl dX9_advance_30 ?_
        refine g_baload sh_10 dX9_advance_33 (fun x2 => ?_)
        refine g_bipush dX9_advance_34 (v := 10) (by decide) ?_
        refine g_icmp_ne (tgt := 52) dX9_advance_36 (by decide) (fun _ => ?_) (fun _ => ?_)
        · refine g_lv [0] rfl ?_
          exact hk μ
        · refine g_aload_n dX9_advance_39 0 rfl ?_
          refine g_dup dX9_advance_40 rfl ?_
          refine g_getI fl_X9_54 sh_9 (by decide) rfl dX9_advance_41 ?_
          refine g_iconst dX9_advance_44 (v := 1) (by decide) ?_
          refine g_iadd dX9_advance_45 ?_
          refine g_putI fl_X9_54 sh_9 (by decide) rfl dX9_advance_46 ?_
          refine g_goto (tgt := 0) dX9_advance_49 (by decide) ?_
          refine g_lv [0] rfl ?_
          exact ih (sI μ 9 10 ((mI μ 9 10) + (1 : Int32)))
set_option maxHeartbeats 4000000 in
set_option maxRecDepth 100000 in
theorem ok_X9_advance (g : GG) (F : Nat)   (μ : Mm) : Ct g yX9_advance cX9_advance 1 none 2 cvV [.ref (gb g + 9)] μ (f_X9_advance F μ) := by
  refine ct_V (by decide +kernel) (Nat.le_of_ble_eq_true rfl) (show Go g RX9 cX9_advance 1 .return_ 2 cvV 0 [(0, .ref (gb g + 9))] [] μ (f_X9_advance F μ) from ?_)
  unfold f_X9_advance
  refine g_lv [0] rfl ?_
  refine okL_X9_advance_0 g F _ (fun μ3 => ?_) F μ
  refine g_aload_n dX9_advance_52 0 rfl ?_
  refine g_aload_n dX9_advance_53 0 rfl ?_
  refine g_getI fl_X9_54 sh_9 (by decide) rfl dX9_advance_54 ?_
  refine g_putI fl_X9_60 sh_9 (by decide) rfl dX9_advance_57 ?_
  refine g_aload_n dX9_advance_60 0 rfl ?_
  refine g_getI fl_X9_54 sh_9 (by decide) rfl dX9_advance_61 ?_
  refine g_aload_n dX9_advance_64 0 rfl ?_
  refine g_getI fl_X9_51 sh_9 (by decide) rfl dX9_advance_65 ?_
  refine g_icmp_lt (tgt := 79) dX9_advance_68 (by decide) (fun _ => ?_) (fun _ => ?_)
  · refine g_aload_n dX9_advance_79 0 rfl ?_
    refine g_getR (b := 10) fl_X9_11 sh_9 (by decide) rfl rfl dX9_advance_80 ?_
    refine g_aload_n dX9_advance_83 0 rfl ?_
    refine g_getI fl_X9_54 sh_9 (by decide) rfl dX9_advance_84 ?_
    refine g_baload sh_10 dX9_advance_87 (fun x5 => ?_)
    refine g_sZp [.int x5] [] mw_X9_66 (ok_X9_isLetter g x5 (sI μ3 9 9 (mI μ3 9 10))) (by omega) rfl rfl (Nat.le_of_ble_eq_true rfl) dX9_advance_88 (fun x6 _ => ?_)
    refine g_ifeqB (tgt := 101) dX9_advance_91 (by decide) (fun _ => ?_) (fun _ => ?_)
    · refine g_aload_n dX9_advance_101 0 rfl ?_
      refine g_getR (b := 10) fl_X9_11 sh_9 (by decide) rfl rfl dX9_advance_102 ?_
      refine g_aload_n dX9_advance_105 0 rfl ?_
      refine g_getI fl_X9_54 sh_9 (by decide) rfl dX9_advance_106 ?_
      refine g_baload sh_10 dX9_advance_109 (fun x8 => ?_)
      refine g_sZp [.int x8] [] mw_X9_73 (ok_X9_isFigure g x8 (sI μ3 9 9 (mI μ3 9 10))) (by omega) rfl rfl (Nat.le_of_ble_eq_true rfl) dX9_advance_110 (fun x9 _ => ?_)
      refine g_ifeqB (tgt := 123) dX9_advance_113 (by decide) (fun _ => ?_) (fun _ => ?_)
      · refine g_aload_n dX9_advance_123 0 rfl ?_
        refine g_vV [] [] mw_X9_79 (ok_X9_lookAtSign g (sI μ3 9 9 (mI μ3 9 10))) (by omega) sh_9 (by decide) rfl rfl (Nat.le_of_ble_eq_true rfl) dX9_advance_124 (fun μ12 _ => ?_)
        exact g_ret dX9_advance_127 rfl rfl
      · refine g_aload_n dX9_advance_116 0 rfl ?_
        refine g_vV [] [] mw_X9_76 (ok_X9_lookAtNumber g F (sI μ3 9 9 (mI μ3 9 10))) (by omega) sh_9 (by decide) rfl rfl (Nat.le_of_ble_eq_true rfl) dX9_advance_117 (fun μ14 _ => ?_)
        refine g_goto (tgt := 127) dX9_advance_120 (by decide) ?_
        exact g_ret dX9_advance_127 rfl rfl
    · refine g_aload_n dX9_advance_94 0 rfl ?_
      refine g_vV [] [] mw_X9_70 (ok_X9_lookAtWord g F (sI μ3 9 9 (mI μ3 9 10))) (by omega) sh_9 (by decide) rfl rfl (Nat.le_of_ble_eq_true rfl) dX9_advance_95 (fun μ16 _ => ?_)
      refine g_goto (tgt := 127) dX9_advance_98 (by decide) ?_
      exact g_ret dX9_advance_127 rfl rfl
  · refine g_aload_n dX9_advance_71 0 rfl ?_
    refine g_iconst dX9_advance_72 (v := 0) (by decide) ?_
    refine g_putI fl_X9_63 sh_9 (by decide) rfl dX9_advance_73 ?_
    refine g_goto (tgt := 127) dX9_advance_76 (by decide) ?_
    exact g_ret dX9_advance_127 rfl rfl
set_option maxHeartbeats 4000000 in
set_option maxRecDepth 100000 in
theorem ok_X9_open (g : GG) (F : Nat) (v1 : Int32)  (μ : Mm) : Ct g yX9_open cX9_open 2 none 3 cvV [.ref (gb g + 9), .int v1] μ (f_X9_open F v1 μ) := by
  refine ct_V (by decide +kernel) (Nat.le_of_ble_eq_true rfl) (show Go g RX9 cX9_open 2 .return_ 3 cvV 0 [(0, .ref (gb g + 9)), (1, .int v1)] [] μ (f_X9_open F v1 μ) from ?_)
  unfold f_X9_open
  refine g_aload_n dX9_open_0 0 rfl ?_
  refine g_iload_n dX9_open_1 1 rfl ?_
  refine g_aload_n dX9_open_2 0 rfl ?_
  refine g_getI fl_X9_42 sh_9 (by decide) rfl dX9_open_3 ?_
  refine g_mmin mw_X9_45 (by omega) (Nat.le_of_ble_eq_true rfl) dX9_open_6 (fun x1 => ?_)
  refine g_putI fl_X9_51 sh_9 (by decide) rfl dX9_open_9 ?_
  refine g_aload_n dX9_open_12 0 rfl ?_
  refine g_iconst dX9_open_13 (v := 0) (by decide) ?_
  refine g_putI fl_X9_42 sh_9 (by decide) rfl dX9_open_14 ?_
  refine g_aload_n dX9_open_17 0 rfl ?_
  refine g_iconst dX9_open_18 (v := 0) (by decide) ?_
  refine g_putI fl_X9_54 sh_9 (by decide) rfl dX9_open_19 ?_
  refine g_aload_n dX9_open_22 0 rfl ?_
  refine g_iconst dX9_open_23 (v := 0) (by decide) ?_
  refine g_putI fl_X9_15 sh_9 (by decide) rfl dX9_open_24 ?_
  refine g_aload_n dX9_open_27 0 rfl ?_
  refine g_iconst dX9_open_28 (v := (-1)) (by decide) ?_
  refine g_putI fl_X9_19 sh_9 (by decide) rfl dX9_open_29 ?_
  refine g_aload_n dX9_open_32 0 rfl ?_
  refine g_vV [] [] mw_X9_57 (ok_X9_advance g F (sI (sI (sI (sI (sI μ 9 11 x1) 9 1 0) 9 10 0) 9 2 0) 9 3 (-1))) (by omega) sh_9 (by decide) rfl rfl (Nat.le_of_ble_eq_true rfl) dX9_open_33 (fun μ3 _ => ?_)
  exact g_ret dX9_open_36 rfl rfl
set_option maxHeartbeats 4000000 in
set_option maxRecDepth 100000 in
theorem ok_X9_setWord (g : GG)   (μ : Mm) : Ct g yX9_setWord cX9_setWord 1 (some (.int)) 1 (cvIp μ) [.ref (gb g + 9)] μ (f_X9_setWord  μ) := by
  refine ct_Ip (by decide +kernel) (Nat.le_of_ble_eq_true rfl) (show Go g RX9 cX9_setWord 1 .ireturn 1 (cvIp μ) 0 [(0, .ref (gb g + 9))] [] μ (f_X9_setWord  μ) from ?_)
  unfold f_X9_setWord
  refine g_aload_n dX9_setWord_0 0 rfl ?_
  refine g_getI fl_X9_63 sh_9 (by decide) rfl dX9_setWord_1 ?_
  refine g_iconst dX9_setWord_4 (v := 1) (by decide) ?_
  have hJ3 : ∀ (w2 : Int32), w2 = (if (mI μ 9 4) = 1 then (mI μ 9 5) else (-1)) → Go g RX9 cX9_setWord 1 .ireturn 1 (cvIp μ) 16 [] [.int w2] μ (some (if (mI μ 9 4) = 1 then (mI μ 9 5) else (-1))) := by
    intro w2 ew2
    subst ew2
    exact g_ret dX9_setWord_16 rfl rfl
  refine g_same (g_icmp_ne (tgt := 15) dX9_setWord_5 (by decide) (fun c1 => ?_) (fun c1 => ?_))
  · refine g_iconst dX9_setWord_15 (v := (-1)) (by decide) ?_
    refine g_lv [] rfl ?_
    exact hJ3 _ (by rw [if_neg c1])
  · refine g_aload_n dX9_setWord_8 0 rfl ?_
    refine g_getI fl_X9_86 sh_9 (by decide) rfl dX9_setWord_9 ?_
    refine g_goto (tgt := 16) dX9_setWord_12 (by decide) ?_
    refine g_lv [] rfl ?_
    exact hJ3 _ (by rw [if_pos c1])
set_option maxHeartbeats 4000000 in
set_option maxRecDepth 100000 in
theorem ok_X9_refuseToken (g : GG) (v1 : Int32)  (μ : Mm) : Ct g yX9_refuseToken cX9_refuseToken 2 (some (.boolean)) 1 cvZ [.ref (gb g + 9), .int v1] μ (f_X9_refuseToken v1 μ) := by
  refine ct_Z (by decide +kernel) (Nat.le_of_ble_eq_true rfl) (show Go g RX9 cX9_refuseToken 2 .ireturn 1 cvZ 0 [(0, .ref (gb g + 9)), (1, .int v1)] [] μ (f_X9_refuseToken v1 μ) from ?_)
  unfold f_X9_refuseToken
  refine g_aload_n dX9_refuseToken_0 0 rfl ?_
  refine g_iload_n dX9_refuseToken_1 1 rfl ?_
  refine g_putI fl_X9_15 sh_9 (by decide) rfl dX9_refuseToken_2 ?_
  refine g_aload_n dX9_refuseToken_5 0 rfl ?_
  refine g_aload_n dX9_refuseToken_6 0 rfl ?_
  refine g_getI fl_X9_60 sh_9 (by decide) rfl dX9_refuseToken_7 ?_
  refine g_putI fl_X9_19 sh_9 (by decide) rfl dX9_refuseToken_10 ?_
  refine g_iconst dX9_refuseToken_13 (v := 0) (by decide) ?_
  exact g_ret dX9_refuseToken_14 rfl rfl
set_option maxHeartbeats 4000000 in
set_option maxRecDepth 100000 in
theorem ok_X9_refuseUnfit (g : GG)   (μ : Mm) : Ct g yX9_refuseUnfit cX9_refuseUnfit 1 (some (.boolean)) 2 cvZ [.ref (gb g + 9)] μ (f_X9_refuseUnfit  μ) := by
  refine ct_Z (by decide +kernel) (Nat.le_of_ble_eq_true rfl) (show Go g RX9 cX9_refuseUnfit 1 .ireturn 2 cvZ 0 [(0, .ref (gb g + 9))] [] μ (f_X9_refuseUnfit  μ) from ?_)
  unfold f_X9_refuseUnfit
  refine g_aload_n dX9_refuseUnfit_0 0 rfl ?_
  refine g_aload_n dX9_refuseUnfit_1 0 rfl ?_
  refine g_getI fl_X9_63 sh_9 (by decide) rfl dX9_refuseUnfit_2 ?_
  refine g_iconst dX9_refuseUnfit_5 (v := 4) (by decide) ?_
  have hJ5 : ∀ (w2 : Int32), w2 = (if (mI μ 9 4) = 4 then (1 : Int32) else 2) → Go g RX9 cX9_refuseUnfit 1 .ireturn 2 cvZ 14 [] [.int w2, .ref (gb g + 9)] μ (bd (f_X9_refuseToken (if (mI μ 9 4) = 4 then (1 : Int32) else 2) μ) fun x3 μ4 => some (x3, μ4)) := by
    intro w2 ew2
    subst ew2
    refine g_vZ [.int (if (mI μ 9 4) = 4 then (1 : Int32) else 2)] [] mw_X9_89 (ok_X9_refuseToken g (if (mI μ 9 4) = 4 then (1 : Int32) else 2) μ) (by omega) sh_9 (by decide) rfl rfl (Nat.le_of_ble_eq_true rfl) dX9_refuseUnfit_14 (fun x3 μ4 _ => ?_)
    exact g_ret dX9_refuseUnfit_17 rfl rfl
  refine g_same (g_icmp_ne (tgt := 13) dX9_refuseUnfit_6 (by decide) (fun c1 => ?_) (fun c1 => ?_))
  · refine g_iconst dX9_refuseUnfit_13 (v := 2) (by decide) ?_
    refine g_lv [] rfl ?_
    exact hJ5 _ (by rw [if_neg c1])
  · refine g_iconst dX9_refuseUnfit_9 (v := 1) (by decide) ?_
    refine g_goto (tgt := 14) dX9_refuseUnfit_10 (by decide) ?_
    refine g_lv [] rfl ?_
    exact hJ5 _ (by rw [if_pos c1])
set_option maxHeartbeats 4000000 in
set_option maxRecDepth 100000 in
theorem ok_X9_takeWord (g : GG) (F : Nat) (v1 : Int32)  (μ : Mm) : Ct g yX9_takeWord cX9_takeWord 2 (some (.boolean)) 3 cvZ [.ref (gb g + 9), .int v1] μ (f_X9_takeWord F v1 μ) := by
  refine ct_Z (by decide +kernel) (Nat.le_of_ble_eq_true rfl) (show Go g RX9 cX9_takeWord 2 .ireturn 3 cvZ 0 [(0, .ref (gb g + 9)), (1, .int v1)] [] μ (f_X9_takeWord F v1 μ) from ?_)
  unfold f_X9_takeWord
  refine g_aload_n dX9_takeWord_0 0 rfl ?_
  refine g_vIp [] [] mw_X9_92 (ok_X9_setWord g μ) (by omega) sh_9 (by decide) rfl rfl (Nat.le_of_ble_eq_true rfl) dX9_takeWord_1 (fun x1 _ => ?_)
  refine g_iload_n dX9_takeWord_4 1 rfl ?_
  refine g_icmp_eq (tgt := 13) dX9_takeWord_5 (by decide) (fun _ => ?_) (fun _ => ?_)
  · refine g_aload_n dX9_takeWord_13 0 rfl ?_
    refine g_vV [] [] mw_X9_57 (ok_X9_advance g F μ) (by omega) sh_9 (by decide) rfl rfl (Nat.le_of_ble_eq_true rfl) dX9_takeWord_14 (fun μ3 _ => ?_)
    refine g_iconst dX9_takeWord_17 (v := 1) (by decide) ?_
    exact g_ret dX9_takeWord_18 rfl rfl
  · refine g_aload_n dX9_takeWord_8 0 rfl ?_
    refine g_vZ [] [] mw_X9_95 (ok_X9_refuseUnfit g μ) (by omega) sh_9 (by decide) rfl rfl (Nat.le_of_ble_eq_true rfl) dX9_takeWord_9 (fun x4 μ5 _ => ?_)
    exact g_ret dX9_takeWord_12 rfl rfl
set_option maxHeartbeats 4000000 in
set_option maxRecDepth 100000 in
theorem ok_X1_takeWordOnce (g : GG) (F : Nat) (v1 : Int32)  (μ : Mm) : Ct g yX1_takeWordOnce cX1_takeWordOnce 2 (some (.boolean)) 4 cvZ [.ref (gb g + 12), .int v1] μ (f_X1_takeWordOnce F v1 μ) := by
  refine ct_Z (by decide +kernel) (Nat.le_of_ble_eq_true rfl) (show Go g RX1 cX1_takeWordOnce 2 .ireturn 4 cvZ 0 [(0, .ref (gb g + 12)), (1, .int v1)] [] μ (f_X1_takeWordOnce F v1 μ) from ?_)
  unfold f_X1_takeWordOnce
  refine g_aload_n dX1_takeWordOnce_0 0 rfl ?_
  refine g_getI fl_X1_15 sh_12 (by decide) rfl dX1_takeWordOnce_1 ?_
  refine g_iload_n dX1_takeWordOnce_4 1 rfl ?_
  refine g_ishr dX1_takeWordOnce_5 ?_
  refine g_iconst dX1_takeWordOnce_6 (v := 1) (by decide) ?_
  refine g_iand dX1_takeWordOnce_7 ?_
  refine g_if_eq (tgt := 20) dX1_takeWordOnce_8 (by decide) (fun _ => ?_) (fun _ => ?_)
  · refine g_aload_n dX1_takeWordOnce_20 0 rfl ?_
    refine g_dup dX1_takeWordOnce_21 rfl ?_
    refine g_getI fl_X1_15 sh_12 (by decide) rfl dX1_takeWordOnce_22 ?_
    refine g_iconst dX1_takeWordOnce_25 (v := 1) (by decide) ?_
    refine g_iload_n dX1_takeWordOnce_26 1 rfl ?_
    refine g_ishl dX1_takeWordOnce_27 ?_
    refine g_ior dX1_takeWordOnce_28 ?_
    refine g_putI fl_X1_15 sh_12 (by decide) rfl dX1_takeWordOnce_29 ?_
    refine g_aload_n dX1_takeWordOnce_32 0 rfl ?_
    refine g_getR (b := 9) fl_X1_9 sh_12 (by decide) rfl rfl dX1_takeWordOnce_33 ?_
    refine g_iload_n dX1_takeWordOnce_36 1 rfl ?_
    refine g_vZ [.int v1] [] mw_X1_80 (ok_X9_takeWord g F v1 (sI μ 12 1 ((mI μ 12 1) ||| ((1 : Int32) <<< (v1 &&& 31))))) (by omega) sh_9 (by decide) rfl rfl (Nat.le_of_ble_eq_true rfl) dX1_takeWordOnce_37 (fun x1 μ2 _ => ?_)
    exact g_ret dX1_takeWordOnce_40 rfl rfl
  · refine g_aload_n dX1_takeWordOnce_11 0 rfl ?_
    refine g_getR (b := 9) fl_X1_9 sh_12 (by decide) rfl rfl dX1_takeWordOnce_12 ?_
    refine g_iconst dX1_takeWordOnce_15 (v := 5) (by decide) ?_
    refine g_vZ [.int 5] [] mw_X1_76 (ok_X9_refuseToken g 5 μ) (by omega) sh_9 (by decide) rfl rfl (Nat.le_of_ble_eq_true rfl) dX1_takeWordOnce_16 (fun x3 μ4 _ => ?_)
    exact g_ret dX1_takeWordOnce_19 rfl rfl
set_option maxHeartbeats 4000000 in
set_option maxRecDepth 100000 in
theorem ok_X9_takeNumber (g : GG) (F : Nat) (v1 : Int32) (v2 : Int32)  (μ : Mm) : Ct g yX9_takeNumber cX9_takeNumber 3 (some (.boolean)) 3 cvZ [.ref (gb g + 9), .int v1, .int v2] μ (f_X9_takeNumber F v1 v2 μ) := by
  refine ct_Z (by decide +kernel) (Nat.le_of_ble_eq_true rfl) (show Go g RX9 cX9_takeNumber 3 .ireturn 3 cvZ 0 [(0, .ref (gb g + 9)), (1, .int v1), (2, .int v2)] [] μ (f_X9_takeNumber F v1 v2 μ) from ?_)
  unfold f_X9_takeNumber
  refine g_aload_n dX9_takeNumber_0 0 rfl ?_
  refine g_getI fl_X9_63 sh_9 (by decide) rfl dX9_takeNumber_1 ?_
  refine g_iconst dX9_takeNumber_4 (v := 2) (by decide) ?_
  refine g_icmp_eq (tgt := 13) dX9_takeNumber_5 (by decide) (fun _ => ?_) (fun _ => ?_)
  · refine g_aload_n dX9_takeNumber_13 0 rfl ?_
    refine g_getI fl_X9_86 sh_9 (by decide) rfl dX9_takeNumber_14 ?_
    refine g_iload_n dX9_takeNumber_17 1 rfl ?_
    refine g_iload_n dX9_takeNumber_18 2 rfl ?_
    refine g_sZp [.int (mI μ 9 5), .int v1, .int v2] [] mw_X9_99 (ok_X11_within g (mI μ 9 5) v1 v2 μ) (by omega) rfl rfl (Nat.le_of_ble_eq_true rfl) dX9_takeNumber_19 (fun x1 _ => ?_)
    refine g_ifneB (tgt := 31) dX9_takeNumber_22 (by decide) (fun _ => ?_) (fun _ => ?_)
    · refine g_aload_n dX9_takeNumber_31 0 rfl ?_
      refine g_aload_n dX9_takeNumber_32 0 rfl ?_
      refine g_getI fl_X9_86 sh_9 (by decide) rfl dX9_takeNumber_33 ?_
      refine g_putI fl_X9_103 sh_9 (by decide) rfl dX9_takeNumber_36 ?_
      refine g_aload_n dX9_takeNumber_39 0 rfl ?_
      refine g_vV [] [] mw_X9_57 (ok_X9_advance g F (sI μ 9 7 (mI μ 9 5))) (by omega) sh_9 (by decide) rfl rfl (Nat.le_of_ble_eq_true rfl) dX9_takeNumber_40 (fun μ3 _ => ?_)
      refine g_iconst dX9_takeNumber_43 (v := 1) (by decide) ?_
      exact g_ret dX9_takeNumber_44 rfl rfl
    · refine g_aload_n dX9_takeNumber_25 0 rfl ?_
      refine g_iconst dX9_takeNumber_26 (v := 4) (by decide) ?_
      refine g_vZ [.int 4] [] mw_X9_89 (ok_X9_refuseToken g 4 μ) (by omega) sh_9 (by decide) rfl rfl (Nat.le_of_ble_eq_true rfl) dX9_takeNumber_27 (fun x4 μ5 _ => ?_)
      exact g_ret dX9_takeNumber_30 rfl rfl
  · refine g_aload_n dX9_takeNumber_8 0 rfl ?_
    refine g_vZ [] [] mw_X9_95 (ok_X9_refuseUnfit g μ) (by omega) sh_9 (by decide) rfl rfl (Nat.le_of_ble_eq_true rfl) dX9_takeNumber_9 (fun x6 μ7 _ => ?_)
    exact g_ret dX9_takeNumber_12 rfl rfl
set_option maxHeartbeats 4000000 in
set_option maxRecDepth 100000 in
theorem ok_X9_takeEndOfPart (g : GG) (F : Nat)   (μ : Mm) : Ct g yX9_takeEndOfPart cX9_takeEndOfPart 1 (some (.boolean)) 3 cvZ [.ref (gb g + 9)] μ (f_X9_takeEndOfPart F μ) := by
  refine ct_Z (by decide +kernel) (Nat.le_of_ble_eq_true rfl) (show Go g RX9 cX9_takeEndOfPart 1 .ireturn 3 cvZ 0 [(0, .ref (gb g + 9))] [] μ (f_X9_takeEndOfPart F μ) from ?_)
  unfold f_X9_takeEndOfPart
  refine g_aload_n dX9_takeEndOfPart_0 0 rfl ?_
  refine g_getI fl_X9_63 sh_9 (by decide) rfl dX9_takeEndOfPart_1 ?_
  refine g_iconst dX9_takeEndOfPart_4 (v := 3) (by decide) ?_
  refine g_icmp_ne (tgt := 17) dX9_takeEndOfPart_5 (by decide) (fun _ => ?_) (fun _ => ?_)
  · refine g_aload_n dX9_takeEndOfPart_17 0 rfl ?_
    refine g_vZ [] [] mw_X9_95 (ok_X9_refuseUnfit g μ) (by omega) sh_9 (by decide) rfl rfl (Nat.le_of_ble_eq_true rfl) dX9_takeEndOfPart_18 (fun x1 μ2 _ => ?_)
    exact g_ret dX9_takeEndOfPart_21 rfl rfl
  · refine g_aload_n dX9_takeEndOfPart_8 0 rfl ?_
    refine g_getI fl_X9_86 sh_9 (by decide) rfl dX9_takeEndOfPart_9 ?_
    refine g_bipush dX9_takeEndOfPart_12 (v := 59) (by decide) ?_
    refine g_icmp_eq (tgt := 22) dX9_takeEndOfPart_14 (by decide) (fun _ => ?_) (fun _ => ?_)
    · refine g_aload_n dX9_takeEndOfPart_22 0 rfl ?_
      refine g_vV [] [] mw_X9_57 (ok_X9_advance g F μ) (by omega) sh_9 (by decide) rfl rfl (Nat.le_of_ble_eq_true rfl) dX9_takeEndOfPart_23 (fun μ4 _ => ?_)
      refine g_iconst dX9_takeEndOfPart_26 (v := 1) (by decide) ?_
      exact g_ret dX9_takeEndOfPart_27 rfl rfl
    · refine g_aload_n dX9_takeEndOfPart_17 0 rfl ?_
      refine g_vZ [] [] mw_X9_95 (ok_X9_refuseUnfit g μ) (by omega) sh_9 (by decide) rfl rfl (Nat.le_of_ble_eq_true rfl) dX9_takeEndOfPart_18 (fun x5 μ6 _ => ?_)
      exact g_ret dX9_takeEndOfPart_21 rfl rfl
set_option maxHeartbeats 4000000 in
set_option maxRecDepth 100000 in
theorem ok_X1_takeWide (g : GG) (F : Nat) (r1 : Nat) (hr1 : Bk r1) (μ : Mm) : Ct g yX1_takeWide cX1_takeWide 2 (some (.boolean)) 5 cvZ [.ref (gb g + 12), .ref (gb g + r1)] μ (f_X1_takeWide F r1 μ) := by
  refine ct_Z (by decide +kernel) (Nat.le_of_ble_eq_true rfl) (show Go g RX1 cX1_takeWide 2 .ireturn 5 cvZ 0 [(0, .ref (gb g + 12)), (1, .ref (gb g + r1))] [] μ (f_X1_takeWide F r1 μ) from ?_)
  unfold f_X1_takeWide
  refine g_aload_n dX1_takeWide_0 1 rfl ?_
  refine g_getI fl_X1_83 (bk_0 hr1) (by decide) rfl dX1_takeWide_1 ?_
  refine g_if_le (tgt := 16) dX1_takeWide_4 (by decide) (fun _ => ?_) (fun _ => ?_)
  · refine g_aload_n dX1_takeWide_16 0 rfl ?_
    refine g_iconst dX1_takeWide_17 (v := 0) (by decide) ?_
    refine g_vZ [.int 0] [] mw_X1_86 (ok_X1_takeWordOnce g F 0 μ) (by omega) sh_12 (by decide) rfl rfl (Nat.le_of_ble_eq_true rfl) dX1_takeWide_18 (fun x1 μ2 _ => ?_)
    refine g_ifeqB (tgt := 36) dX1_takeWide_21 (by decide) (fun _ => ?_) (fun _ => ?_)
    · refine g_iconst dX1_takeWide_36 (v := 0) (by decide) ?_
      exact g_ret dX1_takeWide_37 rfl rfl
    · refine g_aload_n dX1_takeWide_24 0 rfl ?_
      refine g_getR (b := 9) fl_X1_9 sh_12 (by decide) rfl rfl dX1_takeWide_25 ?_
      refine g_iconst dX1_takeWide_28 (v := 1) (by decide) ?_
      refine g_iconst dX1_takeWide_29 (v := 5) (by decide) ?_
      refine g_vZ [.int 1, .int 5] [] mw_X1_89 (ok_X9_takeNumber g F 1 5 μ2) (by omega) sh_9 (by decide) rfl rfl (Nat.le_of_ble_eq_true rfl) dX1_takeWide_30 (fun x3 μ4 _ => ?_)
      refine g_ifneB (tgt := 38) dX1_takeWide_33 (by decide) (fun _ => ?_) (fun _ => ?_)
      · refine g_aload_n dX1_takeWide_38 1 rfl ?_
        refine g_aload_n dX1_takeWide_39 0 rfl ?_
        refine g_getR (b := 9) fl_X1_9 sh_12 (by decide) rfl rfl dX1_takeWide_40 ?_
        refine g_getI fl_X1_93 sh_9 (by decide) rfl dX1_takeWide_43 ?_
        refine g_putI fl_X1_96 (bk_0 hr1) (by decide) rfl dX1_takeWide_46 ?_
        refine g_aload_n dX1_takeWide_49 0 rfl ?_
        refine g_getR (b := 9) fl_X1_9 sh_12 (by decide) rfl rfl dX1_takeWide_50 ?_
        refine g_vZ [] [] mw_X1_99 (ok_X9_takeEndOfPart g F (sI μ4 r1 0 (mI μ4 9 7))) (by omega) sh_9 (by decide) rfl rfl (Nat.le_of_ble_eq_true rfl) dX1_takeWide_53 (fun x5 μ6 _ => ?_)
        exact g_ret dX1_takeWide_56 rfl rfl
      · refine g_iconst dX1_takeWide_36 (v := 0) (by decide) ?_
        exact g_ret dX1_takeWide_37 rfl rfl
  · refine g_aload_n dX1_takeWide_7 0 rfl ?_
    refine g_getR (b := 9) fl_X1_9 sh_12 (by decide) rfl rfl dX1_takeWide_8 ?_
    refine g_iconst dX1_takeWide_11 (v := 5) (by decide) ?_
    refine g_vZ [.int 5] [] mw_X1_76 (ok_X9_refuseToken g 5 μ) (by omega) sh_9 (by decide) rfl rfl (Nat.le_of_ble_eq_true rfl) dX1_takeWide_12 (fun x7 μ8 _ => ?_)
    exact g_ret dX1_takeWide_15 rfl rfl
set_option maxHeartbeats 4000000 in
set_option maxRecDepth 100000 in
theorem ok_X1_takeTap (g : GG) (F : Nat) (r1 : Nat) (hr1 : Bk r1) (μ : Mm) : Ct g yX1_takeTap cX1_takeTap 2 (some (.boolean)) 5 cvZ [.ref (gb g + 12), .ref (gb g + r1)] μ (f_X1_takeTap F r1 μ) := by
  refine ct_Z (by decide +kernel) (Nat.le_of_ble_eq_true rfl) (show Go g RX1 cX1_takeTap 2 .ireturn 5 cvZ 0 [(0, .ref (gb g + 12)), (1, .ref (gb g + r1))] [] μ (f_X1_takeTap F r1 μ) from ?_)
  unfold f_X1_takeTap
  refine g_aload_n dX1_takeTap_0 0 rfl ?_
  refine g_iconst dX1_takeTap_1 (v := 1) (by decide) ?_
  refine g_vZ [.int 1] [] mw_X1_86 (ok_X1_takeWordOnce g F 1 μ) (by omega) sh_12 (by decide) rfl rfl (Nat.le_of_ble_eq_true rfl) dX1_takeTap_2 (fun x1 μ2 _ => ?_)
  refine g_ifeqB (tgt := 21) dX1_takeTap_5 (by decide) (fun _ => ?_) (fun _ => ?_)
  · refine g_iconst dX1_takeTap_21 (v := 0) (by decide) ?_
    exact g_ret dX1_takeTap_22 rfl rfl
  · refine g_aload_n dX1_takeTap_8 0 rfl ?_
    refine g_getR (b := 9) fl_X1_9 sh_12 (by decide) rfl rfl dX1_takeTap_9 ?_
    refine g_iconst dX1_takeTap_12 (v := 1) (by decide) ?_
    refine g_bipush dX1_takeTap_13 (v := 9) (by decide) ?_
    refine g_vZ [.int 1, .int 9] [] mw_X1_89 (ok_X9_takeNumber g F 1 9 μ2) (by omega) sh_9 (by decide) rfl rfl (Nat.le_of_ble_eq_true rfl) dX1_takeTap_15 (fun x3 μ4 _ => ?_)
    refine g_ifneB (tgt := 23) dX1_takeTap_18 (by decide) (fun _ => ?_) (fun _ => ?_)
    · refine g_aload_n dX1_takeTap_23 1 rfl ?_
      refine g_aload_n dX1_takeTap_24 0 rfl ?_
      refine g_getR (b := 9) fl_X1_9 sh_12 (by decide) rfl rfl dX1_takeTap_25 ?_
      refine g_getI fl_X1_93 sh_9 (by decide) rfl dX1_takeTap_28 ?_
      refine g_putI fl_X1_102 (bk_0 hr1) (by decide) rfl dX1_takeTap_31 ?_
      refine g_aload_n dX1_takeTap_34 0 rfl ?_
      refine g_getR (b := 9) fl_X1_9 sh_12 (by decide) rfl rfl dX1_takeTap_35 ?_
      refine g_vZ [] [] mw_X1_99 (ok_X9_takeEndOfPart g F (sI μ4 r1 1 (mI μ4 9 7))) (by omega) sh_9 (by decide) rfl rfl (Nat.le_of_ble_eq_true rfl) dX1_takeTap_38 (fun x5 μ6 _ => ?_)
      exact g_ret dX1_takeTap_41 rfl rfl
    · refine g_iconst dX1_takeTap_21 (v := 0) (by decide) ?_
      exact g_ret dX1_takeTap_22 rfl rfl
set_option maxHeartbeats 4000000 in
set_option maxRecDepth 100000 in
theorem ok_X1_takeOdds (g : GG) (F : Nat) (r1 : Nat) (hr1 : Bk r1) (μ : Mm) : Ct g yX1_takeOdds cX1_takeOdds 2 (some (.boolean)) 5 cvZ [.ref (gb g + 12), .ref (gb g + r1)] μ (f_X1_takeOdds F r1 μ) := by
  refine ct_Z (by decide +kernel) (Nat.le_of_ble_eq_true rfl) (show Go g RX1 cX1_takeOdds 2 .ireturn 5 cvZ 0 [(0, .ref (gb g + 12)), (1, .ref (gb g + r1))] [] μ (f_X1_takeOdds F r1 μ) from ?_)
  unfold f_X1_takeOdds
  refine g_aload_n dX1_takeOdds_0 0 rfl ?_
  refine g_iconst dX1_takeOdds_1 (v := 2) (by decide) ?_
  refine g_vZ [.int 2] [] mw_X1_86 (ok_X1_takeWordOnce g F 2 μ) (by omega) sh_12 (by decide) rfl rfl (Nat.le_of_ble_eq_true rfl) dX1_takeOdds_2 (fun x1 μ2 _ => ?_)
  refine g_ifeqB (tgt := 21) dX1_takeOdds_5 (by decide) (fun _ => ?_) (fun _ => ?_)
  · refine g_iconst dX1_takeOdds_21 (v := 0) (by decide) ?_
    exact g_ret dX1_takeOdds_22 rfl rfl
  · refine g_aload_n dX1_takeOdds_8 0 rfl ?_
    refine g_getR (b := 9) fl_X1_9 sh_12 (by decide) rfl rfl dX1_takeOdds_9 ?_
    refine g_iconst dX1_takeOdds_12 (v := 0) (by decide) ?_
    refine g_bipush dX1_takeOdds_13 (v := 16) (by decide) ?_
    refine g_vZ [.int 0, .int 16] [] mw_X1_89 (ok_X9_takeNumber g F 0 16 μ2) (by omega) sh_9 (by decide) rfl rfl (Nat.le_of_ble_eq_true rfl) dX1_takeOdds_15 (fun x3 μ4 _ => ?_)
    refine g_ifneB (tgt := 23) dX1_takeOdds_18 (by decide) (fun _ => ?_) (fun _ => ?_)
    · refine g_aload_n dX1_takeOdds_23 1 rfl ?_
      refine g_aload_n dX1_takeOdds_24 0 rfl ?_
      refine g_getR (b := 9) fl_X1_9 sh_12 (by decide) rfl rfl dX1_takeOdds_25 ?_
      refine g_getI fl_X1_93 sh_9 (by decide) rfl dX1_takeOdds_28 ?_
      refine g_putI fl_X1_105 (bk_0 hr1) (by decide) rfl dX1_takeOdds_31 ?_
      refine g_aload_n dX1_takeOdds_34 0 rfl ?_
      refine g_getR (b := 9) fl_X1_9 sh_12 (by decide) rfl rfl dX1_takeOdds_35 ?_
      refine g_vZ [] [] mw_X1_99 (ok_X9_takeEndOfPart g F (sI μ4 r1 2 (mI μ4 9 7))) (by omega) sh_9 (by decide) rfl rfl (Nat.le_of_ble_eq_true rfl) dX1_takeOdds_38 (fun x5 μ6 _ => ?_)
      exact g_ret dX1_takeOdds_41 rfl rfl
    · refine g_iconst dX1_takeOdds_21 (v := 0) (by decide) ?_
      exact g_ret dX1_takeOdds_22 rfl rfl
set_option maxHeartbeats 4000000 in
set_option maxRecDepth 100000 in
theorem ok_X9_isName (g : GG)   (μ : Mm) : Ct g yX9_isName cX9_isName 1 (some (.boolean)) 1 (cvZp μ) [.ref (gb g + 9)] μ (f_X9_isName  μ) := by
  refine ct_Zp (by decide +kernel) (Nat.le_of_ble_eq_true rfl) (show Go g RX9 cX9_isName 1 .ireturn 1 (cvZp μ) 0 [(0, .ref (gb g + 9))] [] μ (f_X9_isName  μ) from ?_)
  unfold f_X9_isName
  refine g_aload_n dX9_isName_0 0 rfl ?_
  refine g_getI fl_X9_63 sh_9 (by decide) rfl dX9_isName_1 ?_
  refine g_iconst dX9_isName_4 (v := 1) (by decide) ?_
  refine g_icmp_ne (tgt := 29) dX9_isName_5 (by decide) (fun _ => ?_) (fun _ => ?_)
  · refine g_iconst dX9_isName_29 (v := 0) (by decide) ?_
    exact g_ret dX9_isName_30 rfl rfl
  · refine g_aload_n dX9_isName_8 0 rfl ?_
    refine g_getI fl_X9_86 sh_9 (by decide) rfl dX9_isName_9 ?_
    refine g_iconst dX9_isName_12 (v := (-1)) (by decide) ?_
    refine g_icmp_ne (tgt := 29) dX9_isName_13 (by decide) (fun _ => ?_) (fun _ => ?_)
    · refine g_iconst dX9_isName_29 (v := 0) (by decide) ?_
      exact g_ret dX9_isName_30 rfl rfl
    · refine g_aload_n dX9_isName_16 0 rfl ?_
      refine g_getJ fl_X9_82 sh_9 (by decide) rfl dX9_isName_17 ?_
      refine g_lconst dX9_isName_20 (v := 0) (by decide) ?_
      refine g_lcmp dX9_isName_21 ?_
      refine g_if_eq (tgt := 29) dX9_isName_22 (by decide) (fun _ => ?_) (fun _ => ?_)
      · refine g_iconst dX9_isName_29 (v := 0) (by decide) ?_
        exact g_ret dX9_isName_30 rfl rfl
      · refine g_iconst dX9_isName_25 (v := 1) (by decide) ?_
        refine g_goto (tgt := 30) dX9_isName_26 (by decide) ?_
        exact g_ret dX9_isName_30 rfl rfl
set_option maxHeartbeats 4000000 in
set_option maxRecDepth 100000 in
theorem okL_X1_takeDigits_2 (g : GG) (F : Nat) (r1 : Nat) (v2 : Int32) (k : Mm → Option (Bool × Mm)) (hr1 : Bk r1) (hk : ∀ (μ : Mm), Go g RX1 cX1_takeDigits 4 .ireturn 3 cvZ 88 [] [] μ (k μ)) : ∀ (n : Nat) (v3 : Int32) (μ : Mm), Go g RX1 cX1_takeDigits 4 .ireturn 3 cvZ 2 [(0, .ref (gb g + 12)), (1, .ref (gb g + r1)), (2, .int v2), (3, .int v3)] [] μ (L_X1_takeDigits_2 F r1 v2 k n v3 μ) := by
  intro n
  induction n with
  | zero =>
    intro v3 μ
    exact g_none
  | succ n ih =>
    intro v3 μ
    rw [L_X1_takeDigits_2_s]
    refine g_iload_n dX1_takeDigits_2 3 rfl ?_
    refine g_aload_n dX1_takeDigits_3 1 rfl ?_
    refine g_getI fl_X1_96 (bk_0 hr1) (by decide) rfl dX1_takeDigits_4 ?_
    refine g_icmp_gt (tgt := 88) dX1_takeDigits_7 (by decide) (fun _ => ?_) (fun _ => ?_)
    · refine g_lv [] rfl ?_
      exact hk μ
    · refine g_aload_n dX1_takeDigits_10 0 rfl ?_
      refine g_getR (b := 9) fl_X1_9 sh_12 (by decide) rfl rfl dX1_takeDigits_11 ?_
      refine g_getI fl_X1_30 sh_9 (by decide) rfl dX1_takeDigits_14 ?_
      refine g_iconst dX1_takeDigits_17 (v := 2) (by decide) ?_
      refine g_icmp_ne (tgt := 88) dX1_takeDigits_18 (by decide) (fun _ => ?_) (fun _ => ?_)
      · refine g_lv [] rfl ?_
        exact hk μ
      · refine g_aload_n dX1_takeDigits_21 0 rfl ?_
        refine g_getR (b := 9) fl_X1_9 sh_12 (by decide) rfl rfl dX1_takeDigits_22 ?_
        refine g_getI fl_X1_133 sh_9 (by decide) rfl dX1_takeDigits_25 ?_
        refine g_bipush dX1_takeDigits_28 (v := 9) (by decide) ?_
        refine g_icmp_le (tgt := 42) dX1_takeDigits_30 (by decide) (fun _ => ?_) (fun _ => ?_)
        · refine g_iload_n dX1_takeDigits_42 3 rfl ?_
          refine g_aload_n dX1_takeDigits_43 1 rfl ?_
          refine g_getI fl_X1_96 (bk_0 hr1) (by decide) rfl dX1_takeDigits_44 ?_
          refine g_icmp_ne (tgt := 60) dX1_takeDigits_47 (by decide) (fun _ => ?_) (fun _ => ?_)
          · refine g_aload_n dX1_takeDigits_60 1 rfl ?_
            refine g_getR (b := (r1 + 8)) fl_X1_37 (bk_0 hr1) (by decide) rfl rfl dX1_takeDigits_61 ?_
            refine g_iload_n dX1_takeDigits_64 2 rfl ?_
            refine g_iload_n dX1_takeDigits_65 3 rfl ?_
            refine g_iadd dX1_takeDigits_66 ?_
            refine g_aload_n dX1_takeDigits_67 0 rfl ?_
            refine g_getR (b := 9) fl_X1_9 sh_12 (by decide) rfl rfl dX1_takeDigits_68 ?_
            refine g_getI fl_X1_133 sh_9 (by decide) rfl dX1_takeDigits_71 ?_
            refine g_iastore (bk_8 hr1) dX1_takeDigits_74 (fun μ1 => ?_)
            refine g_aload_n dX1_takeDigits_75 0 rfl ?_
            refine g_getR (b := 9) fl_X1_9 sh_12 (by decide) rfl rfl dX1_takeDigits_76 ?_
            refine g_vV [] [] mw_X1_108 (ok_X9_advance g F μ1) (by omega) sh_9 (by decide) rfl rfl (Nat.le_of_ble_eq_true rfl) dX1_takeDigits_79 (fun μ3 _ => ?_)
            refine g_iinc dX1_takeDigits_82 3 rfl (v := (v3 + 1)) rfl (by decide) (lv' := [(3, .int (v3 + 1)), (0, .ref (gb g + 12)), (1, .ref (gb g + r1)), (2, .int v2)]) rfl ?_
            refine g_goto (tgt := 2) dX1_takeDigits_85 (by decide) ?_
            refine g_lv [1, 2, 3, 0] rfl ?_
            exact ih (v3 + 1) μ3
          · refine g_aload_n dX1_takeDigits_50 0 rfl ?_
            refine g_getR (b := 9) fl_X1_9 sh_12 (by decide) rfl rfl dX1_takeDigits_51 ?_
            refine g_bipush dX1_takeDigits_54 (v := 6) (by decide) ?_
            refine g_vZ [.int 6] [] mw_X1_76 (ok_X9_refuseToken g 6 μ) (by omega) sh_9 (by decide) rfl rfl (Nat.le_of_ble_eq_true rfl) dX1_takeDigits_56 (fun x4 μ5 _ => ?_)
            exact g_ret dX1_takeDigits_59 rfl rfl
        · refine g_aload_n dX1_takeDigits_33 0 rfl ?_
          refine g_getR (b := 9) fl_X1_9 sh_12 (by decide) rfl rfl dX1_takeDigits_34 ?_
          refine g_iconst dX1_takeDigits_37 (v := 4) (by decide) ?_
          refine g_vZ [.int 4] [] mw_X1_76 (ok_X9_refuseToken g 4 μ) (by omega) sh_9 (by decide) rfl rfl (Nat.le_of_ble_eq_true rfl) dX1_takeDigits_38 (fun x6 μ7 _ => ?_)
          exact g_ret dX1_takeDigits_41 rfl rfl
set_option maxHeartbeats 4000000 in
set_option maxRecDepth 100000 in
theorem ok_X1_takeDigits (g : GG) (F : Nat) (r1 : Nat) (v2 : Int32) (hr1 : Bk r1) (μ : Mm) : Ct g yX1_takeDigits cX1_takeDigits 4 (some (.boolean)) 3 cvZ [.ref (gb g + 12), .ref (gb g + r1), .int v2] μ (f_X1_takeDigits F r1 v2 μ) := by
  refine ct_Z (by decide +kernel) (Nat.le_of_ble_eq_true rfl) (show Go g RX1 cX1_takeDigits 4 .ireturn 3 cvZ 0 [(0, .ref (gb g + 12)), (1, .ref (gb g + r1)), (2, .int v2)] [] μ (f_X1_takeDigits F r1 v2 μ) from ?_)
  unfold f_X1_takeDigits
  refine g_iconst dX1_takeDigits_0 (v := 0) (by decide) ?_
  refine g_istore_n dX1_takeDigits_1 rfl (by decide) (lv' := [(3, .int 0), (0, .ref (gb g + 12)), (1, .ref (gb g + r1)), (2, .int v2)]) rfl ?_
  refine g_lv [1, 2, 3, 0] rfl ?_
  refine okL_X1_takeDigits_2 g F r1 v2 _ hr1 (fun μ8 => ?_) F 0 μ
  refine g_iconst dX1_takeDigits_88 (v := 1) (by decide) ?_
  exact g_ret dX1_takeDigits_89 rfl rfl
set_option maxHeartbeats 4000000 in
set_option maxRecDepth 100000 in
theorem ok_X1_takeAccount (g : GG) (F : Nat) (r1 : Nat) (hr1 : Bk r1) (μ : Mm) : Ct g yX1_takeAccount cX1_takeAccount 4 (some (.boolean)) 4 cvZ [.ref (gb g + 12), .ref (gb g + r1)] μ (f_X1_takeAccount F r1 μ) := by
  refine ct_Z (by decide +kernel) (Nat.le_of_ble_eq_true rfl) (show Go g RX1 cX1_takeAccount 4 .ireturn 4 cvZ 0 [(0, .ref (gb g + 12)), (1, .ref (gb g + r1))] [] μ (f_X1_takeAccount F r1 μ) from ?_)
  unfold f_X1_takeAccount
  refine g_aload_n dX1_takeAccount_0 1 rfl ?_
  refine g_getI fl_X1_83 (bk_0 hr1) (by decide) rfl dX1_takeAccount_1 ?_
  refine g_istore_n dX1_takeAccount_4 rfl (by decide) (lv' := [(2, .int (mI μ r1 3)), (0, .ref (gb g + 12)), (1, .ref (gb g + r1))]) rfl ?_
  refine g_iload_n dX1_takeAccount_5 0 rfl ?_
  refine g_iconst dX1_takeAccount_6 (v := 5) (by decide) ?_
  refine g_icmp_lt (tgt := 20) dX1_takeAccount_7 (by decide) (fun _ => ?_) (fun _ => ?_)
  · refine g_aload_n dX1_takeAccount_20 1 rfl ?_
    refine g_getR (b := 9) fl_X1_9 sh_12 (by decide) rfl rfl dX1_takeAccount_21 ?_
    refine g_vV [] [] mw_X1_108 (ok_X9_advance g F μ) (by omega) sh_9 (by decide) rfl rfl (Nat.le_of_ble_eq_true rfl) dX1_takeAccount_24 (fun μ2 _ => ?_)
    refine g_aload_n dX1_takeAccount_27 1 rfl ?_
    refine g_getR (b := 9) fl_X1_9 sh_12 (by decide) rfl rfl dX1_takeAccount_28 ?_
    refine g_vZp [] [] mw_X1_111 (ok_X9_isName g μ2) (by omega) sh_9 (by decide) rfl rfl (Nat.le_of_ble_eq_true rfl) dX1_takeAccount_31 (fun x3 _ => ?_)
    refine g_ifneB (tgt := 45) dX1_takeAccount_34 (by decide) (fun _ => ?_) (fun _ => ?_)
    · refine g_aload_n dX1_takeAccount_45 2 rfl ?_
      refine g_aload_n dX1_takeAccount_46 1 rfl ?_
      refine g_getR (b := 9) fl_X1_9 sh_12 (by decide) rfl rfl dX1_takeAccount_47 ?_
      refine g_getJ fl_X1_114 sh_9 (by decide) rfl dX1_takeAccount_50 ?_
      refine g_vIp [.long (mJ μ2 9 6)] [] mw_X1_118 (ok_X0_accountNamed g F r1 (mJ μ2 9 6) hr1 μ2) (by omega) (bk_0 hr1) (by decide) rfl rfl (Nat.le_of_ble_eq_true rfl) dX1_takeAccount_53 (fun x4 _ => ?_)
      refine g_iconst dX1_takeAccount_56 (v := (-1)) (by decide) ?_
      refine g_icmp_eq (tgt := 69) dX1_takeAccount_57 (by decide) (fun _ => ?_) (fun _ => ?_)
      · refine g_aload_n dX1_takeAccount_69 2 rfl ?_
        refine g_getR (b := (r1 + 7)) fl_X1_122 (bk_0 hr1) (by decide) rfl rfl dX1_takeAccount_70 ?_
        refine g_iload_n dX1_takeAccount_73 0 rfl ?_
        refine g_aload_n dX1_takeAccount_74 1 rfl ?_
        refine g_getR (b := 9) fl_X1_9 sh_12 (by decide) rfl rfl dX1_takeAccount_75 ?_
        refine g_getJ fl_X1_114 sh_9 (by decide) rfl dX1_takeAccount_78 ?_
        refine g_lastore (bk_7 hr1) dX1_takeAccount_81 (fun μ5 => ?_)
        refine g_aload_n dX1_takeAccount_82 1 rfl ?_
        refine g_getR (b := 9) fl_X1_9 sh_12 (by decide) rfl rfl dX1_takeAccount_83 ?_
        refine g_vV [] [] mw_X1_108 (ok_X9_advance g F μ5) (by omega) sh_9 (by decide) rfl rfl (Nat.le_of_ble_eq_true rfl) dX1_takeAccount_86 (fun μ7 _ => ?_)
        refine g_aload_n dX1_takeAccount_89 1 rfl ?_
        refine g_getR (b := 9) fl_X1_9 sh_12 (by decide) rfl rfl dX1_takeAccount_90 ?_
        refine g_vIp [] [] mw_X1_50 (ok_X9_setWord g μ7) (by omega) sh_9 (by decide) rfl rfl (Nat.le_of_ble_eq_true rfl) dX1_takeAccount_93 (fun x8 _ => ?_)
        refine g_istore_n dX1_takeAccount_96 rfl (by decide) (lv' := [(3, .int x8), (2, .int (mI μ r1 3)), (0, .ref (gb g + 12)), (1, .ref (gb g + r1))]) rfl ?_
        refine g_iload_n dX1_takeAccount_97 0 rfl ?_
        refine g_iconst dX1_takeAccount_98 (v := 4) (by decide) ?_
        refine g_icmp_eq (tgt := 115) dX1_takeAccount_99 (by decide) (fun _ => ?_) (fun _ => ?_)
        · refine g_aload_n dX1_takeAccount_115 3 rfl ?_
          refine g_getR (b := (r1 + 6)) fl_X1_126 (bk_0 hr1) (by decide) rfl rfl dX1_takeAccount_116 ?_
          refine g_iload_n dX1_takeAccount_119 1 rfl ?_
          refine g_iload_n dX1_takeAccount_120 0 rfl ?_
          refine g_iconst dX1_takeAccount_121 (v := 4) (by decide) ?_
          have hJ18 : ∀ (w10 : Int32), w10 = (if x8 = 4 then (0 : Int32) else 1) → Go g RX1 cX1_takeAccount 4 .ireturn 4 cvZ 130 [(0, .ref (gb g + 12)), (1, .ref (gb g + r1)), (2, .int (mI μ r1 3))] [.int w10, .int (mI μ r1 3), .ref (gb g + (r1 + 6))] μ7 ((wrA μ7 (r1 + 6) 5 (mI μ r1 3) (if x8 = 4 then (0 : Int32) else 1)).bind fun μ11 => (f_X9_advance F μ11).bind fun μ13 => bd (f_X1_takeDigits F r1 ((mI μ r1 3) * (mI (sI μ13 r1 3 ((mI μ13 r1 3) + (1 : Int32))) r1 0)) (sI μ13 r1 3 ((mI μ13 r1 3) + (1 : Int32)))) fun x14 μ15 => (if x14 = true then bd (f_X9_takeEndOfPart F μ15) fun x16 μ17 => (if x16 = true then some (true, μ17) else some (false, μ17)) else some (false, μ15))) := by
            intro w10 ew10
            subst ew10
            refine g_iastore (bk_6 hr1) dX1_takeAccount_130 (fun μ11 => ?_)
            refine g_aload_n dX1_takeAccount_131 0 rfl ?_
            refine g_getR (b := 9) fl_X1_9 sh_12 (by decide) rfl rfl dX1_takeAccount_132 ?_
            refine g_vV [] [] mw_X1_108 (ok_X9_advance g F μ11) (by omega) sh_9 (by decide) rfl rfl (Nat.le_of_ble_eq_true rfl) dX1_takeAccount_135 (fun μ13 _ => ?_)
            refine g_aload_n dX1_takeAccount_138 1 rfl ?_
            refine g_dup dX1_takeAccount_139 rfl ?_
            refine g_getI fl_X1_83 (bk_0 hr1) (by decide) rfl dX1_takeAccount_140 ?_
            refine g_iconst dX1_takeAccount_143 (v := 1) (by decide) ?_
            refine g_iadd dX1_takeAccount_144 ?_
            refine g_putI fl_X1_83 (bk_0 hr1) (by decide) rfl dX1_takeAccount_145 ?_
            refine g_aload_n dX1_takeAccount_148 0 rfl ?_
            refine g_aload_n dX1_takeAccount_149 1 rfl ?_
            refine g_iload_n dX1_takeAccount_150 2 rfl ?_
            refine g_aload_n dX1_takeAccount_151 1 rfl ?_
            refine g_getI fl_X1_96 (bk_0 hr1) (by decide) rfl dX1_takeAccount_152 ?_
            refine g_imul dX1_takeAccount_155 ?_
            refine g_vZ [.ref (gb g + r1), .int ((mI μ r1 3) * (mI (sI μ13 r1 3 ((mI μ13 r1 3) + (1 : Int32))) r1 0))] [] mw_X1_129 (ok_X1_takeDigits g F r1 ((mI μ r1 3) * (mI (sI μ13 r1 3 ((mI μ13 r1 3) + (1 : Int32))) r1 0)) hr1 (sI μ13 r1 3 ((mI μ13 r1 3) + (1 : Int32)))) (by omega) sh_12 (by decide) rfl rfl (Nat.le_of_ble_eq_true rfl) dX1_takeAccount_156 (fun x14 μ15 _ => ?_)
            refine g_ifeqB (tgt := 176) dX1_takeAccount_159 (by decide) (fun _ => ?_) (fun _ => ?_)
            · refine g_iconst dX1_takeAccount_176 (v := 0) (by decide) ?_
              exact g_ret dX1_takeAccount_177 rfl rfl
            · refine g_aload_n dX1_takeAccount_162 0 rfl ?_
              refine g_getR (b := 9) fl_X1_9 sh_12 (by decide) rfl rfl dX1_takeAccount_163 ?_
              refine g_vZ [] [] mw_X1_99 (ok_X9_takeEndOfPart g F μ15) (by omega) sh_9 (by decide) rfl rfl (Nat.le_of_ble_eq_true rfl) dX1_takeAccount_166 (fun x16 μ17 _ => ?_)
              refine g_ifeqB (tgt := 176) dX1_takeAccount_169 (by decide) (fun _ => ?_) (fun _ => ?_)
              · refine g_iconst dX1_takeAccount_176 (v := 0) (by decide) ?_
                exact g_ret dX1_takeAccount_177 rfl rfl
              · refine g_iconst dX1_takeAccount_172 (v := 1) (by decide) ?_
                refine g_goto (tgt := 177) dX1_takeAccount_173 (by decide) ?_
                exact g_ret dX1_takeAccount_177 rfl rfl
          refine g_same (g_icmp_ne (tgt := 129) dX1_takeAccount_122 (by decide) (fun c9 => ?_) (fun c9 => ?_))
          · refine g_iconst dX1_takeAccount_129 (v := 1) (by decide) ?_
            refine g_lv [2, 3, 1] rfl ?_
            exact hJ18 _ (by rw [if_neg c9])
          · refine g_iconst dX1_takeAccount_125 (v := 0) (by decide) ?_
            refine g_goto (tgt := 130) dX1_takeAccount_126 (by decide) ?_
            refine g_lv [2, 3, 1] rfl ?_
            exact hJ18 _ (by rw [if_pos c9])
        · refine g_iload_n dX1_takeAccount_102 0 rfl ?_
          refine g_iconst dX1_takeAccount_103 (v := 5) (by decide) ?_
          refine g_icmp_eq (tgt := 115) dX1_takeAccount_104 (by decide) (fun _ => ?_) (fun _ => ?_)
          · refine g_aload_n dX1_takeAccount_115 3 rfl ?_
            refine g_getR (b := (r1 + 6)) fl_X1_126 (bk_0 hr1) (by decide) rfl rfl dX1_takeAccount_116 ?_
            refine g_iload_n dX1_takeAccount_119 1 rfl ?_
            refine g_iload_n dX1_takeAccount_120 0 rfl ?_
            refine g_iconst dX1_takeAccount_121 (v := 4) (by decide) ?_
            have hJ28 : ∀ (w20 : Int32), w20 = (if x8 = 4 then (0 : Int32) else 1) → Go g RX1 cX1_takeAccount 4 .ireturn 4 cvZ 130 [(0, .ref (gb g + 12)), (1, .ref (gb g + r1)), (2, .int (mI μ r1 3))] [.int w20, .int (mI μ r1 3), .ref (gb g + (r1 + 6))] μ7 ((wrA μ7 (r1 + 6) 5 (mI μ r1 3) (if x8 = 4 then (0 : Int32) else 1)).bind fun μ21 => (f_X9_advance F μ21).bind fun μ23 => bd (f_X1_takeDigits F r1 ((mI μ r1 3) * (mI (sI μ23 r1 3 ((mI μ23 r1 3) + (1 : Int32))) r1 0)) (sI μ23 r1 3 ((mI μ23 r1 3) + (1 : Int32)))) fun x24 μ25 => (if x24 = true then bd (f_X9_takeEndOfPart F μ25) fun x26 μ27 => (if x26 = true then some (true, μ27) else some (false, μ27)) else some (false, μ25))) := by
              intro w20 ew20
              subst ew20
              refine g_iastore (bk_6 hr1) dX1_takeAccount_130 (fun μ21 => ?_)
              refine g_aload_n dX1_takeAccount_131 0 rfl ?_
              refine g_getR (b := 9) fl_X1_9 sh_12 (by decide) rfl rfl dX1_takeAccount_132 ?_
              refine g_vV [] [] mw_X1_108 (ok_X9_advance g F μ21) (by omega) sh_9 (by decide) rfl rfl (Nat.le_of_ble_eq_true rfl) dX1_takeAccount_135 (fun μ23 _ => ?_)
              refine g_aload_n dX1_takeAccount_138 1 rfl ?_
              refine g_dup dX1_takeAccount_139 rfl ?_
              refine g_getI fl_X1_83 (bk_0 hr1) (by decide) rfl dX1_takeAccount_140 ?_
              refine g_iconst dX1_takeAccount_143 (v := 1) (by decide) ?_
              refine g_iadd dX1_takeAccount_144 ?_
              refine g_putI fl_X1_83 (bk_0 hr1) (by decide) rfl dX1_takeAccount_145 ?_
              refine g_aload_n dX1_takeAccount_148 0 rfl ?_
              refine g_aload_n dX1_takeAccount_149 1 rfl ?_
              refine g_iload_n dX1_takeAccount_150 2 rfl ?_
              refine g_aload_n dX1_takeAccount_151 1 rfl ?_
              refine g_getI fl_X1_96 (bk_0 hr1) (by decide) rfl dX1_takeAccount_152 ?_
              refine g_imul dX1_takeAccount_155 ?_
              refine g_vZ [.ref (gb g + r1), .int ((mI μ r1 3) * (mI (sI μ23 r1 3 ((mI μ23 r1 3) + (1 : Int32))) r1 0))] [] mw_X1_129 (ok_X1_takeDigits g F r1 ((mI μ r1 3) * (mI (sI μ23 r1 3 ((mI μ23 r1 3) + (1 : Int32))) r1 0)) hr1 (sI μ23 r1 3 ((mI μ23 r1 3) + (1 : Int32)))) (by omega) sh_12 (by decide) rfl rfl (Nat.le_of_ble_eq_true rfl) dX1_takeAccount_156 (fun x24 μ25 _ => ?_)
              refine g_ifeqB (tgt := 176) dX1_takeAccount_159 (by decide) (fun _ => ?_) (fun _ => ?_)
              · refine g_iconst dX1_takeAccount_176 (v := 0) (by decide) ?_
                exact g_ret dX1_takeAccount_177 rfl rfl
              · refine g_aload_n dX1_takeAccount_162 0 rfl ?_
                refine g_getR (b := 9) fl_X1_9 sh_12 (by decide) rfl rfl dX1_takeAccount_163 ?_
                refine g_vZ [] [] mw_X1_99 (ok_X9_takeEndOfPart g F μ25) (by omega) sh_9 (by decide) rfl rfl (Nat.le_of_ble_eq_true rfl) dX1_takeAccount_166 (fun x26 μ27 _ => ?_)
                refine g_ifeqB (tgt := 176) dX1_takeAccount_169 (by decide) (fun _ => ?_) (fun _ => ?_)
                · refine g_iconst dX1_takeAccount_176 (v := 0) (by decide) ?_
                  exact g_ret dX1_takeAccount_177 rfl rfl
                · refine g_iconst dX1_takeAccount_172 (v := 1) (by decide) ?_
                  refine g_goto (tgt := 177) dX1_takeAccount_173 (by decide) ?_
                  exact g_ret dX1_takeAccount_177 rfl rfl
            refine g_same (g_icmp_ne (tgt := 129) dX1_takeAccount_122 (by decide) (fun c19 => ?_) (fun c19 => ?_))
            · refine g_iconst dX1_takeAccount_129 (v := 1) (by decide) ?_
              refine g_lv [2, 3, 1] rfl ?_
              exact hJ28 _ (by rw [if_neg c19])
            · refine g_iconst dX1_takeAccount_125 (v := 0) (by decide) ?_
              refine g_goto (tgt := 130) dX1_takeAccount_126 (by decide) ?_
              refine g_lv [2, 3, 1] rfl ?_
              exact hJ28 _ (by rw [if_pos c19])
          · refine g_aload_n dX1_takeAccount_107 2 rfl ?_
            refine g_getR (b := 9) fl_X1_9 sh_12 (by decide) rfl rfl dX1_takeAccount_108 ?_
            refine g_vZ [] [] mw_X1_72 (ok_X9_refuseUnfit g μ7) (by omega) sh_9 (by decide) rfl rfl (Nat.le_of_ble_eq_true rfl) dX1_takeAccount_111 (fun x29 μ30 _ => ?_)
            exact g_ret dX1_takeAccount_114 rfl rfl
      · refine g_aload_n dX1_takeAccount_60 1 rfl ?_
        refine g_getR (b := 9) fl_X1_9 sh_12 (by decide) rfl rfl dX1_takeAccount_61 ?_
        refine g_iconst dX1_takeAccount_64 (v := 3) (by decide) ?_
        refine g_vZ [.int 3] [] mw_X1_76 (ok_X9_refuseToken g 3 μ2) (by omega) sh_9 (by decide) rfl rfl (Nat.le_of_ble_eq_true rfl) dX1_takeAccount_65 (fun x31 μ32 _ => ?_)
        exact g_ret dX1_takeAccount_68 rfl rfl
    · refine g_aload_n dX1_takeAccount_37 1 rfl ?_
      refine g_getR (b := 9) fl_X1_9 sh_12 (by decide) rfl rfl dX1_takeAccount_38 ?_
      refine g_vZ [] [] mw_X1_72 (ok_X9_refuseUnfit g μ2) (by omega) sh_9 (by decide) rfl rfl (Nat.le_of_ble_eq_true rfl) dX1_takeAccount_41 (fun x33 μ34 _ => ?_)
      exact g_ret dX1_takeAccount_44 rfl rfl
  · refine g_aload_n dX1_takeAccount_10 1 rfl ?_
    refine g_getR (b := 9) fl_X1_9 sh_12 (by decide) rfl rfl dX1_takeAccount_11 ?_
    refine g_bipush dX1_takeAccount_14 (v := 6) (by decide) ?_
    refine g_vZ [.int 6] [] mw_X1_76 (ok_X9_refuseToken g 6 μ) (by omega) sh_9 (by decide) rfl rfl (Nat.le_of_ble_eq_true rfl) dX1_takeAccount_16 (fun x35 μ36 _ => ?_)
    exact g_ret dX1_takeAccount_19 rfl rfl
set_option maxHeartbeats 4000000 in
set_option maxRecDepth 100000 in
theorem ok_X3_add (g : GG) (r0 : Nat) (v1 : Int32) (v2 : Int32) (v3 : Int32) (v4 : Int32) (hr0 : Lw r0) (μ : Mm) : Ct g yX3_add cX3_add 5 none 1 cvV [.ref (gb g + r0), .int v1, .int v2, .int v3, .int v4] μ (f_X3_add r0 v1 v2 v3 v4 μ) := by
  refine ct_V (by decide +kernel) (Nat.le_of_ble_eq_true rfl) (show Go g RX3 cX3_add 5 .return_ 1 cvV 0 [(0, .ref (gb g + r0)), (1, .int v1), (2, .int v2), (3, .int v3), (4, .int v4)] [] μ (f_X3_add r0 v1 v2 v3 v4 μ) from ?_)
  unfold f_X3_add
  refine g_aload_n dX3_add_0 0 rfl ?_
  refine g_getI fl_X3_24 (lw_0 hr0) (by decide) rfl dX3_add_1 ?_
  refine g_bipush dX3_add_4 (v := 10) (by decide) ?_
  refine g_icmp_lt (tgt := 10) dX3_add_6 (by decide) (fun _ => ?_) (fun _ => ?_)
  · refine g_aload_n dX3_add_10 0 rfl ?_
    refine g_getR (b := (r0 + 1)) fl_X3_9 (lw_0 hr0) (by decide) rfl rfl dX3_add_11 ?_
    refine g_aload_n dX3_add_14 0 rfl ?_
    refine g_getI fl_X3_24 (lw_0 hr0) (by decide) rfl dX3_add_15 ?_
    refine g_iload_n dX3_add_18 1 rfl ?_
    refine g_iastore (lw_1 hr0) dX3_add_19 (fun μ1 => ?_)
    refine g_aload_n dX3_add_20 0 rfl ?_
    refine g_getR (b := (r0 + 2)) fl_X3_15 (lw_0 hr0) (by decide) rfl rfl dX3_add_21 ?_
    refine g_aload_n dX3_add_24 0 rfl ?_
    refine g_getI fl_X3_24 (lw_0 hr0) (by decide) rfl dX3_add_25 ?_
    refine g_iload_n dX3_add_28 2 rfl ?_
    refine g_iastore (lw_2 hr0) dX3_add_29 (fun μ2 => ?_)
    refine g_aload_n dX3_add_30 0 rfl ?_
    refine g_getR (b := (r0 + 3)) fl_X3_18 (lw_0 hr0) (by decide) rfl rfl dX3_add_31 ?_
    refine g_aload_n dX3_add_34 0 rfl ?_
    refine g_getI fl_X3_24 (lw_0 hr0) (by decide) rfl dX3_add_35 ?_
    refine g_iload_n dX3_add_38 3 rfl ?_
    refine g_iastore (lw_3 hr0) dX3_add_39 (fun μ3 => ?_)
    refine g_aload_n dX3_add_40 0 rfl ?_
    refine g_getR (b := (r0 + 4)) fl_X3_21 (lw_0 hr0) (by decide) rfl rfl dX3_add_41 ?_
    refine g_aload_n dX3_add_44 0 rfl ?_
    refine g_getI fl_X3_24 (lw_0 hr0) (by decide) rfl dX3_add_45 ?_
    refine g_iload_n dX3_add_48 3 rfl ?_
    have hJ7 : ∀ (w5 : Int32), w5 = (if v3 = 0 then (0 : Int32) else v4) → Go g RX3 cX3_add 5 .return_ 1 cvV 58 [(0, .ref (gb g + r0))] [.int w5, .int (mI μ3 r0 0), .ref (gb g + (r0 + 4))] μ3 ((wrA μ3 (r0 + 4) 10 (mI μ3 r0 0) (if v3 = 0 then (0 : Int32) else v4)).bind fun μ6 => some (sI μ6 r0 0 ((mI μ6 r0 0) + (1 : Int32)))) := by
      intro w5 ew5
      subst ew5
      refine g_iastore (lw_4 hr0) dX3_add_58 (fun μ6 => ?_)
      refine g_aload_n dX3_add_59 0 rfl ?_
      refine g_dup dX3_add_60 rfl ?_
      refine g_getI fl_X3_24 (lw_0 hr0) (by decide) rfl dX3_add_61 ?_
      refine g_iconst dX3_add_64 (v := 1) (by decide) ?_
      refine g_iadd dX3_add_65 ?_
      refine g_putI fl_X3_24 (lw_0 hr0) (by decide) rfl dX3_add_66 ?_
      exact g_ret dX3_add_69 rfl rfl
    refine g_same (g_if_ne (tgt := 56) dX3_add_49 (by decide) (fun c4 => ?_) (fun c4 => ?_))
    · refine g_iload dX3_add_56 4 rfl ?_
      refine g_lv [0] rfl ?_
      exact hJ7 _ (by rw [if_neg c4])
    · refine g_iconst dX3_add_52 (v := 0) (by decide) ?_
      refine g_goto (tgt := 58) dX3_add_53 (by decide) ?_
      refine g_lv [0] rfl ?_
      exact hJ7 _ (by rw [if_pos c4])
  · exact g_ret dX3_add_9 rfl rfl
set_option maxHeartbeats 4000000 in
set_option maxRecDepth 100000 in
theorem ok_X1_takeLaw (g : GG) (F : Nat) (r1 : Nat) (hr1 : Bk r1) (μ : Mm) : Ct g yX1_takeLaw cX1_takeLaw 6 (some (.boolean)) 4 cvZ [.ref (gb g + 12), .ref (gb g + r1)] μ (f_X1_takeLaw F r1 μ) := by
  refine ct_Z (by decide +kernel) (Nat.le_of_ble_eq_true rfl) (show Go g RX1 cX1_takeLaw 6 .ireturn 4 cvZ 0 [(0, .ref (gb g + 12)), (1, .ref (gb g + r1))] [] μ (f_X1_takeLaw F r1 μ) from ?_)
  unfold f_X1_takeLaw
  refine g_aload_n dX1_takeLaw_0 1 rfl ?_
  refine g_getR (b := (r1 + 1)) fl_X1_136 (bk_0 hr1) (by decide) rfl rfl dX1_takeLaw_1 ?_
  refine g_getI fl_X1_140 (bk_1 hr1) (by decide) rfl dX1_takeLaw_4 ?_
  refine g_bipush dX1_takeLaw_7 (v := 10) (by decide) ?_
  refine g_icmp_lt (tgt := 22) dX1_takeLaw_9 (by decide) (fun _ => ?_) (fun _ => ?_)
  · refine g_aload_n dX1_takeLaw_22 0 rfl ?_
    refine g_getR (b := 9) fl_X1_9 sh_12 (by decide) rfl rfl dX1_takeLaw_23 ?_
    refine g_vV [] [] mw_X1_108 (ok_X9_advance g F μ) (by omega) sh_9 (by decide) rfl rfl (Nat.le_of_ble_eq_true rfl) dX1_takeLaw_26 (fun μ2 _ => ?_)
    refine g_aload_n dX1_takeLaw_29 0 rfl ?_
    refine g_getR (b := 9) fl_X1_9 sh_12 (by decide) rfl rfl dX1_takeLaw_30 ?_
    refine g_iconst dX1_takeLaw_33 (v := 0) (by decide) ?_
    refine g_bipush dX1_takeLaw_34 (v := 9) (by decide) ?_
    refine g_vZ [.int 0, .int 9] [] mw_X1_89 (ok_X9_takeNumber g F 0 9 μ2) (by omega) sh_9 (by decide) rfl rfl (Nat.le_of_ble_eq_true rfl) dX1_takeLaw_36 (fun x3 μ4 _ => ?_)
    refine g_ifneB (tgt := 44) dX1_takeLaw_39 (by decide) (fun _ => ?_) (fun _ => ?_)
    · refine g_aload_n dX1_takeLaw_44 0 rfl ?_
      refine g_getR (b := 9) fl_X1_9 sh_12 (by decide) rfl rfl dX1_takeLaw_45 ?_
      refine g_getI fl_X1_93 sh_9 (by decide) rfl dX1_takeLaw_48 ?_
      refine g_istore_n dX1_takeLaw_51 rfl (by decide) (lv' := [(2, .int (mI μ4 9 7)), (0, .ref (gb g + 12)), (1, .ref (gb g + r1))]) rfl ?_
      refine g_aload_n dX1_takeLaw_52 1 rfl ?_
      refine g_getR (b := 9) fl_X1_9 sh_12 (by decide) rfl rfl dX1_takeLaw_53 ?_
      refine g_bipush dX1_takeLaw_56 (v := 7) (by decide) ?_
      refine g_vZ [.int 7] [] mw_X1_80 (ok_X9_takeWord g F 7 μ4) (by omega) sh_9 (by decide) rfl rfl (Nat.le_of_ble_eq_true rfl) dX1_takeLaw_58 (fun x5 μ6 _ => ?_)
      refine g_ifeqB (tgt := 77) dX1_takeLaw_61 (by decide) (fun _ => ?_) (fun _ => ?_)
      · refine g_iconst dX1_takeLaw_77 (v := 0) (by decide) ?_
        exact g_ret dX1_takeLaw_78 rfl rfl
      · refine g_aload_n dX1_takeLaw_64 1 rfl ?_
        refine g_getR (b := 9) fl_X1_9 sh_12 (by decide) rfl rfl dX1_takeLaw_65 ?_
        refine g_iconst dX1_takeLaw_68 (v := 0) (by decide) ?_
        refine g_bipush dX1_takeLaw_69 (v := 9) (by decide) ?_
        refine g_vZ [.int 0, .int 9] [] mw_X1_89 (ok_X9_takeNumber g F 0 9 μ6) (by omega) sh_9 (by decide) rfl rfl (Nat.le_of_ble_eq_true rfl) dX1_takeLaw_71 (fun x7 μ8 _ => ?_)
        refine g_ifneB (tgt := 79) dX1_takeLaw_74 (by decide) (fun _ => ?_) (fun _ => ?_)
        · refine g_aload_n dX1_takeLaw_79 1 rfl ?_
          refine g_getR (b := 9) fl_X1_9 sh_12 (by decide) rfl rfl dX1_takeLaw_80 ?_
          refine g_getI fl_X1_93 sh_9 (by decide) rfl dX1_takeLaw_83 ?_
          refine g_istore_n dX1_takeLaw_86 rfl (by decide) (lv' := [(3, .int (mI μ8 9 7)), (2, .int (mI μ4 9 7)), (0, .ref (gb g + 12)), (1, .ref (gb g + r1))]) rfl ?_
          refine g_iconst dX1_takeLaw_87 (v := 0) (by decide) ?_
          refine g_istore dX1_takeLaw_88 (by decide) (lv' := [(4, .int 0), (3, .int (mI μ8 9 7)), (2, .int (mI μ4 9 7)), (0, .ref (gb g + 12)), (1, .ref (gb g + r1))]) rfl ?_
          refine g_iconst dX1_takeLaw_90 (v := 0) (by decide) ?_
          refine g_istore dX1_takeLaw_91 (by decide) (lv' := [(5, .int 0), (4, .int 0), (3, .int (mI μ8 9 7)), (2, .int (mI μ4 9 7)), (0, .ref (gb g + 12)), (1, .ref (gb g + r1))]) rfl ?_
          refine g_aload_n dX1_takeLaw_93 4 rfl ?_
          refine g_getR (b := 9) fl_X1_9 sh_12 (by decide) rfl rfl dX1_takeLaw_94 ?_
          refine g_vIp [] [] mw_X1_50 (ok_X9_setWord g μ8) (by omega) sh_9 (by decide) rfl rfl (Nat.le_of_ble_eq_true rfl) dX1_takeLaw_97 (fun x9 _ => ?_)
          refine g_bipush dX1_takeLaw_100 (v := 8) (by decide) ?_
          refine g_bipush dX1_takeLaw_102 (v := 11) (by decide) ?_
          refine g_sZp [.int x9, .int 8, .int 11] [] mw_X1_145 (ok_X11_within g x9 8 11 μ8) (by omega) rfl rfl (Nat.le_of_ble_eq_true rfl) dX1_takeLaw_104 (fun x10 _ => ?_)
          refine g_ifeqB (tgt := 155) dX1_takeLaw_107 (by decide) (fun _ => ?_) (fun _ => ?_)
          · refine g_aload_n dX1_takeLaw_155 5 rfl ?_
            refine g_getR (b := (r1 + 1)) fl_X1_136 (bk_0 hr1) (by decide) rfl rfl dX1_takeLaw_156 ?_
            refine g_iload_n dX1_takeLaw_159 3 rfl ?_
            refine g_iload_n dX1_takeLaw_160 2 rfl ?_
            refine g_iload dX1_takeLaw_161 1 rfl ?_
            refine g_iload dX1_takeLaw_163 0 rfl ?_
            refine g_vV [.int (mI μ4 9 7), .int (mI μ8 9 7), .int 0, .int 0] [] mw_X1_149 (ok_X3_add g (r1 + 1) (mI μ4 9 7) (mI μ8 9 7) 0 0 (bk_lw hr1) μ8) (by omega) (bk_1 hr1) (by decide) rfl rfl (Nat.le_of_ble_eq_true rfl) dX1_takeLaw_165 (fun μ12 _ => ?_)
            refine g_aload_n dX1_takeLaw_168 4 rfl ?_
            refine g_getR (b := 9) fl_X1_9 sh_12 (by decide) rfl rfl dX1_takeLaw_169 ?_
            refine g_vZ [] [] mw_X1_99 (ok_X9_takeEndOfPart g F μ12) (by omega) sh_9 (by decide) rfl rfl (Nat.le_of_ble_eq_true rfl) dX1_takeLaw_172 (fun x13 μ14 _ => ?_)
            exact g_ret dX1_takeLaw_175 rfl rfl
          · refine g_aload_n dX1_takeLaw_110 4 rfl ?_
            refine g_getR (b := 9) fl_X1_9 sh_12 (by decide) rfl rfl dX1_takeLaw_111 ?_
            refine g_getI fl_X1_133 sh_9 (by decide) rfl dX1_takeLaw_114 ?_
            refine g_bipush dX1_takeLaw_117 (v := 8) (by decide) ?_
            refine g_isub dX1_takeLaw_119 ?_
            refine g_iconst dX1_takeLaw_120 (v := 1) (by decide) ?_
            refine g_iadd dX1_takeLaw_121 ?_
            refine g_istore dX1_takeLaw_122 (by decide) (lv' := [(4, .int (((mI μ8 9 5) - (8 : Int32)) + (1 : Int32))), (5, .int 0), (3, .int (mI μ8 9 7)), (2, .int (mI μ4 9 7)), (0, .ref (gb g + 12)), (1, .ref (gb g + r1))]) rfl ?_
            refine g_aload_n dX1_takeLaw_124 4 rfl ?_
            refine g_getR (b := 9) fl_X1_9 sh_12 (by decide) rfl rfl dX1_takeLaw_125 ?_
            refine g_vV [] [] mw_X1_108 (ok_X9_advance g F μ8) (by omega) sh_9 (by decide) rfl rfl (Nat.le_of_ble_eq_true rfl) dX1_takeLaw_128 (fun μ16 _ => ?_)
            refine g_aload_n dX1_takeLaw_131 4 rfl ?_
            refine g_getR (b := 9) fl_X1_9 sh_12 (by decide) rfl rfl dX1_takeLaw_132 ?_
            refine g_iconst dX1_takeLaw_135 (v := 0) (by decide) ?_
            refine g_bipush dX1_takeLaw_136 (v := 9) (by decide) ?_
            refine g_vZ [.int 0, .int 9] [] mw_X1_89 (ok_X9_takeNumber g F 0 9 μ16) (by omega) sh_9 (by decide) rfl rfl (Nat.le_of_ble_eq_true rfl) dX1_takeLaw_138 (fun x17 μ18 _ => ?_)
            refine g_ifneB (tgt := 146) dX1_takeLaw_141 (by decide) (fun _ => ?_) (fun _ => ?_)
            · refine g_aload_n dX1_takeLaw_146 4 rfl ?_
              refine g_getR (b := 9) fl_X1_9 sh_12 (by decide) rfl rfl dX1_takeLaw_147 ?_
              refine g_getI fl_X1_93 sh_9 (by decide) rfl dX1_takeLaw_150 ?_
              refine g_istore dX1_takeLaw_153 (by decide) (lv' := [(5, .int (mI μ18 9 7)), (4, .int (((mI μ8 9 5) - (8 : Int32)) + (1 : Int32))), (3, .int (mI μ8 9 7)), (2, .int (mI μ4 9 7)), (0, .ref (gb g + 12)), (1, .ref (gb g + r1))]) rfl ?_
              refine g_aload_n dX1_takeLaw_155 5 rfl ?_
              refine g_getR (b := (r1 + 1)) fl_X1_136 (bk_0 hr1) (by decide) rfl rfl dX1_takeLaw_156 ?_
              refine g_iload_n dX1_takeLaw_159 3 rfl ?_
              refine g_iload_n dX1_takeLaw_160 2 rfl ?_
              refine g_iload dX1_takeLaw_161 1 rfl ?_
              refine g_iload dX1_takeLaw_163 0 rfl ?_
              refine g_vV [.int (mI μ4 9 7), .int (mI μ8 9 7), .int (((mI μ8 9 5) - (8 : Int32)) + (1 : Int32)), .int (mI μ18 9 7)] [] mw_X1_149 (ok_X3_add g (r1 + 1) (mI μ4 9 7) (mI μ8 9 7) (((mI μ8 9 5) - (8 : Int32)) + (1 : Int32)) (mI μ18 9 7) (bk_lw hr1) μ18) (by omega) (bk_1 hr1) (by decide) rfl rfl (Nat.le_of_ble_eq_true rfl) dX1_takeLaw_165 (fun μ20 _ => ?_)
              refine g_aload_n dX1_takeLaw_168 4 rfl ?_
              refine g_getR (b := 9) fl_X1_9 sh_12 (by decide) rfl rfl dX1_takeLaw_169 ?_
              refine g_vZ [] [] mw_X1_99 (ok_X9_takeEndOfPart g F μ20) (by omega) sh_9 (by decide) rfl rfl (Nat.le_of_ble_eq_true rfl) dX1_takeLaw_172 (fun x21 μ22 _ => ?_)
              exact g_ret dX1_takeLaw_175 rfl rfl
            · refine g_iconst dX1_takeLaw_144 (v := 0) (by decide) ?_
              exact g_ret dX1_takeLaw_145 rfl rfl
        · refine g_iconst dX1_takeLaw_77 (v := 0) (by decide) ?_
          exact g_ret dX1_takeLaw_78 rfl rfl
    · refine g_iconst dX1_takeLaw_42 (v := 0) (by decide) ?_
      exact g_ret dX1_takeLaw_43 rfl rfl
  · refine g_aload_n dX1_takeLaw_12 0 rfl ?_
    refine g_getR (b := 9) fl_X1_9 sh_12 (by decide) rfl rfl dX1_takeLaw_13 ?_
    refine g_bipush dX1_takeLaw_16 (v := 6) (by decide) ?_
    refine g_vZ [.int 6] [] mw_X1_76 (ok_X9_refuseToken g 6 μ) (by omega) sh_9 (by decide) rfl rfl (Nat.le_of_ble_eq_true rfl) dX1_takeLaw_18 (fun x23 μ24 _ => ?_)
    exact g_ret dX1_takeLaw_21 rfl rfl
set_option maxHeartbeats 4000000 in
set_option maxRecDepth 100000 in
theorem ok_X9_takeName (g : GG) (F : Nat) (r1 : Nat) (hr1 : Bk r1) (μ : Mm) : Ct g yX9_takeName cX9_takeName 3 (some (.boolean)) 3 cvZ [.ref (gb g + 9), .ref (gb g + r1)] μ (f_X9_takeName F r1 μ) := by
  refine ct_Z (by decide +kernel) (Nat.le_of_ble_eq_true rfl) (show Go g RX9 cX9_takeName 3 .ireturn 3 cvZ 0 [(0, .ref (gb g + 9)), (1, .ref (gb g + r1))] [] μ (f_X9_takeName F r1 μ) from ?_)
  unfold f_X9_takeName
  refine g_aload_n dX9_takeName_0 0 rfl ?_
  refine g_vZp [] [] mw_X9_106 (ok_X9_isName g μ) (by omega) sh_9 (by decide) rfl rfl (Nat.le_of_ble_eq_true rfl) dX9_takeName_1 (fun x1 _ => ?_)
  refine g_ifneB (tgt := 12) dX9_takeName_4 (by decide) (fun _ => ?_) (fun _ => ?_)
  · refine g_aload_n dX9_takeName_12 1 rfl ?_
    refine g_aload_n dX9_takeName_13 0 rfl ?_
    refine g_getJ fl_X9_82 sh_9 (by decide) rfl dX9_takeName_14 ?_
    refine g_vIp [.long (mJ μ 9 6)] [] mw_X9_109 (ok_X0_accountNamed g F r1 (mJ μ 9 6) hr1 μ) (by omega) (bk_0 hr1) (by decide) rfl rfl (Nat.le_of_ble_eq_true rfl) dX9_takeName_17 (fun x2 _ => ?_)
    refine g_istore_n dX9_takeName_20 rfl (by decide) (lv' := [(2, .int x2), (0, .ref (gb g + 9)), (1, .ref (gb g + r1))]) rfl ?_
    refine g_iload_n dX9_takeName_21 0 rfl ?_
    refine g_iconst dX9_takeName_22 (v := (-1)) (by decide) ?_
    refine g_icmp_ne (tgt := 32) dX9_takeName_23 (by decide) (fun _ => ?_) (fun _ => ?_)
    · refine g_aload_n dX9_takeName_32 1 rfl ?_
      refine g_iload_n dX9_takeName_33 0 rfl ?_
      refine g_aload_n dX9_takeName_34 2 rfl ?_
      refine g_getI fl_X9_115 (bk_0 hr1) (by decide) rfl dX9_takeName_35 ?_
      refine g_imul dX9_takeName_38 ?_
      refine g_putI fl_X9_103 sh_9 (by decide) rfl dX9_takeName_39 ?_
      refine g_aload_n dX9_takeName_42 1 rfl ?_
      refine g_vV [] [] mw_X9_57 (ok_X9_advance g F (sI μ 9 7 (x2 * (mI μ r1 0)))) (by omega) sh_9 (by decide) rfl rfl (Nat.le_of_ble_eq_true rfl) dX9_takeName_43 (fun μ4 _ => ?_)
      refine g_iconst dX9_takeName_46 (v := 1) (by decide) ?_
      exact g_ret dX9_takeName_47 rfl rfl
    · refine g_aload_n dX9_takeName_26 1 rfl ?_
      refine g_iconst dX9_takeName_27 (v := 3) (by decide) ?_
      refine g_vZ [.int 3] [] mw_X9_89 (ok_X9_refuseToken g 3 μ) (by omega) sh_9 (by decide) rfl rfl (Nat.le_of_ble_eq_true rfl) dX9_takeName_28 (fun x5 μ6 _ => ?_)
      exact g_ret dX9_takeName_31 rfl rfl
  · refine g_aload_n dX9_takeName_7 0 rfl ?_
    refine g_vZ [] [] mw_X9_95 (ok_X9_refuseUnfit g μ) (by omega) sh_9 (by decide) rfl rfl (Nat.le_of_ble_eq_true rfl) dX9_takeName_8 (fun x7 μ8 _ => ?_)
    exact g_ret dX9_takeName_11 rfl rfl
set_option maxHeartbeats 4000000 in
set_option maxRecDepth 100000 in
theorem ok_X1_takeWatch (g : GG) (F : Nat) (r1 : Nat) (hr1 : Bk r1) (μ : Mm) : Ct g yX1_takeWatch cX1_takeWatch 3 (some (.boolean)) 5 cvZ [.ref (gb g + 12), .ref (gb g + r1)] μ (f_X1_takeWatch F r1 μ) := by
  refine ct_Z (by decide +kernel) (Nat.le_of_ble_eq_true rfl) (show Go g RX1 cX1_takeWatch 3 .ireturn 5 cvZ 0 [(0, .ref (gb g + 12)), (1, .ref (gb g + r1))] [] μ (f_X1_takeWatch F r1 μ) from ?_)
  unfold f_X1_takeWatch
  refine g_aload_n dX1_takeWatch_0 0 rfl ?_
  refine g_bipush dX1_takeWatch_1 (v := 12) (by decide) ?_
  refine g_vZ [.int 12] [] mw_X1_86 (ok_X1_takeWordOnce g F 12 μ) (by omega) sh_12 (by decide) rfl rfl (Nat.le_of_ble_eq_true rfl) dX1_takeWatch_3 (fun x1 μ2 _ => ?_)
  refine g_ifeqB (tgt := 20) dX1_takeWatch_6 (by decide) (fun _ => ?_) (fun _ => ?_)
  · refine g_iconst dX1_takeWatch_20 (v := 0) (by decide) ?_
    exact g_ret dX1_takeWatch_21 rfl rfl
  · refine g_aload_n dX1_takeWatch_9 0 rfl ?_
    refine g_getR (b := 9) fl_X1_9 sh_12 (by decide) rfl rfl dX1_takeWatch_10 ?_
    refine g_aload_n dX1_takeWatch_13 1 rfl ?_
    refine g_vZ [.ref (gb g + r1)] [] mw_X1_153 (ok_X9_takeName g F r1 hr1 μ2) (by omega) sh_9 (by decide) rfl rfl (Nat.le_of_ble_eq_true rfl) dX1_takeWatch_14 (fun x3 μ4 _ => ?_)
    refine g_ifneB (tgt := 22) dX1_takeWatch_17 (by decide) (fun _ => ?_) (fun _ => ?_)
    · refine g_aload_n dX1_takeWatch_22 0 rfl ?_
      refine g_getR (b := 9) fl_X1_9 sh_12 (by decide) rfl rfl dX1_takeWatch_23 ?_
      refine g_getI fl_X1_93 sh_9 (by decide) rfl dX1_takeWatch_26 ?_
      refine g_istore_n dX1_takeWatch_29 rfl (by decide) (lv' := [(2, .int (mI μ4 9 7)), (0, .ref (gb g + 12)), (1, .ref (gb g + r1))]) rfl ?_
      refine g_aload_n dX1_takeWatch_30 1 rfl ?_
      refine g_getR (b := 9) fl_X1_9 sh_12 (by decide) rfl rfl dX1_takeWatch_31 ?_
      refine g_iconst dX1_takeWatch_34 (v := 0) (by decide) ?_
      refine g_aload_n dX1_takeWatch_35 2 rfl ?_
      refine g_getI fl_X1_96 (bk_0 hr1) (by decide) rfl dX1_takeWatch_36 ?_
      refine g_iconst dX1_takeWatch_39 (v := 1) (by decide) ?_
      refine g_isub dX1_takeWatch_40 ?_
      refine g_vZ [.int 0, .int ((mI μ4 r1 0) - (1 : Int32))] [] mw_X1_89 (ok_X9_takeNumber g F 0 ((mI μ4 r1 0) - (1 : Int32)) μ4) (by omega) sh_9 (by decide) rfl rfl (Nat.le_of_ble_eq_true rfl) dX1_takeWatch_41 (fun x5 μ6 _ => ?_)
      refine g_ifneB (tgt := 49) dX1_takeWatch_44 (by decide) (fun _ => ?_) (fun _ => ?_)
      · refine g_aload_n dX1_takeWatch_49 2 rfl ?_
        refine g_iload_n dX1_takeWatch_50 0 rfl ?_
        refine g_aload_n dX1_takeWatch_51 1 rfl ?_
        refine g_getR (b := 9) fl_X1_9 sh_12 (by decide) rfl rfl dX1_takeWatch_52 ?_
        refine g_getI fl_X1_93 sh_9 (by decide) rfl dX1_takeWatch_55 ?_
        refine g_iadd dX1_takeWatch_58 ?_
        refine g_putI fl_X1_156 (bk_0 hr1) (by decide) rfl dX1_takeWatch_59 ?_
        refine g_aload_n dX1_takeWatch_62 1 rfl ?_
        refine g_getR (b := 9) fl_X1_9 sh_12 (by decide) rfl rfl dX1_takeWatch_63 ?_
        refine g_vZ [] [] mw_X1_99 (ok_X9_takeEndOfPart g F (sI μ6 r1 4 ((mI μ4 9 7) + (mI μ6 9 7)))) (by omega) sh_9 (by decide) rfl rfl (Nat.le_of_ble_eq_true rfl) dX1_takeWatch_66 (fun x7 μ8 _ => ?_)
        exact g_ret dX1_takeWatch_69 rfl rfl
      · refine g_iconst dX1_takeWatch_47 (v := 0) (by decide) ?_
        exact g_ret dX1_takeWatch_48 rfl rfl
    · refine g_iconst dX1_takeWatch_20 (v := 0) (by decide) ?_
      exact g_ret dX1_takeWatch_21 rfl rfl
set_option maxHeartbeats 4000000 in
set_option maxRecDepth 100000 in
theorem ok_X1_takePart (g : GG) (F : Nat) (r1 : Nat) (hr1 : Bk r1) (μ : Mm) : Ct g yX1_takePart cX1_takePart 2 (some (.boolean)) 6 cvZ [.ref (gb g + 12), .ref (gb g + r1)] μ (f_X1_takePart F r1 μ) := by
  refine ct_Z (by decide +kernel) (Nat.le_of_ble_eq_true rfl) (show Go g RX1 cX1_takePart 2 .ireturn 6 cvZ 0 [(0, .ref (gb g + 12)), (1, .ref (gb g + r1))] [] μ (f_X1_takePart F r1 μ) from ?_)
  unfold f_X1_takePart
  refine g_aload_n dX1_takePart_0 0 rfl ?_
  refine g_getR (b := 9) fl_X1_9 sh_12 (by decide) rfl rfl dX1_takePart_1 ?_
  refine g_vIp [] [] mw_X1_50 (ok_X9_setWord g μ) (by omega) sh_9 (by decide) rfl rfl (Nat.le_of_ble_eq_true rfl) dX1_takePart_4 (fun x1 _ => ?_)
  refine g_if (fun hs0 => ?_) (fun hs0 => ?_)
  · refine g_tswIn 0 (tgt := 72) (off := 65) dX1_takePart_7 hs0 (by decide) (by decide) (by decide) (by decide) ?_
    refine g_aload_n dX1_takePart_72 0 rfl ?_
    refine g_aload_n dX1_takePart_73 1 rfl ?_
    refine g_vZ [.ref (gb g + r1)] [] mw_X1_54 (ok_X1_takeWide g F r1 hr1 μ) (by omega) sh_12 (by decide) rfl rfl (Nat.le_of_ble_eq_true rfl) dX1_takePart_74 (fun x2 μ3 _ => ?_)
    exact g_ret dX1_takePart_77 rfl rfl
  · refine g_if (fun hs1 => ?_) (fun hs1 => ?_)
    · refine g_tswIn 1 (tgt := 78) (off := 71) dX1_takePart_7 hs1 (by decide) (by decide) (by decide) (by decide) ?_
      refine g_aload_n dX1_takePart_78 0 rfl ?_
      refine g_aload_n dX1_takePart_79 1 rfl ?_
      refine g_vZ [.ref (gb g + r1)] [] mw_X1_57 (ok_X1_takeTap g F r1 hr1 μ) (by omega) sh_12 (by decide) rfl rfl (Nat.le_of_ble_eq_true rfl) dX1_takePart_80 (fun x4 μ5 _ => ?_)
      exact g_ret dX1_takePart_83 rfl rfl
    · refine g_if (fun hs2 => ?_) (fun hs2 => ?_)
      · refine g_tswIn 2 (tgt := 84) (off := 77) dX1_takePart_7 hs2 (by decide) (by decide) (by decide) (by decide) ?_
        refine g_aload_n dX1_takePart_84 0 rfl ?_
        refine g_aload_n dX1_takePart_85 1 rfl ?_
        refine g_vZ [.ref (gb g + r1)] [] mw_X1_60 (ok_X1_takeOdds g F r1 hr1 μ) (by omega) sh_12 (by decide) rfl rfl (Nat.le_of_ble_eq_true rfl) dX1_takePart_86 (fun x6 μ7 _ => ?_)
        exact g_ret dX1_takePart_89 rfl rfl
      · refine g_if (fun hs3 => ?_) (fun hs3 => ?_)
        · refine g_tswIn 3 (tgt := 90) (off := 83) dX1_takePart_7 hs3 (by decide) (by decide) (by decide) (by decide) ?_
          refine g_aload_n dX1_takePart_90 0 rfl ?_
          refine g_aload_n dX1_takePart_91 1 rfl ?_
          refine g_vZ [.ref (gb g + r1)] [] mw_X1_63 (ok_X1_takeAccount g F r1 hr1 μ) (by omega) sh_12 (by decide) rfl rfl (Nat.le_of_ble_eq_true rfl) dX1_takePart_92 (fun x8 μ9 _ => ?_)
          exact g_ret dX1_takePart_95 rfl rfl
        · refine g_if (fun hs6 => ?_) (fun hs6 => ?_)
          · refine g_tswIn 6 (tgt := 96) (off := 89) dX1_takePart_7 hs6 (by decide) (by decide) (by decide) (by decide) ?_
            refine g_aload_n dX1_takePart_96 0 rfl ?_
            refine g_aload_n dX1_takePart_97 1 rfl ?_
            refine g_vZ [.ref (gb g + r1)] [] mw_X1_66 (ok_X1_takeLaw g F r1 hr1 μ) (by omega) sh_12 (by decide) rfl rfl (Nat.le_of_ble_eq_true rfl) dX1_takePart_98 (fun x10 μ11 _ => ?_)
            exact g_ret dX1_takePart_101 rfl rfl
          · refine g_if (fun hs12 => ?_) (fun hs12 => ?_)
            · refine g_tswIn 12 (tgt := 102) (off := 95) dX1_takePart_7 hs12 (by decide) (by decide) (by decide) (by decide) ?_
              refine g_aload_n dX1_takePart_102 0 rfl ?_
              refine g_aload_n dX1_takePart_103 1 rfl ?_
              refine g_vZ [.ref (gb g + r1)] [] mw_X1_69 (ok_X1_takeWatch g F r1 hr1 μ) (by omega) sh_12 (by decide) rfl rfl (Nat.le_of_ble_eq_true rfl) dX1_takePart_104 (fun x12 μ13 _ => ?_)
              exact g_ret dX1_takePart_107 rfl rfl
            · refine g_tswDef (tgt := 108) dX1_takePart_7 (by decide) (fun z hz0 hz1 hz2 => ?_) ?_
              · have n0 := lv_neT (a := 0) hs0 (by decide)
                have n1 := lv_neT (a := 1) hs1 (by decide)
                have n2 := lv_neT (a := 2) hs2 (by decide)
                have n3 := lv_neT (a := 3) hs3 (by decide)
                have n6 := lv_neT (a := 6) hs6 (by decide)
                have n12 := lv_neT (a := 12) hs12 (by decide)
                have hz : z = 4 ∨ z = 5 ∨ z = 7 ∨ z = 8 ∨ z = 9 ∨ z = 10 ∨ z = 11 := by omega
                rcases hz with rfl | rfl | rfl | rfl | rfl | rfl | rfl <;> rfl
              refine g_aload_n dX1_takePart_108 0 rfl ?_
              refine g_getR (b := 9) fl_X1_9 sh_12 (by decide) rfl rfl dX1_takePart_109 ?_
              refine g_vZ [] [] mw_X1_72 (ok_X9_refuseUnfit g μ) (by omega) sh_9 (by decide) rfl rfl (Nat.le_of_ble_eq_true rfl) dX1_takePart_112 (fun x14 μ15 _ => ?_)
              exact g_ret dX1_takePart_115 rfl rfl
set_option maxHeartbeats 4000000 in
set_option maxRecDepth 100000 in
theorem okL_X1_fill_19 (g : GG) (F : Nat) (r1 : Nat) (k : Mm → Option (Bool × Mm)) (hr1 : Bk r1) (hk : ∀ (μ : Mm), Go g RX1 cX1_fill 4 .ireturn 7 cvZ 52 [(1, .ref (gb g + r1))] [] μ (k μ)) : ∀ (n : Nat) (v3 : Int32) (μ : Mm), Go g RX1 cX1_fill 4 .ireturn 7 cvZ 19 [(0, .ref (gb g + 12)), (1, .ref (gb g + r1)), (3, .int v3)] [] μ (L_X1_fill_19 F r1 k n v3 μ) := by
  intro n
  induction n with
  | zero =>
    intro v3 μ
    exact g_none
  | succ n ih =>
    intro v3 μ
    rw [L_X1_fill_19_s]
    refine g_iload_n dX1_fill_19 2 rfl ?_
    refine g_sipush dX1_fill_20 (v := 900) (by decide) ?_
    refine g_icmp_ge (tgt := 52) dX1_fill_23 (by decide) (fun _ => ?_) (fun _ => ?_)
    · refine g_lv [1] rfl ?_
      exact hk μ
    · refine g_aload_n dX1_fill_26 0 rfl ?_
      refine g_getR (b := 9) fl_X1_9 sh_12 (by decide) rfl rfl dX1_fill_27 ?_
      refine g_getI fl_X1_30 sh_9 (by decide) rfl dX1_fill_30 ?_
      refine g_if_eq (tgt := 52) dX1_fill_33 (by decide) (fun _ => ?_) (fun _ => ?_)
      · refine g_lv [1] rfl ?_
        exact hk μ
      · refine g_aload_n dX1_fill_36 0 rfl ?_
        refine g_aload_n dX1_fill_37 1 rfl ?_
        refine g_vZ [.ref (gb g + r1)] [] mw_X1_33 (ok_X1_takePart g F r1 hr1 μ) (by omega) sh_12 (by decide) rfl rfl (Nat.le_of_ble_eq_true rfl) dX1_fill_38 (fun x5 μ6 _ => ?_)
        refine g_ifneB (tgt := 46) dX1_fill_41 (by decide) (fun _ => ?_) (fun _ => ?_)
        · refine g_iinc dX1_fill_46 2 rfl (v := (v3 + 1)) rfl (by decide) (lv' := [(3, .int (v3 + 1)), (0, .ref (gb g + 12)), (1, .ref (gb g + r1))]) rfl ?_
          refine g_goto (tgt := 19) dX1_fill_49 (by decide) ?_
          refine g_lv [1, 2, 0] rfl ?_
          exact ih (v3 + 1) μ6
        · refine g_iconst dX1_fill_44 (v := 0) (by decide) ?_
          exact g_ret dX1_fill_45 rfl rfl
set_option maxHeartbeats 4000000 in
set_option maxRecDepth 100000 in
theorem ok_X1_fill (g : GG) (F : Nat) (r1 : Nat) (v2 : Int32) (hr1 : Bk r1) (μ : Mm) : Ct g yX1_fill cX1_fill 4 (some (.boolean)) 7 cvZ [.ref (gb g + 12), .ref (gb g + r1), .int v2] μ (f_X1_fill F r1 v2 μ) := by
  refine ct_Z (by decide +kernel) (Nat.le_of_ble_eq_true rfl) (show Go g RX1 cX1_fill 4 .ireturn 7 cvZ 0 [(0, .ref (gb g + 12)), (1, .ref (gb g + r1)), (2, .int v2)] [] μ (f_X1_fill F r1 v2 μ) from ?_)
  unfold f_X1_fill
  refine g_aload_n dX1_fill_0 0 rfl ?_
  refine g_iconst dX1_fill_1 (v := 0) (by decide) ?_
  refine g_putI fl_X1_15 sh_12 (by decide) rfl dX1_fill_2 ?_
  refine g_aload_n dX1_fill_5 1 rfl ?_
  refine g_vV [] [] mw_X1_19 (ok_X0_empty g F r1 hr1 (sI μ 12 1 0)) (by omega) (bk_0 hr1) (by decide) rfl rfl (Nat.le_of_ble_eq_true rfl) dX1_fill_6 (fun μ2 _ => ?_)
  refine g_aload_n dX1_fill_9 0 rfl ?_
  refine g_getR (b := 9) fl_X1_9 sh_12 (by decide) rfl rfl dX1_fill_10 ?_
  refine g_iload_n dX1_fill_13 2 rfl ?_
  refine g_vV [.int v2] [] mw_X1_24 (ok_X9_open g F v2 μ2) (by omega) sh_9 (by decide) rfl rfl (Nat.le_of_ble_eq_true rfl) dX1_fill_14 (fun μ4 _ => ?_)
  refine g_iconst dX1_fill_17 (v := 0) (by decide) ?_
  refine g_istore_n dX1_fill_18 rfl (by decide) (lv' := [(3, .int 0), (0, .ref (gb g + 12)), (1, .ref (gb g + r1)), (2, .int v2)]) rfl ?_
  refine g_lv [1, 2, 0] rfl ?_
  refine okL_X1_fill_19 g F r1 _ hr1 (fun μ7 => ?_) F 0 μ4
  refine g_aload_n dX1_fill_52 0 rfl ?_
  refine g_getR (b := (r1 + 8)) fl_X1_37 (bk_0 hr1) (by decide) rfl rfl dX1_fill_53 ?_
  refine g_iconst dX1_fill_56 (v := 0) (by decide) ?_
  refine g_aload_n dX1_fill_57 0 rfl ?_
  refine g_getR (b := (r1 + 9)) fl_X1_41 (bk_0 hr1) (by decide) rfl rfl dX1_fill_58 ?_
  refine g_iconst dX1_fill_61 (v := 0) (by decide) ?_
  refine g_bipush dX1_fill_62 (v := 25) (by decide) ?_
  refine g_copyA mw_X1_44 (by omega) (bk_8 hr1) (bk_9 hr1) dX1_fill_64 (fun μ8 => ?_)
  refine g_iconst dX1_fill_67 (v := 1) (by decide) ?_
  exact g_ret dX1_fill_68 rfl rfl
