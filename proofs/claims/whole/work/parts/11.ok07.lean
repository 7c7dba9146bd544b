set_option maxHeartbeats 4000000 in
set_option maxRecDepth 100000 in
theorem ok_X12_isName (g : GG)   (μ : Mm) : Ct g yX12_isName cX12_isName 1 (some (.boolean)) 5 (cvZp μ) [.ref (gb g + 141)] μ (f_X12_isName  μ) := by
  refine ct_Zp (by decide +kernel) (Nat.le_of_ble_eq_true rfl) (show Go g RX12 cX12_isName 1 .ireturn 5 (cvZp μ) 0 [(0, .ref (gb g + 141))] [] μ (f_X12_isName  μ) from ?_)
  unfold f_X12_isName
  refine g_aload_n dX12_isName_0 0 rfl ?_
  refine g_getI fl_X12_123 sh_141 (by decide) rfl dX12_isName_1 ?_
  refine g_iconst dX12_isName_4 (v := 1) (by decide) ?_
  refine g_icmp_ne (tgt := 28) dX12_isName_5 (by decide) (fun _ => ?_) (fun _ => ?_)
  · refine g_iconst dX12_isName_28 (v := 0) (by decide) ?_
    exact g_ret dX12_isName_29 rfl rfl
  · refine g_aload_n dX12_isName_8 0 rfl ?_
    refine g_getI fl_X12_136 sh_141 (by decide) rfl dX12_isName_9 ?_
    refine g_bipush dX12_isName_12 (v := 8) (by decide) ?_
    refine g_icmp_gt (tgt := 28) dX12_isName_14 (by decide) (fun _ => ?_) (fun _ => ?_)
    · refine g_iconst dX12_isName_28 (v := 0) (by decide) ?_
      exact g_ret dX12_isName_29 rfl rfl
    · refine g_aload_n dX12_isName_17 0 rfl ?_
      refine g_vZp [] [] mw_X12_201 (ok_X12_isKept g μ) (by omega) sh_141 (by decide) rfl rfl (Nat.le_of_ble_eq_true rfl) dX12_isName_18 (fun x1 _ => ?_)
      refine g_ifneB (tgt := 28) dX12_isName_21 (by decide) (fun _ => ?_) (fun _ => ?_)
      · refine g_iconst dX12_isName_28 (v := 0) (by decide) ?_
        exact g_ret dX12_isName_29 rfl rfl
      · refine g_iconst dX12_isName_24 (v := 1) (by decide) ?_
        refine g_goto (tgt := 29) dX12_isName_25 (by decide) ?_
        exact g_ret dX12_isName_29 rfl rfl
set_option maxHeartbeats 4000000 in
set_option maxRecDepth 100000 in
theorem ok_X12_fail (g : GG) (v1 : Int32) (v2 : Int32)  (μ : Mm) : Ct g yX12_fail cX12_fail 3 none 1 cvV [.ref (gb g + 141), .int v1, .int v2] μ (f_X12_fail v1 v2 μ) := by
  refine ct_V (by decide +kernel) (Nat.le_of_ble_eq_true rfl) (show Go g RX12 cX12_fail 3 .return_ 1 cvV 0 [(0, .ref (gb g + 141)), (1, .int v1), (2, .int v2)] [] μ (f_X12_fail v1 v2 μ) from ?_)
  unfold f_X12_fail
  refine g_aload_n dX12_fail_0 0 rfl ?_
  refine g_getI fl_X12_204 sh_141 (by decide) rfl dX12_fail_1 ?_
  refine g_if_le (tgt := 8) dX12_fail_4 (by decide) (fun _ => ?_) (fun _ => ?_)
  · refine g_aload_n dX12_fail_8 0 rfl ?_
    refine g_iload_n dX12_fail_9 1 rfl ?_
    refine g_putI fl_X12_204 sh_141 (by decide) rfl dX12_fail_10 ?_
    refine g_aload_n dX12_fail_13 0 rfl ?_
    refine g_iload_n dX12_fail_14 2 rfl ?_
    refine g_putI fl_X12_207 sh_141 (by decide) rfl dX12_fail_15 ?_
    exact g_ret dX12_fail_18 rfl rfl
  · exact g_ret dX12_fail_7 rfl rfl
set_option maxHeartbeats 4000000 in
set_option maxRecDepth 100000 in
theorem ok_X12_amiss (g : GG)   (μ : Mm) : Ct g yX12_amiss cX12_amiss 1 none 2 cvV [.ref (gb g + 141)] μ (f_X12_amiss  μ) := by
  refine ct_V (by decide +kernel) (Nat.le_of_ble_eq_true rfl) (show Go g RX12 cX12_amiss 1 .return_ 2 cvV 0 [(0, .ref (gb g + 141))] [] μ (f_X12_amiss  μ) from ?_)
  unfold f_X12_amiss
  refine g_aload_n dX12_amiss_0 0 rfl ?_
  refine g_aload_n dX12_amiss_1 0 rfl ?_
  refine g_getI fl_X12_123 sh_141 (by decide) rfl dX12_amiss_2 ?_
  refine g_iconst dX12_amiss_5 (v := 4) (by decide) ?_
  have hJ5 : ∀ (w2 : Int32), w2 = (if (mI μ 141 14) = 4 then (1 : Int32) else 2) → Go g RX12 cX12_amiss 1 .return_ 2 cvV 14 [(0, .ref (gb g + 141))] [.int w2, .ref (gb g + 141)] μ ((f_X12_fail (if (mI μ 141 14) = 4 then (1 : Int32) else 2) (mI μ 141 15) μ).bind fun μ4 => some μ4) := by
    intro w2 ew2
    subst ew2
    refine g_aload_n dX12_amiss_14 0 rfl ?_
    refine g_getI fl_X12_117 sh_141 (by decide) rfl dX12_amiss_15 ?_
    refine g_vV [.int (if (mI μ 141 14) = 4 then (1 : Int32) else 2), .int (mI μ 141 15)] [] mw_X12_210 (ok_X12_fail g (if (mI μ 141 14) = 4 then (1 : Int32) else 2) (mI μ 141 15) μ) (by omega) sh_141 (by decide) rfl rfl (Nat.le_of_ble_eq_true rfl) dX12_amiss_18 (fun μ4 _ => ?_)
    exact g_ret dX12_amiss_21 rfl rfl
  refine g_same (g_icmp_ne (tgt := 13) dX12_amiss_6 (by decide) (fun c1 => ?_) (fun c1 => ?_))
  · refine g_iconst dX12_amiss_13 (v := 2) (by decide) ?_
    refine g_lv [0] rfl ?_
    exact hJ5 _ (by rw [if_neg c1])
  · refine g_iconst dX12_amiss_9 (v := 1) (by decide) ?_
    refine g_goto (tgt := 14) dX12_amiss_10 (by decide) ?_
    refine g_lv [0] rfl ?_
    exact hJ5 _ (by rw [if_pos c1])
set_option maxHeartbeats 4000000 in
set_option maxRecDepth 100000 in
theorem ok_X12_must (g : GG) (F : Nat) (v1 : Int32)  (μ : Mm) : Ct g yX12_must cX12_must 2 none 3 cvV [.ref (gb g + 141), .int v1] μ (f_X12_must F v1 μ) := by
  refine ct_V (by decide +kernel) (Nat.le_of_ble_eq_true rfl) (show Go g RX12 cX12_must 2 .return_ 3 cvV 0 [(0, .ref (gb g + 141)), (1, .int v1)] [] μ (f_X12_must F v1 μ) from ?_)
  unfold f_X12_must
  refine g_aload_n dX12_must_0 0 rfl ?_
  refine g_getI fl_X12_204 sh_141 (by decide) rfl dX12_must_1 ?_
  refine g_if_le (tgt := 8) dX12_must_4 (by decide) (fun _ => ?_) (fun _ => ?_)
  · refine g_iload_n dX12_must_8 1 rfl ?_
    refine g_if_eq (tgt := 19) dX12_must_9 (by decide) (fun _ => ?_) (fun _ => ?_)
    · refine g_aload_n dX12_must_19 0 rfl ?_
      refine g_vV [] [] mw_X12_217 (ok_X12_amiss g μ) (by omega) sh_141 (by decide) rfl rfl (Nat.le_of_ble_eq_true rfl) dX12_must_20 (fun μ3 _ => ?_)
      exact g_ret dX12_must_23 rfl rfl
    · refine g_aload_n dX12_must_12 0 rfl ?_
      refine g_vV [] [] mw_X12_214 (ok_X12_advance g F μ) (by omega) sh_141 (by decide) rfl rfl (Nat.le_of_ble_eq_true rfl) dX12_must_13 (fun μ5 _ => ?_)
      refine g_goto (tgt := 23) dX12_must_16 (by decide) ?_
      exact g_ret dX12_must_23 rfl rfl
  · exact g_ret dX12_must_7 rfl rfl
set_option maxHeartbeats 4000000 in
set_option maxRecDepth 100000 in
theorem ok_X12_count (g : GG) (F : Nat) (v1 : Int32) (v2 : Int32)  (μ : Mm) : Ct g yX12_count cX12_count 4 (some (.int)) 3 cvI [.ref (gb g + 141), .int v1, .int v2] μ (f_X12_count F v1 v2 μ) := by
  refine ct_I (by decide +kernel) (Nat.le_of_ble_eq_true rfl) (show Go g RX12 cX12_count 4 .ireturn 3 cvI 0 [(0, .ref (gb g + 141)), (1, .int v1), (2, .int v2)] [] μ (f_X12_count F v1 v2 μ) from ?_)
  unfold f_X12_count
  refine g_aload_n dX12_count_0 0 rfl ?_
  refine g_getI fl_X12_204 sh_141 (by decide) rfl dX12_count_1 ?_
  refine g_jn (fun (a4 : Mm) oo => Go g RX12 cX12_count 4 .ireturn 3 cvI 19 [(0, .ref (gb g + 141)), (1, .int v1), (2, .int v2)] [] a4 oo) (fun a4 => ?_) (fun K3 hF14 => ?_)
  · refine g_aload_n dX12_count_19 0 rfl ?_
    refine g_getI fl_X12_204 sh_141 (by decide) rfl dX12_count_20 ?_
    refine g_jn (fun (a7 : Mm) oo => Go g RX12 cX12_count 4 .ireturn 3 cvI 50 [(0, .ref (gb g + 141))] [] a7 oo) (fun a7 => ?_) (fun K6 hF10 => ?_)
    · refine g_aload_n dX12_count_50 0 rfl ?_
      refine g_getI fl_X12_204 sh_141 (by decide) rfl dX12_count_51 ?_
      refine g_if_le (tgt := 59) dX12_count_54 (by decide) (fun _ => ?_) (fun _ => ?_)
      · refine g_aload_n dX12_count_59 0 rfl ?_
        refine g_getI fl_X12_142 sh_141 (by decide) rfl dX12_count_60 ?_
        refine g_istore_n dX12_count_63 rfl (by decide) (lv' := [(3, .int (mI a7 141 17)), (0, .ref (gb g + 141))]) rfl ?_
        refine g_aload_n dX12_count_64 1 rfl ?_
        refine g_vV [] [] mw_X12_214 (ok_X12_advance g F a7) (by omega) sh_141 (by decide) rfl rfl (Nat.le_of_ble_eq_true rfl) dX12_count_65 (fun μ9 _ => ?_)
        refine g_iload_n dX12_count_68 0 rfl ?_
        exact g_ret dX12_count_69 rfl rfl
      · refine g_iconst dX12_count_57 (v := 0) (by decide) ?_
        exact g_ret dX12_count_58 rfl rfl
    · refine g_if_ne (tgt := 50) dX12_count_23 (by decide) (fun _ => ?_) (fun _ => ?_)
      · refine g_lv [0] rfl ?_
        exact hF10 a4
      · refine g_aload_n dX12_count_26 0 rfl ?_
        refine g_getI fl_X12_142 sh_141 (by decide) rfl dX12_count_27 ?_
        refine g_i2l dX12_count_30 ?_
        refine g_iload_n dX12_count_31 1 rfl ?_
        refine g_i2l dX12_count_32 ?_
        refine g_iload_n dX12_count_33 2 rfl ?_
        refine g_i2l dX12_count_34 ?_
        refine g_sZp [.long ((mI a4 141 17).toInt64), .long (v1.toInt64), .long (v2.toInt64)] [] mw_X12_107 (ok_X12_isIn g ((mI a4 141 17).toInt64) (v1.toInt64) (v2.toInt64) a4) (by omega) rfl rfl (Nat.le_of_ble_eq_true rfl) dX12_count_35 (fun x11 _ => ?_)
        refine g_ifneB (tgt := 50) dX12_count_38 (by decide) (fun _ => ?_) (fun _ => ?_)
        · refine g_lv [0] rfl ?_
          exact hF10 a4
        · refine g_aload_n dX12_count_41 0 rfl ?_
          refine g_iconst dX12_count_42 (v := 4) (by decide) ?_
          refine g_aload_n dX12_count_43 0 rfl ?_
          refine g_getI fl_X12_117 sh_141 (by decide) rfl dX12_count_44 ?_
          refine g_vV [.int 4, .int (mI a4 141 15)] [] mw_X12_210 (ok_X12_fail g 4 (mI a4 141 15) a4) (by omega) sh_141 (by decide) rfl rfl (Nat.le_of_ble_eq_true rfl) dX12_count_47 (fun μ13 _ => ?_)
          refine g_lv [0] rfl ?_
          exact hF10 μ13
  · refine g_if_ne (tgt := 19) dX12_count_4 (by decide) (fun _ => ?_) (fun _ => ?_)
    · refine g_lv [0, 1, 2] rfl ?_
      exact hF14 μ
    · refine g_aload_n dX12_count_7 0 rfl ?_
      refine g_getI fl_X12_123 sh_141 (by decide) rfl dX12_count_8 ?_
      refine g_iconst dX12_count_11 (v := 2) (by decide) ?_
      refine g_icmp_eq (tgt := 19) dX12_count_12 (by decide) (fun _ => ?_) (fun _ => ?_)
      · refine g_lv [0, 1, 2] rfl ?_
        exact hF14 μ
      · refine g_aload_n dX12_count_15 0 rfl ?_
        refine g_vV [] [] mw_X12_217 (ok_X12_amiss g μ) (by omega) sh_141 (by decide) rfl rfl (Nat.le_of_ble_eq_true rfl) dX12_count_16 (fun μ16 _ => ?_)
        refine g_lv [0, 1, 2] rfl ?_
        exact hF14 μ16
set_option maxHeartbeats 4000000 in
set_option maxRecDepth 100000 in
theorem okL_X12_lay_2 (g : GG) (F : Nat) (v1 : Int32) (k : Mm → Option (Mm))  (hk : ∀ (μ : Mm), Go g RX12 cX12_lay 3 .return_ 1 cvV 38 [] [] μ (k μ)) : ∀ (n : Nat) (v2 : Int32) (μ : Mm), Go g RX12 cX12_lay 3 .return_ 1 cvV 2 [(0, .ref (gb g + 141)), (1, .int v1), (2, .int v2)] [] μ (L_X12_lay_2 F v1 k n v2 μ) := by
  intro n
  induction n with
  | zero =>
    intro v2 μ
    exact g_none
  | succ n ih =>
    intro v2 μ
    rw [L_X12_lay_2_s]
    refine g_iload_n dX12_lay_2 2 rfl ?_
    refine g_if_lt (tgt := 38) dX12_lay_3 (by decide) (fun _ => ?_) (fun _ => ?_)
    · refine g_lv [] rfl ?_
      exact hk μ
    · refine g_aload_n dX12_lay_6 0 rfl ?_
      refine g_getR (b := 145) fl_X12_24 sh_141 (by decide) rfl rfl dX12_lay_7 ?_
      refine g_aload_n dX12_lay_10 0 rfl ?_
      refine g_getI fl_X12_220 sh_141 (by decide) rfl dX12_lay_11 ?_
      refine g_iload_n dX12_lay_14 1 rfl ?_
      refine g_bipush dX12_lay_15 (v := 8) (by decide) ?_
      refine g_iload_n dX12_lay_17 2 rfl ?_
      refine g_imul dX12_lay_18 ?_
      refine g_ishr dX12_lay_19 ?_
      refine g_i2b dX12_lay_20 ?_
      refine g_bastore sh_145 dX12_lay_21 (fun μ1 => ?_)
      refine g_aload_n dX12_lay_22 0 rfl ?_
      refine g_dup dX12_lay_23 rfl ?_
      refine g_getI fl_X12_220 sh_141 (by decide) rfl dX12_lay_24 ?_
      refine g_iconst dX12_lay_27 (v := 1) (by decide) ?_
      refine g_iadd dX12_lay_28 ?_
      refine g_putI fl_X12_220 sh_141 (by decide) rfl dX12_lay_29 ?_
      refine g_iinc dX12_lay_32 2 rfl (v := (v2 + (-1))) rfl (by decide) (lv' := [(2, .int (v2 + (-1))), (0, .ref (gb g + 141)), (1, .int v1)]) rfl ?_
      refine g_goto (tgt := 2) dX12_lay_35 (by decide) ?_
      refine g_lv [1, 2, 0] rfl ?_
      exact ih (v2 + (-1)) (sI μ1 141 8 ((mI μ1 141 8) + (1 : Int32)))
set_option maxHeartbeats 4000000 in
set_option maxRecDepth 100000 in
theorem ok_X12_lay (g : GG) (F : Nat) (v1 : Int32)  (μ : Mm) : Ct g yX12_lay cX12_lay 3 none 1 cvV [.ref (gb g + 141), .int v1] μ (f_X12_lay F v1 μ) := by
  refine ct_V (by decide +kernel) (Nat.le_of_ble_eq_true rfl) (show Go g RX12 cX12_lay 3 .return_ 1 cvV 0 [(0, .ref (gb g + 141)), (1, .int v1)] [] μ (f_X12_lay F v1 μ) from ?_)
  unfold f_X12_lay
  refine g_iconst dX12_lay_0 (v := 3) (by decide) ?_
  refine g_istore_n dX12_lay_1 rfl (by decide) (lv' := [(2, .int 3), (0, .ref (gb g + 141)), (1, .int v1)]) rfl ?_
  refine g_lv [1, 2, 0] rfl ?_
  refine okL_X12_lay_2 g F v1 _ (fun μ2 => ?_) F 3 μ
  exact g_ret dX12_lay_38 rfl rfl
set_option maxHeartbeats 4000000 in
set_option maxRecDepth 100000 in
theorem ok_X12_feed (g : GG) (F : Nat) (v1 : Int32) (v2 : Int32) (v3 : Int32) (v4 : Int32) (v5 : Int32)  (μ : Mm) : Ct g yX12_feed cX12_feed 6 (some (.int)) 2 cvI [.ref (gb g + 141), .int v1, .int v2, .int v3, .int v4, .int v5] μ (f_X12_feed F v1 v2 v3 v4 v5 μ) := by
  refine ct_I (by decide +kernel) (Nat.le_of_ble_eq_true rfl) (show Go g RX12 cX12_feed 6 .ireturn 2 cvI 0 [(0, .ref (gb g + 141)), (1, .int v1), (2, .int v2), (3, .int v3), (4, .int v4), (5, .int v5)] [] μ (f_X12_feed F v1 v2 v3 v4 v5 μ) from ?_)
  unfold f_X12_feed
  refine g_aload_n dX12_feed_0 0 rfl ?_
  refine g_iconst dX12_feed_1 (v := 0) (by decide) ?_
  refine g_putI fl_X12_72 sh_141 (by decide) rfl dX12_feed_2 ?_
  refine g_aload_n dX12_feed_5 0 rfl ?_
  refine g_getI fl_X12_220 sh_141 (by decide) rfl dX12_feed_6 ?_
  refine g_bipush dX12_feed_9 (v := 20) (by decide) ?_
  refine g_iadd dX12_feed_11 ?_
  refine g_sipush dX12_feed_12 (v := 900) (by decide) ?_
  refine g_icmp_le (tgt := 20) dX12_feed_15 (by decide) (fun _ => ?_) (fun _ => ?_)
  · refine g_aload_n dX12_feed_20 0 rfl ?_
    refine g_iload_n dX12_feed_21 1 rfl ?_
    refine g_vV [.int v1] [] mw_X12_223 (ok_X12_lay g F v1 (sI μ 141 1 0)) (by omega) sh_141 (by decide) rfl rfl (Nat.le_of_ble_eq_true rfl) dX12_feed_22 (fun μ2 _ => ?_)
    refine g_aload_n dX12_feed_25 0 rfl ?_
    refine g_iload_n dX12_feed_26 2 rfl ?_
    refine g_vV [.int v2] [] mw_X12_223 (ok_X12_lay g F v2 μ2) (by omega) sh_141 (by decide) rfl rfl (Nat.le_of_ble_eq_true rfl) dX12_feed_27 (fun μ4 _ => ?_)
    refine g_aload_n dX12_feed_30 0 rfl ?_
    refine g_iload_n dX12_feed_31 3 rfl ?_
    refine g_vV [.int v3] [] mw_X12_223 (ok_X12_lay g F v3 μ4) (by omega) sh_141 (by decide) rfl rfl (Nat.le_of_ble_eq_true rfl) dX12_feed_32 (fun μ6 _ => ?_)
    refine g_aload_n dX12_feed_35 0 rfl ?_
    refine g_iload dX12_feed_36 4 rfl ?_
    refine g_vV [.int v4] [] mw_X12_223 (ok_X12_lay g F v4 μ6) (by omega) sh_141 (by decide) rfl rfl (Nat.le_of_ble_eq_true rfl) dX12_feed_38 (fun μ8 _ => ?_)
    refine g_aload_n dX12_feed_41 0 rfl ?_
    refine g_iload dX12_feed_42 5 rfl ?_
    refine g_vV [.int v5] [] mw_X12_223 (ok_X12_lay g F v5 μ8) (by omega) sh_141 (by decide) rfl rfl (Nat.le_of_ble_eq_true rfl) dX12_feed_44 (fun μ10 _ => ?_)
    refine g_aload_n dX12_feed_47 0 rfl ?_
    refine g_getI fl_X12_220 sh_141 (by decide) rfl dX12_feed_48 ?_
    exact g_ret dX12_feed_51 rfl rfl
  · refine g_iconst dX12_feed_18 (v := (-1)) (by decide) ?_
    exact g_ret dX12_feed_19 rfl rfl
set_option maxHeartbeats 4000000 in
set_option maxRecDepth 100000 in
theorem ok_X12_starts (g : GG) (F : Nat) (v1 : Int32) (v2 : Int32)  (μ : Mm) : Ct g yX12_starts cX12_starts 3 (some (.boolean)) 3 cvZ [.ref (gb g + 141), .int v1, .int v2] μ (f_X12_starts F v1 v2 μ) := by
  refine ct_Z (by decide +kernel) (Nat.le_of_ble_eq_true rfl) (show Go g RX12 cX12_starts 3 .ireturn 3 cvZ 0 [(0, .ref (gb g + 141)), (1, .int v1), (2, .int v2)] [] μ (f_X12_starts F v1 v2 μ) from ?_)
  unfold f_X12_starts
  refine g_iload_n dX12_starts_0 1 rfl ?_
  refine g_if_lt (tgt := 17) dX12_starts_1 (by decide) (fun _ => ?_) (fun _ => ?_)
  · refine g_aload_n dX12_starts_17 0 rfl ?_
    refine g_iconst dX12_starts_18 (v := 5) (by decide) ?_
    refine g_vZ [.int 5] [] mw_X12_87 (ok_X12_no g 5 μ) (by omega) sh_141 (by decide) rfl rfl (Nat.le_of_ble_eq_true rfl) dX12_starts_19 (fun x1 μ2 _ => ?_)
    exact g_ret dX12_starts_22 rfl rfl
  · refine g_iload_n dX12_starts_4 1 rfl ?_
    refine g_aload_n dX12_starts_5 0 rfl ?_
    refine g_getI fl_X12_220 sh_141 (by decide) rfl dX12_starts_6 ?_
    refine g_icmp_gt (tgt := 17) dX12_starts_9 (by decide) (fun _ => ?_) (fun _ => ?_)
    · refine g_aload_n dX12_starts_17 0 rfl ?_
      refine g_iconst dX12_starts_18 (v := 5) (by decide) ?_
      refine g_vZ [.int 5] [] mw_X12_87 (ok_X12_no g 5 μ) (by omega) sh_141 (by decide) rfl rfl (Nat.le_of_ble_eq_true rfl) dX12_starts_19 (fun x3 μ4 _ => ?_)
      exact g_ret dX12_starts_22 rfl rfl
    · refine g_iload_n dX12_starts_12 1 rfl ?_
      refine g_iload_n dX12_starts_13 2 rfl ?_
      refine g_icmp_le (tgt := 23) dX12_starts_14 (by decide) (fun _ => ?_) (fun _ => ?_)
      · refine g_aload_n dX12_starts_23 0 rfl ?_
        refine g_iload_n dX12_starts_24 1 rfl ?_
        refine g_putI fl_X12_111 sh_141 (by decide) rfl dX12_starts_25 ?_
        refine g_aload_n dX12_starts_28 0 rfl ?_
        refine g_iconst dX12_starts_29 (v := 0) (by decide) ?_
        refine g_putI fl_X12_220 sh_141 (by decide) rfl dX12_starts_30 ?_
        refine g_aload_n dX12_starts_33 0 rfl ?_
        refine g_iconst dX12_starts_34 (v := 0) (by decide) ?_
        refine g_putI fl_X12_114 sh_141 (by decide) rfl dX12_starts_35 ?_
        refine g_aload_n dX12_starts_38 0 rfl ?_
        refine g_iconst dX12_starts_39 (v := 0) (by decide) ?_
        refine g_putI fl_X12_204 sh_141 (by decide) rfl dX12_starts_40 ?_
        refine g_aload_n dX12_starts_43 0 rfl ?_
        refine g_vV [] [] mw_X12_214 (ok_X12_advance g F (sI (sI (sI (sI μ 141 9 v1) 141 8 0) 141 16 0) 141 12 0)) (by omega) sh_141 (by decide) rfl rfl (Nat.le_of_ble_eq_true rfl) dX12_starts_44 (fun μ6 _ => ?_)
        refine g_iconst dX12_starts_47 (v := 1) (by decide) ?_
        exact g_ret dX12_starts_48 rfl rfl
      · refine g_aload_n dX12_starts_17 0 rfl ?_
        refine g_iconst dX12_starts_18 (v := 5) (by decide) ?_
        refine g_vZ [.int 5] [] mw_X12_87 (ok_X12_no g 5 μ) (by omega) sh_141 (by decide) rfl rfl (Nat.le_of_ble_eq_true rfl) dX12_starts_19 (fun x7 μ8 _ => ?_)
        exact g_ret dX12_starts_22 rfl rfl
set_option maxHeartbeats 4000000 in
set_option maxRecDepth 100000 in
theorem ok_X12_isWell (g : GG)   (μ : Mm) : Ct g yX12_isWell cX12_isWell 1 (some (.boolean)) 2 cvZ [.ref (gb g + 141)] μ (f_X12_isWell  μ) := by
  refine ct_Z (by decide +kernel) (Nat.le_of_ble_eq_true rfl) (show Go g RX12 cX12_isWell 1 .ireturn 2 cvZ 0 [(0, .ref (gb g + 141))] [] μ (f_X12_isWell  μ) from ?_)
  unfold f_X12_isWell
  refine g_aload_n dX12_isWell_0 0 rfl ?_
  refine g_aload_n dX12_isWell_1 0 rfl ?_
  refine g_getI fl_X12_204 sh_141 (by decide) rfl dX12_isWell_2 ?_
  refine g_putI fl_X12_28 sh_141 (by decide) rfl dX12_isWell_5 ?_
  refine g_aload_n dX12_isWell_8 0 rfl ?_
  refine g_aload_n dX12_isWell_9 0 rfl ?_
  refine g_getI fl_X12_204 sh_141 (by decide) rfl dX12_isWell_10 ?_
  have hJ5 : ∀ (w2 : Int32), w2 = (if (mI (sI μ 141 10 (mI μ 141 12)) 141 12) = 0 then ((-1) : Int32) else (mI (sI μ 141 10 (mI μ 141 12)) 141 13)) → Go g RX12 cX12_isWell 1 .ireturn 2 cvZ 24 [(0, .ref (gb g + 141))] [.int w2, .ref (gb g + 141)] (sI μ 141 10 (mI μ 141 12)) (if (mI (sI (sI μ 141 10 (mI μ 141 12)) 141 11 (if (mI (sI μ 141 10 (mI μ 141 12)) 141 12) = 0 then ((-1) : Int32) else (mI (sI μ 141 10 (mI μ 141 12)) 141 13))) 141 12) = 0 then some (true, (sI (sI μ 141 10 (mI μ 141 12)) 141 11 (if (mI (sI μ 141 10 (mI μ 141 12)) 141 12) = 0 then ((-1) : Int32) else (mI (sI μ 141 10 (mI μ 141 12)) 141 13)))) else bd (f_X12_no 10 (sI (sI μ 141 10 (mI μ 141 12)) 141 11 (if (mI (sI μ 141 10 (mI μ 141 12)) 141 12) = 0 then ((-1) : Int32) else (mI (sI μ 141 10 (mI μ 141 12)) 141 13)))) fun x3 μ4 => (if x3 = true then some (true, μ4) else some (false, μ4))) := by
    intro w2 ew2
    subst ew2
    refine g_putI fl_X12_32 sh_141 (by decide) rfl dX12_isWell_24 ?_
    refine g_aload_n dX12_isWell_27 0 rfl ?_
    refine g_getI fl_X12_204 sh_141 (by decide) rfl dX12_isWell_28 ?_
    refine g_if_eq (tgt := 43) dX12_isWell_31 (by decide) (fun _ => ?_) (fun _ => ?_)
    · refine g_iconst dX12_isWell_43 (v := 1) (by decide) ?_
      refine g_goto (tgt := 48) dX12_isWell_44 (by decide) ?_
      exact g_ret dX12_isWell_48 rfl rfl
    · refine g_aload_n dX12_isWell_34 0 rfl ?_
      refine g_bipush dX12_isWell_35 (v := 10) (by decide) ?_
      refine g_vZ [.int 10] [] mw_X12_87 (ok_X12_no g 10 (sI (sI μ 141 10 (mI μ 141 12)) 141 11 (if (mI (sI μ 141 10 (mI μ 141 12)) 141 12) = 0 then ((-1) : Int32) else (mI (sI μ 141 10 (mI μ 141 12)) 141 13)))) (by omega) sh_141 (by decide) rfl rfl (Nat.le_of_ble_eq_true rfl) dX12_isWell_37 (fun x3 μ4 _ => ?_)
      refine g_ifeqB (tgt := 47) dX12_isWell_40 (by decide) (fun _ => ?_) (fun _ => ?_)
      · refine g_iconst dX12_isWell_47 (v := 0) (by decide) ?_
        exact g_ret dX12_isWell_48 rfl rfl
      · refine g_iconst dX12_isWell_43 (v := 1) (by decide) ?_
        refine g_goto (tgt := 48) dX12_isWell_44 (by decide) ?_
        exact g_ret dX12_isWell_48 rfl rfl
  refine g_same (g_if_ne (tgt := 20) dX12_isWell_13 (by decide) (fun c1 => ?_) (fun c1 => ?_))
  · refine g_aload_n dX12_isWell_20 0 rfl ?_
    refine g_getI fl_X12_207 sh_141 (by decide) rfl dX12_isWell_21 ?_
    refine g_lv [0] rfl ?_
    exact hJ5 _ (by rw [if_neg c1])
  · refine g_iconst dX12_isWell_16 (v := (-1)) (by decide) ?_
    refine g_goto (tgt := 24) dX12_isWell_17 (by decide) ?_
    refine g_lv [0] rfl ?_
    exact hJ5 _ (by rw [if_pos c1])
set_option maxHeartbeats 4000000 in
set_option maxRecDepth 100000 in
theorem ok_X12_fault (g : GG) (v1 : Int32)  (μ : Mm) : Ct g yX12_fault cX12_fault 2 (some (.int)) 1 cvI [.ref (gb g + 141), .int v1] μ (f_X12_fault v1 μ) := by
  refine ct_I (by decide +kernel) (Nat.le_of_ble_eq_true rfl) (show Go g RX12 cX12_fault 2 .ireturn 1 cvI 0 [(0, .ref (gb g + 141)), (1, .int v1)] [] μ (f_X12_fault v1 μ) from ?_)
  unfold f_X12_fault
  refine g_aload_n dX12_fault_0 0 rfl ?_
  refine g_iconst dX12_fault_1 (v := 0) (by decide) ?_
  refine g_putI fl_X12_72 sh_141 (by decide) rfl dX12_fault_2 ?_
  refine g_iload_n dX12_fault_5 1 rfl ?_
  have hJ4 : ∀ (w3 : Int32), w3 = (if v1 = 0 then (mI (sI μ 141 1 0) 141 10) else (if v1 = 1 then (mI (sI μ 141 1 0) 141 11) else (-1))) → Go g RX12 cX12_fault 2 .ireturn 1 cvI 29 [] [.int w3] (sI μ 141 1 0) (some ((if v1 = 0 then (mI (sI μ 141 1 0) 141 10) else (if v1 = 1 then (mI (sI μ 141 1 0) 141 11) else (-1))), (sI μ 141 1 0))) := by
    intro w3 ew3
    subst ew3
    exact g_ret dX12_fault_29 rfl rfl
  refine g_same (g_if_ne (tgt := 16) dX12_fault_6 (by decide) (fun c1 => ?_) (fun c1 => ?_))
  · refine g_iload_n dX12_fault_16 1 rfl ?_
    refine g_iconst dX12_fault_17 (v := 1) (by decide) ?_
    refine g_same (g_icmp_ne (tgt := 28) dX12_fault_18 (by decide) (fun c2 => ?_) (fun c2 => ?_))
    · refine g_iconst dX12_fault_28 (v := (-1)) (by decide) ?_
      refine g_lv [] rfl ?_
      exact hJ4 _ (by rw [if_neg c1, if_neg c2])
    · refine g_aload_n dX12_fault_21 0 rfl ?_
      refine g_getI fl_X12_32 sh_141 (by decide) rfl dX12_fault_22 ?_
      refine g_goto (tgt := 29) dX12_fault_25 (by decide) ?_
      refine g_lv [] rfl ?_
      exact hJ4 _ (by rw [if_neg c1, if_pos c2])
  · refine g_aload_n dX12_fault_9 0 rfl ?_
    refine g_getI fl_X12_28 sh_141 (by decide) rfl dX12_fault_10 ?_
    refine g_goto (tgt := 29) dX12_fault_13 (by decide) ?_
    refine g_lv [] rfl ?_
    exact hJ4 _ (by rw [if_pos c1])
set_option maxHeartbeats 4000000 in
set_option maxRecDepth 100000 in
theorem okL_X12_empties_8 (g : GG) (F : Nat) (v2 : Int32) (k : Mm → Option (Mm))  (hk : ∀ (μ : Mm), Go g RX12 cX12_empties 4 .return_ 1 cvV 30 [(0, .ref (gb g + 141)), (2, .int v2)] [] μ (k μ)) : ∀ (n : Nat) (v3 : Int32) (μ : Mm), Go g RX12 cX12_empties 4 .return_ 1 cvV 8 [(0, .ref (gb g + 141)), (2, .int v2), (3, .int v3)] [] μ (L_X12_empties_8 F v2 k n v3 μ) := by
  intro n
  induction n with
  | zero =>
    intro v3 μ
    exact g_none
  | succ n ih =>
    intro v3 μ
    rw [L_X12_empties_8_s]
    refine g_iload_n dX12_empties_8 2 rfl ?_
    refine g_sipush dX12_empties_9 (v := 400) (by decide) ?_
    refine g_icmp_ge (tgt := 30) dX12_empties_12 (by decide) (fun _ => ?_) (fun _ => ?_)
    · refine g_lv [0, 1] rfl ?_
      exact hk μ
    · refine g_aload_n dX12_empties_15 0 rfl ?_
      refine g_getR (b := 146) fl_X12_35 sh_141 (by decide) rfl rfl dX12_empties_16 ?_
      refine g_iload_n dX12_empties_19 1 rfl ?_
      refine g_iload_n dX12_empties_20 2 rfl ?_
      refine g_iadd dX12_empties_21 ?_
      refine g_iconst dX12_empties_22 (v := 0) (by decide) ?_
      refine g_iastore sh_146 dX12_empties_23 (fun μ1 => ?_)
      refine g_iinc dX12_empties_24 2 rfl (v := (v3 + 1)) rfl (by decide) (lv' := [(3, .int (v3 + 1)), (0, .ref (gb g + 141)), (2, .int v2)]) rfl ?_
      refine g_goto (tgt := 8) dX12_empties_27 (by decide) ?_
      refine g_lv [1, 2, 0] rfl ?_
      exact ih (v3 + 1) μ1
set_option maxHeartbeats 4000000 in
set_option maxRecDepth 100000 in
theorem ok_X12_empties (g : GG) (F : Nat) (v1 : Int32)  (μ : Mm) : Ct g yX12_empties cX12_empties 4 none 1 cvV [.ref (gb g + 141), .int v1] μ (f_X12_empties F v1 μ) := by
  refine ct_V (by decide +kernel) (Nat.le_of_ble_eq_true rfl) (show Go g RX12 cX12_empties 4 .return_ 1 cvV 0 [(0, .ref (gb g + 141)), (1, .int v1)] [] μ (f_X12_empties F v1 μ) from ?_)
  unfold f_X12_empties
  refine g_sipush dX12_empties_0 (v := 400) (by decide) ?_
  refine g_iload_n dX12_empties_3 1 rfl ?_
  refine g_imul dX12_empties_4 ?_
  refine g_istore_n dX12_empties_5 rfl (by decide) (lv' := [(2, .int ((400 : Int32) * v1)), (0, .ref (gb g + 141)), (1, .int v1)]) rfl ?_
  refine g_iconst dX12_empties_6 (v := 0) (by decide) ?_
  refine g_istore_n dX12_empties_7 rfl (by decide) (lv' := [(3, .int 0), (2, .int ((400 : Int32) * v1)), (0, .ref (gb g + 141)), (1, .int v1)]) rfl ?_
  refine g_lv [2, 1, 0] rfl ?_
  refine okL_X12_empties_8 g F ((400 : Int32) * v1) _ (fun μ2 => ?_) F 0 μ
  refine g_aload_n dX12_empties_30 0 rfl ?_
  refine g_getR (b := 146) fl_X12_35 sh_141 (by decide) rfl rfl dX12_empties_31 ?_
  refine g_iload_n dX12_empties_34 1 rfl ?_
  refine g_iconst dX12_empties_35 (v := 2) (by decide) ?_
  refine g_iadd dX12_empties_36 ?_
  refine g_iconst dX12_empties_37 (v := 3) (by decide) ?_
  refine g_iastore sh_146 dX12_empties_38 (fun μ3 => ?_)
  refine g_aload_n dX12_empties_39 0 rfl ?_
  refine g_getR (b := 146) fl_X12_35 sh_141 (by decide) rfl rfl dX12_empties_40 ?_
  refine g_iload_n dX12_empties_43 1 rfl ?_
  refine g_iconst dX12_empties_44 (v := 3) (by decide) ?_
  refine g_iadd dX12_empties_45 ?_
  refine g_iconst dX12_empties_46 (v := 2) (by decide) ?_
  refine g_iastore sh_146 dX12_empties_47 (fun μ4 => ?_)
  refine g_aload_n dX12_empties_48 0 rfl ?_
  refine g_getR (b := 146) fl_X12_35 sh_141 (by decide) rfl rfl dX12_empties_49 ?_
  refine g_iload_n dX12_empties_52 1 rfl ?_
  refine g_iconst dX12_empties_53 (v := 4) (by decide) ?_
  refine g_iadd dX12_empties_54 ?_
  refine g_iconst dX12_empties_55 (v := 2) (by decide) ?_
  refine g_iastore sh_146 dX12_empties_56 (fun μ5 => ?_)
  exact g_ret dX12_empties_57 rfl rfl
set_option maxHeartbeats 4000000 in
set_option maxRecDepth 100000 in
theorem okL_X12_named_2 (g : GG) (F : Nat) (v1 : Int32) (k : Option (Int32)) (μ : Mm)  (hk : Go g RX12 cX12_named 3 .ireturn 1 (cvIp μ) 42 [] [] μ k) : ∀ (n : Nat) (v2 : Int32), Go g RX12 cX12_named 3 .ireturn 1 (cvIp μ) 2 [(0, .ref (gb g + 141)), (1, .int v1), (2, .int v2)] [] μ (L_X12_named_2 F v1 k μ n v2) := by
  intro n
  induction n with
  | zero =>
    intro v2
    exact g_none
  | succ n ih =>
    intro v2
    rw [L_X12_named_2_s]
    refine g_iload_n dX12_named_2 2 rfl ?_
    refine g_aload_n dX12_named_3 0 rfl ?_
    refine g_getR (b := 146) fl_X12_35 sh_141 (by decide) rfl rfl dX12_named_4 ?_
    refine g_sipush dX12_named_7 (v := 400) (by decide) ?_
    refine g_iload_n dX12_named_10 1 rfl ?_
    refine g_imul dX12_named_11 ?_
    refine g_iaload sh_146 dX12_named_12 (fun x1 => ?_)
    refine g_icmp_ge (tgt := 42) dX12_named_13 (by decide) (fun _ => ?_) (fun _ => ?_)
    · refine g_lv [] rfl ?_
      exact hk 
    · refine g_aload_n dX12_named_16 0 rfl ?_
      refine g_getR (b := 149) fl_X12_44 sh_141 (by decide) rfl rfl dX12_named_17 ?_
      refine g_iconst dX12_named_20 (v := 5) (by decide) ?_
      refine g_iload_n dX12_named_21 1 rfl ?_
      refine g_imul dX12_named_22 ?_
      refine g_iload_n dX12_named_23 2 rfl ?_
      refine g_iadd dX12_named_24 ?_
      refine g_laload sh_149 dX12_named_25 (fun x2 => ?_)
      refine g_aload_n dX12_named_26 0 rfl ?_
      refine g_getJ fl_X12_129 sh_141 (by decide) rfl dX12_named_27 ?_
      refine g_lcmp dX12_named_30 ?_
      refine g_if_ne (tgt := 36) dX12_named_31 (by decide) (fun _ => ?_) (fun _ => ?_)
      · refine g_iinc dX12_named_36 2 rfl (v := (v2 + 1)) rfl (by decide) (lv' := [(2, .int (v2 + 1)), (0, .ref (gb g + 141)), (1, .int v1)]) rfl ?_
        refine g_goto (tgt := 2) dX12_named_39 (by decide) ?_
        refine g_lv [1, 2, 0] rfl ?_
        exact ih (v2 + 1)
      · refine g_iload_n dX12_named_34 2 rfl ?_
        exact g_ret dX12_named_35 rfl rfl
set_option maxHeartbeats 4000000 in
set_option maxRecDepth 100000 in
theorem ok_X12_named (g : GG) (F : Nat) (v1 : Int32)  (μ : Mm) : Ct g yX12_named cX12_named 3 (some (.int)) 1 (cvIp μ) [.ref (gb g + 141), .int v1] μ (f_X12_named F v1 μ) := by
  refine ct_Ip (by decide +kernel) (Nat.le_of_ble_eq_true rfl) (show Go g RX12 cX12_named 3 .ireturn 1 (cvIp μ) 0 [(0, .ref (gb g + 141)), (1, .int v1)] [] μ (f_X12_named F v1 μ) from ?_)
  unfold f_X12_named
  refine g_iconst dX12_named_0 (v := 0) (by decide) ?_
  refine g_istore_n dX12_named_1 rfl (by decide) (lv' := [(2, .int 0), (0, .ref (gb g + 141)), (1, .int v1)]) rfl ?_
  refine g_lv [1, 2, 0] rfl ?_
  refine okL_X12_named_2 g F v1 _ μ ?_ F 0
  refine g_iconst dX12_named_42 (v := (-1)) (by decide) ?_
  exact g_ret dX12_named_43 rfl rfl
set_option maxHeartbeats 4000000 in
set_option maxRecDepth 100000 in
theorem ok_X12_readTold (g : GG) (F : Nat) (v1 : Int32)  (μ : Mm) : Ct g yX12_readTold cX12_readTold 3 (some (.int)) 6 cvI [.ref (gb g + 141), .int v1] μ (f_X12_readTold F v1 μ) := by
  refine ct_I (by decide +kernel) (Nat.le_of_ble_eq_true rfl) (show Go g RX12 cX12_readTold 3 .ireturn 6 cvI 0 [(0, .ref (gb g + 141)), (1, .int v1)] [] μ (f_X12_readTold F v1 μ) from ?_)
  unfold f_X12_readTold
  refine g_aload_n dX12_readTold_0 0 rfl ?_
  refine g_getI fl_X12_204 sh_141 (by decide) rfl dX12_readTold_1 ?_
  refine g_jn (fun (a3 : Mm) oo => Go g RX12 cX12_readTold 3 .ireturn 6 cvI 18 [(0, .ref (gb g + 141)), (1, .int v1)] [] a3 oo) (fun a3 => ?_) (fun K2 hF14 => ?_)
  · refine g_aload_n dX12_readTold_18 0 rfl ?_
    refine g_getI fl_X12_204 sh_141 (by decide) rfl dX12_readTold_19 ?_
    refine g_if_le (tgt := 27) dX12_readTold_22 (by decide) (fun _ => ?_) (fun _ => ?_)
    · refine g_aload_n dX12_readTold_27 0 rfl ?_
      refine g_iload_n dX12_readTold_28 1 rfl ?_
      refine g_vIp [.int v1] [] mw_X12_229 (ok_X12_named g F v1 a3) (by omega) sh_141 (by decide) rfl rfl (Nat.le_of_ble_eq_true rfl) dX12_readTold_29 (fun x4 _ => ?_)
      refine g_istore_n dX12_readTold_32 rfl (by decide) (lv' := [(2, .int x4), (0, .ref (gb g + 141)), (1, .int v1)]) rfl ?_
      refine g_iload_n dX12_readTold_33 0 rfl ?_
      refine g_jn (fun (a7 : Mm) oo => Go g RX12 cX12_readTold 3 .ireturn 6 cvI 46 [(0, .ref (gb g + 141)), (2, .int x4)] [] a7 oo) (fun a7 => ?_) (fun K6 hF11 => ?_)
      · refine g_aload_n dX12_readTold_46 0 rfl ?_
        refine g_iconst dX12_readTold_47 (v := 1) (by decide) ?_
        refine g_vV [.int 1] [] mw_X12_232 (ok_X12_must g F 1 a7) (by omega) sh_141 (by decide) rfl rfl (Nat.le_of_ble_eq_true rfl) dX12_readTold_48 (fun μ9 _ => ?_)
        refine g_iconst dX12_readTold_51 (v := 0) (by decide) ?_
        refine g_iload_n dX12_readTold_52 1 rfl ?_
        refine g_mmax mw_X12_236 (by omega) (Nat.le_of_ble_eq_true rfl) dX12_readTold_53 (fun x10 => ?_)
        exact g_ret dX12_readTold_56 rfl rfl
      · refine g_if_ge (tgt := 46) dX12_readTold_34 (by decide) (fun _ => ?_) (fun _ => ?_)
        · refine g_lv [1, 0] rfl ?_
          exact hF11 a3
        · refine g_aload_n dX12_readTold_37 1 rfl ?_
          refine g_iconst dX12_readTold_38 (v := 3) (by decide) ?_
          refine g_aload_n dX12_readTold_39 1 rfl ?_
          refine g_getI fl_X12_117 sh_141 (by decide) rfl dX12_readTold_40 ?_
          refine g_vV [.int 3, .int (mI a3 141 15)] [] mw_X12_210 (ok_X12_fail g 3 (mI a3 141 15) a3) (by omega) sh_141 (by decide) rfl rfl (Nat.le_of_ble_eq_true rfl) dX12_readTold_43 (fun μ13 _ => ?_)
          refine g_lv [1, 0] rfl ?_
          exact hF11 μ13
    · refine g_iconst dX12_readTold_25 (v := 0) (by decide) ?_
      exact g_ret dX12_readTold_26 rfl rfl
  · refine g_if_ne (tgt := 18) dX12_readTold_4 (by decide) (fun _ => ?_) (fun _ => ?_)
    · refine g_lv [0, 1] rfl ?_
      exact hF14 μ
    · refine g_aload_n dX12_readTold_7 0 rfl ?_
      refine g_vZp [] [] mw_X12_226 (ok_X12_isName g μ) (by omega) sh_141 (by decide) rfl rfl (Nat.le_of_ble_eq_true rfl) dX12_readTold_8 (fun x15 _ => ?_)
      refine g_ifneB (tgt := 18) dX12_readTold_11 (by decide) (fun _ => ?_) (fun _ => ?_)
      · refine g_lv [0, 1] rfl ?_
        exact hF14 μ
      · refine g_aload_n dX12_readTold_14 0 rfl ?_
        refine g_vV [] [] mw_X12_217 (ok_X12_amiss g μ) (by omega) sh_141 (by decide) rfl rfl (Nat.le_of_ble_eq_true rfl) dX12_readTold_15 (fun μ17 _ => ?_)
        refine g_lv [0, 1] rfl ?_
        exact hF14 μ17
set_option maxHeartbeats 4000000 in
set_option maxRecDepth 100000 in
theorem ok_X12_readOnce (g : GG) (F : Nat) (v1 : Int32) (v2 : Int32) (v3 : Int32)  (μ : Mm) : Ct g yX12_readOnce cX12_readOnce 4 none 4 cvV [.ref (gb g + 141), .int v1, .int v2, .int v3] μ (f_X12_readOnce F v1 v2 v3 μ) := by
  refine ct_V (by decide +kernel) (Nat.le_of_ble_eq_true rfl) (show Go g RX12 cX12_readOnce 4 .return_ 4 cvV 0 [(0, .ref (gb g + 141)), (1, .int v1), (2, .int v2), (3, .int v3)] [] μ (f_X12_readOnce F v1 v2 v3 μ) from ?_)
  unfold f_X12_readOnce
  refine g_aload_n dX12_readOnce_0 0 rfl ?_
  refine g_getI fl_X12_239 sh_141 (by decide) rfl dX12_readOnce_1 ?_
  refine g_iload_n dX12_readOnce_4 1 rfl ?_
  refine g_sZp [.int (mI μ 141 25), .int v1] [] mw_X12_242 (ok_X12_has g (mI μ 141 25) v1 μ) (by omega) rfl rfl (Nat.le_of_ble_eq_true rfl) dX12_readOnce_5 (fun x1 _ => ?_)
  refine g_jn (fun (a4 : Mm) oo => Go g RX12 cX12_readOnce 4 .return_ 4 cvV 36 [(0, .ref (gb g + 141)), (1, .int v1), (2, .int v2), (3, .int v3)] [] a4 oo) (fun a4 => ?_) (fun K3 hF10 => ?_)
  · refine g_aload_n dX12_readOnce_36 0 rfl ?_
    refine g_getI fl_X12_204 sh_141 (by decide) rfl dX12_readOnce_37 ?_
    refine g_if_le (tgt := 44) dX12_readOnce_40 (by decide) (fun _ => ?_) (fun _ => ?_)
    · refine g_aload_n dX12_readOnce_44 0 rfl ?_
      refine g_dup dX12_readOnce_45 rfl ?_
      refine g_getI fl_X12_239 sh_141 (by decide) rfl dX12_readOnce_46 ?_
      refine g_iconst dX12_readOnce_49 (v := 1) (by decide) ?_
      refine g_iload_n dX12_readOnce_50 1 rfl ?_
      refine g_ishl dX12_readOnce_51 ?_
      refine g_ior dX12_readOnce_52 ?_
      refine g_putI fl_X12_239 sh_141 (by decide) rfl dX12_readOnce_53 ?_
      refine g_aload_n dX12_readOnce_56 0 rfl ?_
      refine g_vV [] [] mw_X12_214 (ok_X12_advance g F (sI a4 141 25 ((mI a4 141 25) ||| ((1 : Int32) <<< (v1 &&& 31))))) (by omega) sh_141 (by decide) rfl rfl (Nat.le_of_ble_eq_true rfl) dX12_readOnce_57 (fun μ6 _ => ?_)
      refine g_aload_n dX12_readOnce_60 0 rfl ?_
      refine g_getR (b := 146) fl_X12_35 sh_141 (by decide) rfl rfl dX12_readOnce_61 ?_
      refine g_sipush dX12_readOnce_64 (v := 1600) (by decide) ?_
      refine g_iload_n dX12_readOnce_67 1 rfl ?_
      refine g_iadd dX12_readOnce_68 ?_
      refine g_aload_n dX12_readOnce_69 0 rfl ?_
      refine g_iload_n dX12_readOnce_70 2 rfl ?_
      refine g_iload_n dX12_readOnce_71 3 rfl ?_
      refine g_vI [.int v2, .int v3] [.int ((1600 : Int32) + v1), .ref (gb g + 146)] mw_X12_246 (ok_X12_count g F v2 v3 μ6) (by omega) sh_141 (by decide) rfl rfl (Nat.le_of_ble_eq_true rfl) dX12_readOnce_72 (fun x7 μ8 _ => ?_)
      refine g_iastore sh_146 dX12_readOnce_75 (fun μ9 => ?_)
      exact g_ret dX12_readOnce_76 rfl rfl
    · exact g_ret dX12_readOnce_43 rfl rfl
  · refine g_ifneB (tgt := 27) dX12_readOnce_8 (by decide) (fun _ => ?_) (fun _ => ?_)
    · refine g_aload_n dX12_readOnce_27 0 rfl ?_
      refine g_iconst dX12_readOnce_28 (v := 5) (by decide) ?_
      refine g_aload_n dX12_readOnce_29 0 rfl ?_
      refine g_getI fl_X12_117 sh_141 (by decide) rfl dX12_readOnce_30 ?_
      refine g_vV [.int 5, .int (mI μ 141 15)] [] mw_X12_210 (ok_X12_fail g 5 (mI μ 141 15) μ) (by omega) sh_141 (by decide) rfl rfl (Nat.le_of_ble_eq_true rfl) dX12_readOnce_33 (fun μ12 _ => ?_)
      refine g_lv [0, 1, 2, 3] rfl ?_
      exact hF10 μ12
    · refine g_iload_n dX12_readOnce_11 1 rfl ?_
      refine g_iconst dX12_readOnce_12 (v := 2) (by decide) ?_
      refine g_icmp_ne (tgt := 36) dX12_readOnce_13 (by decide) (fun _ => ?_) (fun _ => ?_)
      · refine g_lv [0, 1, 2, 3] rfl ?_
        exact hF10 μ
      · refine g_aload_n dX12_readOnce_16 0 rfl ?_
        refine g_getR (b := 146) fl_X12_35 sh_141 (by decide) rfl rfl dX12_readOnce_17 ?_
        refine g_sipush dX12_readOnce_20 (v := 1600) (by decide) ?_
        refine g_iaload sh_146 dX12_readOnce_23 (fun x13 => ?_)
        refine g_if_le (tgt := 36) dX12_readOnce_24 (by decide) (fun _ => ?_) (fun _ => ?_)
        · refine g_lv [0, 1, 2, 3] rfl ?_
          exact hF10 μ
        · refine g_aload_n dX12_readOnce_27 0 rfl ?_
          refine g_iconst dX12_readOnce_28 (v := 5) (by decide) ?_
          refine g_aload_n dX12_readOnce_29 0 rfl ?_
          refine g_getI fl_X12_117 sh_141 (by decide) rfl dX12_readOnce_30 ?_
          refine g_vV [.int 5, .int (mI μ 141 15)] [] mw_X12_210 (ok_X12_fail g 5 (mI μ 141 15) μ) (by omega) sh_141 (by decide) rfl rfl (Nat.le_of_ble_eq_true rfl) dX12_readOnce_33 (fun μ15 _ => ?_)
          refine g_lv [0, 1, 2, 3] rfl ?_
          exact hF10 μ15
set_option maxHeartbeats 4000000 in
set_option maxRecDepth 100000 in
theorem okL_X12_readAccount_126 (g : GG) (F : Nat) (v1 : Int32) (v2 : Int32) (v3 : Int32) (k : Mm → Option (Mm))  (hk : ∀ (μ : Mm), Go g RX12 cX12_readAccount 5 .return_ 6 cvV 225 [(0, .ref (gb g + 141)), (1, .int v1), (2, .int v2)] [] μ (k μ)) : ∀ (n : Nat) (v4 : Int32) (μ : Mm), Go g RX12 cX12_readAccount 5 .return_ 6 cvV 126 [(0, .ref (gb g + 141)), (1, .int v1), (2, .int v2), (3, .int v3), (4, .int v4)] [] μ (L_X12_readAccount_126 F v1 v2 v3 k n v4 μ) := by
  intro n
  induction n with
  | zero =>
    intro v4 μ
    exact g_none
  | succ n ih =>
    intro v4 μ
    rw [L_X12_readAccount_126_s]
    refine g_aload_n dX12_readAccount_126 0 rfl ?_
    refine g_getI fl_X12_204 sh_141 (by decide) rfl dX12_readAccount_127 ?_
    refine g_if_ne (tgt := 225) dX12_readAccount_130 (by decide) (fun _ => ?_) (fun _ => ?_)
    · refine g_lv [0, 1, 2] rfl ?_
      exact hk μ
    · refine g_aload_n dX12_readAccount_133 0 rfl ?_
      refine g_getI fl_X12_123 sh_141 (by decide) rfl dX12_readAccount_134 ?_
      refine g_iconst dX12_readAccount_137 (v := 2) (by decide) ?_
      refine g_icmp_ne (tgt := 225) dX12_readAccount_138 (by decide) (fun _ => ?_) (fun _ => ?_)
      · refine g_lv [0, 1, 2] rfl ?_
        exact hk μ
      · refine g_aload_n dX12_readAccount_141 0 rfl ?_
        refine g_getI fl_X12_142 sh_141 (by decide) rfl dX12_readAccount_142 ?_
        refine g_i2l dX12_readAccount_145 ?_
        refine g_lconst dX12_readAccount_146 (v := 0) (by decide) ?_
        refine g_ldc2 kl_X12_249 dX12_readAccount_147 ?_
        refine g_sZp [.long ((mI μ 141 17).toInt64), .long 0, .long 9] [] mw_X12_107 (ok_X12_isIn g ((mI μ 141 17).toInt64) 0 9 μ) (by omega) rfl rfl (Nat.le_of_ble_eq_true rfl) dX12_readAccount_150 (fun x23 _ => ?_)
        refine g_jn (fun (a26 : Mm) oo => Go g RX12 cX12_readAccount 5 .return_ 6 cvV 165 [(0, .ref (gb g + 141)), (1, .int v1), (2, .int v2), (3, .int v3), (4, .int v4)] [] a26 oo) (fun a26 => ?_) (fun K25 hF37 => ?_)
        · refine g_aload_n dX12_readAccount_165 0 rfl ?_
          refine g_getI fl_X12_204 sh_141 (by decide) rfl dX12_readAccount_166 ?_
          refine g_jn (fun (a30 : Mm) oo => Go g RX12 cX12_readAccount 5 .return_ 6 cvV 188 [(0, .ref (gb g + 141)), (1, .int v1), (2, .int v2), (3, .int v3), (4, .int v4)] [] a30 oo) (fun a30 => ?_) (fun K29 hF34 => ?_)
          · refine g_aload_n dX12_readAccount_188 0 rfl ?_
            refine g_getI fl_X12_204 sh_141 (by decide) rfl dX12_readAccount_189 ?_
            refine g_if_le (tgt := 196) dX12_readAccount_192 (by decide) (fun _ => ?_) (fun _ => ?_)
            · refine g_aload_n dX12_readAccount_196 0 rfl ?_
              refine g_getR (b := 146) fl_X12_35 sh_141 (by decide) rfl rfl dX12_readAccount_197 ?_
              refine g_sipush dX12_readAccount_200 (v := 1613) (by decide) ?_
              refine g_iload_n dX12_readAccount_203 3 rfl ?_
              refine g_iload_n dX12_readAccount_204 1 rfl ?_
              refine g_imul dX12_readAccount_205 ?_
              refine g_iadd dX12_readAccount_206 ?_
              refine g_iload dX12_readAccount_207 4 rfl ?_
              refine g_iadd dX12_readAccount_209 ?_
              refine g_aload_n dX12_readAccount_210 0 rfl ?_
              refine g_getI fl_X12_142 sh_141 (by decide) rfl dX12_readAccount_211 ?_
              refine g_iastore sh_146 dX12_readAccount_214 (fun μ31 => ?_)
              refine g_aload_n dX12_readAccount_215 0 rfl ?_
              refine g_vV [] [] mw_X12_214 (ok_X12_advance g F μ31) (by omega) sh_141 (by decide) rfl rfl (Nat.le_of_ble_eq_true rfl) dX12_readAccount_216 (fun μ33 _ => ?_)
              refine g_iinc dX12_readAccount_219 4 rfl (v := (v4 + 1)) rfl (by decide) (lv' := [(4, .int (v4 + 1)), (0, .ref (gb g + 141)), (1, .int v1), (2, .int v2), (3, .int v3)]) rfl ?_
              refine g_goto (tgt := 126) dX12_readAccount_222 (by decide) ?_
              refine g_lv [1, 2, 3, 4, 0] rfl ?_
              exact ih (v4 + 1) μ33
            · exact g_ret dX12_readAccount_195 rfl rfl
          · refine g_if_ne (tgt := 188) dX12_readAccount_169 (by decide) (fun _ => ?_) (fun _ => ?_)
            · refine g_lv [0, 1, 2, 3, 4] rfl ?_
              exact hF34 a26
            · refine g_iload dX12_readAccount_172 4 rfl ?_
              refine g_iload_n dX12_readAccount_174 3 rfl ?_
              refine g_icmp_ne (tgt := 188) dX12_readAccount_175 (by decide) (fun _ => ?_) (fun _ => ?_)
              · refine g_lv [0, 1, 2, 3, 4] rfl ?_
                exact hF34 a26
              · refine g_aload_n dX12_readAccount_178 0 rfl ?_
                refine g_bipush dX12_readAccount_179 (v := 6) (by decide) ?_
                refine g_aload_n dX12_readAccount_181 0 rfl ?_
                refine g_getI fl_X12_117 sh_141 (by decide) rfl dX12_readAccount_182 ?_
                refine g_vV [.int 6, .int (mI a26 141 15)] [] mw_X12_210 (ok_X12_fail g 6 (mI a26 141 15) a26) (by omega) sh_141 (by decide) rfl rfl (Nat.le_of_ble_eq_true rfl) dX12_readAccount_185 (fun μ36 _ => ?_)
                refine g_lv [0, 1, 2, 3, 4] rfl ?_
                exact hF34 μ36
        · refine g_ifneB (tgt := 165) dX12_readAccount_153 (by decide) (fun _ => ?_) (fun _ => ?_)
          · refine g_lv [0, 1, 2, 3, 4] rfl ?_
            exact hF37 μ
          · refine g_aload_n dX12_readAccount_156 0 rfl ?_
            refine g_iconst dX12_readAccount_157 (v := 4) (by decide) ?_
            refine g_aload_n dX12_readAccount_158 0 rfl ?_
            refine g_getI fl_X12_117 sh_141 (by decide) rfl dX12_readAccount_159 ?_
            refine g_vV [.int 4, .int (mI μ 141 15)] [] mw_X12_210 (ok_X12_fail g 4 (mI μ 141 15) μ) (by omega) sh_141 (by decide) rfl rfl (Nat.le_of_ble_eq_true rfl) dX12_readAccount_162 (fun μ39 _ => ?_)
            refine g_lv [0, 1, 2, 3, 4] rfl ?_
            exact hF37 μ39
set_option maxHeartbeats 4000000 in
set_option maxRecDepth 100000 in
theorem ok_X12_readAccount (g : GG) (F : Nat)   (μ : Mm) : Ct g yX12_readAccount cX12_readAccount 5 none 6 cvV [.ref (gb g + 141)] μ (f_X12_readAccount F μ) := by
  refine ct_V (by decide +kernel) (Nat.le_of_ble_eq_true rfl) (show Go g RX12 cX12_readAccount 5 .return_ 6 cvV 0 [(0, .ref (gb g + 141))] [] μ (f_X12_readAccount F μ) from ?_)
  unfold f_X12_readAccount
  refine g_aload_n dX12_readAccount_0 0 rfl ?_
  refine g_getR (b := 146) fl_X12_35 sh_141 (by decide) rfl rfl dX12_readAccount_1 ?_
  refine g_sipush dX12_readAccount_4 (v := 1600) (by decide) ?_
  refine g_iaload sh_146 dX12_readAccount_7 (fun x1 => ?_)
  refine g_istore_n dX12_readAccount_8 rfl (by decide) (lv' := [(1, .int x1), (0, .ref (gb g + 141))]) rfl ?_
  refine g_iload_n dX12_readAccount_9 0 rfl ?_
  refine g_iconst dX12_readAccount_10 (v := 5) (by decide) ?_
  refine g_jn (fun (a4 : Mm) oo => Go g RX12 cX12_readAccount 5 .return_ 6 cvV 24 [(0, .ref (gb g + 141)), (1, .int x1)] [] a4 oo) (fun a4 => ?_) (fun K3 hF52 => ?_)
  · refine g_aload_n dX12_readAccount_24 0 rfl ?_
    refine g_getI fl_X12_204 sh_141 (by decide) rfl dX12_readAccount_25 ?_
    refine g_if_le (tgt := 32) dX12_readAccount_28 (by decide) (fun _ => ?_) (fun _ => ?_)
    · refine g_aload_n dX12_readAccount_32 0 rfl ?_
      refine g_vV [] [] mw_X12_214 (ok_X12_advance g F a4) (by omega) sh_141 (by decide) rfl rfl (Nat.le_of_ble_eq_true rfl) dX12_readAccount_33 (fun μ6 _ => ?_)
      refine g_aload_n dX12_readAccount_36 0 rfl ?_
      refine g_vZp [] [] mw_X12_226 (ok_X12_isName g μ6) (by omega) sh_141 (by decide) rfl rfl (Nat.le_of_ble_eq_true rfl) dX12_readAccount_37 (fun x7 _ => ?_)
      refine g_jn (fun (a10 : Mm) oo => Go g RX12 cX12_readAccount 5 .return_ 6 cvV 47 [(0, .ref (gb g + 141)), (1, .int x1)] [] a10 oo) (fun a10 => ?_) (fun K9 hF49 => ?_)
      · refine g_aload_n dX12_readAccount_47 0 rfl ?_
        refine g_getI fl_X12_204 sh_141 (by decide) rfl dX12_readAccount_48 ?_
        refine g_jn (fun (a13 : Mm) oo => Go g RX12 cX12_readAccount 5 .return_ 6 cvV 71 [(0, .ref (gb g + 141)), (1, .int x1)] [] a13 oo) (fun a13 => ?_) (fun K12 hF45 => ?_)
        · refine g_aload_n dX12_readAccount_71 0 rfl ?_
          refine g_getI fl_X12_204 sh_141 (by decide) rfl dX12_readAccount_72 ?_
          refine g_if_le (tgt := 79) dX12_readAccount_75 (by decide) (fun _ => ?_) (fun _ => ?_)
          · refine g_aload_n dX12_readAccount_79 0 rfl ?_
            refine g_getR (b := 149) fl_X12_44 sh_141 (by decide) rfl rfl dX12_readAccount_80 ?_
            refine g_bipush dX12_readAccount_83 (v := 20) (by decide) ?_
            refine g_iload_n dX12_readAccount_85 1 rfl ?_
            refine g_iadd dX12_readAccount_86 ?_
            refine g_aload_n dX12_readAccount_87 0 rfl ?_
            refine g_getJ fl_X12_129 sh_141 (by decide) rfl dX12_readAccount_88 ?_
            refine g_lastore sh_149 dX12_readAccount_91 (fun μ14 => ?_)
            refine g_aload_n dX12_readAccount_92 0 rfl ?_
            refine g_vV [] [] mw_X12_214 (ok_X12_advance g F μ14) (by omega) sh_141 (by decide) rfl rfl (Nat.le_of_ble_eq_true rfl) dX12_readAccount_93 (fun μ16 _ => ?_)
            refine g_aload_n dX12_readAccount_96 0 rfl ?_
            refine g_vIp [] [] mw_X12_186 (ok_X12_kindWord g μ16) (by omega) sh_141 (by decide) rfl rfl (Nat.le_of_ble_eq_true rfl) dX12_readAccount_97 (fun x17 _ => ?_)
            refine g_istore_n dX12_readAccount_100 rfl (by decide) (lv' := [(2, .int x17), (0, .ref (gb g + 141)), (1, .int x1)]) rfl ?_
            refine g_aload_n dX12_readAccount_101 1 rfl ?_
            refine g_iload_n dX12_readAccount_102 0 rfl ?_
            have hJ44 : ∀ (w19 : Int32), w19 = (if x17 < 0 then (0 : Int32) else 1) → Go g RX12 cX12_readAccount 5 .return_ 6 cvV 111 [(0, .ref (gb g + 141)), (1, .int x1), (2, .int x17)] [.int w19, .ref (gb g + 141)] μ16 ((f_X12_must F (if x17 < 0 then (0 : Int32) else 1) μ16).bind fun μ21 => (rdA μ21 146 2000 1602).bind fun x22 => L_X12_readAccount_126 F x1 x17 x22 (fun μ40 => (if (mI μ40 141 12) ≤ 0 then (wrA μ40 146 2000 ((1608 : Int32) + x1) x17).bind fun μ41 => (rdA μ41 146 2000 1600).bind fun x42 => (wrA μ41 146 2000 1600 (x42 + (1 : Int32))).bind fun μ43 => some μ43 else some μ40)) F 0 μ21) := by
              intro w19 ew19
              subst ew19
              refine g_vV [.int (if x17 < 0 then (0 : Int32) else 1)] [] mw_X12_232 (ok_X12_must g F (if x17 < 0 then (0 : Int32) else 1) μ16) (by omega) sh_141 (by decide) rfl rfl (Nat.le_of_ble_eq_true rfl) dX12_readAccount_111 (fun μ21 _ => ?_)
              refine g_aload_n dX12_readAccount_114 0 rfl ?_
              refine g_getR (b := 146) fl_X12_35 sh_141 (by decide) rfl rfl dX12_readAccount_115 ?_
              refine g_sipush dX12_readAccount_118 (v := 1602) (by decide) ?_
              refine g_iaload sh_146 dX12_readAccount_121 (fun x22 => ?_)
              refine g_istore_n dX12_readAccount_122 rfl (by decide) (lv' := [(3, .int x22), (0, .ref (gb g + 141)), (1, .int x1), (2, .int x17)]) rfl ?_
              refine g_iconst dX12_readAccount_123 (v := 0) (by decide) ?_
              refine g_istore dX12_readAccount_124 (by decide) (lv' := [(4, .int 0), (3, .int x22), (0, .ref (gb g + 141)), (1, .int x1), (2, .int x17)]) rfl ?_
              refine g_lv [2, 3, 4, 1, 0] rfl ?_
              refine okL_X12_readAccount_126 g F x1 x17 x22 _ (fun μ40 => ?_) F 0 μ21
              refine g_aload_n dX12_readAccount_225 0 rfl ?_
              refine g_getI fl_X12_204 sh_141 (by decide) rfl dX12_readAccount_226 ?_
              refine g_if_le (tgt := 233) dX12_readAccount_229 (by decide) (fun _ => ?_) (fun _ => ?_)
              · refine g_aload_n dX12_readAccount_233 0 rfl ?_
                refine g_getR (b := 146) fl_X12_35 sh_141 (by decide) rfl rfl dX12_readAccount_234 ?_
                refine g_sipush dX12_readAccount_237 (v := 1608) (by decide) ?_
                refine g_iload_n dX12_readAccount_240 1 rfl ?_
                refine g_iadd dX12_readAccount_241 ?_
                refine g_iload_n dX12_readAccount_242 2 rfl ?_
                refine g_iastore sh_146 dX12_readAccount_243 (fun μ41 => ?_)
                refine g_aload_n dX12_readAccount_244 0 rfl ?_
                refine g_getR (b := 146) fl_X12_35 sh_141 (by decide) rfl rfl dX12_readAccount_245 ?_
                refine g_sipush dX12_readAccount_248 (v := 1600) (by decide) ?_
                refine g_dup2 dX12_readAccount_251 rfl rfl ?_
                refine g_iaload sh_146 dX12_readAccount_252 (fun x42 => ?_)
                refine g_iconst dX12_readAccount_253 (v := 1) (by decide) ?_
                refine g_iadd dX12_readAccount_254 ?_
                refine g_iastore sh_146 dX12_readAccount_255 (fun μ43 => ?_)
                exact g_ret dX12_readAccount_256 rfl rfl
              · exact g_ret dX12_readAccount_232 rfl rfl
            refine g_same (g_if_lt (tgt := 110) dX12_readAccount_103 (by decide) (fun c18 => ?_) (fun c18 => ?_))
            · refine g_iconst dX12_readAccount_110 (v := 0) (by decide) ?_
              refine g_lv [1, 2, 0] rfl ?_
              exact hJ44 _ (by rw [if_pos c18])
            · refine g_iconst dX12_readAccount_106 (v := 1) (by decide) ?_
              refine g_goto (tgt := 111) dX12_readAccount_107 (by decide) ?_
              refine g_lv [1, 2, 0] rfl ?_
              exact hJ44 _ (by rw [if_neg c18])
          · exact g_ret dX12_readAccount_78 rfl rfl
        · refine g_if_ne (tgt := 71) dX12_readAccount_51 (by decide) (fun _ => ?_) (fun _ => ?_)
          · refine g_lv [0, 1] rfl ?_
            exact hF45 a10
          · refine g_aload_n dX12_readAccount_54 0 rfl ?_
            refine g_iconst dX12_readAccount_55 (v := 4) (by decide) ?_
            refine g_vIp [.int 4] [] mw_X12_229 (ok_X12_named g F 4 a10) (by omega) sh_141 (by decide) rfl rfl (Nat.le_of_ble_eq_true rfl) dX12_readAccount_56 (fun x46 _ => ?_)
            refine g_if_lt (tgt := 71) dX12_readAccount_59 (by decide) (fun _ => ?_) (fun _ => ?_)
            · refine g_lv [0, 1] rfl ?_
              exact hF45 a10
            · refine g_aload_n dX12_readAccount_62 0 rfl ?_
              refine g_iconst dX12_readAccount_63 (v := 3) (by decide) ?_
              refine g_aload_n dX12_readAccount_64 0 rfl ?_
              refine g_getI fl_X12_117 sh_141 (by decide) rfl dX12_readAccount_65 ?_
              refine g_vV [.int 3, .int (mI a10 141 15)] [] mw_X12_210 (ok_X12_fail g 3 (mI a10 141 15) a10) (by omega) sh_141 (by decide) rfl rfl (Nat.le_of_ble_eq_true rfl) dX12_readAccount_68 (fun μ48 _ => ?_)
              refine g_lv [0, 1] rfl ?_
              exact hF45 μ48
      · refine g_ifneB (tgt := 47) dX12_readAccount_40 (by decide) (fun _ => ?_) (fun _ => ?_)
        · refine g_lv [0, 1] rfl ?_
          exact hF49 μ6
        · refine g_aload_n dX12_readAccount_43 0 rfl ?_
          refine g_vV [] [] mw_X12_217 (ok_X12_amiss g μ6) (by omega) sh_141 (by decide) rfl rfl (Nat.le_of_ble_eq_true rfl) dX12_readAccount_44 (fun μ51 _ => ?_)
          refine g_lv [0, 1] rfl ?_
          exact hF49 μ51
    · exact g_ret dX12_readAccount_31 rfl rfl
  · refine g_icmp_ne (tgt := 24) dX12_readAccount_11 (by decide) (fun _ => ?_) (fun _ => ?_)
    · refine g_lv [1, 0] rfl ?_
      exact hF52 μ
    · refine g_aload_n dX12_readAccount_14 1 rfl ?_
      refine g_bipush dX12_readAccount_15 (v := 6) (by decide) ?_
      refine g_aload_n dX12_readAccount_17 1 rfl ?_
      refine g_getI fl_X12_117 sh_141 (by decide) rfl dX12_readAccount_18 ?_
      refine g_vV [.int 6, .int (mI μ 141 15)] [] mw_X12_210 (ok_X12_fail g 6 (mI μ 141 15) μ) (by omega) sh_141 (by decide) rfl rfl (Nat.le_of_ble_eq_true rfl) dX12_readAccount_21 (fun μ54 _ => ?_)
      refine g_lv [1, 0] rfl ?_
      exact hF52 μ54
set_option maxHeartbeats 4000000 in
set_option maxRecDepth 100000 in
theorem ok_X12_lays (g : GG) (v1 : Int32) (v2 : Int32) (v3 : Int32) (v4 : Int32) (v5 : Int32) (v6 : Int32)  (μ : Mm) : Ct g yX12_lays cX12_lays 8 none 1 cvV [.ref (gb g + 141), .int v1, .int v2, .int v3, .int v4, .int v5, .int v6] μ (f_X12_lays v1 v2 v3 v4 v5 v6 μ) := by
  refine ct_V (by decide +kernel) (Nat.le_of_ble_eq_true rfl) (show Go g RX12 cX12_lays 8 .return_ 1 cvV 0 [(0, .ref (gb g + 141)), (1, .int v1), (2, .int v2), (3, .int v3), (4, .int v4), (5, .int v5), (6, .int v6)] [] μ (f_X12_lays v1 v2 v3 v4 v5 v6 μ) from ?_)
  unfold f_X12_lays
  refine g_sipush dX12_lays_0 (v := 400) (by decide) ?_
  refine g_iload_n dX12_lays_3 1 rfl ?_
  refine g_imul dX12_lays_4 ?_
  refine g_istore dX12_lays_5 (by decide) (lv' := [(7, .int ((400 : Int32) * v1)), (0, .ref (gb g + 141)), (1, .int v1), (2, .int v2), (3, .int v3), (4, .int v4), (5, .int v5), (6, .int v6)]) rfl ?_
  refine g_aload_n dX12_lays_7 1 rfl ?_
  refine g_getR (b := 146) fl_X12_35 sh_141 (by decide) rfl rfl dX12_lays_8 ?_
  refine g_iload dX12_lays_11 0 rfl ?_
  refine g_bipush dX12_lays_13 (v := 88) (by decide) ?_
  refine g_iadd dX12_lays_15 ?_
  refine g_iload_n dX12_lays_16 3 rfl ?_
  refine g_iadd dX12_lays_17 ?_
  refine g_iload_n dX12_lays_18 4 rfl ?_
  refine g_iastore sh_146 dX12_lays_19 (fun μ1 => ?_)
  refine g_aload_n dX12_lays_20 1 rfl ?_
  refine g_getR (b := 146) fl_X12_35 sh_141 (by decide) rfl rfl dX12_lays_21 ?_
  refine g_iload dX12_lays_24 0 rfl ?_
  refine g_bipush dX12_lays_26 (v := 98) (by decide) ?_
  refine g_iadd dX12_lays_28 ?_
  refine g_iload_n dX12_lays_29 3 rfl ?_
  refine g_iadd dX12_lays_30 ?_
  refine g_iload dX12_lays_31 5 rfl ?_
  refine g_iastore sh_146 dX12_lays_33 (fun μ2 => ?_)
  refine g_aload_n dX12_lays_34 1 rfl ?_
  refine g_getR (b := 146) fl_X12_35 sh_141 (by decide) rfl rfl dX12_lays_35 ?_
  refine g_iload dX12_lays_38 0 rfl ?_
  refine g_bipush dX12_lays_40 (v := 108) (by decide) ?_
  refine g_iadd dX12_lays_42 ?_
  refine g_iload_n dX12_lays_43 3 rfl ?_
  refine g_iadd dX12_lays_44 ?_
  refine g_iload dX12_lays_45 6 rfl ?_
  refine g_iastore sh_146 dX12_lays_47 (fun μ3 => ?_)
  refine g_aload_n dX12_lays_48 1 rfl ?_
  refine g_getR (b := 146) fl_X12_35 sh_141 (by decide) rfl rfl dX12_lays_49 ?_
  refine g_iload dX12_lays_52 0 rfl ?_
  refine g_bipush dX12_lays_54 (v := 118) (by decide) ?_
  refine g_iadd dX12_lays_56 ?_
  refine g_iload_n dX12_lays_57 3 rfl ?_
  refine g_iadd dX12_lays_58 ?_
  refine g_iload dX12_lays_59 7 rfl ?_
  refine g_iastore sh_146 dX12_lays_61 (fun μ4 => ?_)
  refine g_aload_n dX12_lays_62 1 rfl ?_
  refine g_getR (b := 146) fl_X12_35 sh_141 (by decide) rfl rfl dX12_lays_63 ?_
  refine g_iload dX12_lays_66 0 rfl ?_
  refine g_iconst dX12_lays_68 (v := 1) (by decide) ?_
  refine g_iadd dX12_lays_69 ?_
  refine g_iload_n dX12_lays_70 3 rfl ?_
  refine g_iconst dX12_lays_71 (v := 1) (by decide) ?_
  refine g_iadd dX12_lays_72 ?_
  refine g_iastore sh_146 dX12_lays_73 (fun μ5 => ?_)
  exact g_ret dX12_lays_74 rfl rfl
set_option maxHeartbeats 4000000 in
set_option maxRecDepth 100000 in
theorem ok_X12_readLaw (g : GG) (F : Nat)   (μ : Mm) : Ct g yX12_readLaw cX12_readLaw 6 none 4 cvV [.ref (gb g + 141)] μ (f_X12_readLaw F μ) := by
  refine ct_V (by decide +kernel) (Nat.le_of_ble_eq_true rfl) (show Go g RX12 cX12_readLaw 6 .return_ 4 cvV 0 [(0, .ref (gb g + 141))] [] μ (f_X12_readLaw F μ) from ?_)
  unfold f_X12_readLaw
  refine g_aload_n dX12_readLaw_0 0 rfl ?_
  refine g_getR (b := 146) fl_X12_35 sh_141 (by decide) rfl rfl dX12_readLaw_1 ?_
  refine g_sipush dX12_readLaw_4 (v := 1601) (by decide) ?_
  refine g_iaload sh_146 dX12_readLaw_7 (fun x1 => ?_)
  refine g_istore_n dX12_readLaw_8 rfl (by decide) (lv' := [(1, .int x1), (0, .ref (gb g + 141))]) rfl ?_
  refine g_iload_n dX12_readLaw_9 0 rfl ?_
  refine g_bipush dX12_readLaw_10 (v := 10) (by decide) ?_
  refine g_jn (fun (a4 : Mm) oo => Go g RX12 cX12_readLaw 6 .return_ 4 cvV 25 [(0, .ref (gb g + 141)), (1, .int x1)] [] a4 oo) (fun a4 => ?_) (fun K3 hF35 => ?_)
  · refine g_aload_n dX12_readLaw_25 0 rfl ?_
    refine g_getI fl_X12_204 sh_141 (by decide) rfl dX12_readLaw_26 ?_
    refine g_if_le (tgt := 33) dX12_readLaw_29 (by decide) (fun _ => ?_) (fun _ => ?_)
    · refine g_aload_n dX12_readLaw_33 0 rfl ?_
      refine g_vV [] [] mw_X12_214 (ok_X12_advance g F a4) (by omega) sh_141 (by decide) rfl rfl (Nat.le_of_ble_eq_true rfl) dX12_readLaw_34 (fun μ6 _ => ?_)
      refine g_aload_n dX12_readLaw_37 0 rfl ?_
      refine g_iconst dX12_readLaw_38 (v := 0) (by decide) ?_
      refine g_bipush dX12_readLaw_39 (v := 9) (by decide) ?_
      refine g_vI [.int 0, .int 9] [] mw_X12_246 (ok_X12_count g F 0 9 μ6) (by omega) sh_141 (by decide) rfl rfl (Nat.le_of_ble_eq_true rfl) dX12_readLaw_41 (fun x7 μ8 _ => ?_)
      refine g_istore_n dX12_readLaw_44 rfl (by decide) (lv' := [(2, .int x7), (0, .ref (gb g + 141)), (1, .int x1)]) rfl ?_
      refine g_aload_n dX12_readLaw_45 1 rfl ?_
      refine g_aload_n dX12_readLaw_46 1 rfl ?_
      refine g_vZp [] [.ref (gb g + 141)] mw_X12_180 (ok_X12_isBecomes g μ8) (by omega) sh_141 (by decide) rfl rfl (Nat.le_of_ble_eq_true rfl) dX12_readLaw_47 (fun x9 _ => ?_)
      refine g_vV [.int (bI x9)] [] mw_X12_232 (ok_X12_must g F (bI x9) μ8) (by omega) sh_141 (by decide) rfl rfl (Nat.le_of_ble_eq_true rfl) dX12_readLaw_50 (fun μ11 _ => ?_)
      refine g_aload_n dX12_readLaw_53 1 rfl ?_
      refine g_iconst dX12_readLaw_54 (v := 0) (by decide) ?_
      refine g_bipush dX12_readLaw_55 (v := 9) (by decide) ?_
      refine g_vI [.int 0, .int 9] [] mw_X12_246 (ok_X12_count g F 0 9 μ11) (by omega) sh_141 (by decide) rfl rfl (Nat.le_of_ble_eq_true rfl) dX12_readLaw_57 (fun x12 μ13 _ => ?_)
      refine g_istore_n dX12_readLaw_60 rfl (by decide) (lv' := [(3, .int x12), (2, .int x7), (0, .ref (gb g + 141)), (1, .int x1)]) rfl ?_
      refine g_aload_n dX12_readLaw_61 2 rfl ?_
      refine g_getI fl_X12_204 sh_141 (by decide) rfl dX12_readLaw_62 ?_
      refine g_jn (fun (a16 : Int32) oo => Go g RX12 cX12_readLaw 6 .return_ 4 cvV 83 [(0, .ref (gb g + 141)), (1, .int x1), (2, .int x7), (3, .int x12)] [.int a16] μ13 oo) (fun a16 => ?_) (fun K15 hF32 => ?_)
      · refine g_istore dX12_readLaw_83 (by decide) (lv' := [(4, .int a16), (0, .ref (gb g + 141)), (1, .int x1), (2, .int x7), (3, .int x12)]) rfl ?_
        refine g_iload dX12_readLaw_85 0 rfl ?_
        refine g_jn (fun (a19 : Mm) oo => Go g RX12 cX12_readLaw 6 .return_ 4 cvV 94 [(0, .ref (gb g + 141)), (1, .int x1), (2, .int x7), (3, .int x12), (4, .int a16)] [] a19 oo) (fun a19 => ?_) (fun K18 hF29 => ?_)
        · refine g_iload dX12_readLaw_94 4 rfl ?_
          refine g_jn (fun (a22 : Int32 × Mm) oo => Go g RX12 cX12_readLaw 6 .return_ 4 cvV 110 [(0, .ref (gb g + 141)), (1, .int x1), (2, .int x7), (3, .int x12), (4, .int a16)] [.int a22.1] a22.2 oo) (fun a22 => ?_) (fun K21 hF26 => ?_)
          · refine g_istore dX12_readLaw_110 (by decide) (lv' := [(5, .int a22.1), (0, .ref (gb g + 141)), (1, .int x1), (2, .int x7), (3, .int x12), (4, .int a16)]) rfl ?_
            refine g_aload_n dX12_readLaw_112 1 rfl ?_
            refine g_getI fl_X12_204 sh_141 (by decide) rfl dX12_readLaw_113 ?_
            refine g_if_ne (tgt := 131) dX12_readLaw_116 (by decide) (fun _ => ?_) (fun _ => ?_)
            · exact g_ret dX12_readLaw_131 rfl rfl
            · refine g_aload_n dX12_readLaw_119 1 rfl ?_
              refine g_iconst dX12_readLaw_120 (v := 4) (by decide) ?_
              refine g_iload_n dX12_readLaw_121 2 rfl ?_
              refine g_iload_n dX12_readLaw_122 3 rfl ?_
              refine g_iload_n dX12_readLaw_123 4 rfl ?_
              refine g_iload dX12_readLaw_124 5 rfl ?_
              refine g_iload dX12_readLaw_126 0 rfl ?_
              refine g_vV [.int 4, .int x1, .int x7, .int x12, .int a16, .int a22.1] [] mw_X12_251 (ok_X12_lays g 4 x1 x7 x12 a16 a22.1 a22.2) (by omega) sh_141 (by decide) rfl rfl (Nat.le_of_ble_eq_true rfl) dX12_readLaw_128 (fun μ25 _ => ?_)
              exact g_ret dX12_readLaw_131 rfl rfl
          · refine g_if_le (tgt := 109) dX12_readLaw_96 (by decide) (fun _ => ?_) (fun _ => ?_)
            · refine g_iconst dX12_readLaw_109 (v := 0) (by decide) ?_
              refine g_lv [0, 1, 2, 3, 4] rfl ?_
              exact hF26 (0, a19)
            · refine g_aload_n dX12_readLaw_99 0 rfl ?_
              refine g_iconst dX12_readLaw_100 (v := 0) (by decide) ?_
              refine g_bipush dX12_readLaw_101 (v := 9) (by decide) ?_
              refine g_vI [.int 0, .int 9] [] mw_X12_246 (ok_X12_count g F 0 9 a19) (by omega) sh_141 (by decide) rfl rfl (Nat.le_of_ble_eq_true rfl) dX12_readLaw_103 (fun x27 μ28 _ => ?_)
              refine g_goto (tgt := 110) dX12_readLaw_106 (by decide) ?_
              refine g_lv [0, 1, 2, 3, 4] rfl ?_
              exact hF26 (x27, μ28)
        · refine g_if_le (tgt := 94) dX12_readLaw_87 (by decide) (fun _ => ?_) (fun _ => ?_)
          · refine g_lv [1, 2, 3, 4, 0] rfl ?_
            exact hF29 μ13
          · refine g_aload_n dX12_readLaw_90 1 rfl ?_
            refine g_vV [] [] mw_X12_214 (ok_X12_advance g F μ13) (by omega) sh_141 (by decide) rfl rfl (Nat.le_of_ble_eq_true rfl) dX12_readLaw_91 (fun μ31 _ => ?_)
            refine g_lv [1, 2, 3, 4, 0] rfl ?_
            exact hF29 μ31
      · refine g_if_ne (tgt := 82) dX12_readLaw_65 (by decide) (fun _ => ?_) (fun _ => ?_)
        · refine g_iconst dX12_readLaw_82 (v := 0) (by decide) ?_
          refine g_lv [2, 3, 1, 0] rfl ?_
          exact hF32 0
        · refine g_aload_n dX12_readLaw_68 2 rfl ?_
          refine g_vIp [] [] mw_X12_160 (ok_X12_placeWord g μ13) (by omega) sh_141 (by decide) rfl rfl (Nat.le_of_ble_eq_true rfl) dX12_readLaw_69 (fun x33 _ => ?_)
          refine g_if_le (tgt := 82) dX12_readLaw_72 (by decide) (fun _ => ?_) (fun _ => ?_)
          · refine g_iconst dX12_readLaw_82 (v := 0) (by decide) ?_
            refine g_lv [2, 3, 1, 0] rfl ?_
            exact hF32 0
          · refine g_aload_n dX12_readLaw_75 2 rfl ?_
            refine g_vIp [] [] mw_X12_160 (ok_X12_placeWord g μ13) (by omega) sh_141 (by decide) rfl rfl (Nat.le_of_ble_eq_true rfl) dX12_readLaw_76 (fun x34 _ => ?_)
            refine g_goto (tgt := 83) dX12_readLaw_79 (by decide) ?_
            refine g_lv [2, 3, 1, 0] rfl ?_
            exact hF32 x34
    · exact g_ret dX12_readLaw_32 rfl rfl
  · refine g_icmp_ne (tgt := 25) dX12_readLaw_12 (by decide) (fun _ => ?_) (fun _ => ?_)
    · refine g_lv [1, 0] rfl ?_
      exact hF35 μ
    · refine g_aload_n dX12_readLaw_15 1 rfl ?_
      refine g_bipush dX12_readLaw_16 (v := 6) (by decide) ?_
      refine g_aload_n dX12_readLaw_18 1 rfl ?_
      refine g_getI fl_X12_117 sh_141 (by decide) rfl dX12_readLaw_19 ?_
      refine g_vV [.int 6, .int (mI μ 141 15)] [] mw_X12_210 (ok_X12_fail g 6 (mI μ 141 15) μ) (by omega) sh_141 (by decide) rfl rfl (Nat.le_of_ble_eq_true rfl) dX12_readLaw_22 (fun μ37 _ => ?_)
      refine g_lv [1, 0] rfl ?_
      exact hF35 μ37
set_option maxHeartbeats 4000000 in
set_option maxRecDepth 100000 in
theorem ok_X12_readWatch (g : GG) (F : Nat)   (μ : Mm) : Ct g yX12_readWatch cX12_readWatch 3 none 7 cvV [.ref (gb g + 141)] μ (f_X12_readWatch F μ) := by
  refine ct_V (by decide +kernel) (Nat.le_of_ble_eq_true rfl) (show Go g RX12 cX12_readWatch 3 .return_ 7 cvV 0 [(0, .ref (gb g + 141))] [] μ (f_X12_readWatch F μ) from ?_)
  unfold f_X12_readWatch
  refine g_aload_n dX12_readWatch_0 0 rfl ?_
  refine g_getI fl_X12_239 sh_141 (by decide) rfl dX12_readWatch_1 ?_
  refine g_bipush dX12_readWatch_4 (v := 7) (by decide) ?_
  refine g_sZp [.int (mI μ 141 25), .int 7] [] mw_X12_242 (ok_X12_has g (mI μ 141 25) 7 μ) (by omega) rfl rfl (Nat.le_of_ble_eq_true rfl) dX12_readWatch_6 (fun x1 _ => ?_)
  refine g_jn (fun (a4 : Mm) oo => Go g RX12 cX12_readWatch 3 .return_ 7 cvV 21 [(0, .ref (gb g + 141))] [] a4 oo) (fun a4 => ?_) (fun K3 hF15 => ?_)
  · refine g_aload_n dX12_readWatch_21 0 rfl ?_
    refine g_getI fl_X12_204 sh_141 (by decide) rfl dX12_readWatch_22 ?_
    refine g_if_le (tgt := 29) dX12_readWatch_25 (by decide) (fun _ => ?_) (fun _ => ?_)
    · refine g_aload_n dX12_readWatch_29 0 rfl ?_
      refine g_dup dX12_readWatch_30 rfl ?_
      refine g_getI fl_X12_239 sh_141 (by decide) rfl dX12_readWatch_31 ?_
      refine g_sipush dX12_readWatch_34 (v := 128) (by decide) ?_
      refine g_ior dX12_readWatch_37 ?_
      refine g_putI fl_X12_239 sh_141 (by decide) rfl dX12_readWatch_38 ?_
      refine g_aload_n dX12_readWatch_41 0 rfl ?_
      refine g_vV [] [] mw_X12_214 (ok_X12_advance g F (sI a4 141 25 ((mI a4 141 25) ||| (128 : Int32)))) (by omega) sh_141 (by decide) rfl rfl (Nat.le_of_ble_eq_true rfl) dX12_readWatch_42 (fun μ6 _ => ?_)
      refine g_aload_n dX12_readWatch_45 0 rfl ?_
      refine g_iconst dX12_readWatch_46 (v := 4) (by decide) ?_
      refine g_vI [.int 4] [] mw_X12_255 (ok_X12_readTold g F 4 μ6) (by omega) sh_141 (by decide) rfl rfl (Nat.le_of_ble_eq_true rfl) dX12_readWatch_47 (fun x7 μ8 _ => ?_)
      refine g_istore_n dX12_readWatch_50 rfl (by decide) (lv' := [(1, .int x7), (0, .ref (gb g + 141))]) rfl ?_
      refine g_aload_n dX12_readWatch_51 1 rfl ?_
      refine g_iconst dX12_readWatch_52 (v := 0) (by decide) ?_
      refine g_aload_n dX12_readWatch_53 1 rfl ?_
      refine g_getR (b := 146) fl_X12_35 sh_141 (by decide) rfl rfl dX12_readWatch_54 ?_
      refine g_sipush dX12_readWatch_57 (v := 1602) (by decide) ?_
      refine g_iaload sh_146 dX12_readWatch_60 (fun x9 => ?_)
      refine g_iconst dX12_readWatch_61 (v := 1) (by decide) ?_
      refine g_isub dX12_readWatch_62 ?_
      refine g_vI [.int 0, .int (x9 - (1 : Int32))] [] mw_X12_246 (ok_X12_count g F 0 (x9 - (1 : Int32)) μ8) (by omega) sh_141 (by decide) rfl rfl (Nat.le_of_ble_eq_true rfl) dX12_readWatch_63 (fun x10 μ11 _ => ?_)
      refine g_istore_n dX12_readWatch_66 rfl (by decide) (lv' := [(2, .int x10), (1, .int x7), (0, .ref (gb g + 141))]) rfl ?_
      refine g_aload_n dX12_readWatch_67 2 rfl ?_
      refine g_getI fl_X12_204 sh_141 (by decide) rfl dX12_readWatch_68 ?_
      refine g_if_ne (tgt := 94) dX12_readWatch_71 (by decide) (fun _ => ?_) (fun _ => ?_)
      · exact g_ret dX12_readWatch_94 rfl rfl
      · refine g_aload_n dX12_readWatch_74 2 rfl ?_
        refine g_getR (b := 146) fl_X12_35 sh_141 (by decide) rfl rfl dX12_readWatch_75 ?_
        refine g_sipush dX12_readWatch_78 (v := 1607) (by decide) ?_
        refine g_aload_n dX12_readWatch_81 2 rfl ?_
        refine g_getR (b := 146) fl_X12_35 sh_141 (by decide) rfl rfl dX12_readWatch_82 ?_
        refine g_sipush dX12_readWatch_85 (v := 1602) (by decide) ?_
        refine g_iaload sh_146 dX12_readWatch_88 (fun x13 => ?_)
        refine g_iload_n dX12_readWatch_89 1 rfl ?_
        refine g_imul dX12_readWatch_90 ?_
        refine g_iload_n dX12_readWatch_91 0 rfl ?_
        refine g_iadd dX12_readWatch_92 ?_
        refine g_iastore sh_146 dX12_readWatch_93 (fun μ14 => ?_)
        exact g_ret dX12_readWatch_94 rfl rfl
    · exact g_ret dX12_readWatch_28 rfl rfl
  · refine g_ifeqB (tgt := 21) dX12_readWatch_9 (by decide) (fun _ => ?_) (fun _ => ?_)
    · refine g_lv [0] rfl ?_
      exact hF15 μ
    · refine g_aload_n dX12_readWatch_12 0 rfl ?_
      refine g_iconst dX12_readWatch_13 (v := 5) (by decide) ?_
      refine g_aload_n dX12_readWatch_14 0 rfl ?_
      refine g_getI fl_X12_117 sh_141 (by decide) rfl dX12_readWatch_15 ?_
      refine g_vV [.int 5, .int (mI μ 141 15)] [] mw_X12_210 (ok_X12_fail g 5 (mI μ 141 15) μ) (by omega) sh_141 (by decide) rfl rfl (Nat.le_of_ble_eq_true rfl) dX12_readWatch_18 (fun μ17 _ => ?_)
      refine g_lv [0] rfl ?_
      exact hF15 μ17
set_option maxHeartbeats 4000000 in
set_option maxRecDepth 100000 in
theorem ok_X12_readPart (g : GG) (F : Nat)   (μ : Mm) : Ct g yX12_readPart cX12_readPart 1 none 8 cvV [.ref (gb g + 141)] μ (f_X12_readPart F μ) := by
  refine ct_V (by decide +kernel) (Nat.le_of_ble_eq_true rfl) (show Go g RX12 cX12_readPart 1 .return_ 8 cvV 0 [(0, .ref (gb g + 141))] [] μ (f_X12_readPart F μ) from ?_)
  unfold f_X12_readPart
  refine g_aload_n dX12_readPart_0 0 rfl ?_
  refine g_vZp [] [] mw_X12_164 (ok_X12_isWide g μ) (by omega) sh_141 (by decide) rfl rfl (Nat.le_of_ble_eq_true rfl) dX12_readPart_1 (fun x1 _ => ?_)
  refine g_ifeqB (tgt := 17) dX12_readPart_4 (by decide) (fun _ => ?_) (fun _ => ?_)
  · refine g_aload_n dX12_readPart_17 0 rfl ?_
    refine g_vZp [] [] mw_X12_168 (ok_X12_isTap g μ) (by omega) sh_141 (by decide) rfl rfl (Nat.le_of_ble_eq_true rfl) dX12_readPart_18 (fun x3 _ => ?_)
    refine g_ifeqB (tgt := 35) dX12_readPart_21 (by decide) (fun _ => ?_) (fun _ => ?_)
    · refine g_aload_n dX12_readPart_35 0 rfl ?_
      refine g_vZp [] [] mw_X12_171 (ok_X12_isOdds g μ) (by omega) sh_141 (by decide) rfl rfl (Nat.le_of_ble_eq_true rfl) dX12_readPart_36 (fun x5 _ => ?_)
      refine g_ifeqB (tgt := 53) dX12_readPart_39 (by decide) (fun _ => ?_) (fun _ => ?_)
      · refine g_aload_n dX12_readPart_53 0 rfl ?_
        refine g_vZp [] [] mw_X12_174 (ok_X12_isAccount g μ) (by omega) sh_141 (by decide) rfl rfl (Nat.le_of_ble_eq_true rfl) dX12_readPart_54 (fun x7 _ => ?_)
        refine g_ifeqB (tgt := 67) dX12_readPart_57 (by decide) (fun _ => ?_) (fun _ => ?_)
        · refine g_aload_n dX12_readPart_67 0 rfl ?_
          refine g_vZp [] [] mw_X12_177 (ok_X12_isLaw g μ) (by omega) sh_141 (by decide) rfl rfl (Nat.le_of_ble_eq_true rfl) dX12_readPart_68 (fun x9 _ => ?_)
          refine g_ifeqB (tgt := 81) dX12_readPart_71 (by decide) (fun _ => ?_) (fun _ => ?_)
          · refine g_aload_n dX12_readPart_81 0 rfl ?_
            refine g_vZp [] [] mw_X12_183 (ok_X12_isWatch g μ) (by omega) sh_141 (by decide) rfl rfl (Nat.le_of_ble_eq_true rfl) dX12_readPart_82 (fun x11 _ => ?_)
            refine g_ifeqB (tgt := 95) dX12_readPart_85 (by decide) (fun _ => ?_) (fun _ => ?_)
            · refine g_aload_n dX12_readPart_95 0 rfl ?_
              refine g_vV [] [] mw_X12_217 (ok_X12_amiss g μ) (by omega) sh_141 (by decide) rfl rfl (Nat.le_of_ble_eq_true rfl) dX12_readPart_96 (fun μ14 _ => ?_)
              exact g_ret dX12_readPart_99 rfl rfl
            · refine g_aload_n dX12_readPart_88 0 rfl ?_
              refine g_vV [] [] mw_X12_268 (ok_X12_readWatch g F μ) (by omega) sh_141 (by decide) rfl rfl (Nat.le_of_ble_eq_true rfl) dX12_readPart_89 (fun μ16 _ => ?_)
              refine g_goto (tgt := 99) dX12_readPart_92 (by decide) ?_
              exact g_ret dX12_readPart_99 rfl rfl
          · refine g_aload_n dX12_readPart_74 0 rfl ?_
            refine g_vV [] [] mw_X12_265 (ok_X12_readLaw g F μ) (by omega) sh_141 (by decide) rfl rfl (Nat.le_of_ble_eq_true rfl) dX12_readPart_75 (fun μ18 _ => ?_)
            refine g_goto (tgt := 99) dX12_readPart_78 (by decide) ?_
            exact g_ret dX12_readPart_99 rfl rfl
        · refine g_aload_n dX12_readPart_60 0 rfl ?_
          refine g_vV [] [] mw_X12_262 (ok_X12_readAccount g F μ) (by omega) sh_141 (by decide) rfl rfl (Nat.le_of_ble_eq_true rfl) dX12_readPart_61 (fun μ20 _ => ?_)
          refine g_goto (tgt := 99) dX12_readPart_64 (by decide) ?_
          exact g_ret dX12_readPart_99 rfl rfl
      · refine g_aload_n dX12_readPart_42 0 rfl ?_
        refine g_iconst dX12_readPart_43 (v := 4) (by decide) ?_
        refine g_iconst dX12_readPart_44 (v := 0) (by decide) ?_
        refine g_bipush dX12_readPart_45 (v := 16) (by decide) ?_
        refine g_vV [.int 4, .int 0, .int 16] [] mw_X12_258 (ok_X12_readOnce g F 4 0 16 μ) (by omega) sh_141 (by decide) rfl rfl (Nat.le_of_ble_eq_true rfl) dX12_readPart_47 (fun μ22 _ => ?_)
        refine g_goto (tgt := 99) dX12_readPart_50 (by decide) ?_
        exact g_ret dX12_readPart_99 rfl rfl
    · refine g_aload_n dX12_readPart_24 0 rfl ?_
      refine g_iconst dX12_readPart_25 (v := 3) (by decide) ?_
      refine g_iconst dX12_readPart_26 (v := 1) (by decide) ?_
      refine g_bipush dX12_readPart_27 (v := 9) (by decide) ?_
      refine g_vV [.int 3, .int 1, .int 9] [] mw_X12_258 (ok_X12_readOnce g F 3 1 9 μ) (by omega) sh_141 (by decide) rfl rfl (Nat.le_of_ble_eq_true rfl) dX12_readPart_29 (fun μ24 _ => ?_)
      refine g_goto (tgt := 99) dX12_readPart_32 (by decide) ?_
      exact g_ret dX12_readPart_99 rfl rfl
  · refine g_aload_n dX12_readPart_7 0 rfl ?_
    refine g_iconst dX12_readPart_8 (v := 2) (by decide) ?_
    refine g_iconst dX12_readPart_9 (v := 1) (by decide) ?_
    refine g_iconst dX12_readPart_10 (v := 5) (by decide) ?_
    refine g_vV [.int 2, .int 1, .int 5] [] mw_X12_258 (ok_X12_readOnce g F 2 1 5 μ) (by omega) sh_141 (by decide) rfl rfl (Nat.le_of_ble_eq_true rfl) dX12_readPart_11 (fun μ26 _ => ?_)
    refine g_goto (tgt := 99) dX12_readPart_14 (by decide) ?_
    exact g_ret dX12_readPart_99 rfl rfl
set_option maxHeartbeats 4000000 in
set_option maxRecDepth 100000 in
theorem okL_X12_copy_2 (g : GG) (F : Nat) (v1 : Int32) (v2 : Int32) (k : Mm → Option (Mm))  (hk : ∀ (μ : Mm), Go g RX12 cX12_copy 4 .return_ 1 cvV 39 [(0, .ref (gb g + 141)), (1, .int v1), (2, .int v2)] [] μ (k μ)) : ∀ (n : Nat) (v3 : Int32) (μ : Mm), Go g RX12 cX12_copy 4 .return_ 1 cvV 2 [(0, .ref (gb g + 141)), (1, .int v1), (2, .int v2), (3, .int v3)] [] μ (L_X12_copy_2 F v1 v2 k n v3 μ) := by
  intro n
  induction n with
  | zero =>
    intro v3 μ
    exact g_none
  | succ n ih =>
    intro v3 μ
    rw [L_X12_copy_2_s]
    refine g_iload_n dX12_copy_2 3 rfl ?_
    refine g_sipush dX12_copy_3 (v := 400) (by decide) ?_
    refine g_icmp_ge (tgt := 39) dX12_copy_6 (by decide) (fun _ => ?_) (fun _ => ?_)
    · refine g_lv [0, 1, 2] rfl ?_
      exact hk μ
    · refine g_aload_n dX12_copy_9 0 rfl ?_
      refine g_getR (b := 146) fl_X12_35 sh_141 (by decide) rfl rfl dX12_copy_10 ?_
      refine g_sipush dX12_copy_13 (v := 400) (by decide) ?_
      refine g_iload_n dX12_copy_16 2 rfl ?_
      refine g_imul dX12_copy_17 ?_
      refine g_iload_n dX12_copy_18 3 rfl ?_
      refine g_iadd dX12_copy_19 ?_
      refine g_aload_n dX12_copy_20 0 rfl ?_
      refine g_getR (b := 146) fl_X12_35 sh_141 (by decide) rfl rfl dX12_copy_21 ?_
      refine g_sipush dX12_copy_24 (v := 400) (by decide) ?_
      refine g_iload_n dX12_copy_27 1 rfl ?_
      refine g_imul dX12_copy_28 ?_
      refine g_iload_n dX12_copy_29 3 rfl ?_
      refine g_iadd dX12_copy_30 ?_
      refine g_iaload sh_146 dX12_copy_31 (fun x1 => ?_)
      refine g_iastore sh_146 dX12_copy_32 (fun μ2 => ?_)
      refine g_iinc dX12_copy_33 3 rfl (v := (v3 + 1)) rfl (by decide) (lv' := [(3, .int (v3 + 1)), (0, .ref (gb g + 141)), (1, .int v1), (2, .int v2)]) rfl ?_
      refine g_goto (tgt := 2) dX12_copy_36 (by decide) ?_
      refine g_lv [1, 2, 3, 0] rfl ?_
      exact ih (v3 + 1) μ2
set_option maxHeartbeats 4000000 in
set_option maxRecDepth 100000 in
theorem okL_X12_copy_41 (g : GG) (F : Nat) (v1 : Int32) (v2 : Int32) (k : Mm → Option (Mm))  (hk : ∀ (μ : Mm), Go g RX12 cX12_copy 4 .return_ 1 cvV 72 [] [] μ (k μ)) : ∀ (n : Nat) (v3 : Int32) (μ : Mm), Go g RX12 cX12_copy 4 .return_ 1 cvV 41 [(0, .ref (gb g + 141)), (1, .int v1), (2, .int v2), (3, .int v3)] [] μ (L_X12_copy_41 F v1 v2 k n v3 μ) := by
  intro n
  induction n with
  | zero =>
    intro v3 μ
    exact g_none
  | succ n ih =>
    intro v3 μ
    rw [L_X12_copy_41_s]
    refine g_iload_n dX12_copy_41 3 rfl ?_
    refine g_iconst dX12_copy_42 (v := 5) (by decide) ?_
    refine g_icmp_ge (tgt := 72) dX12_copy_43 (by decide) (fun _ => ?_) (fun _ => ?_)
    · refine g_lv [] rfl ?_
      exact hk μ
    · refine g_aload_n dX12_copy_46 0 rfl ?_
      refine g_getR (b := 149) fl_X12_44 sh_141 (by decide) rfl rfl dX12_copy_47 ?_
      refine g_iconst dX12_copy_50 (v := 5) (by decide) ?_
      refine g_iload_n dX12_copy_51 2 rfl ?_
      refine g_imul dX12_copy_52 ?_
      refine g_iload_n dX12_copy_53 3 rfl ?_
      refine g_iadd dX12_copy_54 ?_
      refine g_aload_n dX12_copy_55 0 rfl ?_
      refine g_getR (b := 149) fl_X12_44 sh_141 (by decide) rfl rfl dX12_copy_56 ?_
      refine g_iconst dX12_copy_59 (v := 5) (by decide) ?_
      refine g_iload_n dX12_copy_60 1 rfl ?_
      refine g_imul dX12_copy_61 ?_
      refine g_iload_n dX12_copy_62 3 rfl ?_
      refine g_iadd dX12_copy_63 ?_
      refine g_laload sh_149 dX12_copy_64 (fun x4 => ?_)
      refine g_lastore sh_149 dX12_copy_65 (fun μ5 => ?_)
      refine g_iinc dX12_copy_66 3 rfl (v := (v3 + 1)) rfl (by decide) (lv' := [(3, .int (v3 + 1)), (0, .ref (gb g + 141)), (1, .int v1), (2, .int v2)]) rfl ?_
      refine g_goto (tgt := 41) dX12_copy_69 (by decide) ?_
      refine g_lv [1, 2, 3, 0] rfl ?_
      exact ih (v3 + 1) μ5
set_option maxHeartbeats 4000000 in
set_option maxRecDepth 100000 in
theorem ok_X12_copy (g : GG) (F : Nat) (v1 : Int32) (v2 : Int32)  (μ : Mm) : Ct g yX12_copy cX12_copy 4 none 1 cvV [.ref (gb g + 141), .int v1, .int v2] μ (f_X12_copy F v1 v2 μ) := by
  refine ct_V (by decide +kernel) (Nat.le_of_ble_eq_true rfl) (show Go g RX12 cX12_copy 4 .return_ 1 cvV 0 [(0, .ref (gb g + 141)), (1, .int v1), (2, .int v2)] [] μ (f_X12_copy F v1 v2 μ) from ?_)
  unfold f_X12_copy
  refine g_iconst dX12_copy_0 (v := 0) (by decide) ?_
  refine g_istore_n dX12_copy_1 rfl (by decide) (lv' := [(3, .int 0), (0, .ref (gb g + 141)), (1, .int v1), (2, .int v2)]) rfl ?_
  refine g_lv [1, 2, 3, 0] rfl ?_
  refine okL_X12_copy_2 g F v1 v2 _ (fun μ3 => ?_) F 0 μ
  refine g_iconst dX12_copy_39 (v := 0) (by decide) ?_
  refine g_istore_n dX12_copy_40 rfl (by decide) (lv' := [(3, .int 0), (0, .ref (gb g + 141)), (1, .int v1), (2, .int v2)]) rfl ?_
  refine g_lv [1, 2, 3, 0] rfl ?_
  refine okL_X12_copy_41 g F v1 v2 _ (fun μ6 => ?_) F 0 μ3
  exact g_ret dX12_copy_72 rfl rfl
set_option maxHeartbeats 4000000 in
set_option maxRecDepth 100000 in
theorem okL_X12_book_33 (g : GG) (F : Nat)  (k : Mm → Option (Int32 × Mm))  (hk : ∀ (μ : Mm), Go g RX12 cX12_book 3 .ireturn 9 cvI 64 [(0, .ref (gb g + 141))] [] μ (k μ)) : ∀ (n : Nat) (μ : Mm), Go g RX12 cX12_book 3 .ireturn 9 cvI 33 [(0, .ref (gb g + 141))] [] μ (L_X12_book_33 F k n μ) := by
  intro n
  induction n with
  | zero =>
    intro μ
    exact g_none
  | succ n ih =>
    intro μ
    rw [L_X12_book_33_s]
    refine g_aload_n dX12_book_33 0 rfl ?_
    refine g_getI fl_X12_204 sh_141 (by decide) rfl dX12_book_34 ?_
    refine g_if_ne (tgt := 64) dX12_book_37 (by decide) (fun _ => ?_) (fun _ => ?_)
    · refine g_lv [0] rfl ?_
      exact hk μ
    · refine g_aload_n dX12_book_40 0 rfl ?_
      refine g_getI fl_X12_123 sh_141 (by decide) rfl dX12_book_41 ?_
      refine g_if_eq (tgt := 64) dX12_book_44 (by decide) (fun _ => ?_) (fun _ => ?_)
      · refine g_lv [0] rfl ?_
        exact hk μ
      · refine g_aload_n dX12_book_47 0 rfl ?_
        refine g_vV [] [] mw_X12_274 (ok_X12_readPart g F μ) (by omega) sh_141 (by decide) rfl rfl (Nat.le_of_ble_eq_true rfl) dX12_book_48 (fun μ6 _ => ?_)
        refine g_aload_n dX12_book_51 0 rfl ?_
        refine g_aload_n dX12_book_52 0 rfl ?_
        refine g_bipush dX12_book_53 (v := 59) (by decide) ?_
        refine g_vZp [.int 59] [.ref (gb g + 141)] mw_X12_277 (ok_X12_isSign g 59 μ6) (by omega) sh_141 (by decide) rfl rfl (Nat.le_of_ble_eq_true rfl) dX12_book_55 (fun x7 _ => ?_)
        refine g_vV [.int (bI x7)] [] mw_X12_232 (ok_X12_must g F (bI x7) μ6) (by omega) sh_141 (by decide) rfl rfl (Nat.le_of_ble_eq_true rfl) dX12_book_58 (fun μ9 _ => ?_)
        refine g_goto (tgt := 33) dX12_book_61 (by decide) ?_
        refine g_lv [0] rfl ?_
        exact ih μ9
set_option maxHeartbeats 4000000 in
set_option maxRecDepth 100000 in
theorem okL_X12_book_75 (g : GG) (F : Nat)  (k : Mm → Option (Int32 × Mm))  (hk : ∀ (μ : Mm), Go g RX12 cX12_book 3 .ireturn 9 cvI 107 [(0, .ref (gb g + 141))] [] μ (k μ)) : ∀ (n : Nat) (v2 : Int32) (μ : Mm), Go g RX12 cX12_book 3 .ireturn 9 cvI 75 [(0, .ref (gb g + 141)), (2, .int v2)] [] μ (L_X12_book_75 F k n v2 μ) := by
  intro n
  induction n with
  | zero =>
    intro v2 μ
    exact g_none
  | succ n ih =>
    intro v2 μ
    rw [L_X12_book_75_s]
    refine g_iload_n dX12_book_75 1 rfl ?_
    refine g_bipush dX12_book_76 (v := 25) (by decide) ?_
    refine g_icmp_ge (tgt := 107) dX12_book_78 (by decide) (fun _ => ?_) (fun _ => ?_)
    · refine g_lv [0] rfl ?_
      exact hk μ
    · refine g_aload_n dX12_book_81 0 rfl ?_
      refine g_getR (b := 146) fl_X12_35 sh_141 (by decide) rfl rfl dX12_book_82 ?_
      refine g_sipush dX12_book_85 (v := 1638) (by decide) ?_
      refine g_iload_n dX12_book_88 1 rfl ?_
      refine g_iadd dX12_book_89 ?_
      refine g_aload_n dX12_book_90 0 rfl ?_
      refine g_getR (b := 146) fl_X12_35 sh_141 (by decide) rfl rfl dX12_book_91 ?_
      refine g_sipush dX12_book_94 (v := 1613) (by decide) ?_
      refine g_iload_n dX12_book_97 1 rfl ?_
      refine g_iadd dX12_book_98 ?_
      refine g_iaload sh_146 dX12_book_99 (fun x13 => ?_)
      refine g_iastore sh_146 dX12_book_100 (fun μ14 => ?_)
      refine g_iinc dX12_book_101 1 rfl (v := (v2 + 1)) rfl (by decide) (lv' := [(2, .int (v2 + 1)), (0, .ref (gb g + 141))]) rfl ?_
      refine g_goto (tgt := 75) dX12_book_104 (by decide) ?_
      refine g_lv [1, 0] rfl ?_
      exact ih (v2 + 1) μ14
set_option maxHeartbeats 4000000 in
set_option maxRecDepth 100000 in
theorem ok_X12_book (g : GG) (F : Nat) (v1 : Int32)  (μ : Mm) : Ct g yX12_book cX12_book 3 (some (.int)) 9 cvI [.ref (gb g + 141), .int v1] μ (f_X12_book F v1 μ) := by
  refine ct_I (by decide +kernel) (Nat.le_of_ble_eq_true rfl) (show Go g RX12 cX12_book 3 .ireturn 9 cvI 0 [(0, .ref (gb g + 141)), (1, .int v1)] [] μ (f_X12_book F v1 μ) from ?_)
  unfold f_X12_book
  refine g_aload_n dX12_book_0 0 rfl ?_
  refine g_iconst dX12_book_1 (v := 0) (by decide) ?_
  refine g_putI fl_X12_72 sh_141 (by decide) rfl dX12_book_2 ?_
  refine g_aload_n dX12_book_5 0 rfl ?_
  refine g_iconst dX12_book_6 (v := 0) (by decide) ?_
  refine g_putI fl_X12_75 sh_141 (by decide) rfl dX12_book_7 ?_
  refine g_aload_n dX12_book_10 0 rfl ?_
  refine g_iload_n dX12_book_11 1 rfl ?_
  refine g_sipush dX12_book_12 (v := 900) (by decide) ?_
  refine g_vZ [.int v1, .int 900] [] mw_X12_271 (ok_X12_starts g F v1 900 (sI (sI μ 141 1 0) 141 0 0)) (by omega) sh_141 (by decide) rfl rfl (Nat.le_of_ble_eq_true rfl) dX12_book_15 (fun x1 μ2 _ => ?_)
  refine g_ifneB (tgt := 23) dX12_book_18 (by decide) (fun _ => ?_) (fun _ => ?_)
  · refine g_aload_n dX12_book_23 0 rfl ?_
    refine g_iconst dX12_book_24 (v := 4) (by decide) ?_
    refine g_vV [.int 4] [] mw_X12_68 (ok_X12_empties g F 4 μ2) (by omega) sh_141 (by decide) rfl rfl (Nat.le_of_ble_eq_true rfl) dX12_book_25 (fun μ4 _ => ?_)
    refine g_aload_n dX12_book_28 0 rfl ?_
    refine g_iconst dX12_book_29 (v := 0) (by decide) ?_
    refine g_putI fl_X12_239 sh_141 (by decide) rfl dX12_book_30 ?_
    refine g_lv [0] rfl ?_
    refine okL_X12_book_33 g F _ (fun μ10 => ?_) F (sI μ4 141 25 0)
    refine g_aload_n dX12_book_64 0 rfl ?_
    refine g_vZ [] [] mw_X12_280 (ok_X12_isWell g μ10) (by omega) sh_141 (by decide) rfl rfl (Nat.le_of_ble_eq_true rfl) dX12_book_65 (fun x11 μ12 _ => ?_)
    refine g_ifneB (tgt := 73) dX12_book_68 (by decide) (fun _ => ?_) (fun _ => ?_)
    · refine g_iconst dX12_book_73 (v := 0) (by decide) ?_
      refine g_istore_n dX12_book_74 rfl (by decide) (lv' := [(2, .int 0), (0, .ref (gb g + 141))]) rfl ?_
      refine g_lv [1, 0] rfl ?_
      refine okL_X12_book_75 g F _ (fun μ15 => ?_) F 0 μ12
      refine g_aload_n dX12_book_107 0 rfl ?_
      refine g_iconst dX12_book_108 (v := 4) (by decide) ?_
      refine g_iconst dX12_book_109 (v := 0) (by decide) ?_
      refine g_vV [.int 4, .int 0] [] mw_X12_283 (ok_X12_copy g F 4 0 μ15) (by omega) sh_141 (by decide) rfl rfl (Nat.le_of_ble_eq_true rfl) dX12_book_110 (fun μ17 _ => ?_)
      refine g_aload_n dX12_book_113 0 rfl ?_
      refine g_getR (b := 146) fl_X12_35 sh_141 (by decide) rfl rfl dX12_book_114 ?_
      refine g_iconst dX12_book_117 (v := 0) (by decide) ?_
      refine g_iaload sh_146 dX12_book_118 (fun x18 => ?_)
      exact g_ret dX12_book_119 rfl rfl
    · refine g_iconst dX12_book_71 (v := (-1)) (by decide) ?_
      exact g_ret dX12_book_72 rfl rfl
  · refine g_iconst dX12_book_21 (v := (-1)) (by decide) ?_
    exact g_ret dX12_book_22 rfl rfl
set_option maxHeartbeats 4000000 in
set_option maxRecDepth 100000 in
theorem ok_X12_readCell (g : GG) (F : Nat)   (μ : Mm) : Ct g yX12_readCell cX12_readCell 2 (some (.int)) 7 cvI [.ref (gb g + 141)] μ (f_X12_readCell F μ) := by
  refine ct_I (by decide +kernel) (Nat.le_of_ble_eq_true rfl) (show Go g RX12 cX12_readCell 2 .ireturn 7 cvI 0 [(0, .ref (gb g + 141))] [] μ (f_X12_readCell F μ) from ?_)
  unfold f_X12_readCell
  refine g_aload_n dX12_readCell_0 0 rfl ?_
  refine g_iconst dX12_readCell_1 (v := 0) (by decide) ?_
  refine g_vI [.int 0] [] mw_X12_255 (ok_X12_readTold g F 0 μ) (by omega) sh_141 (by decide) rfl rfl (Nat.le_of_ble_eq_true rfl) dX12_readCell_2 (fun x1 μ2 _ => ?_)
  refine g_istore_n dX12_readCell_5 rfl (by decide) (lv' := [(1, .int x1), (0, .ref (gb g + 141))]) rfl ?_
  refine g_aload_n dX12_readCell_6 1 rfl ?_
  refine g_getR (b := 146) fl_X12_35 sh_141 (by decide) rfl rfl dX12_readCell_7 ?_
  refine g_iconst dX12_readCell_10 (v := 2) (by decide) ?_
  refine g_iaload sh_146 dX12_readCell_11 (fun x3 => ?_)
  refine g_iload_n dX12_readCell_12 0 rfl ?_
  refine g_imul dX12_readCell_13 ?_
  refine g_aload_n dX12_readCell_14 1 rfl ?_
  refine g_iconst dX12_readCell_15 (v := 0) (by decide) ?_
  refine g_aload_n dX12_readCell_16 1 rfl ?_
  refine g_getR (b := 146) fl_X12_35 sh_141 (by decide) rfl rfl dX12_readCell_17 ?_
  refine g_iconst dX12_readCell_20 (v := 2) (by decide) ?_
  refine g_iaload sh_146 dX12_readCell_21 (fun x4 => ?_)
  refine g_iconst dX12_readCell_22 (v := 1) (by decide) ?_
  refine g_isub dX12_readCell_23 ?_
  refine g_vI [.int 0, .int (x4 - (1 : Int32))] [.int (x3 * x1)] mw_X12_246 (ok_X12_count g F 0 (x4 - (1 : Int32)) μ2) (by omega) sh_141 (by decide) rfl rfl (Nat.le_of_ble_eq_true rfl) dX12_readCell_24 (fun x5 μ6 _ => ?_)
  refine g_iadd dX12_readCell_27 ?_
  exact g_ret dX12_readCell_28 rfl rfl
set_option maxHeartbeats 4000000 in
set_option maxRecDepth 100000 in
theorem ok_X12_readTest (g : GG) (F : Nat) (v1 : Int32)  (μ : Mm) : Ct g yX12_readTest cX12_readTest 3 none 8 cvV [.ref (gb g + 141), .int v1] μ (f_X12_readTest F v1 μ) := by
  refine ct_V (by decide +kernel) (Nat.le_of_ble_eq_true rfl) (show Go g RX12 cX12_readTest 3 .return_ 8 cvV 0 [(0, .ref (gb g + 141)), (1, .int v1)] [] μ (f_X12_readTest F v1 μ) from ?_)
  unfold f_X12_readTest
  refine g_aload_n dX12_readTest_0 0 rfl ?_
  refine g_vIp [] [] mw_X12_195 (ok_X12_testWord g μ) (by omega) sh_141 (by decide) rfl rfl (Nat.le_of_ble_eq_true rfl) dX12_readTest_1 (fun x1 _ => ?_)
  refine g_istore_n dX12_readTest_4 rfl (by decide) (lv' := [(2, .int x1), (0, .ref (gb g + 141)), (1, .int v1)]) rfl ?_
  refine g_aload_n dX12_readTest_5 1 rfl ?_
  refine g_iload_n dX12_readTest_6 0 rfl ?_
  have hJ33 : ∀ (w3 : Int32), w3 = (if x1 < 0 then (0 : Int32) else 1) → Go g RX12 cX12_readTest 3 .return_ 8 cvV 15 [(0, .ref (gb g + 141)), (1, .int v1), (2, .int x1)] [.int w3, .ref (gb g + 141)] μ ((f_X12_must F (if x1 < 0 then (0 : Int32) else 1) μ).bind fun μ5 => (wrA μ5 146 2000 (v1 + (5 : Int32)) x1).bind fun μ6 => (if 0 < (mI μ6 141 12) then some μ6 else (if x1 = 2 then some μ6 else jn (fun (a9 : Mm) => (if (mI a9 141 12) ≤ 0 then (wrA a9 146 2000 (v1 + (7 : Int32)) (if (mI a9 141 14) = 3 then (mI a9 141 17) else 0)).bind fun μ12 => (f_X12_isSign 60 μ12).bind fun x13 => jn (fun (a16 : Int32) => (f_X12_must F a16 μ12).bind fun μ18 => bd (f_X12_count F 0 (if x1 = 0 then (99 : Int32) else 9) μ18) fun x21 μ22 => (wrA μ22 146 2000 (v1 + (6 : Int32)) x21).bind fun μ23 => some μ23) fun K15 => (if x13 = true then K15 1 else (f_X12_isSign 62 μ12).bind fun x26 => (if x26 = true then K15 1 else (f_X12_isSign 61 μ12).bind fun x27 => (if x27 = true then K15 1 else K15 0))) else some a9)) fun K8 => (if x1 = 1 then bd (f_X12_readCell F μ6) fun x30 μ31 => (wrA μ31 146 2000 (v1 + (1 : Int32)) x30).bind fun μ32 => K8 μ32 else K8 μ6)))) := by
    intro w3 ew3
    subst ew3
    refine g_vV [.int (if x1 < 0 then (0 : Int32) else 1)] [] mw_X12_232 (ok_X12_must g F (if x1 < 0 then (0 : Int32) else 1) μ) (by omega) sh_141 (by decide) rfl rfl (Nat.le_of_ble_eq_true rfl) dX12_readTest_15 (fun μ5 _ => ?_)
    refine g_aload_n dX12_readTest_18 0 rfl ?_
    refine g_getR (b := 146) fl_X12_35 sh_141 (by decide) rfl rfl dX12_readTest_19 ?_
    refine g_iload_n dX12_readTest_22 1 rfl ?_
    refine g_iconst dX12_readTest_23 (v := 5) (by decide) ?_
    refine g_iadd dX12_readTest_24 ?_
    refine g_iload_n dX12_readTest_25 2 rfl ?_
    refine g_iastore sh_146 dX12_readTest_26 (fun μ6 => ?_)
    refine g_aload_n dX12_readTest_27 0 rfl ?_
    refine g_getI fl_X12_204 sh_141 (by decide) rfl dX12_readTest_28 ?_
    refine g_if_gt (tgt := 39) dX12_readTest_31 (by decide) (fun _ => ?_) (fun _ => ?_)
    · exact g_ret dX12_readTest_39 rfl rfl
    · refine g_iload_n dX12_readTest_34 2 rfl ?_
      refine g_iconst dX12_readTest_35 (v := 2) (by decide) ?_
      refine g_icmp_ne (tgt := 40) dX12_readTest_36 (by decide) (fun _ => ?_) (fun _ => ?_)
      · refine g_iload_n dX12_readTest_40 2 rfl ?_
        refine g_iconst dX12_readTest_41 (v := 1) (by decide) ?_
        refine g_jn (fun (a9 : Mm) oo => Go g RX12 cX12_readTest 3 .return_ 8 cvV 57 [(0, .ref (gb g + 141)), (1, .int v1), (2, .int x1)] [] a9 oo) (fun a9 => ?_) (fun K8 hF29 => ?_)
        · refine g_aload_n dX12_readTest_57 0 rfl ?_
          refine g_getI fl_X12_204 sh_141 (by decide) rfl dX12_readTest_58 ?_
          refine g_if_le (tgt := 65) dX12_readTest_61 (by decide) (fun _ => ?_) (fun _ => ?_)
          · refine g_aload_n dX12_readTest_65 0 rfl ?_
            refine g_getR (b := 146) fl_X12_35 sh_141 (by decide) rfl rfl dX12_readTest_66 ?_
            refine g_iload_n dX12_readTest_69 1 rfl ?_
            refine g_bipush dX12_readTest_70 (v := 7) (by decide) ?_
            refine g_iadd dX12_readTest_72 ?_
            refine g_aload_n dX12_readTest_73 0 rfl ?_
            refine g_getI fl_X12_123 sh_141 (by decide) rfl dX12_readTest_74 ?_
            refine g_iconst dX12_readTest_77 (v := 3) (by decide) ?_
            have hJ28 : ∀ (w11 : Int32), w11 = (if (mI a9 141 14) = 3 then (mI a9 141 17) else 0) → Go g RX12 cX12_readTest 3 .return_ 8 cvV 89 [(0, .ref (gb g + 141)), (1, .int v1), (2, .int x1)] [.int w11, .int (v1 + (7 : Int32)), .ref (gb g + 146)] a9 ((wrA a9 146 2000 (v1 + (7 : Int32)) (if (mI a9 141 14) = 3 then (mI a9 141 17) else 0)).bind fun μ12 => (f_X12_isSign 60 μ12).bind fun x13 => jn (fun (a16 : Int32) => (f_X12_must F a16 μ12).bind fun μ18 => bd (f_X12_count F 0 (if x1 = 0 then (99 : Int32) else 9) μ18) fun x21 μ22 => (wrA μ22 146 2000 (v1 + (6 : Int32)) x21).bind fun μ23 => some μ23) fun K15 => (if x13 = true then K15 1 else (f_X12_isSign 62 μ12).bind fun x26 => (if x26 = true then K15 1 else (f_X12_isSign 61 μ12).bind fun x27 => (if x27 = true then K15 1 else K15 0)))) := by
              intro w11 ew11
              subst ew11
              refine g_iastore sh_146 dX12_readTest_89 (fun μ12 => ?_)
              refine g_aload_n dX12_readTest_90 0 rfl ?_
              refine g_aload_n dX12_readTest_91 0 rfl ?_
              refine g_bipush dX12_readTest_92 (v := 60) (by decide) ?_
              refine g_vZp [.int 60] [.ref (gb g + 141)] mw_X12_277 (ok_X12_isSign g 60 μ12) (by omega) sh_141 (by decide) rfl rfl (Nat.le_of_ble_eq_true rfl) dX12_readTest_94 (fun x13 _ => ?_)
              refine g_jn (fun (a16 : Int32) oo => Go g RX12 cX12_readTest 3 .return_ 8 cvV 123 [(0, .ref (gb g + 141)), (1, .int v1), (2, .int x1)] [.int a16, .ref (gb g + 141)] μ12 oo) (fun a16 => ?_) (fun K15 hF25 => ?_)
              · refine g_vV [.int a16] [] mw_X12_232 (ok_X12_must g F a16 μ12) (by omega) sh_141 (by decide) rfl rfl (Nat.le_of_ble_eq_true rfl) dX12_readTest_123 (fun μ18 _ => ?_)
                refine g_aload_n dX12_readTest_126 0 rfl ?_
                refine g_getR (b := 146) fl_X12_35 sh_141 (by decide) rfl rfl dX12_readTest_127 ?_
                refine g_iload_n dX12_readTest_130 1 rfl ?_
                refine g_bipush dX12_readTest_131 (v := 6) (by decide) ?_
                refine g_iadd dX12_readTest_133 ?_
                refine g_aload_n dX12_readTest_134 0 rfl ?_
                refine g_iconst dX12_readTest_135 (v := 0) (by decide) ?_
                refine g_iload_n dX12_readTest_136 2 rfl ?_
                have hJ24 : ∀ (w20 : Int32), w20 = (if x1 = 0 then (99 : Int32) else 9) → Go g RX12 cX12_readTest 3 .return_ 8 cvV 147 [] [.int w20, .int 0, .ref (gb g + 141), .int (v1 + (6 : Int32)), .ref (gb g + 146)] μ18 (bd (f_X12_count F 0 (if x1 = 0 then (99 : Int32) else 9) μ18) fun x21 μ22 => (wrA μ22 146 2000 (v1 + (6 : Int32)) x21).bind fun μ23 => some μ23) := by
                  intro w20 ew20
                  subst ew20
                  refine g_vI [.int 0, .int (if x1 = 0 then (99 : Int32) else 9)] [.int (v1 + (6 : Int32)), .ref (gb g + 146)] mw_X12_246 (ok_X12_count g F 0 (if x1 = 0 then (99 : Int32) else 9) μ18) (by omega) sh_141 (by decide) rfl rfl (Nat.le_of_ble_eq_true rfl) dX12_readTest_147 (fun x21 μ22 _ => ?_)
                  refine g_iastore sh_146 dX12_readTest_150 (fun μ23 => ?_)
                  exact g_ret dX12_readTest_151 rfl rfl
                refine g_same (g_if_ne (tgt := 145) dX12_readTest_137 (by decide) (fun c19 => ?_) (fun c19 => ?_))
                · refine g_bipush dX12_readTest_145 (v := 9) (by decide) ?_
                  refine g_lv [] rfl ?_
                  exact hJ24 _ (by rw [if_neg c19])
                · refine g_bipush dX12_readTest_140 (v := 99) (by decide) ?_
                  refine g_goto (tgt := 147) dX12_readTest_142 (by decide) ?_
                  refine g_lv [] rfl ?_
                  exact hJ24 _ (by rw [if_pos c19])
              · refine g_ifneB (tgt := 118) dX12_readTest_97 (by decide) (fun _ => ?_) (fun _ => ?_)
                · refine g_iconst dX12_readTest_118 (v := 1) (by decide) ?_
                  refine g_goto (tgt := 123) dX12_readTest_119 (by decide) ?_
                  refine g_lv [0, 1, 2] rfl ?_
                  exact hF25 1
                · refine g_aload_n dX12_readTest_100 0 rfl ?_
                  refine g_bipush dX12_readTest_101 (v := 62) (by decide) ?_
                  refine g_vZp [.int 62] [.ref (gb g + 141)] mw_X12_277 (ok_X12_isSign g 62 μ12) (by omega) sh_141 (by decide) rfl rfl (Nat.le_of_ble_eq_true rfl) dX12_readTest_103 (fun x26 _ => ?_)
                  refine g_ifneB (tgt := 118) dX12_readTest_106 (by decide) (fun _ => ?_) (fun _ => ?_)
                  · refine g_iconst dX12_readTest_118 (v := 1) (by decide) ?_
                    refine g_goto (tgt := 123) dX12_readTest_119 (by decide) ?_
                    refine g_lv [0, 1, 2] rfl ?_
                    exact hF25 1
                  · refine g_aload_n dX12_readTest_109 0 rfl ?_
                    refine g_bipush dX12_readTest_110 (v := 61) (by decide) ?_
                    refine g_vZp [.int 61] [.ref (gb g + 141)] mw_X12_277 (ok_X12_isSign g 61 μ12) (by omega) sh_141 (by decide) rfl rfl (Nat.le_of_ble_eq_true rfl) dX12_readTest_112 (fun x27 _ => ?_)
                    refine g_ifeqB (tgt := 122) dX12_readTest_115 (by decide) (fun _ => ?_) (fun _ => ?_)
                    · refine g_iconst dX12_readTest_122 (v := 0) (by decide) ?_
                      refine g_lv [0, 1, 2] rfl ?_
                      exact hF25 0
                    · refine g_iconst dX12_readTest_118 (v := 1) (by decide) ?_
                      refine g_goto (tgt := 123) dX12_readTest_119 (by decide) ?_
                      refine g_lv [0, 1, 2] rfl ?_
                      exact hF25 1
            refine g_same (g_icmp_ne (tgt := 88) dX12_readTest_78 (by decide) (fun c10 => ?_) (fun c10 => ?_))
            · refine g_iconst dX12_readTest_88 (v := 0) (by decide) ?_
              refine g_lv [0, 1, 2] rfl ?_
              exact hJ28 _ (by rw [if_neg c10])
            · refine g_aload_n dX12_readTest_81 0 rfl ?_
              refine g_getI fl_X12_142 sh_141 (by decide) rfl dX12_readTest_82 ?_
              refine g_goto (tgt := 89) dX12_readTest_85 (by decide) ?_
              refine g_lv [0, 1, 2] rfl ?_
              exact hJ28 _ (by rw [if_pos c10])
          · exact g_ret dX12_readTest_64 rfl rfl
        · refine g_icmp_ne (tgt := 57) dX12_readTest_42 (by decide) (fun _ => ?_) (fun _ => ?_)
          · refine g_lv [0, 1, 2] rfl ?_
            exact hF29 μ6
          · refine g_aload_n dX12_readTest_45 0 rfl ?_
            refine g_getR (b := 146) fl_X12_35 sh_141 (by decide) rfl rfl dX12_readTest_46 ?_
            refine g_iload_n dX12_readTest_49 1 rfl ?_
            refine g_iconst dX12_readTest_50 (v := 1) (by decide) ?_
            refine g_iadd dX12_readTest_51 ?_
            refine g_aload_n dX12_readTest_52 0 rfl ?_
            refine g_vI [] [.int (v1 + (1 : Int32)), .ref (gb g + 146)] mw_X12_286 (ok_X12_readCell g F μ6) (by omega) sh_141 (by decide) rfl rfl (Nat.le_of_ble_eq_true rfl) dX12_readTest_53 (fun x30 μ31 _ => ?_)
            refine g_iastore sh_146 dX12_readTest_56 (fun μ32 => ?_)
            refine g_lv [0, 1, 2] rfl ?_
            exact hF29 μ32
      · exact g_ret dX12_readTest_39 rfl rfl
  refine g_same (g_if_lt (tgt := 14) dX12_readTest_7 (by decide) (fun c2 => ?_) (fun c2 => ?_))
  · refine g_iconst dX12_readTest_14 (v := 0) (by decide) ?_
    refine g_lv [1, 2, 0] rfl ?_
    exact hJ33 _ (by rw [if_pos c2])
  · refine g_iconst dX12_readTest_10 (v := 1) (by decide) ?_
    refine g_goto (tgt := 15) dX12_readTest_11 (by decide) ?_
    refine g_lv [1, 2, 0] rfl ?_
    exact hJ33 _ (by rw [if_neg c2])
set_option maxHeartbeats 4000000 in
set_option maxRecDepth 100000 in
theorem ok_X12_readRest (g : GG) (F : Nat) (v1 : Int32)  (μ : Mm) : Ct g yX12_readRest cX12_readRest 3 none 9 cvV [.ref (gb g + 141), .int v1] μ (f_X12_readRest F v1 μ) := by
  refine ct_V (by decide +kernel) (Nat.le_of_ble_eq_true rfl) (show Go g RX12 cX12_readRest 3 .return_ 9 cvV 0 [(0, .ref (gb g + 141)), (1, .int v1)] [] μ (f_X12_readRest F v1 μ) from ?_)
  unfold f_X12_readRest
  refine g_aload_n dX12_readRest_0 0 rfl ?_
  refine g_getR (b := 146) fl_X12_35 sh_141 (by decide) rfl rfl dX12_readRest_1 ?_
  refine g_iload_n dX12_readRest_4 1 rfl ?_
  refine g_iaload sh_146 dX12_readRest_5 (fun x1 => ?_)
  refine g_istore_n dX12_readRest_6 rfl (by decide) (lv' := [(2, .int x1), (0, .ref (gb g + 141)), (1, .int v1)]) rfl ?_
  refine g_iload_n dX12_readRest_7 0 rfl ?_
  refine g_if_ne (tgt := 42) dX12_readRest_8 (by decide) (fun _ => ?_) (fun _ => ?_)
  · refine g_iload_n dX12_readRest_42 0 rfl ?_
    refine g_iconst dX12_readRest_43 (v := 1) (by decide) ?_
    refine g_icmp_ne (tgt := 65) dX12_readRest_44 (by decide) (fun _ => ?_) (fun _ => ?_)
    · refine g_iload_n dX12_readRest_65 0 rfl ?_
      refine g_bipush dX12_readRest_66 (v := 6) (by decide) ?_
      refine g_icmp_ne (tgt := 89) dX12_readRest_68 (by decide) (fun _ => ?_) (fun _ => ?_)
      · refine g_iload_n dX12_readRest_89 0 rfl ?_
        refine g_iconst dX12_readRest_90 (v := 5) (by decide) ?_
        refine g_icmp_ne (tgt := 102) dX12_readRest_91 (by decide) (fun _ => ?_) (fun _ => ?_)
        · refine g_iload_n dX12_readRest_102 0 rfl ?_
          refine g_iconst dX12_readRest_103 (v := 2) (by decide) ?_
          refine g_icmp_eq (tgt := 112) dX12_readRest_104 (by decide) (fun _ => ?_) (fun _ => ?_)
          · refine g_aload_n dX12_readRest_112 1 rfl ?_
            refine g_getR (b := 146) fl_X12_35 sh_141 (by decide) rfl rfl dX12_readRest_113 ?_
            refine g_iload_n dX12_readRest_116 2 rfl ?_
            refine g_iconst dX12_readRest_117 (v := 1) (by decide) ?_
            refine g_iadd dX12_readRest_118 ?_
            refine g_aload_n dX12_readRest_119 1 rfl ?_
            refine g_vI [] [.int (v1 + (1 : Int32)), .ref (gb g + 146)] mw_X12_286 (ok_X12_readCell g F μ) (by omega) sh_141 (by decide) rfl rfl (Nat.le_of_ble_eq_true rfl) dX12_readRest_120 (fun x21 μ22 _ => ?_)
            refine g_iastore sh_146 dX12_readRest_123 (fun μ23 => ?_)
            exact g_ret dX12_readRest_124 rfl rfl
          · refine g_iload_n dX12_readRest_107 0 rfl ?_
            refine g_iconst dX12_readRest_108 (v := 3) (by decide) ?_
            refine g_icmp_ne (tgt := 124) dX12_readRest_109 (by decide) (fun _ => ?_) (fun _ => ?_)
            · exact g_ret dX12_readRest_124 rfl rfl
            · refine g_aload_n dX12_readRest_112 1 rfl ?_
              refine g_getR (b := 146) fl_X12_35 sh_141 (by decide) rfl rfl dX12_readRest_113 ?_
              refine g_iload_n dX12_readRest_116 2 rfl ?_
              refine g_iconst dX12_readRest_117 (v := 1) (by decide) ?_
              refine g_iadd dX12_readRest_118 ?_
              refine g_aload_n dX12_readRest_119 1 rfl ?_
              refine g_vI [] [.int (v1 + (1 : Int32)), .ref (gb g + 146)] mw_X12_286 (ok_X12_readCell g F μ) (by omega) sh_141 (by decide) rfl rfl (Nat.le_of_ble_eq_true rfl) dX12_readRest_120 (fun x25 μ26 _ => ?_)
              refine g_iastore sh_146 dX12_readRest_123 (fun μ27 => ?_)
              exact g_ret dX12_readRest_124 rfl rfl
        · refine g_aload_n dX12_readRest_94 1 rfl ?_
          refine g_iload_n dX12_readRest_95 2 rfl ?_
          refine g_vV [.int v1] [] mw_X12_289 (ok_X12_readTest g F v1 μ) (by omega) sh_141 (by decide) rfl rfl (Nat.le_of_ble_eq_true rfl) dX12_readRest_96 (fun μ29 _ => ?_)
          refine g_goto (tgt := 124) dX12_readRest_99 (by decide) ?_
          exact g_ret dX12_readRest_124 rfl rfl
      · refine g_aload_n dX12_readRest_71 1 rfl ?_
        refine g_getR (b := 146) fl_X12_35 sh_141 (by decide) rfl rfl dX12_readRest_72 ?_
        refine g_iload_n dX12_readRest_75 2 rfl ?_
        refine g_iconst dX12_readRest_76 (v := 1) (by decide) ?_
        refine g_iadd dX12_readRest_77 ?_
        refine g_aload_n dX12_readRest_78 1 rfl ?_
        refine g_iconst dX12_readRest_79 (v := 1) (by decide) ?_
        refine g_bipush dX12_readRest_80 (v := 99) (by decide) ?_
        refine g_vI [.int 1, .int 99] [.int (v1 + (1 : Int32)), .ref (gb g + 146)] mw_X12_246 (ok_X12_count g F 1 99 μ) (by omega) sh_141 (by decide) rfl rfl (Nat.le_of_ble_eq_true rfl) dX12_readRest_82 (fun x30 μ31 _ => ?_)
        refine g_iastore sh_146 dX12_readRest_85 (fun μ32 => ?_)
        refine g_goto (tgt := 124) dX12_readRest_86 (by decide) ?_
        exact g_ret dX12_readRest_124 rfl rfl
    · refine g_aload_n dX12_readRest_47 1 rfl ?_
      refine g_getR (b := 146) fl_X12_35 sh_141 (by decide) rfl rfl dX12_readRest_48 ?_
      refine g_iload_n dX12_readRest_51 2 rfl ?_
      refine g_iconst dX12_readRest_52 (v := 1) (by decide) ?_
      refine g_iadd dX12_readRest_53 ?_
      refine g_aload_n dX12_readRest_54 1 rfl ?_
      refine g_iconst dX12_readRest_55 (v := 1) (by decide) ?_
      refine g_bipush dX12_readRest_56 (v := 24) (by decide) ?_
      refine g_vI [.int 1, .int 24] [.int (v1 + (1 : Int32)), .ref (gb g + 146)] mw_X12_246 (ok_X12_count g F 1 24 μ) (by omega) sh_141 (by decide) rfl rfl (Nat.le_of_ble_eq_true rfl) dX12_readRest_58 (fun x33 μ34 _ => ?_)
      refine g_iastore sh_146 dX12_readRest_61 (fun μ35 => ?_)
      refine g_goto (tgt := 124) dX12_readRest_62 (by decide) ?_
      exact g_ret dX12_readRest_124 rfl rfl
  · refine g_aload_n dX12_readRest_11 1 rfl ?_
    refine g_getR (b := 146) fl_X12_35 sh_141 (by decide) rfl rfl dX12_readRest_12 ?_
    refine g_iload_n dX12_readRest_15 2 rfl ?_
    refine g_iconst dX12_readRest_16 (v := 1) (by decide) ?_
    refine g_iadd dX12_readRest_17 ?_
    refine g_aload_n dX12_readRest_18 1 rfl ?_
    refine g_vIp [] [.int (v1 + (1 : Int32)), .ref (gb g + 146)] mw_X12_189 (ok_X12_wayWord g μ) (by omega) sh_141 (by decide) rfl rfl (Nat.le_of_ble_eq_true rfl) dX12_readRest_19 (fun x36 _ => ?_)
    refine g_iastore sh_146 dX12_readRest_22 (fun μ37 => ?_)
    refine g_aload_n dX12_readRest_23 1 rfl ?_
    refine g_aload_n dX12_readRest_24 1 rfl ?_
    refine g_vIp [] [.ref (gb g + 141)] mw_X12_189 (ok_X12_wayWord g μ37) (by omega) sh_141 (by decide) rfl rfl (Nat.le_of_ble_eq_true rfl) dX12_readRest_25 (fun x38 _ => ?_)
    have hJ43 : ∀ (w40 : Int32), w40 = (if x38 < 0 then (0 : Int32) else 1) → Go g RX12 cX12_readRest 3 .return_ 9 cvV 36 [] [.int w40, .ref (gb g + 141)] μ37 ((f_X12_must F (if x38 < 0 then (0 : Int32) else 1) μ37).bind fun μ42 => some μ42) := by
      intro w40 ew40
      subst ew40
      refine g_vV [.int (if x38 < 0 then (0 : Int32) else 1)] [] mw_X12_232 (ok_X12_must g F (if x38 < 0 then (0 : Int32) else 1) μ37) (by omega) sh_141 (by decide) rfl rfl (Nat.le_of_ble_eq_true rfl) dX12_readRest_36 (fun μ42 _ => ?_)
      refine g_goto (tgt := 124) dX12_readRest_39 (by decide) ?_
      exact g_ret dX12_readRest_124 rfl rfl
    refine g_same (g_if_lt (tgt := 35) dX12_readRest_28 (by decide) (fun c39 => ?_) (fun c39 => ?_))
    · refine g_iconst dX12_readRest_35 (v := 0) (by decide) ?_
      refine g_lv [] rfl ?_
      exact hJ43 _ (by rw [if_pos c39])
    · refine g_iconst dX12_readRest_31 (v := 1) (by decide) ?_
      refine g_goto (tgt := 36) dX12_readRest_32 (by decide) ?_
      refine g_lv [] rfl ?_
      exact hJ43 _ (by rw [if_neg c39])
set_option maxHeartbeats 4000000 in
set_option maxRecDepth 100000 in
theorem okL_X12_readStep_141 (g : GG) (dr : Nat) (F : Nat) (rc_X12_readStep : Int32 → Mm → Option (Mm)) (v1 : Int32) (v3 : Int32) (v4 : Int32) (k : Mm → Option (Mm))  (hr_X12_readStep : ∀ (v1 : Int32) (μ : Mm), Ct g yX12_readStep cX12_readStep 5 none dr cvV [.ref (gb g + 141), .int v1] μ (rc_X12_readStep v1 μ)) (hk : ∀ (μ : Mm), Go g RX12 cX12_readStep 5 .return_ (dr + 10) cvV 169 [(0, .ref (gb g + 141)), (3, .int v3), (4, .int v4)] [] μ (k μ)) : ∀ (n : Nat) (μ : Mm), Go g RX12 cX12_readStep 5 .return_ (dr + 10) cvV 141 [(0, .ref (gb g + 141)), (1, .int v1), (3, .int v3), (4, .int v4)] [] μ (L_X12_readStep_141 F rc_X12_readStep v1 v3 v4 k n μ) := by
  intro n
  induction n with
  | zero =>
    intro μ
    exact g_none
  | succ n ih =>
    intro μ
    rw [L_X12_readStep_141_s]
    refine g_iload_n dX12_readStep_141 2 rfl ?_
    refine g_if_eq (tgt := 169) dX12_readStep_142 (by decide) (fun _ => ?_) (fun _ => ?_)
    · refine g_lv [0, 2, 3] rfl ?_
      exact hk μ
    · refine g_aload_n dX12_readStep_145 0 rfl ?_
      refine g_getI fl_X12_204 sh_141 (by decide) rfl dX12_readStep_146 ?_
      refine g_if_ne (tgt := 169) dX12_readStep_149 (by decide) (fun _ => ?_) (fun _ => ?_)
      · refine g_lv [0, 2, 3] rfl ?_
        exact hk μ
      · refine g_aload_n dX12_readStep_152 0 rfl ?_
        refine g_vZp [] [] mw_X12_198 (ok_X12_isEnd g μ) (by omega) sh_141 (by decide) rfl rfl (Nat.le_of_ble_eq_true rfl) dX12_readStep_153 (fun x25 _ => ?_)
        refine g_ifneB (tgt := 169) dX12_readStep_156 (by decide) (fun _ => ?_) (fun _ => ?_)
        · refine g_lv [0, 2, 3] rfl ?_
          exact hk μ
        · refine g_aload_n dX12_readStep_159 0 rfl ?_
          refine g_iload_n dX12_readStep_160 1 rfl ?_
          refine g_iconst dX12_readStep_161 (v := 1) (by decide) ?_
          refine g_iadd dX12_readStep_162 ?_
          refine g_vV [.int (v1 + (1 : Int32))] [] mw_X12_298 (hr_X12_readStep (v1 + (1 : Int32)) μ) (by omega) sh_141 (by decide) rfl rfl (Nat.le_of_ble_eq_true rfl) dX12_readStep_163 (fun μ27 _ => ?_)
          refine g_goto (tgt := 141) dX12_readStep_166 (by decide) ?_
          refine g_lv [0, 1, 2, 3] rfl ?_
          exact ih μ27
set_option maxHeartbeats 4000000 in
set_option maxRecDepth 100000 in
theorem ok_X12_readStep (g : GG) (dr : Nat) (F : Nat) (rc_X12_readStep : Int32 → Mm → Option (Mm)) (v1 : Int32)  (hr_X12_readStep : ∀ (v1 : Int32) (μ : Mm), Ct g yX12_readStep cX12_readStep 5 none dr cvV [.ref (gb g + 141), .int v1] μ (rc_X12_readStep v1 μ)) (μ : Mm) : Ct g yX12_readStep cX12_readStep 5 none (dr + 10) cvV [.ref (gb g + 141), .int v1] μ (f_X12_readStep F rc_X12_readStep v1 μ) := by
  refine ct_V (by decide +kernel) (Nat.le_of_ble_eq_true rfl) (show Go g RX12 cX12_readStep 5 .return_ (dr + 10) cvV 0 [(0, .ref (gb g + 141)), (1, .int v1)] [] μ (f_X12_readStep F rc_X12_readStep v1 μ) from ?_)
  unfold f_X12_readStep
  refine g_aload_n dX12_readStep_0 0 rfl ?_
  refine g_vIp [] [] mw_X12_192 (ok_X12_orderWord g μ) (by omega) sh_141 (by decide) rfl rfl (Nat.le_of_ble_eq_true rfl) dX12_readStep_1 (fun x1 _ => ?_)
  refine g_istore_n dX12_readStep_4 rfl (by decide) (lv' := [(2, .int x1), (0, .ref (gb g + 141)), (1, .int v1)]) rfl ?_
  refine g_iload_n dX12_readStep_5 0 rfl ?_
  refine g_iconst dX12_readStep_6 (v := 5) (by decide) ?_
  have hJ49 : ∀ (w4 : Int32), w4 = (if x1 = 5 then (1 : Int32) else (if x1 = 6 then (1 : Int32) else 0)) → Go g RX12 cX12_readStep 5 .return_ (dr + 10) cvV 21 [(0, .ref (gb g + 141)), (1, .int v1), (2, .int x1)] [.int w4] μ (jn (fun (a7 : Mm) => jn (fun (a11 : Mm) => jn (fun (a16 : Mm) => (if (mI a16 141 12) ≤ 0 then (f_X12_advance F (sI a16 141 26 ((mI a16 141 26) + (1 : Int32)))).bind fun μ18 => (wrA μ18 146 2000 ((1730 : Int32) + ((9 : Int32) * (mI a16 141 26))) x1).bind fun μ19 => (f_X12_readRest F ((1730 : Int32) + ((9 : Int32) * (mI a16 141 26))) μ19).bind fun μ21 => (f_X12_isSign 59 μ21).bind fun x22 => (f_X12_must F (bI x22) μ21).bind fun μ24 => L_X12_readStep_141 F rc_X12_readStep v1 (if x1 = 5 then (1 : Int32) else (if x1 = 6 then (1 : Int32) else 0)) ((1730 : Int32) + ((9 : Int32) * (mI a16 141 26))) (fun μ28 => jn (fun (a31 : Mm) => (wrA a31 146 2000 (((1730 : Int32) + ((9 : Int32) * (mI a16 141 26))) + (8 : Int32)) (mI a31 141 26)).bind fun μ32 => some μ32) fun K30 => (if (if x1 = 5 then (1 : Int32) else (if x1 = 6 then (1 : Int32) else 0)) = 0 then K30 μ28 else (f_X12_isEnd μ28).bind fun x34 => (f_X12_must F (bI x34) μ28).bind fun μ36 => (f_X12_isSign 59 μ36).bind fun x37 => (f_X12_must F (bI x37) μ36).bind fun μ39 => K30 μ39)) F μ24 else some a16)) fun K15 => (if (mI a11 141 12) = 0 then (if (if x1 = 5 then (1 : Int32) else (if x1 = 6 then (1 : Int32) else 0)) = 0 then K15 a11 else (if v1 = 3 then (f_X12_fail 7 (mI a11 141 15) a11).bind fun μ42 => K15 μ42 else K15 a11)) else K15 a11)) fun K10 => (if (mI a7 141 12) = 0 then (if (mI a7 141 26) = 30 then (f_X12_fail 6 (mI a7 141 15) a7).bind fun μ45 => K10 μ45 else K10 a7) else K10 a7)) fun K6 => (if 0 ≤ x1 then K6 μ else (f_X12_amiss μ).bind fun μ48 => K6 μ48)) := by
    intro w4 ew4
    subst ew4
    refine g_istore_n dX12_readStep_21 rfl (by decide) (lv' := [(3, .int (if x1 = 5 then (1 : Int32) else (if x1 = 6 then (1 : Int32) else 0))), (0, .ref (gb g + 141)), (1, .int v1), (2, .int x1)]) rfl ?_
    refine g_iload_n dX12_readStep_22 3 rfl ?_
    refine g_jn (fun (a7 : Mm) oo => Go g RX12 cX12_readStep 5 .return_ (dr + 10) cvV 30 [(0, .ref (gb g + 141)), (1, .int v1), (2, .int x1), (3, .int (if x1 = 5 then (1 : Int32) else (if x1 = 6 then (1 : Int32) else 0)))] [] a7 oo) (fun a7 => ?_) (fun K6 hF46 => ?_)
    · refine g_aload_n dX12_readStep_30 0 rfl ?_
      refine g_getI fl_X12_204 sh_141 (by decide) rfl dX12_readStep_31 ?_
      refine g_jn (fun (a11 : Mm) oo => Go g RX12 cX12_readStep 5 .return_ (dr + 10) cvV 56 [(0, .ref (gb g + 141)), (1, .int v1), (2, .int x1), (3, .int (if x1 = 5 then (1 : Int32) else (if x1 = 6 then (1 : Int32) else 0)))] [] a11 oo) (fun a11 => ?_) (fun K10 hF43 => ?_)
      · refine g_aload_n dX12_readStep_56 0 rfl ?_
        refine g_getI fl_X12_204 sh_141 (by decide) rfl dX12_readStep_57 ?_
        refine g_jn (fun (a16 : Mm) oo => Go g RX12 cX12_readStep 5 .return_ (dr + 10) cvV 82 [(0, .ref (gb g + 141)), (1, .int v1), (2, .int x1), (3, .int (if x1 = 5 then (1 : Int32) else (if x1 = 6 then (1 : Int32) else 0)))] [] a16 oo) (fun a16 => ?_) (fun K15 hF40 => ?_)
        · refine g_aload_n dX12_readStep_82 0 rfl ?_
          refine g_getI fl_X12_204 sh_141 (by decide) rfl dX12_readStep_83 ?_
          refine g_if_le (tgt := 90) dX12_readStep_86 (by decide) (fun _ => ?_) (fun _ => ?_)
          · refine g_sipush dX12_readStep_90 (v := 1730) (by decide) ?_
            refine g_bipush dX12_readStep_93 (v := 9) (by decide) ?_
            refine g_aload_n dX12_readStep_95 0 rfl ?_
            refine g_getI fl_X12_292 sh_141 (by decide) rfl dX12_readStep_96 ?_
            refine g_imul dX12_readStep_99 ?_
            refine g_iadd dX12_readStep_100 ?_
            refine g_istore dX12_readStep_101 (by decide) (lv' := [(4, .int ((1730 : Int32) + ((9 : Int32) * (mI a16 141 26)))), (0, .ref (gb g + 141)), (1, .int v1), (2, .int x1), (3, .int (if x1 = 5 then (1 : Int32) else (if x1 = 6 then (1 : Int32) else 0)))]) rfl ?_
            refine g_aload_n dX12_readStep_103 1 rfl ?_
            refine g_dup dX12_readStep_104 rfl ?_
            refine g_getI fl_X12_292 sh_141 (by decide) rfl dX12_readStep_105 ?_
            refine g_iconst dX12_readStep_108 (v := 1) (by decide) ?_
            refine g_iadd dX12_readStep_109 ?_
            refine g_putI fl_X12_292 sh_141 (by decide) rfl dX12_readStep_110 ?_
            refine g_aload_n dX12_readStep_113 1 rfl ?_
            refine g_vV [] [] mw_X12_214 (ok_X12_advance g F (sI a16 141 26 ((mI a16 141 26) + (1 : Int32)))) (by omega) sh_141 (by decide) rfl rfl (Nat.le_of_ble_eq_true rfl) dX12_readStep_114 (fun μ18 _ => ?_)
            refine g_aload_n dX12_readStep_117 1 rfl ?_
            refine g_getR (b := 146) fl_X12_35 sh_141 (by decide) rfl rfl dX12_readStep_118 ?_
            refine g_iload dX12_readStep_121 0 rfl ?_
            refine g_iload_n dX12_readStep_123 3 rfl ?_
            refine g_iastore sh_146 dX12_readStep_124 (fun μ19 => ?_)
            refine g_aload_n dX12_readStep_125 1 rfl ?_
            refine g_iload dX12_readStep_126 0 rfl ?_
            refine g_vV [.int ((1730 : Int32) + ((9 : Int32) * (mI a16 141 26)))] [] mw_X12_295 (ok_X12_readRest g F ((1730 : Int32) + ((9 : Int32) * (mI a16 141 26))) μ19) (by omega) sh_141 (by decide) rfl rfl (Nat.le_of_ble_eq_true rfl) dX12_readStep_128 (fun μ21 _ => ?_)
            refine g_aload_n dX12_readStep_131 1 rfl ?_
            refine g_aload_n dX12_readStep_132 1 rfl ?_
            refine g_bipush dX12_readStep_133 (v := 59) (by decide) ?_
            refine g_vZp [.int 59] [.ref (gb g + 141)] mw_X12_277 (ok_X12_isSign g 59 μ21) (by omega) sh_141 (by decide) rfl rfl (Nat.le_of_ble_eq_true rfl) dX12_readStep_135 (fun x22 _ => ?_)
            refine g_vV [.int (bI x22)] [] mw_X12_232 (ok_X12_must g F (bI x22) μ21) (by omega) sh_141 (by decide) rfl rfl (Nat.le_of_ble_eq_true rfl) dX12_readStep_138 (fun μ24 _ => ?_)
            refine g_lv [1, 2, 4, 0] rfl ?_
            refine okL_X12_readStep_141 g dr F rc_X12_readStep v1 (if x1 = 5 then (1 : Int32) else (if x1 = 6 then (1 : Int32) else 0)) ((1730 : Int32) + ((9 : Int32) * (mI a16 141 26))) _ hr_X12_readStep (fun μ28 => ?_) F μ24
            refine g_iload_n dX12_readStep_169 1 rfl ?_
            refine g_jn (fun (a31 : Mm) oo => Go g RX12 cX12_readStep 5 .return_ (dr + 10) cvV 191 [(0, .ref (gb g + 141)), (4, .int ((1730 : Int32) + ((9 : Int32) * (mI a16 141 26))))] [] a31 oo) (fun a31 => ?_) (fun K30 hF33 => ?_)
            · refine g_aload_n dX12_readStep_191 0 rfl ?_
              refine g_getR (b := 146) fl_X12_35 sh_141 (by decide) rfl rfl dX12_readStep_192 ?_
              refine g_iload dX12_readStep_195 1 rfl ?_
              refine g_bipush dX12_readStep_197 (v := 8) (by decide) ?_
              refine g_iadd dX12_readStep_199 ?_
              refine g_aload_n dX12_readStep_200 0 rfl ?_
              refine g_getI fl_X12_292 sh_141 (by decide) rfl dX12_readStep_201 ?_
              refine g_iastore sh_146 dX12_readStep_204 (fun μ32 => ?_)
              exact g_ret dX12_readStep_205 rfl rfl
            · refine g_if_eq (tgt := 191) dX12_readStep_170 (by decide) (fun _ => ?_) (fun _ => ?_)
              · refine g_lv [0, 2] rfl ?_
                exact hF33 μ28
              · refine g_aload_n dX12_readStep_173 0 rfl ?_
                refine g_aload_n dX12_readStep_174 0 rfl ?_
                refine g_vZp [] [.ref (gb g + 141)] mw_X12_198 (ok_X12_isEnd g μ28) (by omega) sh_141 (by decide) rfl rfl (Nat.le_of_ble_eq_true rfl) dX12_readStep_175 (fun x34 _ => ?_)
                refine g_vV [.int (bI x34)] [] mw_X12_232 (ok_X12_must g F (bI x34) μ28) (by omega) sh_141 (by decide) rfl rfl (Nat.le_of_ble_eq_true rfl) dX12_readStep_178 (fun μ36 _ => ?_)
                refine g_aload_n dX12_readStep_181 0 rfl ?_
                refine g_aload_n dX12_readStep_182 0 rfl ?_
                refine g_bipush dX12_readStep_183 (v := 59) (by decide) ?_
                refine g_vZp [.int 59] [.ref (gb g + 141)] mw_X12_277 (ok_X12_isSign g 59 μ36) (by omega) sh_141 (by decide) rfl rfl (Nat.le_of_ble_eq_true rfl) dX12_readStep_185 (fun x37 _ => ?_)
                refine g_vV [.int (bI x37)] [] mw_X12_232 (ok_X12_must g F (bI x37) μ36) (by omega) sh_141 (by decide) rfl rfl (Nat.le_of_ble_eq_true rfl) dX12_readStep_188 (fun μ39 _ => ?_)
                refine g_lv [0, 2] rfl ?_
                exact hF33 μ39
          · exact g_ret dX12_readStep_89 rfl rfl
        · refine g_if_ne (tgt := 82) dX12_readStep_60 (by decide) (fun _ => ?_) (fun _ => ?_)
          · refine g_lv [0, 1, 2, 3] rfl ?_
            exact hF40 a11
          · refine g_iload_n dX12_readStep_63 3 rfl ?_
            refine g_if_eq (tgt := 82) dX12_readStep_64 (by decide) (fun _ => ?_) (fun _ => ?_)
            · refine g_lv [0, 1, 2, 3] rfl ?_
              exact hF40 a11
            · refine g_iload_n dX12_readStep_67 1 rfl ?_
              refine g_iconst dX12_readStep_68 (v := 3) (by decide) ?_
              refine g_icmp_ne (tgt := 82) dX12_readStep_69 (by decide) (fun _ => ?_) (fun _ => ?_)
              · refine g_lv [0, 1, 2, 3] rfl ?_
                exact hF40 a11
              · refine g_aload_n dX12_readStep_72 0 rfl ?_
                refine g_bipush dX12_readStep_73 (v := 7) (by decide) ?_
                refine g_aload_n dX12_readStep_75 0 rfl ?_
                refine g_getI fl_X12_117 sh_141 (by decide) rfl dX12_readStep_76 ?_
                refine g_vV [.int 7, .int (mI a11 141 15)] [] mw_X12_210 (ok_X12_fail g 7 (mI a11 141 15) a11) (by omega) sh_141 (by decide) rfl rfl (Nat.le_of_ble_eq_true rfl) dX12_readStep_79 (fun μ42 _ => ?_)
                refine g_lv [0, 1, 2, 3] rfl ?_
                exact hF40 μ42
      · refine g_if_ne (tgt := 56) dX12_readStep_34 (by decide) (fun _ => ?_) (fun _ => ?_)
        · refine g_lv [0, 1, 2, 3] rfl ?_
          exact hF43 a7
        · refine g_aload_n dX12_readStep_37 0 rfl ?_
          refine g_getI fl_X12_292 sh_141 (by decide) rfl dX12_readStep_38 ?_
          refine g_bipush dX12_readStep_41 (v := 30) (by decide) ?_
          refine g_icmp_ne (tgt := 56) dX12_readStep_43 (by decide) (fun _ => ?_) (fun _ => ?_)
          · refine g_lv [0, 1, 2, 3] rfl ?_
            exact hF43 a7
          · refine g_aload_n dX12_readStep_46 0 rfl ?_
            refine g_bipush dX12_readStep_47 (v := 6) (by decide) ?_
            refine g_aload_n dX12_readStep_49 0 rfl ?_
            refine g_getI fl_X12_117 sh_141 (by decide) rfl dX12_readStep_50 ?_
            refine g_vV [.int 6, .int (mI a7 141 15)] [] mw_X12_210 (ok_X12_fail g 6 (mI a7 141 15) a7) (by omega) sh_141 (by decide) rfl rfl (Nat.le_of_ble_eq_true rfl) dX12_readStep_53 (fun μ45 _ => ?_)
            refine g_lv [0, 1, 2, 3] rfl ?_
            exact hF43 μ45
    · refine g_if_ge (tgt := 30) dX12_readStep_23 (by decide) (fun _ => ?_) (fun _ => ?_)
      · refine g_lv [1, 2, 3, 0] rfl ?_
        exact hF46 μ
      · refine g_aload_n dX12_readStep_26 1 rfl ?_
        refine g_vV [] [] mw_X12_217 (ok_X12_amiss g μ) (by omega) sh_141 (by decide) rfl rfl (Nat.le_of_ble_eq_true rfl) dX12_readStep_27 (fun μ48 _ => ?_)
        refine g_lv [1, 2, 3, 0] rfl ?_
        exact hF46 μ48
  refine g_same (g_icmp_eq (tgt := 16) dX12_readStep_7 (by decide) (fun c2 => ?_) (fun c2 => ?_))
  · refine g_iconst dX12_readStep_16 (v := 1) (by decide) ?_
    refine g_goto (tgt := 21) dX12_readStep_17 (by decide) ?_
    refine g_lv [1, 2, 0] rfl ?_
    exact hJ49 _ (by rw [if_pos c2])
  · refine g_iload_n dX12_readStep_10 0 rfl ?_
    refine g_bipush dX12_readStep_11 (v := 6) (by decide) ?_
    refine g_same (g_icmp_ne (tgt := 20) dX12_readStep_13 (by decide) (fun c3 => ?_) (fun c3 => ?_))
    · refine g_iconst dX12_readStep_20 (v := 0) (by decide) ?_
      refine g_lv [1, 2, 0] rfl ?_
      exact hJ49 _ (by rw [if_neg c2, if_neg c3])
    · refine g_iconst dX12_readStep_16 (v := 1) (by decide) ?_
      refine g_goto (tgt := 21) dX12_readStep_17 (by decide) ?_
      refine g_lv [1, 2, 0] rfl ?_
      exact hJ49 _ (by rw [if_neg c2, if_pos c3])
theorem okt_X12_readStep (g : GG) (F : Nat) : ∀ (D : Nat) (v1 : Int32)  (μ : Mm), Ct g yX12_readStep cX12_readStep 5 none (D * 10) cvV [.ref (gb g + 141), .int v1] μ (t_X12_readStep F D v1 μ) := by
  intro D
  induction D with
  | zero =>
    intro v1 μ r hr
    cases hr
  | succ D ih =>
    intro v1 μ
    rw [t_X12_readStep_s, show (D + 1) * 10 = D * 10 + 10 by omega]
    exact ok_X12_readStep g (D * 10) F (t_X12_readStep F D) v1 (fun v1 μ => ih v1 μ) μ
