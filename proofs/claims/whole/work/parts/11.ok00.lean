set_option maxHeartbeats 4000000 in
set_option maxRecDepth 100000 in
theorem ok_X0_setBare (g : GG) (r0 : Nat) (hr0 : Bk r0) (μ : Mm) : Ct g yX0_setBare cX0_setBare 1 none 1 cvV [.ref (gb g + r0)] μ (f_X0_setBare r0 μ) := by
  refine ct_V (by decide +kernel) (Nat.le_of_ble_eq_true rfl) (show Go g RX0 cX0_setBare 1 .return_ 1 cvV 0 [(0, .ref (gb g + r0))] [] μ (f_X0_setBare r0 μ) from ?_)
  unfold f_X0_setBare
  refine g_aload_n dX0_setBare_0 0 rfl ?_
  refine g_iconst dX0_setBare_1 (v := 3) (by decide) ?_
  refine g_putI fl_X0_41 (bk_0 hr0) (by decide) rfl dX0_setBare_2 ?_
  refine g_aload_n dX0_setBare_5 0 rfl ?_
  refine g_iconst dX0_setBare_6 (v := 2) (by decide) ?_
  refine g_putI fl_X0_45 (bk_0 hr0) (by decide) rfl dX0_setBare_7 ?_
  refine g_aload_n dX0_setBare_10 0 rfl ?_
  refine g_iconst dX0_setBare_11 (v := 2) (by decide) ?_
  refine g_putI fl_X0_48 (bk_0 hr0) (by decide) rfl dX0_setBare_12 ?_
  refine g_aload_n dX0_setBare_15 0 rfl ?_
  refine g_iconst dX0_setBare_16 (v := 0) (by decide) ?_
  refine g_putI fl_X0_51 (bk_0 hr0) (by decide) rfl dX0_setBare_17 ?_
  refine g_aload_n dX0_setBare_20 0 rfl ?_
  refine g_iconst dX0_setBare_21 (v := 0) (by decide) ?_
  refine g_putI fl_X0_54 (bk_0 hr0) (by decide) rfl dX0_setBare_22 ?_
  refine g_aload_n dX0_setBare_25 0 rfl ?_
  refine g_iconst dX0_setBare_26 (v := 0) (by decide) ?_
  refine g_putI fl_X0_57 (bk_0 hr0) (by decide) rfl dX0_setBare_27 ?_
  refine g_aload_n dX0_setBare_30 0 rfl ?_
  refine g_iconst dX0_setBare_31 (v := 0) (by decide) ?_
  refine g_putI fl_X0_60 (bk_0 hr0) (by decide) rfl dX0_setBare_32 ?_
  refine g_aload_n dX0_setBare_35 0 rfl ?_
  refine g_getR (b := (r0 + 1)) fl_X0_12 (bk_0 hr0) (by decide) rfl rfl dX0_setBare_36 ?_
  refine g_iconst dX0_setBare_39 (v := 0) (by decide) ?_
  refine g_putI fl_X0_63 (bk_1 hr0) (by decide) rfl dX0_setBare_40 ?_
  exact g_ret dX0_setBare_43 rfl rfl
set_option maxHeartbeats 4000000 in
set_option maxRecDepth 100000 in
theorem okL_J7_fill_53178_5 (g : GG) (F : Nat) (NN : Nat) (r0 : Nat) (v1 : Int32) (v3 : Int32) (k : Mm → Option (Mm)) (hr0 : shp r0 = (0, NN)) (hk : ∀ (μ : Mm), Go g RJ7 cJ7_fill_53178 4 .return_ 1 cvV 20 [] [] μ (k μ)) : ∀ (n : Nat) (v2 : Int32) (μ : Mm), Go g RJ7 cJ7_fill_53178 4 .return_ 1 cvV 5 [(0, .ref (gb g + r0)), (1, .int v1), (2, .int v2), (3, .int v3)] [] μ (L_J7_fill_53178_5 F NN r0 v1 v3 k n v2 μ) := by
  intro n
  induction n with
  | zero =>
    intro v2 μ
    exact g_none
  | succ n ih =>
    intro v2 μ
    rw [L_J7_fill_53178_5_s]
    refine g_iload_n dJ7_fill_53178_5 2 rfl ?_
    refine g_iload_n dJ7_fill_53178_6 3 rfl ?_
    refine g_icmp_ge (tgt := 20) dJ7_fill_53178_7 (by decide) (fun _ => ?_) (fun _ => ?_)
    · refine g_lv [] rfl ?_
      exact hk μ
    · refine g_aload_n dJ7_fill_53178_10 0 rfl ?_
      refine g_iload_n dJ7_fill_53178_11 2 rfl ?_
      refine g_iload_n dJ7_fill_53178_12 1 rfl ?_
      refine g_iastore hr0 dJ7_fill_53178_13 (fun μ1 => ?_)
      refine g_iinc dJ7_fill_53178_14 2 rfl (v := (v2 + 1)) rfl (by decide) (lv' := [(2, .int (v2 + 1)), (0, .ref (gb g + r0)), (1, .int v1), (3, .int v3)]) rfl ?_
      refine g_goto (tgt := 5) dJ7_fill_53178_17 (by decide) ?_
      refine g_lv [1, 2, 0, 3] rfl ?_
      exact ih (v2 + 1) μ1
set_option maxHeartbeats 4000000 in
set_option maxRecDepth 100000 in
theorem ok_J7_fill_53178 (g : GG) (F : Nat) (NN : Nat) (r0 : Nat) (v1 : Int32) (hr0 : shp r0 = (0, NN)) (μ : Mm) : Ct g yJ7_fill_53178 cJ7_fill_53178 4 none 1 cvV [.ref (gb g + r0), .int v1] μ (f_J7_fill_53178 F NN r0 v1 μ) := by
  refine ct_V (by decide +kernel) (Nat.le_of_ble_eq_true rfl) (show Go g RJ7 cJ7_fill_53178 4 .return_ 1 cvV 0 [(0, .ref (gb g + r0)), (1, .int v1)] [] μ (f_J7_fill_53178 F NN r0 v1 μ) from ?_)
  unfold f_J7_fill_53178
  refine g_iconst dJ7_fill_53178_0 (v := 0) (by decide) ?_
  refine g_istore_n dJ7_fill_53178_1 rfl (by decide) (lv' := [(2, .int 0), (0, .ref (gb g + r0)), (1, .int v1)]) rfl ?_
  refine g_aload_n dJ7_fill_53178_2 1 rfl ?_
  refine g_alenA hr0 dJ7_fill_53178_3 ?_
  refine g_istore_n dJ7_fill_53178_4 rfl (by decide) (lv' := [(3, .int (Int32.ofNat NN)), (2, .int 0), (0, .ref (gb g + r0)), (1, .int v1)]) rfl ?_
  refine g_lv [2, 3, 1, 0] rfl ?_
  refine okL_J7_fill_53178_5 g F NN r0 v1 (Int32.ofNat NN) _ hr0 (fun μ2 => ?_) F 0 μ
  exact g_ret dJ7_fill_53178_20 rfl rfl
set_option maxHeartbeats 4000000 in
set_option maxRecDepth 100000 in
theorem ok_X0_empty (g : GG) (F : Nat) (r0 : Nat) (hr0 : Bk r0) (μ : Mm) : Ct g yX0_empty cX0_empty 1 none 2 cvV [.ref (gb g + r0)] μ (f_X0_empty F r0 μ) := by
  refine ct_V (by decide +kernel) (Nat.le_of_ble_eq_true rfl) (show Go g RX0 cX0_empty 1 .return_ 2 cvV 0 [(0, .ref (gb g + r0))] [] μ (f_X0_empty F r0 μ) from ?_)
  unfold f_X0_empty
  refine g_aload_n dX0_empty_0 0 rfl ?_
  refine g_vV [] [] mw_X0_38 (ok_X0_setBare g r0 hr0 μ) (by omega) (bk_0 hr0) (by decide) rfl rfl (Nat.le_of_ble_eq_true rfl) dX0_empty_1 (fun μ2 _ => ?_)
  refine g_aload_n dX0_empty_4 0 rfl ?_
  refine g_getR (b := (r0 + 8)) fl_X0_26 (bk_0 hr0) (by decide) rfl rfl dX0_empty_5 ?_
  refine g_iconst dX0_empty_8 (v := 0) (by decide) ?_
  refine g_sV [.ref (gb g + (r0 + 8)), .int 0] [] mw_X0_66 (ok_J7_fill_53178 g F 25 (r0 + 8) 0 (bk_8 hr0) μ2) (by omega) rfl rfl (Nat.le_of_ble_eq_true rfl) dX0_empty_9 (fun μ4 _ => ?_)
  refine g_aload_n dX0_empty_12 0 rfl ?_
  refine g_getR (b := (r0 + 9)) fl_X0_29 (bk_0 hr0) (by decide) rfl rfl dX0_empty_13 ?_
  refine g_iconst dX0_empty_16 (v := 0) (by decide) ?_
  refine g_sV [.ref (gb g + (r0 + 9)), .int 0] [] mw_X0_66 (ok_J7_fill_53178 g F 25 (r0 + 9) 0 (bk_9 hr0) μ4) (by omega) rfl rfl (Nat.le_of_ble_eq_true rfl) dX0_empty_17 (fun μ6 _ => ?_)
  refine g_aload_n dX0_empty_20 0 rfl ?_
  refine g_getR (b := (r0 + 10)) fl_X0_32 (bk_0 hr0) (by decide) rfl rfl dX0_empty_21 ?_
  refine g_iconst dX0_empty_24 (v := 0) (by decide) ?_
  refine g_sV [.ref (gb g + (r0 + 10)), .int 0] [] mw_X0_66 (ok_J7_fill_53178 g F 25 (r0 + 10) 0 (bk_10 hr0) μ6) (by omega) rfl rfl (Nat.le_of_ble_eq_true rfl) dX0_empty_25 (fun μ8 _ => ?_)
  exact g_ret dX0_empty_28 rfl rfl
set_option maxHeartbeats 4000000 in
set_option maxRecDepth 100000 in
theorem ok_X3_takeFrom (g : GG) (r0 : Nat) (r1 : Nat) (hr0 : Lw r0) (hr1 : Lw r1) (μ : Mm) : Ct g yX3_takeFrom cX3_takeFrom 2 none 1 cvV [.ref (gb g + r0), .ref (gb g + r1)] μ (f_X3_takeFrom r0 r1 μ) := by
  refine ct_V (by decide +kernel) (Nat.le_of_ble_eq_true rfl) (show Go g RX3 cX3_takeFrom 2 .return_ 1 cvV 0 [(0, .ref (gb g + r0)), (1, .ref (gb g + r1))] [] μ (f_X3_takeFrom r0 r1 μ) from ?_)
  unfold f_X3_takeFrom
  refine g_aload_n dX3_takeFrom_0 0 rfl ?_
  refine g_aload_n dX3_takeFrom_1 1 rfl ?_
  refine g_getI fl_X3_24 (lw_0 hr1) (by decide) rfl dX3_takeFrom_2 ?_
  refine g_putI fl_X3_24 (lw_0 hr0) (by decide) rfl dX3_takeFrom_5 ?_
  refine g_aload_n dX3_takeFrom_8 1 rfl ?_
  refine g_getR (b := (r1 + 1)) fl_X3_9 (lw_0 hr1) (by decide) rfl rfl dX3_takeFrom_9 ?_
  refine g_iconst dX3_takeFrom_12 (v := 0) (by decide) ?_
  refine g_aload_n dX3_takeFrom_13 0 rfl ?_
  refine g_getR (b := (r0 + 1)) fl_X3_9 (lw_0 hr0) (by decide) rfl rfl dX3_takeFrom_14 ?_
  refine g_iconst dX3_takeFrom_17 (v := 0) (by decide) ?_
  refine g_bipush dX3_takeFrom_18 (v := 10) (by decide) ?_
  refine g_copyA mw_X3_28 (by omega) (lw_1 hr1) (lw_1 hr0) dX3_takeFrom_20 (fun μ1 => ?_)
  refine g_aload_n dX3_takeFrom_23 1 rfl ?_
  refine g_getR (b := (r1 + 2)) fl_X3_15 (lw_0 hr1) (by decide) rfl rfl dX3_takeFrom_24 ?_
  refine g_iconst dX3_takeFrom_27 (v := 0) (by decide) ?_
  refine g_aload_n dX3_takeFrom_28 0 rfl ?_
  refine g_getR (b := (r0 + 2)) fl_X3_15 (lw_0 hr0) (by decide) rfl rfl dX3_takeFrom_29 ?_
  refine g_iconst dX3_takeFrom_32 (v := 0) (by decide) ?_
  refine g_bipush dX3_takeFrom_33 (v := 10) (by decide) ?_
  refine g_copyA mw_X3_28 (by omega) (lw_2 hr1) (lw_2 hr0) dX3_takeFrom_35 (fun μ2 => ?_)
  refine g_aload_n dX3_takeFrom_38 1 rfl ?_
  refine g_getR (b := (r1 + 3)) fl_X3_18 (lw_0 hr1) (by decide) rfl rfl dX3_takeFrom_39 ?_
  refine g_iconst dX3_takeFrom_42 (v := 0) (by decide) ?_
  refine g_aload_n dX3_takeFrom_43 0 rfl ?_
  refine g_getR (b := (r0 + 3)) fl_X3_18 (lw_0 hr0) (by decide) rfl rfl dX3_takeFrom_44 ?_
  refine g_iconst dX3_takeFrom_47 (v := 0) (by decide) ?_
  refine g_bipush dX3_takeFrom_48 (v := 10) (by decide) ?_
  refine g_copyA mw_X3_28 (by omega) (lw_3 hr1) (lw_3 hr0) dX3_takeFrom_50 (fun μ3 => ?_)
  refine g_aload_n dX3_takeFrom_53 1 rfl ?_
  refine g_getR (b := (r1 + 4)) fl_X3_21 (lw_0 hr1) (by decide) rfl rfl dX3_takeFrom_54 ?_
  refine g_iconst dX3_takeFrom_57 (v := 0) (by decide) ?_
  refine g_aload_n dX3_takeFrom_58 0 rfl ?_
  refine g_getR (b := (r0 + 4)) fl_X3_21 (lw_0 hr0) (by decide) rfl rfl dX3_takeFrom_59 ?_
  refine g_iconst dX3_takeFrom_62 (v := 0) (by decide) ?_
  refine g_bipush dX3_takeFrom_63 (v := 10) (by decide) ?_
  refine g_copyA mw_X3_28 (by omega) (lw_4 hr1) (lw_4 hr0) dX3_takeFrom_65 (fun μ4 => ?_)
  exact g_ret dX3_takeFrom_68 rfl rfl
set_option maxHeartbeats 4000000 in
set_option maxRecDepth 100000 in
theorem ok_X0_takeFrom (g : GG) (r0 : Nat) (r1 : Nat) (hr0 : Bk r0) (hr1 : Bk r1) (μ : Mm) : Ct g yX0_takeFrom cX0_takeFrom 2 none 2 cvV [.ref (gb g + r0), .ref (gb g + r1)] μ (f_X0_takeFrom r0 r1 μ) := by
  refine ct_V (by decide +kernel) (Nat.le_of_ble_eq_true rfl) (show Go g RX0 cX0_takeFrom 2 .return_ 2 cvV 0 [(0, .ref (gb g + r0)), (1, .ref (gb g + r1))] [] μ (f_X0_takeFrom r0 r1 μ) from ?_)
  unfold f_X0_takeFrom
  refine g_aload_n dX0_takeFrom_0 0 rfl ?_
  refine g_aload_n dX0_takeFrom_1 1 rfl ?_
  refine g_getI fl_X0_41 (bk_0 hr1) (by decide) rfl dX0_takeFrom_2 ?_
  refine g_putI fl_X0_41 (bk_0 hr0) (by decide) rfl dX0_takeFrom_5 ?_
  refine g_aload_n dX0_takeFrom_8 0 rfl ?_
  refine g_aload_n dX0_takeFrom_9 1 rfl ?_
  refine g_getI fl_X0_45 (bk_0 hr1) (by decide) rfl dX0_takeFrom_10 ?_
  refine g_putI fl_X0_45 (bk_0 hr0) (by decide) rfl dX0_takeFrom_13 ?_
  refine g_aload_n dX0_takeFrom_16 0 rfl ?_
  refine g_aload_n dX0_takeFrom_17 1 rfl ?_
  refine g_getI fl_X0_48 (bk_0 hr1) (by decide) rfl dX0_takeFrom_18 ?_
  refine g_putI fl_X0_48 (bk_0 hr0) (by decide) rfl dX0_takeFrom_21 ?_
  refine g_aload_n dX0_takeFrom_24 0 rfl ?_
  refine g_aload_n dX0_takeFrom_25 1 rfl ?_
  refine g_getI fl_X0_51 (bk_0 hr1) (by decide) rfl dX0_takeFrom_26 ?_
  refine g_putI fl_X0_51 (bk_0 hr0) (by decide) rfl dX0_takeFrom_29 ?_
  refine g_aload_n dX0_takeFrom_32 0 rfl ?_
  refine g_aload_n dX0_takeFrom_33 1 rfl ?_
  refine g_getI fl_X0_54 (bk_0 hr1) (by decide) rfl dX0_takeFrom_34 ?_
  refine g_putI fl_X0_54 (bk_0 hr0) (by decide) rfl dX0_takeFrom_37 ?_
  refine g_aload_n dX0_takeFrom_40 0 rfl ?_
  refine g_aload_n dX0_takeFrom_41 1 rfl ?_
  refine g_getI fl_X0_57 (bk_0 hr1) (by decide) rfl dX0_takeFrom_42 ?_
  refine g_putI fl_X0_57 (bk_0 hr0) (by decide) rfl dX0_takeFrom_45 ?_
  refine g_aload_n dX0_takeFrom_48 0 rfl ?_
  refine g_aload_n dX0_takeFrom_49 1 rfl ?_
  refine g_getI fl_X0_60 (bk_0 hr1) (by decide) rfl dX0_takeFrom_50 ?_
  refine g_putI fl_X0_60 (bk_0 hr0) (by decide) rfl dX0_takeFrom_53 ?_
  refine g_aload_n dX0_takeFrom_56 0 rfl ?_
  refine g_getR (b := (r0 + 1)) fl_X0_12 (bk_0 hr0) (by decide) rfl rfl dX0_takeFrom_57 ?_
  refine g_aload_n dX0_takeFrom_60 1 rfl ?_
  refine g_getR (b := (r1 + 1)) fl_X0_12 (bk_0 hr1) (by decide) rfl rfl dX0_takeFrom_61 ?_
  refine g_vV [.ref (gb g + (r1 + 1))] [] mw_X0_72 (ok_X3_takeFrom g (r0 + 1) (r1 + 1) (bk_lw hr0) (bk_lw hr1) (sI (sI (sI (sI (sI (sI (sI μ r0 0 (mI μ r1 0)) r0 1 (mI (sI μ r0 0 (mI μ r1 0)) r1 1)) r0 2 (mI (sI (sI μ r0 0 (mI μ r1 0)) r0 1 (mI (sI μ r0 0 (mI μ r1 0)) r1 1)) r1 2)) r0 3 (mI (sI (sI (sI μ r0 0 (mI μ r1 0)) r0 1 (mI (sI μ r0 0 (mI μ r1 0)) r1 1)) r0 2 (mI (sI (sI μ r0 0 (mI μ r1 0)) r0 1 (mI (sI μ r0 0 (mI μ r1 0)) r1 1)) r1 2)) r1 3)) r0 4 (mI (sI (sI (sI (sI μ r0 0 (mI μ r1 0)) r0 1 (mI (sI μ r0 0 (mI μ r1 0)) r1 1)) r0 2 (mI (sI (sI μ r0 0 (mI μ r1 0)) r0 1 (mI (sI μ r0 0 (mI μ r1 0)) r1 1)) r1 2)) r0 3 (mI (sI (sI (sI μ r0 0 (mI μ r1 0)) r0 1 (mI (sI μ r0 0 (mI μ r1 0)) r1 1)) r0 2 (mI (sI (sI μ r0 0 (mI μ r1 0)) r0 1 (mI (sI μ r0 0 (mI μ r1 0)) r1 1)) r1 2)) r1 3)) r1 4)) r0 5 (mI (sI (sI (sI (sI (sI μ r0 0 (mI μ r1 0)) r0 1 (mI (sI μ r0 0 (mI μ r1 0)) r1 1)) r0 2 (mI (sI (sI μ r0 0 (mI μ r1 0)) r0 1 (mI (sI μ r0 0 (mI μ r1 0)) r1 1)) r1 2)) r0 3 (mI (sI (sI (sI μ r0 0 (mI μ r1 0)) r0 1 (mI (sI μ r0 0 (mI μ r1 0)) r1 1)) r0 2 (mI (sI (sI μ r0 0 (mI μ r1 0)) r0 1 (mI (sI μ r0 0 (mI μ r1 0)) r1 1)) r1 2)) r1 3)) r0 4 (mI (sI (sI (sI (sI μ r0 0 (mI μ r1 0)) r0 1 (mI (sI μ r0 0 (mI μ r1 0)) r1 1)) r0 2 (mI (sI (sI μ r0 0 (mI μ r1 0)) r0 1 (mI (sI μ r0 0 (mI μ r1 0)) r1 1)) r1 2)) r0 3 (mI (sI (sI (sI μ r0 0 (mI μ r1 0)) r0 1 (mI (sI μ r0 0 (mI μ r1 0)) r1 1)) r0 2 (mI (sI (sI μ r0 0 (mI μ r1 0)) r0 1 (mI (sI μ r0 0 (mI μ r1 0)) r1 1)) r1 2)) r1 3)) r1 4)) r1 5)) r0 6 (mI (sI (sI (sI (sI (sI (sI μ r0 0 (mI μ r1 0)) r0 1 (mI (sI μ r0 0 (mI μ r1 0)) r1 1)) r0 2 (mI (sI (sI μ r0 0 (mI μ r1 0)) r0 1 (mI (sI μ r0 0 (mI μ r1 0)) r1 1)) r1 2)) r0 3 (mI (sI (sI (sI μ r0 0 (mI μ r1 0)) r0 1 (mI (sI μ r0 0 (mI μ r1 0)) r1 1)) r0 2 (mI (sI (sI μ r0 0 (mI μ r1 0)) r0 1 (mI (sI μ r0 0 (mI μ r1 0)) r1 1)) r1 2)) r1 3)) r0 4 (mI (sI (sI (sI (sI μ r0 0 (mI μ r1 0)) r0 1 (mI (sI μ r0 0 (mI μ r1 0)) r1 1)) r0 2 (mI (sI (sI μ r0 0 (mI μ r1 0)) r0 1 (mI (sI μ r0 0 (mI μ r1 0)) r1 1)) r1 2)) r0 3 (mI (sI (sI (sI μ r0 0 (mI μ r1 0)) r0 1 (mI (sI μ r0 0 (mI μ r1 0)) r1 1)) r0 2 (mI (sI (sI μ r0 0 (mI μ r1 0)) r0 1 (mI (sI μ r0 0 (mI μ r1 0)) r1 1)) r1 2)) r1 3)) r1 4)) r0 5 (mI (sI (sI (sI (sI (sI μ r0 0 (mI μ r1 0)) r0 1 (mI (sI μ r0 0 (mI μ r1 0)) r1 1)) r0 2 (mI (sI (sI μ r0 0 (mI μ r1 0)) r0 1 (mI (sI μ r0 0 (mI μ r1 0)) r1 1)) r1 2)) r0 3 (mI (sI (sI (sI μ r0 0 (mI μ r1 0)) r0 1 (mI (sI μ r0 0 (mI μ r1 0)) r1 1)) r0 2 (mI (sI (sI μ r0 0 (mI μ r1 0)) r0 1 (mI (sI μ r0 0 (mI μ r1 0)) r1 1)) r1 2)) r1 3)) r0 4 (mI (sI (sI (sI (sI μ r0 0 (mI μ r1 0)) r0 1 (mI (sI μ r0 0 (mI μ r1 0)) r1 1)) r0 2 (mI (sI (sI μ r0 0 (mI μ r1 0)) r0 1 (mI (sI μ r0 0 (mI μ r1 0)) r1 1)) r1 2)) r0 3 (mI (sI (sI (sI μ r0 0 (mI μ r1 0)) r0 1 (mI (sI μ r0 0 (mI μ r1 0)) r1 1)) r0 2 (mI (sI (sI μ r0 0 (mI μ r1 0)) r0 1 (mI (sI μ r0 0 (mI μ r1 0)) r1 1)) r1 2)) r1 3)) r1 4)) r1 5)) r1 6))) (by omega) (bk_1 hr0) (by decide) rfl rfl (Nat.le_of_ble_eq_true rfl) dX0_takeFrom_64 (fun μ2 _ => ?_)
  refine g_aload_n dX0_takeFrom_67 1 rfl ?_
  refine g_getR (b := (r1 + 6)) fl_X0_18 (bk_0 hr1) (by decide) rfl rfl dX0_takeFrom_68 ?_
  refine g_iconst dX0_takeFrom_71 (v := 0) (by decide) ?_
  refine g_aload_n dX0_takeFrom_72 0 rfl ?_
  refine g_getR (b := (r0 + 6)) fl_X0_18 (bk_0 hr0) (by decide) rfl rfl dX0_takeFrom_73 ?_
  refine g_iconst dX0_takeFrom_76 (v := 0) (by decide) ?_
  refine g_iconst dX0_takeFrom_77 (v := 5) (by decide) ?_
  refine g_copyA mw_X0_76 (by omega) (bk_6 hr1) (bk_6 hr0) dX0_takeFrom_78 (fun μ3 => ?_)
  refine g_aload_n dX0_takeFrom_81 1 rfl ?_
  refine g_getR (b := (r1 + 7)) fl_X0_22 (bk_0 hr1) (by decide) rfl rfl dX0_takeFrom_82 ?_
  refine g_iconst dX0_takeFrom_85 (v := 0) (by decide) ?_
  refine g_aload_n dX0_takeFrom_86 0 rfl ?_
  refine g_getR (b := (r0 + 7)) fl_X0_22 (bk_0 hr0) (by decide) rfl rfl dX0_takeFrom_87 ?_
  refine g_iconst dX0_takeFrom_90 (v := 0) (by decide) ?_
  refine g_iconst dX0_takeFrom_91 (v := 5) (by decide) ?_
  refine g_copyL mw_X0_76 (by omega) (bk_7 hr1) (bk_7 hr0) dX0_takeFrom_92 (fun μ4 => ?_)
  refine g_aload_n dX0_takeFrom_95 1 rfl ?_
  refine g_getR (b := (r1 + 8)) fl_X0_26 (bk_0 hr1) (by decide) rfl rfl dX0_takeFrom_96 ?_
  refine g_iconst dX0_takeFrom_99 (v := 0) (by decide) ?_
  refine g_aload_n dX0_takeFrom_100 0 rfl ?_
  refine g_getR (b := (r0 + 8)) fl_X0_26 (bk_0 hr0) (by decide) rfl rfl dX0_takeFrom_101 ?_
  refine g_iconst dX0_takeFrom_104 (v := 0) (by decide) ?_
  refine g_bipush dX0_takeFrom_105 (v := 25) (by decide) ?_
  refine g_copyA mw_X0_76 (by omega) (bk_8 hr1) (bk_8 hr0) dX0_takeFrom_107 (fun μ5 => ?_)
  refine g_aload_n dX0_takeFrom_110 1 rfl ?_
  refine g_getR (b := (r1 + 9)) fl_X0_29 (bk_0 hr1) (by decide) rfl rfl dX0_takeFrom_111 ?_
  refine g_iconst dX0_takeFrom_114 (v := 0) (by decide) ?_
  refine g_aload_n dX0_takeFrom_115 0 rfl ?_
  refine g_getR (b := (r0 + 9)) fl_X0_29 (bk_0 hr0) (by decide) rfl rfl dX0_takeFrom_116 ?_
  refine g_iconst dX0_takeFrom_119 (v := 0) (by decide) ?_
  refine g_bipush dX0_takeFrom_120 (v := 25) (by decide) ?_
  refine g_copyA mw_X0_76 (by omega) (bk_9 hr1) (bk_9 hr0) dX0_takeFrom_122 (fun μ6 => ?_)
  refine g_aload_n dX0_takeFrom_125 1 rfl ?_
  refine g_getR (b := (r1 + 10)) fl_X0_32 (bk_0 hr1) (by decide) rfl rfl dX0_takeFrom_126 ?_
  refine g_iconst dX0_takeFrom_129 (v := 0) (by decide) ?_
  refine g_aload_n dX0_takeFrom_130 0 rfl ?_
  refine g_getR (b := (r0 + 10)) fl_X0_32 (bk_0 hr0) (by decide) rfl rfl dX0_takeFrom_131 ?_
  refine g_iconst dX0_takeFrom_134 (v := 0) (by decide) ?_
  refine g_bipush dX0_takeFrom_135 (v := 25) (by decide) ?_
  refine g_copyA mw_X0_76 (by omega) (bk_10 hr1) (bk_10 hr0) dX0_takeFrom_137 (fun μ7 => ?_)
  exact g_ret dX0_takeFrom_140 rfl rfl
set_option maxHeartbeats 4000000 in
set_option maxRecDepth 100000 in
theorem ok_X0_cells (g : GG) (r0 : Nat) (hr0 : Bk r0) (μ : Mm) : Ct g yX0_cells cX0_cells 1 (some (.int)) 1 (cvIp μ) [.ref (gb g + r0)] μ (f_X0_cells r0 μ) := by
  refine ct_Ip (by decide +kernel) (Nat.le_of_ble_eq_true rfl) (show Go g RX0 cX0_cells 1 .ireturn 1 (cvIp μ) 0 [(0, .ref (gb g + r0))] [] μ (f_X0_cells r0 μ) from ?_)
  unfold f_X0_cells
  refine g_aload_n dX0_cells_0 0 rfl ?_
  refine g_getI fl_X0_51 (bk_0 hr0) (by decide) rfl dX0_cells_1 ?_
  refine g_aload_n dX0_cells_4 0 rfl ?_
  refine g_getI fl_X0_41 (bk_0 hr0) (by decide) rfl dX0_cells_5 ?_
  refine g_imul dX0_cells_8 ?_
  exact g_ret dX0_cells_9 rfl rfl
set_option maxHeartbeats 4000000 in
set_option maxRecDepth 100000 in
theorem ok_X11_within (g : GG) (v0 : Int32) (v1 : Int32) (v2 : Int32)  (μ : Mm) : Ct g yX11_within cX11_within 3 (some (.boolean)) 1 (cvZp μ) [.int v0, .int v1, .int v2] μ (f_X11_within v0 v1 v2 μ) := by
  refine ct_Zp (by decide +kernel) (Nat.le_of_ble_eq_true rfl) (show Go g RX11 cX11_within 3 .ireturn 1 (cvZp μ) 0 [(0, .int v0), (1, .int v1), (2, .int v2)] [] μ (f_X11_within v0 v1 v2 μ) from ?_)
  unfold f_X11_within
  refine g_iload_n dX11_within_0 0 rfl ?_
  refine g_iload_n dX11_within_1 1 rfl ?_
  refine g_icmp_lt (tgt := 14) dX11_within_2 (by decide) (fun _ => ?_) (fun _ => ?_)
  · refine g_iconst dX11_within_14 (v := 0) (by decide) ?_
    exact g_ret dX11_within_15 rfl rfl
  · refine g_iload_n dX11_within_5 0 rfl ?_
    refine g_iload_n dX11_within_6 2 rfl ?_
    refine g_icmp_gt (tgt := 14) dX11_within_7 (by decide) (fun _ => ?_) (fun _ => ?_)
    · refine g_iconst dX11_within_14 (v := 0) (by decide) ?_
      exact g_ret dX11_within_15 rfl rfl
    · refine g_iconst dX11_within_10 (v := 1) (by decide) ?_
      refine g_goto (tgt := 15) dX11_within_11 (by decide) ?_
      exact g_ret dX11_within_15 rfl rfl
set_option maxHeartbeats 4000000 in
set_option maxRecDepth 100000 in
theorem ok_X0_hasCell (g : GG) (r0 : Nat) (v1 : Int32) (hr0 : Bk r0) (μ : Mm) : Ct g yX0_hasCell cX0_hasCell 2 (some (.boolean)) 2 (cvZp μ) [.ref (gb g + r0), .int v1] μ (f_X0_hasCell r0 v1 μ) := by
  refine ct_Zp (by decide +kernel) (Nat.le_of_ble_eq_true rfl) (show Go g RX0 cX0_hasCell 2 .ireturn 2 (cvZp μ) 0 [(0, .ref (gb g + r0)), (1, .int v1)] [] μ (f_X0_hasCell r0 v1 μ) from ?_)
  unfold f_X0_hasCell
  refine g_iload_n dX0_hasCell_0 1 rfl ?_
  refine g_iconst dX0_hasCell_1 (v := 0) (by decide) ?_
  refine g_aload_n dX0_hasCell_2 0 rfl ?_
  refine g_vIp [] [.int 0, .int v1] mw_X0_82 (ok_X0_cells g r0 hr0 μ) (by omega) (bk_0 hr0) (by decide) rfl rfl (Nat.le_of_ble_eq_true rfl) dX0_hasCell_3 (fun x1 _ => ?_)
  refine g_iconst dX0_hasCell_6 (v := 1) (by decide) ?_
  refine g_isub dX0_hasCell_7 ?_
  refine g_sZp [.int v1, .int 0, .int (x1 - (1 : Int32))] [] mw_X0_86 (ok_X11_within g v1 0 (x1 - (1 : Int32)) μ) (by omega) rfl rfl (Nat.le_of_ble_eq_true rfl) dX0_hasCell_8 (fun x2 _ => ?_)
  exact g_ret dX0_hasCell_11 rfl rfl
set_option maxHeartbeats 4000000 in
set_option maxRecDepth 100000 in
theorem ok_X0_hasAccount (g : GG) (r0 : Nat) (v1 : Int32) (hr0 : Bk r0) (μ : Mm) : Ct g yX0_hasAccount cX0_hasAccount 2 (some (.boolean)) 2 (cvZp μ) [.ref (gb g + r0), .int v1] μ (f_X0_hasAccount r0 v1 μ) := by
  refine ct_Zp (by decide +kernel) (Nat.le_of_ble_eq_true rfl) (show Go g RX0 cX0_hasAccount 2 .ireturn 2 (cvZp μ) 0 [(0, .ref (gb g + r0)), (1, .int v1)] [] μ (f_X0_hasAccount r0 v1 μ) from ?_)
  unfold f_X0_hasAccount
  refine g_iload_n dX0_hasAccount_0 1 rfl ?_
  refine g_iconst dX0_hasAccount_1 (v := 0) (by decide) ?_
  refine g_aload_n dX0_hasAccount_2 0 rfl ?_
  refine g_getI fl_X0_51 (bk_0 hr0) (by decide) rfl dX0_hasAccount_3 ?_
  refine g_iconst dX0_hasAccount_6 (v := 1) (by decide) ?_
  refine g_isub dX0_hasAccount_7 ?_
  refine g_sZp [.int v1, .int 0, .int ((mI μ r0 3) - (1 : Int32))] [] mw_X0_86 (ok_X11_within g v1 0 ((mI μ r0 3) - (1 : Int32)) μ) (by omega) rfl rfl (Nat.le_of_ble_eq_true rfl) dX0_hasAccount_8 (fun x1 _ => ?_)
  exact g_ret dX0_hasAccount_11 rfl rfl
set_option maxHeartbeats 4000000 in
set_option maxRecDepth 100000 in
theorem okL_X0_accountNamed_2 (g : GG) (F : Nat) (r0 : Nat) (v1 : Int64) (k : Option (Int32)) (μ : Mm) (hr0 : Bk r0) (hk : Go g RX0 cX0_accountNamed 4 .ireturn 1 (cvIp μ) 29 [] [] μ k) : ∀ (n : Nat) (v3 : Int32), Go g RX0 cX0_accountNamed 4 .ireturn 1 (cvIp μ) 2 [(0, .ref (gb g + r0)), (1, .long v1), (3, .int v3)] [] μ (L_X0_accountNamed_2 F r0 v1 k μ n v3) := by
  intro n
  induction n with
  | zero =>
    intro v3
    exact g_none
  | succ n ih =>
    intro v3
    rw [L_X0_accountNamed_2_s]
    refine g_iload_n dX0_accountNamed_2 2 rfl ?_
    refine g_aload_n dX0_accountNamed_3 0 rfl ?_
    refine g_getI fl_X0_51 (bk_0 hr0) (by decide) rfl dX0_accountNamed_4 ?_
    refine g_icmp_ge (tgt := 29) dX0_accountNamed_7 (by decide) (fun _ => ?_) (fun _ => ?_)
    · refine g_lv [] rfl ?_
      exact hk 
    · refine g_aload_n dX0_accountNamed_10 0 rfl ?_
      refine g_getR (b := (r0 + 7)) fl_X0_22 (bk_0 hr0) (by decide) rfl rfl dX0_accountNamed_11 ?_
      refine g_iload_n dX0_accountNamed_14 2 rfl ?_
      refine g_laload (bk_7 hr0) dX0_accountNamed_15 (fun x1 => ?_)
      refine g_lload_n dX0_accountNamed_16 1 rfl ?_
      refine g_lcmp dX0_accountNamed_17 ?_
      refine g_if_ne (tgt := 23) dX0_accountNamed_18 (by decide) (fun _ => ?_) (fun _ => ?_)
      · refine g_iinc dX0_accountNamed_23 2 rfl (v := (v3 + 1)) rfl (by decide) (lv' := [(3, .int (v3 + 1)), (0, .ref (gb g + r0)), (1, .long v1)]) rfl ?_
        refine g_goto (tgt := 2) dX0_accountNamed_26 (by decide) ?_
        refine g_lv [1, 2, 0] rfl ?_
        exact ih (v3 + 1)
      · refine g_iload_n dX0_accountNamed_21 2 rfl ?_
        exact g_ret dX0_accountNamed_22 rfl rfl
set_option maxHeartbeats 4000000 in
set_option maxRecDepth 100000 in
theorem ok_X0_accountNamed (g : GG) (F : Nat) (r0 : Nat) (v1 : Int64) (hr0 : Bk r0) (μ : Mm) : Ct g yX0_accountNamed cX0_accountNamed 4 (some (.int)) 1 (cvIp μ) [.ref (gb g + r0), .long v1] μ (f_X0_accountNamed F r0 v1 μ) := by
  refine ct_Ip (by decide +kernel) (Nat.le_of_ble_eq_true rfl) (show Go g RX0 cX0_accountNamed 4 .ireturn 1 (cvIp μ) 0 [(0, .ref (gb g + r0)), (1, .long v1)] [] μ (f_X0_accountNamed F r0 v1 μ) from ?_)
  unfold f_X0_accountNamed
  refine g_iconst dX0_accountNamed_0 (v := 0) (by decide) ?_
  refine g_istore_n dX0_accountNamed_1 rfl (by decide) (lv' := [(3, .int 0), (0, .ref (gb g + r0)), (1, .long v1)]) rfl ?_
  refine g_lv [1, 2, 0] rfl ?_
  refine okL_X0_accountNamed_2 g F r0 v1 _ μ hr0 ?_ F 0
  refine g_iconst dX0_accountNamed_29 (v := (-1)) (by decide) ?_
  exact g_ret dX0_accountNamed_30 rfl rfl
set_option maxHeartbeats 4000000 in
set_option maxRecDepth 100000 in
theorem ok_X0_rowOf (g : GG) (r0 : Nat) (v1 : Int32) (hr0 : Bk r0) (μ : Mm) : Ct g yX0_rowOf cX0_rowOf 2 (some (.int)) 1 (cvIp μ) [.ref (gb g + r0), .int v1] μ (f_X0_rowOf r0 v1 μ) := by
  refine ct_Ip (by decide +kernel) (Nat.le_of_ble_eq_true rfl) (show Go g RX0 cX0_rowOf 2 .ireturn 1 (cvIp μ) 0 [(0, .ref (gb g + r0)), (1, .int v1)] [] μ (f_X0_rowOf r0 v1 μ) from ?_)
  unfold f_X0_rowOf
  refine g_aload_n dX0_rowOf_0 0 rfl ?_
  refine g_getI fl_X0_41 (bk_0 hr0) (by decide) rfl dX0_rowOf_1 ?_
  refine g_if_le (tgt := 16) dX0_rowOf_4 (by decide) (fun _ => ?_) (fun _ => ?_)
  · refine g_iconst dX0_rowOf_16 (v := 0) (by decide) ?_
    exact g_ret dX0_rowOf_17 rfl rfl
  · refine g_iload_n dX0_rowOf_7 1 rfl ?_
    refine g_aload_n dX0_rowOf_8 0 rfl ?_
    refine g_getI fl_X0_41 (bk_0 hr0) (by decide) rfl dX0_rowOf_9 ?_
    refine g_idiv dX0_rowOf_12 ?_
    refine g_goto (tgt := 17) dX0_rowOf_13 (by decide) ?_
    exact g_ret dX0_rowOf_17 rfl rfl
set_option maxHeartbeats 4000000 in
set_option maxRecDepth 100000 in
theorem ok_X0_columnOf (g : GG) (r0 : Nat) (v1 : Int32) (hr0 : Bk r0) (μ : Mm) : Ct g yX0_columnOf cX0_columnOf 2 (some (.int)) 1 (cvIp μ) [.ref (gb g + r0), .int v1] μ (f_X0_columnOf r0 v1 μ) := by
  refine ct_Ip (by decide +kernel) (Nat.le_of_ble_eq_true rfl) (show Go g RX0 cX0_columnOf 2 .ireturn 1 (cvIp μ) 0 [(0, .ref (gb g + r0)), (1, .int v1)] [] μ (f_X0_columnOf r0 v1 μ) from ?_)
  unfold f_X0_columnOf
  refine g_aload_n dX0_columnOf_0 0 rfl ?_
  refine g_getI fl_X0_41 (bk_0 hr0) (by decide) rfl dX0_columnOf_1 ?_
  refine g_if_le (tgt := 16) dX0_columnOf_4 (by decide) (fun _ => ?_) (fun _ => ?_)
  · refine g_iconst dX0_columnOf_16 (v := 0) (by decide) ?_
    exact g_ret dX0_columnOf_17 rfl rfl
  · refine g_iload_n dX0_columnOf_7 1 rfl ?_
    refine g_aload_n dX0_columnOf_8 0 rfl ?_
    refine g_getI fl_X0_41 (bk_0 hr0) (by decide) rfl dX0_columnOf_9 ?_
    refine g_irem dX0_columnOf_12 ?_
    refine g_goto (tgt := 17) dX0_columnOf_13 (by decide) ?_
    exact g_ret dX0_columnOf_17 rfl rfl
set_option maxHeartbeats 4000000 in
set_option maxRecDepth 100000 in
theorem ok_X0_gone (g : GG) (r0 : Nat) (v1 : Int32) (v2 : Int32) (hr0 : Bk r0) (μ : Mm) : Ct g yX0_gone cX0_gone 5 (some (.int)) 1 (cvIp μ) [.ref (gb g + r0), .int v1, .int v2] μ (f_X0_gone r0 v1 v2 μ) := by
  refine ct_Ip (by decide +kernel) (Nat.le_of_ble_eq_true rfl) (show Go g RX0 cX0_gone 5 .ireturn 1 (cvIp μ) 0 [(0, .ref (gb g + r0)), (1, .int v1), (2, .int v2)] [] μ (f_X0_gone r0 v1 v2 μ) from ?_)
  unfold f_X0_gone
  refine g_aload_n dX0_gone_0 0 rfl ?_
  refine g_getI fl_X0_51 (bk_0 hr0) (by decide) rfl dX0_gone_1 ?_
  refine g_aload_n dX0_gone_4 0 rfl ?_
  refine g_getI fl_X0_41 (bk_0 hr0) (by decide) rfl dX0_gone_5 ?_
  refine g_imul dX0_gone_8 ?_
  refine g_istore_n dX0_gone_9 rfl (by decide) (lv' := [(3, .int ((mI μ r0 3) * (mI μ r0 0))), (0, .ref (gb g + r0)), (1, .int v1), (2, .int v2)]) rfl ?_
  refine g_iload_n dX0_gone_10 2 rfl ?_
  refine g_if_lt (tgt := 26) dX0_gone_11 (by decide) (fun _ => ?_) (fun _ => ?_)
  · refine g_iconst dX0_gone_26 (v := (-1)) (by decide) ?_
    exact g_ret dX0_gone_27 rfl rfl
  · refine g_iload_n dX0_gone_14 2 rfl ?_
    refine g_iload_n dX0_gone_15 0 rfl ?_
    refine g_icmp_ge (tgt := 26) dX0_gone_16 (by decide) (fun _ => ?_) (fun _ => ?_)
    · refine g_iconst dX0_gone_26 (v := (-1)) (by decide) ?_
      exact g_ret dX0_gone_27 rfl rfl
    · refine g_aload_n dX0_gone_19 1 rfl ?_
      refine g_getI fl_X0_41 (bk_0 hr0) (by decide) rfl dX0_gone_20 ?_
      refine g_if_gt (tgt := 28) dX0_gone_23 (by decide) (fun _ => ?_) (fun _ => ?_)
      · refine g_iload_n dX0_gone_28 2 rfl ?_
        refine g_aload_n dX0_gone_29 1 rfl ?_
        refine g_getI fl_X0_41 (bk_0 hr0) (by decide) rfl dX0_gone_30 ?_
        refine g_irem dX0_gone_33 ?_
        refine g_istore dX0_gone_34 (by decide) (lv' := [(4, .int (v1 - v1 / (mI μ r0 0) * (mI μ r0 0))), (3, .int ((mI μ r0 3) * (mI μ r0 0))), (0, .ref (gb g + r0)), (1, .int v1), (2, .int v2)]) rfl ?_
        refine g_iload_n dX0_gone_36 4 rfl ?_
        refine g_if (fun hs0 => ?_) (fun hs0 => ?_)
        · refine g_tswIn 0 (tgt := 72) (off := 35) dX0_gone_37 hs0 (by decide) (by decide) (by decide) (by decide) ?_
          refine g_iload_n dX0_gone_72 3 rfl ?_
          refine g_aload_n dX0_gone_73 2 rfl ?_
          refine g_getI fl_X0_41 (bk_0 hr0) (by decide) rfl dX0_gone_74 ?_
          have hJ3 : ∀ (w2 : Int32), w2 = (if v1 < (mI μ r0 0) then ((-1) : Int32) else (v1 - (mI μ r0 0))) → Go g RX0 cX0_gone 5 .ireturn 1 (cvIp μ) 90 [] [.int w2] μ (some (if v1 < (mI μ r0 0) then ((-1) : Int32) else (v1 - (mI μ r0 0)))) := by
            intro w2 ew2
            subst ew2
            exact g_ret dX0_gone_90 rfl rfl
          refine g_same (g_icmp_lt (tgt := 89) dX0_gone_77 (by decide) (fun c1 => ?_) (fun c1 => ?_))
          · refine g_iconst dX0_gone_89 (v := (-1)) (by decide) ?_
            refine g_lv [] rfl ?_
            exact hJ3 _ (by rw [if_pos c1])
          · refine g_iload_n dX0_gone_80 3 rfl ?_
            refine g_aload_n dX0_gone_81 2 rfl ?_
            refine g_getI fl_X0_41 (bk_0 hr0) (by decide) rfl dX0_gone_82 ?_
            refine g_isub dX0_gone_85 ?_
            refine g_goto (tgt := 90) dX0_gone_86 (by decide) ?_
            refine g_lv [] rfl ?_
            exact hJ3 _ (by rw [if_neg c1])
        · refine g_if (fun hs1 => ?_) (fun hs1 => ?_)
          · refine g_tswIn 1 (tgt := 91) (off := 54) dX0_gone_37 hs1 (by decide) (by decide) (by decide) (by decide) ?_
            refine g_iload_n dX0_gone_91 3 rfl ?_
            refine g_aload_n dX0_gone_92 2 rfl ?_
            refine g_getI fl_X0_41 (bk_0 hr0) (by decide) rfl dX0_gone_93 ?_
            refine g_iadd dX0_gone_96 ?_
            refine g_iload_n dX0_gone_97 1 rfl ?_
            have hJ6 : ∀ (w5 : Int32), w5 = (if ((mI μ r0 3) * (mI μ r0 0)) ≤ (v1 + (mI μ r0 0)) then ((-1) : Int32) else (v1 + (mI μ r0 0))) → Go g RX0 cX0_gone 5 .ireturn 1 (cvIp μ) 111 [] [.int w5] μ (some (if ((mI μ r0 3) * (mI μ r0 0)) ≤ (v1 + (mI μ r0 0)) then ((-1) : Int32) else (v1 + (mI μ r0 0)))) := by
              intro w5 ew5
              subst ew5
              exact g_ret dX0_gone_111 rfl rfl
            refine g_same (g_icmp_ge (tgt := 110) dX0_gone_98 (by decide) (fun c4 => ?_) (fun c4 => ?_))
            · refine g_iconst dX0_gone_110 (v := (-1)) (by decide) ?_
              refine g_lv [] rfl ?_
              exact hJ6 _ (by rw [if_pos c4])
            · refine g_iload_n dX0_gone_101 3 rfl ?_
              refine g_aload_n dX0_gone_102 2 rfl ?_
              refine g_getI fl_X0_41 (bk_0 hr0) (by decide) rfl dX0_gone_103 ?_
              refine g_iadd dX0_gone_106 ?_
              refine g_goto (tgt := 111) dX0_gone_107 (by decide) ?_
              refine g_lv [] rfl ?_
              exact hJ6 _ (by rw [if_neg c4])
          · refine g_if (fun hs2 => ?_) (fun hs2 => ?_)
            · refine g_tswIn 2 (tgt := 112) (off := 75) dX0_gone_37 hs2 (by decide) (by decide) (by decide) (by decide) ?_
              refine g_iload dX0_gone_112 0 rfl ?_
              have hJ9 : ∀ (w8 : Int32), w8 = (if (v1 - v1 / (mI μ r0 0) * (mI μ r0 0)) ≤ 0 then ((-1) : Int32) else (v1 - (1 : Int32))) → Go g RX0 cX0_gone 5 .ireturn 1 (cvIp μ) 124 [] [.int w8] μ (some (if (v1 - v1 / (mI μ r0 0) * (mI μ r0 0)) ≤ 0 then ((-1) : Int32) else (v1 - (1 : Int32)))) := by
                intro w8 ew8
                subst ew8
                exact g_ret dX0_gone_124 rfl rfl
              refine g_same (g_if_le (tgt := 123) dX0_gone_114 (by decide) (fun c7 => ?_) (fun c7 => ?_))
              · refine g_iconst dX0_gone_123 (v := (-1)) (by decide) ?_
                refine g_lv [] rfl ?_
                exact hJ9 _ (by rw [if_pos c7])
              · refine g_iload_n dX0_gone_117 3 rfl ?_
                refine g_iconst dX0_gone_118 (v := 1) (by decide) ?_
                refine g_isub dX0_gone_119 ?_
                refine g_goto (tgt := 124) dX0_gone_120 (by decide) ?_
                refine g_lv [] rfl ?_
                exact hJ9 _ (by rw [if_neg c7])
            · refine g_if (fun hs3 => ?_) (fun hs3 => ?_)
              · refine g_tswIn 3 (tgt := 125) (off := 88) dX0_gone_37 hs3 (by decide) (by decide) (by decide) (by decide) ?_
                refine g_iload dX0_gone_125 0 rfl ?_
                refine g_aload_n dX0_gone_127 2 rfl ?_
                refine g_getI fl_X0_41 (bk_0 hr0) (by decide) rfl dX0_gone_128 ?_
                refine g_iconst dX0_gone_131 (v := 1) (by decide) ?_
                refine g_isub dX0_gone_132 ?_
                have hJ12 : ∀ (w11 : Int32), w11 = (if ((mI μ r0 0) - (1 : Int32)) ≤ (v1 - v1 / (mI μ r0 0) * (mI μ r0 0)) then ((-1) : Int32) else (v1 + (1 : Int32))) → Go g RX0 cX0_gone 5 .ireturn 1 (cvIp μ) 143 [] [.int w11] μ (some (if ((mI μ r0 0) - (1 : Int32)) ≤ (v1 - v1 / (mI μ r0 0) * (mI μ r0 0)) then ((-1) : Int32) else (v1 + (1 : Int32)))) := by
                  intro w11 ew11
                  subst ew11
                  exact g_ret dX0_gone_143 rfl rfl
                refine g_same (g_icmp_ge (tgt := 142) dX0_gone_133 (by decide) (fun c10 => ?_) (fun c10 => ?_))
                · refine g_iconst dX0_gone_142 (v := (-1)) (by decide) ?_
                  refine g_lv [] rfl ?_
                  exact hJ12 _ (by rw [if_pos c10])
                · refine g_iload_n dX0_gone_136 3 rfl ?_
                  refine g_iconst dX0_gone_137 (v := 1) (by decide) ?_
                  refine g_iadd dX0_gone_138 ?_
                  refine g_goto (tgt := 143) dX0_gone_139 (by decide) ?_
                  refine g_lv [] rfl ?_
                  exact hJ12 _ (by rw [if_neg c10])
              · refine g_if (fun hs4 => ?_) (fun hs4 => ?_)
                · refine g_tswIn 4 (tgt := 144) (off := 107) dX0_gone_37 hs4 (by decide) (by decide) (by decide) (by decide) ?_
                  refine g_iload_n dX0_gone_144 3 rfl ?_
                  exact g_ret dX0_gone_145 rfl rfl
                · refine g_tswOut (tgt := 146) dX0_gone_37 (by have n0 := lv_neT (a := 0) hs0 (by decide); have n1 := lv_neT (a := 1) hs1 (by decide); have n2 := lv_neT (a := 2) hs2 (by decide); have n3 := lv_neT (a := 3) hs3 (by decide); have n4 := lv_neT (a := 4) hs4 (by decide); omega) (by decide) ?_
                  refine g_iconst dX0_gone_146 (v := (-1)) (by decide) ?_
                  exact g_ret dX0_gone_147 rfl rfl
      · refine g_iconst dX0_gone_26 (v := (-1)) (by decide) ?_
        exact g_ret dX0_gone_27 rfl rfl
set_option maxHeartbeats 4000000 in
set_option maxRecDepth 100000 in
theorem ok_X0_stepsBetween (g : GG) (r0 : Nat) (v1 : Int32) (v2 : Int32) (hr0 : Bk r0) (μ : Mm) : Ct g yX0_stepsBetween cX0_stepsBetween 3 (some (.int)) 2 (cvIp μ) [.ref (gb g + r0), .int v1, .int v2] μ (f_X0_stepsBetween r0 v1 v2 μ) := by
  refine ct_Ip (by decide +kernel) (Nat.le_of_ble_eq_true rfl) (show Go g RX0 cX0_stepsBetween 3 .ireturn 2 (cvIp μ) 0 [(0, .ref (gb g + r0)), (1, .int v1), (2, .int v2)] [] μ (f_X0_stepsBetween r0 v1 v2 μ) from ?_)
  unfold f_X0_stepsBetween
  refine g_aload_n dX0_stepsBetween_0 0 rfl ?_
  refine g_iload_n dX0_stepsBetween_1 1 rfl ?_
  refine g_vIp [.int v1] [] mw_X0_90 (ok_X0_rowOf g r0 v1 hr0 μ) (by omega) (bk_0 hr0) (by decide) rfl rfl (Nat.le_of_ble_eq_true rfl) dX0_stepsBetween_2 (fun x1 _ => ?_)
  refine g_aload_n dX0_stepsBetween_5 0 rfl ?_
  refine g_iload_n dX0_stepsBetween_6 2 rfl ?_
  refine g_vIp [.int v2] [.int x1] mw_X0_90 (ok_X0_rowOf g r0 v2 hr0 μ) (by omega) (bk_0 hr0) (by decide) rfl rfl (Nat.le_of_ble_eq_true rfl) dX0_stepsBetween_7 (fun x2 _ => ?_)
  refine g_isub dX0_stepsBetween_10 ?_
  refine g_mabs mw_X0_94 (by omega) (Nat.le_of_ble_eq_true rfl) dX0_stepsBetween_11 (fun x3 => ?_)
  refine g_aload_n dX0_stepsBetween_14 0 rfl ?_
  refine g_iload_n dX0_stepsBetween_15 1 rfl ?_
  refine g_vIp [.int v1] [.int x3] mw_X0_99 (ok_X0_columnOf g r0 v1 hr0 μ) (by omega) (bk_0 hr0) (by decide) rfl rfl (Nat.le_of_ble_eq_true rfl) dX0_stepsBetween_16 (fun x4 _ => ?_)
  refine g_aload_n dX0_stepsBetween_19 0 rfl ?_
  refine g_iload_n dX0_stepsBetween_20 2 rfl ?_
  refine g_vIp [.int v2] [.int x4, .int x3] mw_X0_99 (ok_X0_columnOf g r0 v2 hr0 μ) (by omega) (bk_0 hr0) (by decide) rfl rfl (Nat.le_of_ble_eq_true rfl) dX0_stepsBetween_21 (fun x5 _ => ?_)
  refine g_isub dX0_stepsBetween_24 ?_
  refine g_mabs mw_X0_94 (by omega) (Nat.le_of_ble_eq_true rfl) dX0_stepsBetween_25 (fun x6 => ?_)
  refine g_iadd dX0_stepsBetween_28 ?_
  exact g_ret dX0_stepsBetween_29 rfl rfl
set_option maxHeartbeats 4000000 in
set_option maxRecDepth 100000 in
theorem okL_X0_bearing_2 (g : GG) (F : Nat) (r0 : Nat) (r1 : Nat) (v2 : Int32) (k : Option (Int32)) (μ : Mm) (hr0 : Bk r0) (hr1 : shp r1 = (0, 25)) (hk : Go g RX0 cX0_bearing 6 .ireturn 2 (cvIp μ) 87 [] [] μ k) : ∀ (n : Nat) (v3 : Int32), Go g RX0 cX0_bearing 6 .ireturn 2 (cvIp μ) 2 [(0, .ref (gb g + r0)), (1, .ref (gb g + r1)), (2, .int v2), (3, .int v3)] [] μ (L_X0_bearing_2 F r0 r1 v2 k μ n v3) := by
  intro n
  induction n with
  | zero =>
    intro v3
    exact g_none
  | succ n ih =>
    intro v3
    rw [L_X0_bearing_2_s]
    refine g_iload_n dX0_bearing_2 3 rfl ?_
    refine g_aload_n dX0_bearing_3 0 rfl ?_
    refine g_getR (b := (r0 + 1)) fl_X0_12 (bk_0 hr0) (by decide) rfl rfl dX0_bearing_4 ?_
    refine g_getI fl_X0_63 (bk_1 hr0) (by decide) rfl dX0_bearing_7 ?_
    refine g_icmp_ge (tgt := 87) dX0_bearing_10 (by decide) (fun _ => ?_) (fun _ => ?_)
    · refine g_lv [] rfl ?_
      exact hk 
    · refine g_aload_n dX0_bearing_13 0 rfl ?_
      refine g_getR (b := (r0 + 1)) fl_X0_12 (bk_0 hr0) (by decide) rfl rfl dX0_bearing_14 ?_
      refine g_getR (b := (r0 + 2)) fl_X0_102 (bk_1 hr0) (by decide) rfl rfl dX0_bearing_17 ?_
      refine g_iload_n dX0_bearing_20 3 rfl ?_
      refine g_iaload (bk_2 hr0) dX0_bearing_21 (fun x1 => ?_)
      refine g_aload_n dX0_bearing_22 1 rfl ?_
      refine g_iload_n dX0_bearing_23 2 rfl ?_
      refine g_iaload hr1 dX0_bearing_24 (fun x2 => ?_)
      refine g_icmp_ne (tgt := 81) dX0_bearing_25 (by decide) (fun _ => ?_) (fun _ => ?_)
      · refine g_iinc dX0_bearing_81 3 rfl (v := (v3 + 1)) rfl (by decide) (lv' := [(3, .int (v3 + 1)), (0, .ref (gb g + r0)), (1, .ref (gb g + r1)), (2, .int v2)]) rfl ?_
        refine g_goto (tgt := 2) dX0_bearing_84 (by decide) ?_
        refine g_lv [1, 2, 3, 0] rfl ?_
        exact ih (v3 + 1)
      · refine g_aload_n dX0_bearing_28 0 rfl ?_
        refine g_getR (b := (r0 + 1)) fl_X0_12 (bk_0 hr0) (by decide) rfl rfl dX0_bearing_29 ?_
        refine g_getR (b := (r0 + 4)) fl_X0_105 (bk_1 hr0) (by decide) rfl rfl dX0_bearing_32 ?_
        refine g_iload_n dX0_bearing_35 3 rfl ?_
        refine g_iaload (bk_4 hr0) dX0_bearing_36 (fun x3 => ?_)
        refine g_istore dX0_bearing_37 (by decide) (lv' := [(4, .int x3), (0, .ref (gb g + r0)), (1, .ref (gb g + r1)), (2, .int v2), (3, .int v3)]) rfl ?_
        refine g_aload_n dX0_bearing_39 1 rfl ?_
        refine g_iload_n dX0_bearing_40 3 rfl ?_
        refine g_static (Or.inl rfl) fn_X0_108 dX0_bearing_41 ?_
        refine g_iload dX0_bearing_44 0 rfl ?_
        refine g_wayld dX0_bearing_46 (fun x4 => ?_)
        refine g_vIp [.int v2, .int x4] [] mw_X0_111 (ok_X0_gone g r0 v2 x4 hr0 μ) (by omega) (bk_0 hr0) (by decide) rfl rfl (Nat.le_of_ble_eq_true rfl) dX0_bearing_47 (fun x5 _ => ?_)
        refine g_istore dX0_bearing_50 (by decide) (lv' := [(5, .int x5), (4, .int x3), (0, .ref (gb g + r0)), (1, .ref (gb g + r1)), (2, .int v2), (3, .int v3)]) rfl ?_
        refine g_iload dX0_bearing_52 1 rfl ?_
        refine g_if_eq (tgt := 79) dX0_bearing_54 (by decide) (fun _ => ?_) (fun _ => ?_)
        · refine g_iload_n dX0_bearing_79 5 rfl ?_
          exact g_ret dX0_bearing_80 rfl rfl
        · refine g_iload dX0_bearing_57 0 rfl ?_
          refine g_iconst dX0_bearing_59 (v := (-1)) (by decide) ?_
          refine g_icmp_eq (tgt := 81) dX0_bearing_60 (by decide) (fun _ => ?_) (fun _ => ?_)
          · refine g_iinc dX0_bearing_81 5 rfl (v := (v3 + 1)) rfl (by decide) (lv' := [(3, .int (v3 + 1)), (5, .int x5), (4, .int x3), (0, .ref (gb g + r0)), (1, .ref (gb g + r1)), (2, .int v2)]) rfl ?_
            refine g_goto (tgt := 2) dX0_bearing_84 (by decide) ?_
            refine g_lv [3, 4, 5, 0] rfl ?_
            exact ih (v3 + 1)
          · refine g_aload_n dX0_bearing_63 3 rfl ?_
            refine g_iload dX0_bearing_64 0 rfl ?_
            refine g_iaload hr1 dX0_bearing_66 (fun x6 => ?_)
            refine g_aload_n dX0_bearing_67 2 rfl ?_
            refine g_getR (b := (r0 + 1)) fl_X0_12 (bk_0 hr0) (by decide) rfl rfl dX0_bearing_68 ?_
            refine g_getR (b := (r0 + 5)) fl_X0_115 (bk_1 hr0) (by decide) rfl rfl dX0_bearing_71 ?_
            refine g_iload_n dX0_bearing_74 5 rfl ?_
            refine g_iaload (bk_5 hr0) dX0_bearing_75 (fun x7 => ?_)
            refine g_icmp_ne (tgt := 81) dX0_bearing_76 (by decide) (fun _ => ?_) (fun _ => ?_)
            · refine g_iinc dX0_bearing_81 5 rfl (v := (v3 + 1)) rfl (by decide) (lv' := [(3, .int (v3 + 1)), (5, .int x5), (4, .int x3), (0, .ref (gb g + r0)), (1, .ref (gb g + r1)), (2, .int v2)]) rfl ?_
              refine g_goto (tgt := 2) dX0_bearing_84 (by decide) ?_
              refine g_lv [3, 4, 5, 0] rfl ?_
              exact ih (v3 + 1)
            · refine g_iload_n dX0_bearing_79 5 rfl ?_
              exact g_ret dX0_bearing_80 rfl rfl
set_option maxHeartbeats 4000000 in
set_option maxRecDepth 100000 in
theorem ok_X0_bearing (g : GG) (F : Nat) (r0 : Nat) (r1 : Nat) (v2 : Int32) (hr0 : Bk r0) (hr1 : shp r1 = (0, 25)) (μ : Mm) : Ct g yX0_bearing cX0_bearing 6 (some (.int)) 2 (cvIp μ) [.ref (gb g + r0), .ref (gb g + r1), .int v2] μ (f_X0_bearing F r0 r1 v2 μ) := by
  refine ct_Ip (by decide +kernel) (Nat.le_of_ble_eq_true rfl) (show Go g RX0 cX0_bearing 6 .ireturn 2 (cvIp μ) 0 [(0, .ref (gb g + r0)), (1, .ref (gb g + r1)), (2, .int v2)] [] μ (f_X0_bearing F r0 r1 v2 μ) from ?_)
  unfold f_X0_bearing
  refine g_iconst dX0_bearing_0 (v := 0) (by decide) ?_
  refine g_istore_n dX0_bearing_1 rfl (by decide) (lv' := [(3, .int 0), (0, .ref (gb g + r0)), (1, .ref (gb g + r1)), (2, .int v2)]) rfl ?_
  refine g_lv [1, 2, 3, 0] rfl ?_
  refine okL_X0_bearing_2 g F r0 r1 v2 _ μ hr0 hr1 ?_ F 0
  refine g_iconst dX0_bearing_87 (v := (-1)) (by decide) ?_
  exact g_ret dX0_bearing_88 rfl rfl
set_option maxHeartbeats 4000000 in
set_option maxRecDepth 100000 in
theorem ok_X0_drifted (g : GG) (F : Nat) (r0 : Nat) (r1 : Nat) (v2 : Int32) (hr0 : Bk r0) (hr1 : shp r1 = (0, 25)) (μ : Mm) : Ct g yX0_drifted cX0_drifted 4 (some (.int)) 3 (cvIp μ) [.ref (gb g + r0), .ref (gb g + r1), .int v2] μ (f_X0_drifted F r0 r1 v2 μ) := by
  refine ct_Ip (by decide +kernel) (Nat.le_of_ble_eq_true rfl) (show Go g RX0 cX0_drifted 4 .ireturn 3 (cvIp μ) 0 [(0, .ref (gb g + r0)), (1, .ref (gb g + r1)), (2, .int v2)] [] μ (f_X0_drifted F r0 r1 v2 μ) from ?_)
  unfold f_X0_drifted
  refine g_aload_n dX0_drifted_0 0 rfl ?_
  refine g_aload_n dX0_drifted_1 1 rfl ?_
  refine g_iload_n dX0_drifted_2 2 rfl ?_
  refine g_vIp [.ref (gb g + r1), .int v2] [] mw_X0_118 (ok_X0_bearing g F r0 r1 v2 hr0 hr1 μ) (by omega) (bk_0 hr0) (by decide) rfl rfl (Nat.le_of_ble_eq_true rfl) dX0_drifted_3 (fun x1 _ => ?_)
  refine g_istore_n dX0_drifted_6 rfl (by decide) (lv' := [(3, .int x1), (0, .ref (gb g + r0)), (1, .ref (gb g + r1)), (2, .int v2)]) rfl ?_
  refine g_iload_n dX0_drifted_7 0 rfl ?_
  refine g_iconst dX0_drifted_8 (v := (-1)) (by decide) ?_
  refine g_icmp_ne (tgt := 18) dX0_drifted_9 (by decide) (fun _ => ?_) (fun _ => ?_)
  · refine g_aload_n dX0_drifted_18 1 rfl ?_
    refine g_getR (b := (r0 + 1)) fl_X0_12 (bk_0 hr0) (by decide) rfl rfl dX0_drifted_19 ?_
    refine g_getR (b := (r0 + 3)) fl_X0_122 (bk_1 hr0) (by decide) rfl rfl dX0_drifted_22 ?_
    refine g_iload_n dX0_drifted_25 0 rfl ?_
    refine g_iaload (bk_3 hr0) dX0_drifted_26 (fun x3 => ?_)
    exact g_ret dX0_drifted_27 rfl rfl
  · refine g_aload_n dX0_drifted_12 2 rfl ?_
    refine g_iload_n dX0_drifted_13 3 rfl ?_
    refine g_iaload hr1 dX0_drifted_14 (fun x4 => ?_)
    refine g_goto (tgt := 27) dX0_drifted_15 (by decide) ?_
    exact g_ret dX0_drifted_27 rfl rfl
set_option maxHeartbeats 4000000 in
set_option maxRecDepth 100000 in
theorem okL_X3_touched_4 (g : GG) (F : Nat) (r0 : Nat) (k : Int32 → Option (Int32)) (μ : Mm) (hr0 : Lw r0) (hk : ∀ (v1 : Int32), Go g RX3 cX3_touched 3 .ireturn 1 (cvIp μ) 29 [(1, .int v1)] [] μ (k v1)) : ∀ (n : Nat) (v1 : Int32) (v2 : Int32), Go g RX3 cX3_touched 3 .ireturn 1 (cvIp μ) 4 [(0, .ref (gb g + r0)), (1, .int v1), (2, .int v2)] [] μ (L_X3_touched_4 F r0 k μ n v1 v2) := by
  intro n
  induction n with
  | zero =>
    intro v1 v2
    exact g_none
  | succ n ih =>
    intro v1 v2
    rw [L_X3_touched_4_s]
    refine g_iload_n dX3_touched_4 2 rfl ?_
    refine g_aload_n dX3_touched_5 0 rfl ?_
    refine g_getI fl_X3_24 (lw_0 hr0) (by decide) rfl dX3_touched_6 ?_
    refine g_icmp_ge (tgt := 29) dX3_touched_9 (by decide) (fun _ => ?_) (fun _ => ?_)
    · refine g_lv [1] rfl ?_
      exact hk v1
    · refine g_iload_n dX3_touched_12 1 rfl ?_
      refine g_iconst dX3_touched_13 (v := 1) (by decide) ?_
      refine g_aload_n dX3_touched_14 0 rfl ?_
      refine g_getR (b := (r0 + 1)) fl_X3_9 (lw_0 hr0) (by decide) rfl rfl dX3_touched_15 ?_
      refine g_iload_n dX3_touched_18 2 rfl ?_
      refine g_iaload (lw_1 hr0) dX3_touched_19 (fun x1 => ?_)
      refine g_ishl dX3_touched_20 ?_
      refine g_ior dX3_touched_21 ?_
      refine g_istore_n dX3_touched_22 rfl (by decide) (lv' := [(1, .int (v1 ||| ((1 : Int32) <<< (x1 &&& 31)))), (0, .ref (gb g + r0)), (2, .int v2)]) rfl ?_
      refine g_iinc dX3_touched_23 2 rfl (v := (v2 + 1)) rfl (by decide) (lv' := [(2, .int (v2 + 1)), (1, .int (v1 ||| ((1 : Int32) <<< (x1 &&& 31)))), (0, .ref (gb g + r0))]) rfl ?_
      refine g_goto (tgt := 4) dX3_touched_26 (by decide) ?_
      refine g_lv [2, 1, 0] rfl ?_
      exact ih (v1 ||| ((1 : Int32) <<< (x1 &&& 31))) (v2 + 1)
set_option maxHeartbeats 4000000 in
set_option maxRecDepth 100000 in
theorem ok_X3_touched (g : GG) (F : Nat) (r0 : Nat) (hr0 : Lw r0) (μ : Mm) : Ct g yX3_touched cX3_touched 3 (some (.int)) 1 (cvIp μ) [.ref (gb g + r0)] μ (f_X3_touched F r0 μ) := by
  refine ct_Ip (by decide +kernel) (Nat.le_of_ble_eq_true rfl) (show Go g RX3 cX3_touched 3 .ireturn 1 (cvIp μ) 0 [(0, .ref (gb g + r0))] [] μ (f_X3_touched F r0 μ) from ?_)
  unfold f_X3_touched
  refine g_iconst dX3_touched_0 (v := 0) (by decide) ?_
  refine g_istore_n dX3_touched_1 rfl (by decide) (lv' := [(1, .int 0), (0, .ref (gb g + r0))]) rfl ?_
  refine g_iconst dX3_touched_2 (v := 0) (by decide) ?_
  refine g_istore_n dX3_touched_3 rfl (by decide) (lv' := [(2, .int 0), (1, .int 0), (0, .ref (gb g + r0))]) rfl ?_
  refine g_lv [2, 1, 0] rfl ?_
  refine okL_X3_touched_4 g F r0 _ μ hr0 (fun u2 => ?_) F 0 0
  refine g_iload_n dX3_touched_29 0 rfl ?_
  exact g_ret dX3_touched_30 rfl rfl
set_option maxHeartbeats 4000000 in
set_option maxRecDepth 100000 in
theorem okL_X0_drift_15 (g : GG) (F : Nat) (r0 : Nat) (r1 : Nat) (r2 : Nat) (r3 : Nat) (v4 : Int32) (k : Int32 → Mm → Option (Bool × Mm)) (hr0 : Bk r0) (hr1 : shp r1 = (0, 25)) (hr2 : shp r2 = (0, 25)) (hr3 : shp r3 = (0, 25)) (hk : ∀ (v5 : Int32) (μ : Mm), Go g RX0 cX0_drift 9 .ireturn 3 cvZ 124 [(5, .int v5)] [] μ (k v5 μ)) : ∀ (n : Nat) (v5 : Int32) (v6 : Int32) (μ : Mm), Go g RX0 cX0_drift 9 .ireturn 3 cvZ 15 [(0, .ref (gb g + r0)), (1, .ref (gb g + r1)), (2, .ref (gb g + r2)), (3, .ref (gb g + r3)), (4, .int v4), (5, .int v5), (6, .int v6)] [] μ (L_X0_drift_15 F r0 r1 r2 r3 v4 k n v5 v6 μ) := by
  intro n
  induction n with
  | zero =>
    intro v5 v6 μ
    exact g_none
  | succ n ih =>
    intro v5 v6 μ
    rw [L_X0_drift_15_s]
    refine g_iload dX0_drift_15 6 rfl ?_
    refine g_aload_n dX0_drift_17 0 rfl ?_
    refine g_vIp [] [.int v6] mw_X0_82 (ok_X0_cells g r0 hr0 μ) (by omega) (bk_0 hr0) (by decide) rfl rfl (Nat.le_of_ble_eq_true rfl) dX0_drift_18 (fun x2 _ => ?_)
    refine g_icmp_ge (tgt := 124) dX0_drift_21 (by decide) (fun _ => ?_) (fun _ => ?_)
    · refine g_lv [5] rfl ?_
      exact hk v5 μ
    · refine g_aload_n dX0_drift_24 2 rfl ?_
      refine g_iload dX0_drift_25 6 rfl ?_
      refine g_iaload hr2 dX0_drift_27 (fun x3 => ?_)
      refine g_jn (fun (a6 : Int32) oo => Go g RX0 cX0_drift 9 .ireturn 3 cvZ 48 [(0, .ref (gb g + r0)), (1, .ref (gb g + r1)), (2, .ref (gb g + r2)), (3, .ref (gb g + r3)), (4, .int v4), (5, .int v5), (6, .int v6)] [.int a6] μ oo) (fun a6 => ?_) (fun K5 hF25 => ?_)
      · refine g_istore dX0_drift_48 (by decide) (lv' := [(7, .int a6), (0, .ref (gb g + r0)), (1, .ref (gb g + r1)), (2, .ref (gb g + r2)), (3, .ref (gb g + r3)), (4, .int v4), (5, .int v5), (6, .int v6)]) rfl ?_
        refine g_iload dX0_drift_50 0 rfl ?_
        refine g_jn (fun (a9 : Int32) oo => Go g RX0 cX0_drift 9 .ireturn 3 cvZ 66 [(0, .ref (gb g + r0)), (1, .ref (gb g + r1)), (2, .ref (gb g + r2)), (3, .ref (gb g + r3)), (4, .int v4), (5, .int v5), (6, .int v6)] [.int a9] μ oo) (fun a9 => ?_) (fun K8 hF23 => ?_)
        · refine g_istore dX0_drift_66 (by decide) (lv' := [(8, .int a9), (0, .ref (gb g + r0)), (1, .ref (gb g + r1)), (2, .ref (gb g + r2)), (3, .ref (gb g + r3)), (4, .int v4), (5, .int v5), (6, .int v6)]) rfl ?_
          refine g_aload_n dX0_drift_68 4 rfl ?_
          refine g_iload dX0_drift_69 7 rfl ?_
          refine g_iload dX0_drift_71 0 rfl ?_
          refine g_iconst dX0_drift_73 (v := (-1)) (by decide) ?_
          refine g_jn (fun (a12 : Int32) oo => Go g RX0 cX0_drift 9 .ireturn 3 cvZ 94 [(0, .ref (gb g + r0)), (1, .ref (gb g + r1)), (2, .ref (gb g + r2)), (3, .ref (gb g + r3)), (4, .int v4), (5, .int v5), (6, .int v6)] [.int a12, .int v6, .ref (gb g + r3)] μ oo) (fun a12 => ?_) (fun K11 hF20 => ?_)
          · refine g_iastore hr3 dX0_drift_94 (fun μ13 => ?_)
            refine g_iload dX0_drift_95 5 rfl ?_
            refine g_if_ne (tgt := 111) dX0_drift_97 (by decide) (fun _ => ?_) (fun _ => ?_)
            · refine g_iconst dX0_drift_111 (v := 1) (by decide) ?_
              refine g_goto (tgt := 116) dX0_drift_112 (by decide) ?_
              refine g_istore dX0_drift_116 (by decide) (lv' := [(5, .int 1), (0, .ref (gb g + r0)), (1, .ref (gb g + r1)), (2, .ref (gb g + r2)), (3, .ref (gb g + r3)), (4, .int v4), (6, .int v6)]) rfl ?_
              refine g_iinc dX0_drift_118 6 rfl (v := (v6 + 1)) rfl (by decide) (lv' := [(6, .int (v6 + 1)), (5, .int 1), (0, .ref (gb g + r0)), (1, .ref (gb g + r1)), (2, .ref (gb g + r2)), (3, .ref (gb g + r3)), (4, .int v4)]) rfl ?_
              refine g_goto (tgt := 15) dX0_drift_121 (by decide) ?_
              refine g_lv [2, 3, 4, 5, 6, 1, 0] rfl ?_
              exact ih 1 (v6 + 1) μ13
            · refine g_aload_n dX0_drift_100 3 rfl ?_
              refine g_iload dX0_drift_101 6 rfl ?_
              refine g_iaload hr3 dX0_drift_103 (fun x15 => ?_)
              refine g_aload_n dX0_drift_104 1 rfl ?_
              refine g_iload dX0_drift_105 6 rfl ?_
              refine g_iaload hr1 dX0_drift_107 (fun x16 => ?_)
              have hJ19 : ∀ (w18 : Int32), w18 = (if x15 = x16 then (0 : Int32) else 1) → Go g RX0 cX0_drift 9 .ireturn 3 cvZ 116 [(0, .ref (gb g + r0)), (1, .ref (gb g + r1)), (2, .ref (gb g + r2)), (3, .ref (gb g + r3)), (4, .int v4), (6, .int v6)] [.int w18] μ13 (L_X0_drift_15 F r0 r1 r2 r3 v4 k n (if x15 = x16 then (0 : Int32) else 1) (v6 + 1) μ13) := by
                intro w18 ew18
                subst ew18
                refine g_istore dX0_drift_116 (by decide) (lv' := [(5, .int (if x15 = x16 then (0 : Int32) else 1)), (0, .ref (gb g + r0)), (1, .ref (gb g + r1)), (2, .ref (gb g + r2)), (3, .ref (gb g + r3)), (4, .int v4), (6, .int v6)]) rfl ?_
                refine g_iinc dX0_drift_118 6 rfl (v := (v6 + 1)) rfl (by decide) (lv' := [(6, .int (v6 + 1)), (5, .int (if x15 = x16 then (0 : Int32) else 1)), (0, .ref (gb g + r0)), (1, .ref (gb g + r1)), (2, .ref (gb g + r2)), (3, .ref (gb g + r3)), (4, .int v4)]) rfl ?_
                refine g_goto (tgt := 15) dX0_drift_121 (by decide) ?_
                refine g_lv [2, 3, 4, 5, 6, 1, 0] rfl ?_
                exact ih (if x15 = x16 then (0 : Int32) else 1) (v6 + 1) μ13
              refine g_same (g_icmp_eq (tgt := 115) dX0_drift_108 (by decide) (fun c17 => ?_) (fun c17 => ?_))
              · refine g_iconst dX0_drift_115 (v := 0) (by decide) ?_
                refine g_lv [0, 1, 2, 3, 4, 6] rfl ?_
                exact hJ19 _ (by rw [if_pos c17])
              · refine g_iconst dX0_drift_111 (v := 1) (by decide) ?_
                refine g_goto (tgt := 116) dX0_drift_112 (by decide) ?_
                refine g_lv [0, 1, 2, 3, 4, 6] rfl ?_
                exact hJ19 _ (by rw [if_neg c17])
          · refine g_icmp_ne (tgt := 84) dX0_drift_74 (by decide) (fun _ => ?_) (fun _ => ?_)
            · refine g_aload_n dX0_drift_84 1 rfl ?_
              refine g_getR (b := (r0 + 1)) fl_X0_12 (bk_0 hr0) (by decide) rfl rfl dX0_drift_85 ?_
              refine g_getR (b := (r0 + 3)) fl_X0_122 (bk_1 hr0) (by decide) rfl rfl dX0_drift_88 ?_
              refine g_iload dX0_drift_91 0 rfl ?_
              refine g_iaload (bk_3 hr0) dX0_drift_93 (fun x21 => ?_)
              refine g_lv [1, 2, 3, 4, 5, 6, 7] rfl ?_
              exact hF20 x21
            · refine g_aload_n dX0_drift_77 2 rfl ?_
              refine g_iload dX0_drift_78 7 rfl ?_
              refine g_iaload hr1 dX0_drift_80 (fun x22 => ?_)
              refine g_goto (tgt := 94) dX0_drift_81 (by decide) ?_
              refine g_lv [1, 2, 3, 4, 5, 6, 7] rfl ?_
              exact hF20 x22
        · refine g_if_eq (tgt := 59) dX0_drift_52 (by decide) (fun _ => ?_) (fun _ => ?_)
          · refine g_aload_n dX0_drift_59 1 rfl ?_
            refine g_aload_n dX0_drift_60 2 rfl ?_
            refine g_iload dX0_drift_61 7 rfl ?_
            refine g_vIp [.ref (gb g + r1), .int v6] [] mw_X0_118 (ok_X0_bearing g F r0 r1 v6 hr0 hr1 μ) (by omega) (bk_0 hr0) (by decide) rfl rfl (Nat.le_of_ble_eq_true rfl) dX0_drift_63 (fun x24 _ => ?_)
            refine g_lv [1, 2, 3, 4, 5, 6, 7] rfl ?_
            exact hF23 x24
          · refine g_iconst dX0_drift_55 (v := (-1)) (by decide) ?_
            refine g_goto (tgt := 66) dX0_drift_56 (by decide) ?_
            refine g_lv [1, 2, 3, 4, 5, 6, 7] rfl ?_
            exact hF23 (-1)
      · refine g_if_gt (tgt := 43) dX0_drift_28 (by decide) (fun _ => ?_) (fun _ => ?_)
        · refine g_iconst dX0_drift_43 (v := 1) (by decide) ?_
          refine g_goto (tgt := 48) dX0_drift_44 (by decide) ?_
          refine g_lv [0, 1, 2, 3, 4, 5, 6] rfl ?_
          exact hF25 1
        · refine g_iload dX0_drift_31 4 rfl ?_
          refine g_aload_n dX0_drift_33 1 rfl ?_
          refine g_iload dX0_drift_34 6 rfl ?_
          refine g_iaload hr1 dX0_drift_36 (fun x26 => ?_)
          refine g_ishr dX0_drift_37 ?_
          refine g_iconst dX0_drift_38 (v := 1) (by decide) ?_
          refine g_iand dX0_drift_39 ?_
          refine g_if_ne (tgt := 47) dX0_drift_40 (by decide) (fun _ => ?_) (fun _ => ?_)
          · refine g_iconst dX0_drift_47 (v := 0) (by decide) ?_
            refine g_lv [0, 1, 2, 3, 4, 5, 6] rfl ?_
            exact hF25 0
          · refine g_iconst dX0_drift_43 (v := 1) (by decide) ?_
            refine g_goto (tgt := 48) dX0_drift_44 (by decide) ?_
            refine g_lv [0, 1, 2, 3, 4, 5, 6] rfl ?_
            exact hF25 1
set_option maxHeartbeats 4000000 in
set_option maxRecDepth 100000 in
theorem ok_X0_drift (g : GG) (F : Nat) (r0 : Nat) (r1 : Nat) (r2 : Nat) (r3 : Nat) (hr0 : Bk r0) (hr1 : shp r1 = (0, 25)) (hr2 : shp r2 = (0, 25)) (hr3 : shp r3 = (0, 25)) (μ : Mm) : Ct g yX0_drift cX0_drift 9 (some (.boolean)) 3 cvZ [.ref (gb g + r0), .ref (gb g + r1), .ref (gb g + r2), .ref (gb g + r3)] μ (f_X0_drift F r0 r1 r2 r3 μ) := by
  refine ct_Z (by decide +kernel) (Nat.le_of_ble_eq_true rfl) (show Go g RX0 cX0_drift 9 .ireturn 3 cvZ 0 [(0, .ref (gb g + r0)), (1, .ref (gb g + r1)), (2, .ref (gb g + r2)), (3, .ref (gb g + r3))] [] μ (f_X0_drift F r0 r1 r2 r3 μ) from ?_)
  unfold f_X0_drift
  refine g_aload_n dX0_drift_0 0 rfl ?_
  refine g_getR (b := (r0 + 1)) fl_X0_12 (bk_0 hr0) (by decide) rfl rfl dX0_drift_1 ?_
  refine g_vIp [] [] mw_X0_125 (ok_X3_touched g F (r0 + 1) (bk_lw hr0) μ) (by omega) (bk_1 hr0) (by decide) rfl rfl (Nat.le_of_ble_eq_true rfl) dX0_drift_4 (fun x1 _ => ?_)
  refine g_istore dX0_drift_7 (by decide) (lv' := [(4, .int x1), (0, .ref (gb g + r0)), (1, .ref (gb g + r1)), (2, .ref (gb g + r2)), (3, .ref (gb g + r3))]) rfl ?_
  refine g_iconst dX0_drift_9 (v := 0) (by decide) ?_
  refine g_istore dX0_drift_10 (by decide) (lv' := [(5, .int 0), (4, .int x1), (0, .ref (gb g + r0)), (1, .ref (gb g + r1)), (2, .ref (gb g + r2)), (3, .ref (gb g + r3))]) rfl ?_
  refine g_iconst dX0_drift_12 (v := 0) (by decide) ?_
  refine g_istore dX0_drift_13 (by decide) (lv' := [(6, .int 0), (5, .int 0), (4, .int x1), (0, .ref (gb g + r0)), (1, .ref (gb g + r1)), (2, .ref (gb g + r2)), (3, .ref (gb g + r3))]) rfl ?_
  refine g_lv [3, 4, 5, 6, 2, 1, 0] rfl ?_
  refine okL_X0_drift_15 g F r0 r1 r2 r3 x1 _ hr0 hr1 hr2 hr3 (fun u27 μ28 => ?_) F 0 0 μ
  refine g_iload dX0_drift_124 0 rfl ?_
  exact g_retZ dX0_drift_126
set_option maxHeartbeats 4000000 in
set_option maxRecDepth 100000 in
theorem okL_X0_tappedSet_4 (g : GG) (F : Nat) (r0 : Nat) (k : Int32 → Option (Int32)) (μ : Mm) (hr0 : Bk r0) (hk : ∀ (v1 : Int32), Go g RX0 cX0_tappedSet 3 .ireturn 2 (cvIp μ) 37 [(1, .int v1)] [] μ (k v1)) : ∀ (n : Nat) (v1 : Int32) (v2 : Int32), Go g RX0 cX0_tappedSet 3 .ireturn 2 (cvIp μ) 4 [(0, .ref (gb g + r0)), (1, .int v1), (2, .int v2)] [] μ (L_X0_tappedSet_4 F r0 k μ n v1 v2) := by
  intro n
  induction n with
  | zero =>
    intro v1 v2
    exact g_none
  | succ n ih =>
    intro v1 v2
    rw [L_X0_tappedSet_4_s]
    refine g_iload_n dX0_tappedSet_4 2 rfl ?_
    refine g_aload_n dX0_tappedSet_5 0 rfl ?_
    refine g_vIp [] [.int v2] mw_X0_82 (ok_X0_cells g r0 hr0 μ) (by omega) (bk_0 hr0) (by decide) rfl rfl (Nat.le_of_ble_eq_true rfl) dX0_tappedSet_6 (fun x1 _ => ?_)
    refine g_icmp_ge (tgt := 37) dX0_tappedSet_9 (by decide) (fun _ => ?_) (fun _ => ?_)
    · refine g_lv [1] rfl ?_
      exact hk v1
    · refine g_iload_n dX0_tappedSet_12 1 rfl ?_
      refine g_aload_n dX0_tappedSet_13 0 rfl ?_
      refine g_getR (b := (r0 + 10)) fl_X0_32 (bk_0 hr0) (by decide) rfl rfl dX0_tappedSet_14 ?_
      refine g_iload_n dX0_tappedSet_17 2 rfl ?_
      refine g_iaload (bk_10 hr0) dX0_tappedSet_18 (fun x2 => ?_)
      have hJ5 : ∀ (w4 : Int32), w4 = (if x2 ≤ 0 then (0 : Int32) else ((1 : Int32) <<< (v2 &&& 31))) → Go g RX0 cX0_tappedSet 3 .ireturn 2 (cvIp μ) 29 [(0, .ref (gb g + r0)), (2, .int v2)] [.int w4, .int v1] μ (L_X0_tappedSet_4 F r0 k μ n (v1 ||| (if x2 ≤ 0 then (0 : Int32) else ((1 : Int32) <<< (v2 &&& 31)))) (v2 + 1)) := by
        intro w4 ew4
        subst ew4
        refine g_ior dX0_tappedSet_29 ?_
        refine g_istore_n dX0_tappedSet_30 rfl (by decide) (lv' := [(1, .int (v1 ||| (if x2 ≤ 0 then (0 : Int32) else ((1 : Int32) <<< (v2 &&& 31))))), (0, .ref (gb g + r0)), (2, .int v2)]) rfl ?_
        refine g_iinc dX0_tappedSet_31 2 rfl (v := (v2 + 1)) rfl (by decide) (lv' := [(2, .int (v2 + 1)), (1, .int (v1 ||| (if x2 ≤ 0 then (0 : Int32) else ((1 : Int32) <<< (v2 &&& 31))))), (0, .ref (gb g + r0))]) rfl ?_
        refine g_goto (tgt := 4) dX0_tappedSet_34 (by decide) ?_
        refine g_lv [2, 1, 0] rfl ?_
        exact ih (v1 ||| (if x2 ≤ 0 then (0 : Int32) else ((1 : Int32) <<< (v2 &&& 31)))) (v2 + 1)
      refine g_same (g_if_le (tgt := 28) dX0_tappedSet_19 (by decide) (fun c3 => ?_) (fun c3 => ?_))
      · refine g_iconst dX0_tappedSet_28 (v := 0) (by decide) ?_
        refine g_lv [0, 2] rfl ?_
        exact hJ5 _ (by rw [if_pos c3])
      · refine g_iconst dX0_tappedSet_22 (v := 1) (by decide) ?_
        refine g_iload_n dX0_tappedSet_23 2 rfl ?_
        refine g_ishl dX0_tappedSet_24 ?_
        refine g_goto (tgt := 29) dX0_tappedSet_25 (by decide) ?_
        refine g_lv [0, 2] rfl ?_
        exact hJ5 _ (by rw [if_neg c3])
set_option maxHeartbeats 4000000 in
set_option maxRecDepth 100000 in
theorem ok_X0_tappedSet (g : GG) (F : Nat) (r0 : Nat) (hr0 : Bk r0) (μ : Mm) : Ct g yX0_tappedSet cX0_tappedSet 3 (some (.int)) 2 (cvIp μ) [.ref (gb g + r0)] μ (f_X0_tappedSet F r0 μ) := by
  refine ct_Ip (by decide +kernel) (Nat.le_of_ble_eq_true rfl) (show Go g RX0 cX0_tappedSet 3 .ireturn 2 (cvIp μ) 0 [(0, .ref (gb g + r0))] [] μ (f_X0_tappedSet F r0 μ) from ?_)
  unfold f_X0_tappedSet
  refine g_iconst dX0_tappedSet_0 (v := 0) (by decide) ?_
  refine g_istore_n dX0_tappedSet_1 rfl (by decide) (lv' := [(1, .int 0), (0, .ref (gb g + r0))]) rfl ?_
  refine g_iconst dX0_tappedSet_2 (v := 0) (by decide) ?_
  refine g_istore_n dX0_tappedSet_3 rfl (by decide) (lv' := [(2, .int 0), (1, .int 0), (0, .ref (gb g + r0))]) rfl ?_
  refine g_lv [2, 1, 0] rfl ?_
  refine okL_X0_tappedSet_4 g F r0 _ μ hr0 (fun u6 => ?_) F 0 0
  refine g_iload_n dX0_tappedSet_37 0 rfl ?_
  exact g_ret dX0_tappedSet_38 rfl rfl
set_option maxHeartbeats 4000000 in
set_option maxRecDepth 100000 in
theorem okL_X0_lessenTaps_2 (g : GG) (F : Nat) (r0 : Nat) (k : Mm → Option (Mm)) (hr0 : Bk r0) (hk : ∀ (μ : Mm), Go g RX0 cX0_lessenTaps 2 .return_ 2 cvV 34 [] [] μ (k μ)) : ∀ (n : Nat) (v1 : Int32) (μ : Mm), Go g RX0 cX0_lessenTaps 2 .return_ 2 cvV 2 [(0, .ref (gb g + r0)), (1, .int v1)] [] μ (L_X0_lessenTaps_2 F r0 k n v1 μ) := by
  intro n
  induction n with
  | zero =>
    intro v1 μ
    exact g_none
  | succ n ih =>
    intro v1 μ
    rw [L_X0_lessenTaps_2_s]
    refine g_iload_n dX0_lessenTaps_2 1 rfl ?_
    refine g_aload_n dX0_lessenTaps_3 0 rfl ?_
    refine g_vIp [] [.int v1] mw_X0_82 (ok_X0_cells g r0 hr0 μ) (by omega) (bk_0 hr0) (by decide) rfl rfl (Nat.le_of_ble_eq_true rfl) dX0_lessenTaps_4 (fun x1 _ => ?_)
    refine g_icmp_ge (tgt := 34) dX0_lessenTaps_7 (by decide) (fun _ => ?_) (fun _ => ?_)
    · refine g_lv [] rfl ?_
      exact hk μ
    · refine g_aload_n dX0_lessenTaps_10 0 rfl ?_
      refine g_getR (b := (r0 + 10)) fl_X0_32 (bk_0 hr0) (by decide) rfl rfl dX0_lessenTaps_11 ?_
      refine g_iload_n dX0_lessenTaps_14 1 rfl ?_
      refine g_aload_n dX0_lessenTaps_15 0 rfl ?_
      refine g_getR (b := (r0 + 10)) fl_X0_32 (bk_0 hr0) (by decide) rfl rfl dX0_lessenTaps_16 ?_
      refine g_iload_n dX0_lessenTaps_19 1 rfl ?_
      refine g_iaload (bk_10 hr0) dX0_lessenTaps_20 (fun x2 => ?_)
      refine g_iconst dX0_lessenTaps_21 (v := 1) (by decide) ?_
      refine g_isub dX0_lessenTaps_22 ?_
      refine g_iconst dX0_lessenTaps_23 (v := 0) (by decide) ?_
      refine g_mmax mw_X0_138 (by omega) (Nat.le_of_ble_eq_true rfl) dX0_lessenTaps_24 (fun x3 => ?_)
      refine g_iastore (bk_10 hr0) dX0_lessenTaps_27 (fun μ4 => ?_)
      refine g_iinc dX0_lessenTaps_28 1 rfl (v := (v1 + 1)) rfl (by decide) (lv' := [(1, .int (v1 + 1)), (0, .ref (gb g + r0))]) rfl ?_
      refine g_goto (tgt := 2) dX0_lessenTaps_31 (by decide) ?_
      refine g_lv [1, 0] rfl ?_
      exact ih (v1 + 1) μ4
set_option maxHeartbeats 4000000 in
set_option maxRecDepth 100000 in
theorem ok_X0_lessenTaps (g : GG) (F : Nat) (r0 : Nat) (hr0 : Bk r0) (μ : Mm) : Ct g yX0_lessenTaps cX0_lessenTaps 2 none 2 cvV [.ref (gb g + r0)] μ (f_X0_lessenTaps F r0 μ) := by
  refine ct_V (by decide +kernel) (Nat.le_of_ble_eq_true rfl) (show Go g RX0 cX0_lessenTaps 2 .return_ 2 cvV 0 [(0, .ref (gb g + r0))] [] μ (f_X0_lessenTaps F r0 μ) from ?_)
  unfold f_X0_lessenTaps
  refine g_iconst dX0_lessenTaps_0 (v := 0) (by decide) ?_
  refine g_istore_n dX0_lessenTaps_1 rfl (by decide) (lv' := [(1, .int 0), (0, .ref (gb g + r0))]) rfl ?_
  refine g_lv [1, 0] rfl ?_
  refine okL_X0_lessenTaps_2 g F r0 _ hr0 (fun μ5 => ?_) F 0 μ
  exact g_ret dX0_lessenTaps_34 rfl rfl
set_option maxHeartbeats 4000000 in
set_option maxRecDepth 100000 in
theorem okL_X0_passHours_7 (g : GG) (F : Nat) (r0 : Nat) (v1 : Int32) (k : Int32 → Mm → Option (Bool × Mm)) (hr0 : Bk r0) (hk : ∀ (v2 : Int32) (μ : Mm), Go g RX0 cX0_passHours 6 .ireturn 4 cvZ 95 [(0, .ref (gb g + r0)), (1, .int v1), (2, .int v2)] [] μ (k v2 μ)) : ∀ (n : Nat) (v2 : Int32) (v3 : Int32) (v4 : Int32) (μ : Mm), Go g RX0 cX0_passHours 6 .ireturn 4 cvZ 7 [(0, .ref (gb g + r0)), (1, .int v1), (2, .int v2), (3, .int v3), (4, .int v4)] [] μ (L_X0_passHours_7 F r0 v1 k n v2 v3 v4 μ) := by
  intro n
  induction n with
  | zero =>
    intro v2 v3 v4 μ
    exact g_none
  | succ n ih =>
    intro v2 v3 v4 μ
    rw [L_X0_passHours_7_s]
    refine g_iload dX0_passHours_7 4 rfl ?_
    refine g_iload_n dX0_passHours_9 1 rfl ?_
    refine g_icmp_ge (tgt := 95) dX0_passHours_10 (by decide) (fun _ => ?_) (fun _ => ?_)
    · refine g_lv [0, 1, 2] rfl ?_
      exact hk v2 μ
    · refine g_iload_n dX0_passHours_13 3 rfl ?_
      refine g_if_eq (tgt := 95) dX0_passHours_14 (by decide) (fun _ => ?_) (fun _ => ?_)
      · refine g_lv [0, 1, 2] rfl ?_
        exact hk v2 μ
      · refine g_aload_n dX0_passHours_17 0 rfl ?_
        refine g_aload_n dX0_passHours_18 0 rfl ?_
        refine g_getR (b := (r0 + 8)) fl_X0_26 (bk_0 hr0) (by decide) rfl rfl dX0_passHours_19 ?_
        refine g_aload_n dX0_passHours_22 0 rfl ?_
        refine g_getR (b := (r0 + 10)) fl_X0_32 (bk_0 hr0) (by decide) rfl rfl dX0_passHours_23 ?_
        refine g_aload_n dX0_passHours_26 0 rfl ?_
        refine g_getR (b := (r0 + 11)) fl_X0_35 (bk_0 hr0) (by decide) rfl rfl dX0_passHours_27 ?_
        refine g_vZ [.ref (gb g + (r0 + 8)), .ref (gb g + (r0 + 10)), .ref (gb g + (r0 + 11))] [] mw_X0_128 (ok_X0_drift g F r0 (r0 + 8) (r0 + 10) (r0 + 11) hr0 (bk_8 hr0) (bk_10 hr0) (bk_11 hr0) μ) (by omega) (bk_0 hr0) (by decide) rfl rfl (Nat.le_of_ble_eq_true rfl) dX0_passHours_30 (fun x1 μ2 _ => ?_)
        refine g_istore dX0_passHours_33 (by decide) (lv' := [(5, .int (bI x1)), (0, .ref (gb g + r0)), (1, .int v1), (2, .int v2), (3, .int v3), (4, .int v4)]) rfl ?_
        refine g_aload_n dX0_passHours_35 1 rfl ?_
        refine g_getR (b := (r0 + 11)) fl_X0_35 (bk_0 hr0) (by decide) rfl rfl dX0_passHours_36 ?_
        refine g_iconst dX0_passHours_39 (v := 0) (by decide) ?_
        refine g_aload_n dX0_passHours_40 1 rfl ?_
        refine g_getR (b := (r0 + 8)) fl_X0_26 (bk_0 hr0) (by decide) rfl rfl dX0_passHours_41 ?_
        refine g_iconst dX0_passHours_44 (v := 0) (by decide) ?_
        refine g_aload_n dX0_passHours_45 1 rfl ?_
        refine g_vIp [] [.int 0, .ref (gb g + (r0 + 8)), .int 0, .ref (gb g + (r0 + 11))] mw_X0_82 (ok_X0_cells g r0 hr0 μ2) (by omega) (bk_0 hr0) (by decide) rfl rfl (Nat.le_of_ble_eq_true rfl) dX0_passHours_46 (fun x3 _ => ?_)
        refine g_copyA mw_X0_76 (by omega) (bk_11 hr0) (bk_8 hr0) dX0_passHours_49 (fun μ4 => ?_)
        refine g_iload_n dX0_passHours_52 3 rfl ?_
        have hJ15 : ∀ (w7 : Int32), w7 = (if v2 = 0 then (if x1 = true then (1 : Int32) else 0) else 1) → Go g RX0 cX0_passHours 6 .ireturn 4 cvZ 66 [(0, .ref (gb g + r0)), (1, .int v1), (4, .int v4), (5, .int (bI x1))] [.int w7] μ4 (jn (fun (a10 : Int32) => (f_X0_lessenTaps F r0 μ4).bind fun μ12 => L_X0_passHours_7 F r0 v1 k n (if v2 = 0 then (if x1 = true then (1 : Int32) else 0) else 1) a10 (v4 + 1) μ12) fun K9 => (if x1 = true then K9 1 else (f_X0_tappedSet F r0 μ4).bind fun x14 => (if x14 = 0 then K9 0 else K9 1))) := by
          intro w7 ew7
          subst ew7
          refine g_istore_n dX0_passHours_66 rfl (by decide) (lv' := [(2, .int (if v2 = 0 then (if x1 = true then (1 : Int32) else 0) else 1)), (0, .ref (gb g + r0)), (1, .int v1), (4, .int v4), (5, .int (bI x1))]) rfl ?_
          refine g_iload dX0_passHours_67 4 rfl ?_
          refine g_jn (fun (a10 : Int32) oo => Go g RX0 cX0_passHours 6 .ireturn 4 cvZ 84 [(0, .ref (gb g + r0)), (1, .int v1), (2, .int (if v2 = 0 then (if x1 = true then (1 : Int32) else 0) else 1)), (4, .int v4)] [.int a10] μ4 oo) (fun a10 => ?_) (fun K9 hF13 => ?_)
          · refine g_istore_n dX0_passHours_84 rfl (by decide) (lv' := [(3, .int a10), (0, .ref (gb g + r0)), (1, .int v1), (2, .int (if v2 = 0 then (if x1 = true then (1 : Int32) else 0) else 1)), (4, .int v4)]) rfl ?_
            refine g_aload_n dX0_passHours_85 1 rfl ?_
            refine g_vV [] [] mw_X0_135 (ok_X0_lessenTaps g F r0 hr0 μ4) (by omega) (bk_0 hr0) (by decide) rfl rfl (Nat.le_of_ble_eq_true rfl) dX0_passHours_86 (fun μ12 _ => ?_)
            refine g_iinc dX0_passHours_89 4 rfl (v := (v4 + 1)) rfl (by decide) (lv' := [(4, .int (v4 + 1)), (3, .int a10), (0, .ref (gb g + r0)), (1, .int v1), (2, .int (if v2 = 0 then (if x1 = true then (1 : Int32) else 0) else 1))]) rfl ?_
            refine g_goto (tgt := 7) dX0_passHours_92 (by decide) ?_
            refine g_lv [2, 3, 4, 1, 0] rfl ?_
            exact ih (if v2 = 0 then (if x1 = true then (1 : Int32) else 0) else 1) a10 (v4 + 1) μ12
          · refine g_ifneB (tgt := 79) dX0_passHours_69 (by decide) (fun _ => ?_) (fun _ => ?_)
            · refine g_iconst dX0_passHours_79 (v := 1) (by decide) ?_
              refine g_goto (tgt := 84) dX0_passHours_80 (by decide) ?_
              refine g_lv [1, 2, 0, 3] rfl ?_
              exact hF13 1
            · refine g_aload_n dX0_passHours_72 1 rfl ?_
              refine g_vIp [] [] mw_X0_132 (ok_X0_tappedSet g F r0 hr0 μ4) (by omega) (bk_0 hr0) (by decide) rfl rfl (Nat.le_of_ble_eq_true rfl) dX0_passHours_73 (fun x14 _ => ?_)
              refine g_if_eq (tgt := 83) dX0_passHours_76 (by decide) (fun _ => ?_) (fun _ => ?_)
              · refine g_iconst dX0_passHours_83 (v := 0) (by decide) ?_
                refine g_lv [1, 2, 0, 3] rfl ?_
                exact hF13 0
              · refine g_iconst dX0_passHours_79 (v := 1) (by decide) ?_
                refine g_goto (tgt := 84) dX0_passHours_80 (by decide) ?_
                refine g_lv [1, 2, 0, 3] rfl ?_
                exact hF13 1
        refine g_same (g_if_ne (tgt := 61) dX0_passHours_53 (by decide) (fun c5 => ?_) (fun c5 => ?_))
        · refine g_iconst dX0_passHours_61 (v := 1) (by decide) ?_
          refine g_goto (tgt := 66) dX0_passHours_62 (by decide) ?_
          refine g_lv [1, 2, 5, 0] rfl ?_
          exact hJ15 _ (by rw [if_neg c5])
        · refine g_iload dX0_passHours_56 0 rfl ?_
          refine g_same (g_ifeqB (tgt := 65) dX0_passHours_58 (by decide) (fun c6 => ?_) (fun c6 => ?_))
          · refine g_iconst dX0_passHours_65 (v := 0) (by decide) ?_
            refine g_lv [1, 2, 5, 0] rfl ?_
            exact hJ15 _ (by rw [if_pos c5, if_neg c6])
          · refine g_iconst dX0_passHours_61 (v := 1) (by decide) ?_
            refine g_goto (tgt := 66) dX0_passHours_62 (by decide) ?_
            refine g_lv [1, 2, 5, 0] rfl ?_
            exact hJ15 _ (by rw [if_pos c5, if_pos c6])
set_option maxHeartbeats 4000000 in
set_option maxRecDepth 100000 in
theorem ok_X0_passHours (g : GG) (F : Nat) (r0 : Nat) (v1 : Int32) (hr0 : Bk r0) (μ : Mm) : Ct g yX0_passHours cX0_passHours 6 (some (.boolean)) 4 cvZ [.ref (gb g + r0), .int v1] μ (f_X0_passHours F r0 v1 μ) := by
  refine ct_Z (by decide +kernel) (Nat.le_of_ble_eq_true rfl) (show Go g RX0 cX0_passHours 6 .ireturn 4 cvZ 0 [(0, .ref (gb g + r0)), (1, .int v1)] [] μ (f_X0_passHours F r0 v1 μ) from ?_)
  unfold f_X0_passHours
  refine g_iconst dX0_passHours_0 (v := 0) (by decide) ?_
  refine g_istore_n dX0_passHours_1 rfl (by decide) (lv' := [(2, .int 0), (0, .ref (gb g + r0)), (1, .int v1)]) rfl ?_
  refine g_iconst dX0_passHours_2 (v := 1) (by decide) ?_
  refine g_istore_n dX0_passHours_3 rfl (by decide) (lv' := [(3, .int 1), (2, .int 0), (0, .ref (gb g + r0)), (1, .int v1)]) rfl ?_
  refine g_iconst dX0_passHours_4 (v := 0) (by decide) ?_
  refine g_istore dX0_passHours_5 (by decide) (lv' := [(4, .int 0), (3, .int 1), (2, .int 0), (0, .ref (gb g + r0)), (1, .int v1)]) rfl ?_
  refine g_lv [3, 4, 2, 1, 0] rfl ?_
  refine okL_X0_passHours_7 g F r0 v1 _ hr0 (fun u16 μ17 => ?_) F 0 1 0 μ
  refine g_aload_n dX0_passHours_95 0 rfl ?_
  refine g_dup dX0_passHours_96 rfl ?_
  refine g_getI fl_X0_57 (bk_0 hr0) (by decide) rfl dX0_passHours_97 ?_
  refine g_iload_n dX0_passHours_100 1 rfl ?_
  refine g_iadd dX0_passHours_101 ?_
  refine g_putI fl_X0_57 (bk_0 hr0) (by decide) rfl dX0_passHours_102 ?_
  refine g_iload_n dX0_passHours_105 2 rfl ?_
  exact g_retZ dX0_passHours_106
set_option maxHeartbeats 4000000 in
set_option maxRecDepth 100000 in
theorem ok_X0_standAndTap (g : GG) (r0 : Nat) (v1 : Int32) (hr0 : Bk r0) (μ : Mm) : Ct g yX0_standAndTap cX0_standAndTap 2 none 3 cvV [.ref (gb g + r0), .int v1] μ (f_X0_standAndTap r0 v1 μ) := by
  refine ct_V (by decide +kernel) (Nat.le_of_ble_eq_true rfl) (show Go g RX0 cX0_standAndTap 2 .return_ 3 cvV 0 [(0, .ref (gb g + r0)), (1, .int v1)] [] μ (f_X0_standAndTap r0 v1 μ) from ?_)
  unfold f_X0_standAndTap
  refine g_aload_n dX0_standAndTap_0 0 rfl ?_
  refine g_iload_n dX0_standAndTap_1 1 rfl ?_
  refine g_vZp [.int v1] [] mw_X0_141 (ok_X0_hasCell g r0 v1 hr0 μ) (by omega) (bk_0 hr0) (by decide) rfl rfl (Nat.le_of_ble_eq_true rfl) dX0_standAndTap_2 (fun x1 _ => ?_)
  refine g_ifeqB (tgt := 23) dX0_standAndTap_5 (by decide) (fun _ => ?_) (fun _ => ?_)
  · exact g_ret dX0_standAndTap_23 rfl rfl
  · refine g_aload_n dX0_standAndTap_8 0 rfl ?_
    refine g_iload_n dX0_standAndTap_9 1 rfl ?_
    refine g_putI fl_X0_54 (bk_0 hr0) (by decide) rfl dX0_standAndTap_10 ?_
    refine g_aload_n dX0_standAndTap_13 0 rfl ?_
    refine g_getR (b := (r0 + 10)) fl_X0_32 (bk_0 hr0) (by decide) rfl rfl dX0_standAndTap_14 ?_
    refine g_iload_n dX0_standAndTap_17 1 rfl ?_
    refine g_aload_n dX0_standAndTap_18 0 rfl ?_
    refine g_getI fl_X0_45 (bk_0 hr0) (by decide) rfl dX0_standAndTap_19 ?_
    refine g_iastore (bk_10 hr0) dX0_standAndTap_22 (fun μ3 => ?_)
    exact g_ret dX0_standAndTap_23 rfl rfl
set_option maxHeartbeats 4000000 in
set_option maxRecDepth 100000 in
theorem ok_X0_putDigit (g : GG) (r0 : Nat) (v1 : Int32) (v2 : Int32) (hr0 : Bk r0) (μ : Mm) : Ct g yX0_putDigit cX0_putDigit 4 (some (.int)) 1 cvI [.ref (gb g + r0), .int v1, .int v2] μ (f_X0_putDigit r0 v1 v2 μ) := by
  refine ct_I (by decide +kernel) (Nat.le_of_ble_eq_true rfl) (show Go g RX0 cX0_putDigit 4 .ireturn 1 cvI 0 [(0, .ref (gb g + r0)), (1, .int v1), (2, .int v2)] [] μ (f_X0_putDigit r0 v1 v2 μ) from ?_)
  unfold f_X0_putDigit
  refine g_aload_n dX0_putDigit_0 0 rfl ?_
  refine g_getR (b := (r0 + 8)) fl_X0_26 (bk_0 hr0) (by decide) rfl rfl dX0_putDigit_1 ?_
  refine g_iload_n dX0_putDigit_4 1 rfl ?_
  refine g_iaload (bk_8 hr0) dX0_putDigit_5 (fun x1 => ?_)
  refine g_istore_n dX0_putDigit_6 rfl (by decide) (lv' := [(3, .int x1), (0, .ref (gb g + r0)), (1, .int v1), (2, .int v2)]) rfl ?_
  refine g_aload_n dX0_putDigit_7 1 rfl ?_
  refine g_getR (b := (r0 + 8)) fl_X0_26 (bk_0 hr0) (by decide) rfl rfl dX0_putDigit_8 ?_
  refine g_iload_n dX0_putDigit_11 2 rfl ?_
  refine g_iload_n dX0_putDigit_12 3 rfl ?_
  refine g_iastore (bk_8 hr0) dX0_putDigit_13 (fun μ2 => ?_)
  refine g_iload_n dX0_putDigit_14 0 rfl ?_
  exact g_ret dX0_putDigit_15 rfl rfl
set_option maxHeartbeats 4000000 in
set_option maxRecDepth 100000 in
theorem ok_X0_takeAway (g : GG) (r0 : Nat) (v1 : Int32) (hr0 : Bk r0) (μ : Mm) : Ct g yX0_takeAway cX0_takeAway 3 (some (.int)) 2 cvI [.ref (gb g + r0), .int v1] μ (f_X0_takeAway r0 v1 μ) := by
  refine ct_I (by decide +kernel) (Nat.le_of_ble_eq_true rfl) (show Go g RX0 cX0_takeAway 3 .ireturn 2 cvI 0 [(0, .ref (gb g + r0)), (1, .int v1)] [] μ (f_X0_takeAway r0 v1 μ) from ?_)
  unfold f_X0_takeAway
  refine g_aload_n dX0_takeAway_0 0 rfl ?_
  refine g_iload_n dX0_takeAway_1 1 rfl ?_
  refine g_iconst dX0_takeAway_2 (v := 0) (by decide) ?_
  refine g_vI [.int v1, .int 0] [] mw_X0_145 (ok_X0_putDigit g r0 v1 0 hr0 μ) (by omega) (bk_0 hr0) (by decide) rfl rfl (Nat.le_of_ble_eq_true rfl) dX0_takeAway_3 (fun x1 μ2 _ => ?_)
  refine g_istore_n dX0_takeAway_6 rfl (by decide) (lv' := [(2, .int x1), (0, .ref (gb g + r0)), (1, .int v1)]) rfl ?_
  refine g_aload_n dX0_takeAway_7 1 rfl ?_
  refine g_dup dX0_takeAway_8 rfl ?_
  refine g_getI fl_X0_60 (bk_0 hr0) (by decide) rfl dX0_takeAway_9 ?_
  refine g_iload_n dX0_takeAway_12 0 rfl ?_
  refine g_iadd dX0_takeAway_13 ?_
  refine g_putI fl_X0_60 (bk_0 hr0) (by decide) rfl dX0_takeAway_14 ?_
  refine g_iload_n dX0_takeAway_17 0 rfl ?_
  exact g_ret dX0_takeAway_18 rfl rfl
set_option maxHeartbeats 4000000 in
set_option maxRecDepth 100000 in
theorem ok_X0_isWrong (g : GG) (r0 : Nat) (v1 : Int32) (hr0 : Bk r0) (μ : Mm) : Ct g yX0_isWrong cX0_isWrong 2 (some (.boolean)) 1 (cvZp μ) [.ref (gb g + r0), .int v1] μ (f_X0_isWrong r0 v1 μ) := by
  refine ct_Zp (by decide +kernel) (Nat.le_of_ble_eq_true rfl) (show Go g RX0 cX0_isWrong 2 .ireturn 1 (cvZp μ) 0 [(0, .ref (gb g + r0)), (1, .int v1)] [] μ (f_X0_isWrong r0 v1 μ) from ?_)
  unfold f_X0_isWrong
  refine g_aload_n dX0_isWrong_0 0 rfl ?_
  refine g_getR (b := (r0 + 8)) fl_X0_26 (bk_0 hr0) (by decide) rfl rfl dX0_isWrong_1 ?_
  refine g_iload_n dX0_isWrong_4 1 rfl ?_
  refine g_iaload (bk_8 hr0) dX0_isWrong_5 (fun x1 => ?_)
  refine g_aload_n dX0_isWrong_6 0 rfl ?_
  refine g_getR (b := (r0 + 9)) fl_X0_29 (bk_0 hr0) (by decide) rfl rfl dX0_isWrong_7 ?_
  refine g_iload_n dX0_isWrong_10 1 rfl ?_
  refine g_iaload (bk_9 hr0) dX0_isWrong_11 (fun x2 => ?_)
  refine g_icmp_eq (tgt := 19) dX0_isWrong_12 (by decide) (fun _ => ?_) (fun _ => ?_)
  · refine g_iconst dX0_isWrong_19 (v := 0) (by decide) ?_
    exact g_ret dX0_isWrong_20 rfl rfl
  · refine g_iconst dX0_isWrong_15 (v := 1) (by decide) ?_
    refine g_goto (tgt := 20) dX0_isWrong_16 (by decide) ?_
    exact g_ret dX0_isWrong_20 rfl rfl
set_option maxHeartbeats 4000000 in
set_option maxRecDepth 100000 in
theorem okL_X0_wrongs_4 (g : GG) (F : Nat) (r0 : Nat) (k : Int32 → Option (Int32)) (μ : Mm) (hr0 : Bk r0) (hk : ∀ (v1 : Int32), Go g RX0 cX0_wrongs 3 .ireturn 2 (cvIp μ) 34 [(1, .int v1)] [] μ (k v1)) : ∀ (n : Nat) (v1 : Int32) (v2 : Int32), Go g RX0 cX0_wrongs 3 .ireturn 2 (cvIp μ) 4 [(0, .ref (gb g + r0)), (1, .int v1), (2, .int v2)] [] μ (L_X0_wrongs_4 F r0 k μ n v1 v2) := by
  intro n
  induction n with
  | zero =>
    intro v1 v2
    exact g_none
  | succ n ih =>
    intro v1 v2
    rw [L_X0_wrongs_4_s]
    refine g_iload_n dX0_wrongs_4 2 rfl ?_
    refine g_aload_n dX0_wrongs_5 0 rfl ?_
    refine g_vIp [] [.int v2] mw_X0_82 (ok_X0_cells g r0 hr0 μ) (by omega) (bk_0 hr0) (by decide) rfl rfl (Nat.le_of_ble_eq_true rfl) dX0_wrongs_6 (fun x1 _ => ?_)
    refine g_icmp_ge (tgt := 34) dX0_wrongs_9 (by decide) (fun _ => ?_) (fun _ => ?_)
    · refine g_lv [1] rfl ?_
      exact hk v1
    · refine g_iload_n dX0_wrongs_12 1 rfl ?_
      refine g_aload_n dX0_wrongs_13 0 rfl ?_
      refine g_iload_n dX0_wrongs_14 2 rfl ?_
      refine g_vZp [.int v2] [.int v1] mw_X0_148 (ok_X0_isWrong g r0 v2 hr0 μ) (by omega) (bk_0 hr0) (by decide) rfl rfl (Nat.le_of_ble_eq_true rfl) dX0_wrongs_15 (fun x2 _ => ?_)
      have hJ5 : ∀ (w4 : Int32), w4 = (if x2 = true then (1 : Int32) else 0) → Go g RX0 cX0_wrongs 3 .ireturn 2 (cvIp μ) 26 [(0, .ref (gb g + r0)), (2, .int v2)] [.int w4, .int v1] μ (L_X0_wrongs_4 F r0 k μ n (v1 + (if x2 = true then (1 : Int32) else 0)) (v2 + 1)) := by
        intro w4 ew4
        subst ew4
        refine g_iadd dX0_wrongs_26 ?_
        refine g_istore_n dX0_wrongs_27 rfl (by decide) (lv' := [(1, .int (v1 + (if x2 = true then (1 : Int32) else 0))), (0, .ref (gb g + r0)), (2, .int v2)]) rfl ?_
        refine g_iinc dX0_wrongs_28 2 rfl (v := (v2 + 1)) rfl (by decide) (lv' := [(2, .int (v2 + 1)), (1, .int (v1 + (if x2 = true then (1 : Int32) else 0))), (0, .ref (gb g + r0))]) rfl ?_
        refine g_goto (tgt := 4) dX0_wrongs_31 (by decide) ?_
        refine g_lv [2, 1, 0] rfl ?_
        exact ih (v1 + (if x2 = true then (1 : Int32) else 0)) (v2 + 1)
      refine g_same (g_ifeqB (tgt := 25) dX0_wrongs_18 (by decide) (fun c3 => ?_) (fun c3 => ?_))
      · refine g_iconst dX0_wrongs_25 (v := 0) (by decide) ?_
        refine g_lv [0, 2] rfl ?_
        exact hJ5 _ (by rw [if_neg c3])
      · refine g_iconst dX0_wrongs_21 (v := 1) (by decide) ?_
        refine g_goto (tgt := 26) dX0_wrongs_22 (by decide) ?_
        refine g_lv [0, 2] rfl ?_
        exact hJ5 _ (by rw [if_pos c3])
set_option maxHeartbeats 4000000 in
set_option maxRecDepth 100000 in
theorem ok_X0_wrongs (g : GG) (F : Nat) (r0 : Nat) (hr0 : Bk r0) (μ : Mm) : Ct g yX0_wrongs cX0_wrongs 3 (some (.int)) 2 (cvIp μ) [.ref (gb g + r0)] μ (f_X0_wrongs F r0 μ) := by
  refine ct_Ip (by decide +kernel) (Nat.le_of_ble_eq_true rfl) (show Go g RX0 cX0_wrongs 3 .ireturn 2 (cvIp μ) 0 [(0, .ref (gb g + r0))] [] μ (f_X0_wrongs F r0 μ) from ?_)
  unfold f_X0_wrongs
  refine g_iconst dX0_wrongs_0 (v := 0) (by decide) ?_
  refine g_istore_n dX0_wrongs_1 rfl (by decide) (lv' := [(1, .int 0), (0, .ref (gb g + r0))]) rfl ?_
  refine g_iconst dX0_wrongs_2 (v := 0) (by decide) ?_
  refine g_istore_n dX0_wrongs_3 rfl (by decide) (lv' := [(2, .int 0), (1, .int 0), (0, .ref (gb g + r0))]) rfl ?_
  refine g_lv [2, 1, 0] rfl ?_
  refine okL_X0_wrongs_4 g F r0 _ μ hr0 (fun u6 => ?_) F 0 0
  refine g_iload_n dX0_wrongs_34 0 rfl ?_
  exact g_ret dX0_wrongs_35 rfl rfl
set_option maxHeartbeats 4000000 in
set_option maxRecDepth 100000 in
theorem okL_X0_sumOf_5 (g : GG) (F : Nat) (r0 : Nat) (r1 : Nat) (v2 : Int32) (k : Int32 → Option (Int32)) (μ : Mm) (hr0 : Bk r0) (hr1 : shp r1 = (0, 25)) (hk : ∀ (v3 : Int32), Go g RX0 cX0_sumOf 5 .ireturn 1 (cvIp μ) 37 [(3, .int v3)] [] μ (k v3)) : ∀ (n : Nat) (v3 : Int32) (v4 : Int32), Go g RX0 cX0_sumOf 5 .ireturn 1 (cvIp μ) 5 [(0, .ref (gb g + r0)), (1, .ref (gb g + r1)), (2, .int v2), (3, .int v3), (4, .int v4)] [] μ (L_X0_sumOf_5 F r0 r1 v2 k μ n v3 v4) := by
  intro n
  induction n with
  | zero =>
    intro v3 v4
    exact g_none
  | succ n ih =>
    intro v3 v4
    rw [L_X0_sumOf_5_s]
    refine g_iload dX0_sumOf_5 4 rfl ?_
    refine g_aload_n dX0_sumOf_7 0 rfl ?_
    refine g_getI fl_X0_41 (bk_0 hr0) (by decide) rfl dX0_sumOf_8 ?_
    refine g_icmp_ge (tgt := 37) dX0_sumOf_11 (by decide) (fun _ => ?_) (fun _ => ?_)
    · refine g_lv [3] rfl ?_
      exact hk v3
    · refine g_iload_n dX0_sumOf_14 3 rfl ?_
      refine g_bipush dX0_sumOf_15 (v := 10) (by decide) ?_
      refine g_imul dX0_sumOf_17 ?_
      refine g_aload_n dX0_sumOf_18 1 rfl ?_
      refine g_iload_n dX0_sumOf_19 2 rfl ?_
      refine g_aload_n dX0_sumOf_20 0 rfl ?_
      refine g_getI fl_X0_41 (bk_0 hr0) (by decide) rfl dX0_sumOf_21 ?_
      refine g_imul dX0_sumOf_24 ?_
      refine g_iload dX0_sumOf_25 4 rfl ?_
      refine g_iadd dX0_sumOf_27 ?_
      refine g_iaload hr1 dX0_sumOf_28 (fun x1 => ?_)
      refine g_iadd dX0_sumOf_29 ?_
      refine g_istore_n dX0_sumOf_30 rfl (by decide) (lv' := [(3, .int ((v3 * (10 : Int32)) + x1)), (0, .ref (gb g + r0)), (1, .ref (gb g + r1)), (2, .int v2), (4, .int v4)]) rfl ?_
      refine g_iinc dX0_sumOf_31 4 rfl (v := (v4 + 1)) rfl (by decide) (lv' := [(4, .int (v4 + 1)), (3, .int ((v3 * (10 : Int32)) + x1)), (0, .ref (gb g + r0)), (1, .ref (gb g + r1)), (2, .int v2)]) rfl ?_
      refine g_goto (tgt := 5) dX0_sumOf_34 (by decide) ?_
      refine g_lv [2, 3, 4, 1, 0] rfl ?_
      exact ih ((v3 * (10 : Int32)) + x1) (v4 + 1)
set_option maxHeartbeats 4000000 in
set_option maxRecDepth 100000 in
theorem ok_X0_sumOf (g : GG) (F : Nat) (r0 : Nat) (r1 : Nat) (v2 : Int32) (hr0 : Bk r0) (hr1 : shp r1 = (0, 25)) (μ : Mm) : Ct g yX0_sumOf cX0_sumOf 5 (some (.int)) 1 (cvIp μ) [.ref (gb g + r0), .ref (gb g + r1), .int v2] μ (f_X0_sumOf F r0 r1 v2 μ) := by
  refine ct_Ip (by decide +kernel) (Nat.le_of_ble_eq_true rfl) (show Go g RX0 cX0_sumOf 5 .ireturn 1 (cvIp μ) 0 [(0, .ref (gb g + r0)), (1, .ref (gb g + r1)), (2, .int v2)] [] μ (f_X0_sumOf F r0 r1 v2 μ) from ?_)
  unfold f_X0_sumOf
  refine g_iconst dX0_sumOf_0 (v := 0) (by decide) ?_
  refine g_istore_n dX0_sumOf_1 rfl (by decide) (lv' := [(3, .int 0), (0, .ref (gb g + r0)), (1, .ref (gb g + r1)), (2, .int v2)]) rfl ?_
  refine g_iconst dX0_sumOf_2 (v := 0) (by decide) ?_
  refine g_istore dX0_sumOf_3 (by decide) (lv' := [(4, .int 0), (3, .int 0), (0, .ref (gb g + r0)), (1, .ref (gb g + r1)), (2, .int v2)]) rfl ?_
  refine g_lv [2, 3, 4, 1, 0] rfl ?_
  refine okL_X0_sumOf_5 g F r0 r1 v2 _ μ hr0 hr1 (fun u2 => ?_) F 0 0
  refine g_iload_n dX0_sumOf_37 0 rfl ?_
  exact g_ret dX0_sumOf_38 rfl rfl
set_option maxHeartbeats 4000000 in
set_option maxRecDepth 100000 in
theorem okL_X0_surplus_4 (g : GG) (F : Nat) (r0 : Nat) (k : Int32 → Option (Int32)) (μ : Mm) (hr0 : Bk r0) (hk : ∀ (v1 : Int32), Go g RX0 cX0_surplus 4 .ireturn 2 (cvIp μ) 46 [(1, .int v1)] [] μ (k v1)) : ∀ (n : Nat) (v1 : Int32) (v2 : Int32), Go g RX0 cX0_surplus 4 .ireturn 2 (cvIp μ) 4 [(0, .ref (gb g + r0)), (1, .int v1), (2, .int v2)] [] μ (L_X0_surplus_4 F r0 k μ n v1 v2) := by
  intro n
  induction n with
  | zero =>
    intro v1 v2
    exact g_none
  | succ n ih =>
    intro v1 v2
    rw [L_X0_surplus_4_s]
    refine g_iload_n dX0_surplus_4 2 rfl ?_
    refine g_aload_n dX0_surplus_5 0 rfl ?_
    refine g_getI fl_X0_51 (bk_0 hr0) (by decide) rfl dX0_surplus_6 ?_
    refine g_icmp_ge (tgt := 46) dX0_surplus_9 (by decide) (fun _ => ?_) (fun _ => ?_)
    · refine g_lv [1] rfl ?_
      exact hk v1
    · refine g_aload_n dX0_surplus_12 0 rfl ?_
      refine g_aload_n dX0_surplus_13 0 rfl ?_
      refine g_getR (b := (r0 + 8)) fl_X0_26 (bk_0 hr0) (by decide) rfl rfl dX0_surplus_14 ?_
      refine g_iload_n dX0_surplus_17 2 rfl ?_
      refine g_vIp [.ref (gb g + (r0 + 8)), .int v2] [] mw_X0_151 (ok_X0_sumOf g F r0 (r0 + 8) v2 hr0 (bk_8 hr0) μ) (by omega) (bk_0 hr0) (by decide) rfl rfl (Nat.le_of_ble_eq_true rfl) dX0_surplus_18 (fun x1 _ => ?_)
      refine g_istore_n dX0_surplus_21 rfl (by decide) (lv' := [(3, .int x1), (0, .ref (gb g + r0)), (1, .int v1), (2, .int v2)]) rfl ?_
      refine g_iload_n dX0_surplus_22 2 rfl ?_
      refine g_aload_n dX0_surplus_23 1 rfl ?_
      refine g_getR (b := (r0 + 6)) fl_X0_18 (bk_0 hr0) (by decide) rfl rfl dX0_surplus_24 ?_
      refine g_iload_n dX0_surplus_27 3 rfl ?_
      refine g_iaload (bk_6 hr0) dX0_surplus_28 (fun x2 => ?_)
      have hJ5 : ∀ (w4 : Int32), w4 = (if x2 = 0 then x1 else (-x1)) → Go g RX0 cX0_surplus 4 .ireturn 2 (cvIp μ) 38 [(0, .ref (gb g + r0)), (2, .int v2)] [.int w4, .int v1] μ (L_X0_surplus_4 F r0 k μ n (v1 + (if x2 = 0 then x1 else (-x1))) (v2 + 1)) := by
        intro w4 ew4
        subst ew4
        refine g_iadd dX0_surplus_38 ?_
        refine g_istore_n dX0_surplus_39 rfl (by decide) (lv' := [(1, .int (v1 + (if x2 = 0 then x1 else (-x1)))), (0, .ref (gb g + r0)), (2, .int v2)]) rfl ?_
        refine g_iinc dX0_surplus_40 2 rfl (v := (v2 + 1)) rfl (by decide) (lv' := [(2, .int (v2 + 1)), (1, .int (v1 + (if x2 = 0 then x1 else (-x1)))), (0, .ref (gb g + r0))]) rfl ?_
        refine g_goto (tgt := 4) dX0_surplus_43 (by decide) ?_
        refine g_lv [2, 1, 0] rfl ?_
        exact ih (v1 + (if x2 = 0 then x1 else (-x1))) (v2 + 1)
      refine g_same (g_if_ne (tgt := 36) dX0_surplus_29 (by decide) (fun c3 => ?_) (fun c3 => ?_))
      · refine g_iload_n dX0_surplus_36 0 rfl ?_
        refine g_ineg dX0_surplus_37 ?_
        refine g_lv [1, 3] rfl ?_
        exact hJ5 _ (by rw [if_neg c3])
      · refine g_iload_n dX0_surplus_32 0 rfl ?_
        refine g_goto (tgt := 38) dX0_surplus_33 (by decide) ?_
        refine g_lv [1, 3] rfl ?_
        exact hJ5 _ (by rw [if_pos c3])
set_option maxHeartbeats 4000000 in
set_option maxRecDepth 100000 in
theorem ok_X0_surplus (g : GG) (F : Nat) (r0 : Nat) (hr0 : Bk r0) (μ : Mm) : Ct g yX0_surplus cX0_surplus 4 (some (.int)) 2 (cvIp μ) [.ref (gb g + r0)] μ (f_X0_surplus F r0 μ) := by
  refine ct_Ip (by decide +kernel) (Nat.le_of_ble_eq_true rfl) (show Go g RX0 cX0_surplus 4 .ireturn 2 (cvIp μ) 0 [(0, .ref (gb g + r0))] [] μ (f_X0_surplus F r0 μ) from ?_)
  unfold f_X0_surplus
  refine g_iconst dX0_surplus_0 (v := 0) (by decide) ?_
  refine g_istore_n dX0_surplus_1 rfl (by decide) (lv' := [(1, .int 0), (0, .ref (gb g + r0))]) rfl ?_
  refine g_iconst dX0_surplus_2 (v := 0) (by decide) ?_
  refine g_istore_n dX0_surplus_3 rfl (by decide) (lv' := [(2, .int 0), (1, .int 0), (0, .ref (gb g + r0))]) rfl ?_
  refine g_lv [2, 1, 0] rfl ?_
  refine okL_X0_surplus_4 g F r0 _ μ hr0 (fun u6 => ?_) F 0 0
  refine g_iload_n dX0_surplus_46 0 rfl ?_
  exact g_ret dX0_surplus_47 rfl rfl
set_option maxHeartbeats 4000000 in
set_option maxRecDepth 100000 in
theorem ok_X0_weightOf (g : GG) (r0 : Nat) (v1 : Int32) (hr0 : Bk r0) (μ : Mm) : Ct g yX0_weightOf cX0_weightOf 3 (some (.int)) 2 (cvIp μ) [.ref (gb g + r0), .int v1] μ (f_X0_weightOf r0 v1 μ) := by
  refine ct_Ip (by decide +kernel) (Nat.le_of_ble_eq_true rfl) (show Go g RX0 cX0_weightOf 3 .ireturn 2 (cvIp μ) 0 [(0, .ref (gb g + r0)), (1, .int v1)] [] μ (f_X0_weightOf r0 v1 μ) from ?_)
  unfold f_X0_weightOf
  refine g_static (Or.inr rfl) fn_X0_154 dX0_weightOf_0 ?_
  refine g_aload_n dX0_weightOf_3 0 rfl ?_
  refine g_getI fl_X0_41 (bk_0 hr0) (by decide) rfl dX0_weightOf_4 ?_
  refine g_iconst dX0_weightOf_7 (v := 1) (by decide) ?_
  refine g_isub dX0_weightOf_8 ?_
  refine g_aload_n dX0_weightOf_9 0 rfl ?_
  refine g_iload_n dX0_weightOf_10 1 rfl ?_
  refine g_vIp [.int v1] [.int ((mI μ r0 0) - (1 : Int32)), .ref (gT g)] mw_X0_99 (ok_X0_columnOf g r0 v1 hr0 μ) (by omega) (bk_0 hr0) (by decide) rfl rfl (Nat.le_of_ble_eq_true rfl) dX0_weightOf_11 (fun x1 _ => ?_)
  refine g_isub dX0_weightOf_14 ?_
  refine g_tenld dX0_weightOf_15 (fun x2 => ?_)
  refine g_istore_n dX0_weightOf_16 rfl (by decide) (lv' := [(2, .int x2), (0, .ref (gb g + r0)), (1, .int v1)]) rfl ?_
  refine g_aload_n dX0_weightOf_17 1 rfl ?_
  refine g_getR (b := (r0 + 6)) fl_X0_18 (bk_0 hr0) (by decide) rfl rfl dX0_weightOf_18 ?_
  refine g_aload_n dX0_weightOf_21 1 rfl ?_
  refine g_iload_n dX0_weightOf_22 2 rfl ?_
  refine g_vIp [.int v1] [.ref (gb g + (r0 + 6))] mw_X0_90 (ok_X0_rowOf g r0 v1 hr0 μ) (by omega) (bk_0 hr0) (by decide) rfl rfl (Nat.le_of_ble_eq_true rfl) dX0_weightOf_23 (fun x3 _ => ?_)
  refine g_iaload (bk_6 hr0) dX0_weightOf_26 (fun x4 => ?_)
  have hJ7 : ∀ (w6 : Int32), w6 = (if x4 = 0 then x2 else (-x2)) → Go g RX0 cX0_weightOf 3 .ireturn 2 (cvIp μ) 36 [] [.int w6] μ (some (if x4 = 0 then x2 else (-x2))) := by
    intro w6 ew6
    subst ew6
    exact g_ret dX0_weightOf_36 rfl rfl
  refine g_same (g_if_ne (tgt := 34) dX0_weightOf_27 (by decide) (fun c5 => ?_) (fun c5 => ?_))
  · refine g_iload_n dX0_weightOf_34 0 rfl ?_
    refine g_ineg dX0_weightOf_35 ?_
    refine g_lv [] rfl ?_
    exact hJ7 _ (by rw [if_neg c5])
  · refine g_iload_n dX0_weightOf_30 0 rfl ?_
    refine g_goto (tgt := 36) dX0_weightOf_31 (by decide) ?_
    refine g_lv [] rfl ?_
    exact hJ7 _ (by rw [if_pos c5])
set_option maxHeartbeats 4000000 in
set_option maxRecDepth 100000 in
theorem okL_X0_evensOut_9 (g : GG) (F : Nat) (r0 : Nat) (v1 : Int32) (v2 : Int32) (v3 : Int32) (k : Option (Bool)) (μ : Mm) (hr0 : Bk r0) (hk : Go g RX0 cX0_evensOut 6 .ireturn 3 (cvZp μ) 49 [] [] μ k) : ∀ (n : Nat) (v4 : Int32), Go g RX0 cX0_evensOut 6 .ireturn 3 (cvZp μ) 9 [(0, .ref (gb g + r0)), (1, .int v1), (2, .int v2), (3, .int v3), (4, .int v4)] [] μ (L_X0_evensOut_9 F r0 v1 v2 v3 k μ n v4) := by
  intro n
  induction n with
  | zero =>
    intro v4
    exact g_none
  | succ n ih =>
    intro v4
    rw [L_X0_evensOut_9_s]
    refine g_iload dX0_evensOut_9 4 rfl ?_
    refine g_bipush dX0_evensOut_11 (v := 9) (by decide) ?_
    refine g_icmp_gt (tgt := 49) dX0_evensOut_13 (by decide) (fun _ => ?_) (fun _ => ?_)
    · refine g_lv [] rfl ?_
      exact hk 
    · refine g_iload dX0_evensOut_16 4 rfl ?_
      refine g_aload_n dX0_evensOut_18 0 rfl ?_
      refine g_getR (b := (r0 + 8)) fl_X0_26 (bk_0 hr0) (by decide) rfl rfl dX0_evensOut_19 ?_
      refine g_iload_n dX0_evensOut_22 1 rfl ?_
      refine g_iaload (bk_8 hr0) dX0_evensOut_23 (fun x2 => ?_)
      refine g_isub dX0_evensOut_24 ?_
      refine g_istore dX0_evensOut_25 (by decide) (lv' := [(5, .int (v4 - x2)), (0, .ref (gb g + r0)), (1, .int v1), (2, .int v2), (3, .int v3), (4, .int v4)]) rfl ?_
      refine g_iload dX0_evensOut_27 0 rfl ?_
      refine g_if_eq (tgt := 43) dX0_evensOut_29 (by decide) (fun _ => ?_) (fun _ => ?_)
      · refine g_iinc dX0_evensOut_43 5 rfl (v := (v4 + 1)) rfl (by decide) (lv' := [(4, .int (v4 + 1)), (5, .int (v4 - x2)), (0, .ref (gb g + r0)), (1, .int v1), (2, .int v2), (3, .int v3)]) rfl ?_
        refine g_goto (tgt := 9) dX0_evensOut_46 (by decide) ?_
        refine g_lv [2, 3, 4, 5, 0] rfl ?_
        exact ih (v4 + 1)
      · refine g_iload_n dX0_evensOut_32 3 rfl ?_
        refine g_iload dX0_evensOut_33 0 rfl ?_
        refine g_iload_n dX0_evensOut_35 4 rfl ?_
        refine g_imul dX0_evensOut_36 ?_
        refine g_iadd dX0_evensOut_37 ?_
        refine g_if_ne (tgt := 43) dX0_evensOut_38 (by decide) (fun _ => ?_) (fun _ => ?_)
        · refine g_iinc dX0_evensOut_43 5 rfl (v := (v4 + 1)) rfl (by decide) (lv' := [(4, .int (v4 + 1)), (5, .int (v4 - x2)), (0, .ref (gb g + r0)), (1, .int v1), (2, .int v2), (3, .int v3)]) rfl ?_
          refine g_goto (tgt := 9) dX0_evensOut_46 (by decide) ?_
          refine g_lv [2, 3, 4, 5, 0] rfl ?_
          exact ih (v4 + 1)
        · refine g_iconst dX0_evensOut_41 (v := 1) (by decide) ?_
          exact g_ret dX0_evensOut_42 rfl rfl
set_option maxHeartbeats 4000000 in
set_option maxRecDepth 100000 in
theorem ok_X0_evensOut (g : GG) (F : Nat) (r0 : Nat) (v1 : Int32) (v2 : Int32) (hr0 : Bk r0) (μ : Mm) : Ct g yX0_evensOut cX0_evensOut 6 (some (.boolean)) 3 (cvZp μ) [.ref (gb g + r0), .int v1, .int v2] μ (f_X0_evensOut F r0 v1 v2 μ) := by
  refine ct_Zp (by decide +kernel) (Nat.le_of_ble_eq_true rfl) (show Go g RX0 cX0_evensOut 6 .ireturn 3 (cvZp μ) 0 [(0, .ref (gb g + r0)), (1, .int v1), (2, .int v2)] [] μ (f_X0_evensOut F r0 v1 v2 μ) from ?_)
  unfold f_X0_evensOut
  refine g_aload_n dX0_evensOut_0 0 rfl ?_
  refine g_iload_n dX0_evensOut_1 1 rfl ?_
  refine g_vIp [.int v1] [] mw_X0_167 (ok_X0_weightOf g r0 v1 hr0 μ) (by omega) (bk_0 hr0) (by decide) rfl rfl (Nat.le_of_ble_eq_true rfl) dX0_evensOut_2 (fun x1 _ => ?_)
  refine g_istore_n dX0_evensOut_5 rfl (by decide) (lv' := [(3, .int x1), (0, .ref (gb g + r0)), (1, .int v1), (2, .int v2)]) rfl ?_
  refine g_iconst dX0_evensOut_6 (v := 0) (by decide) ?_
  refine g_istore dX0_evensOut_7 (by decide) (lv' := [(4, .int 0), (3, .int x1), (0, .ref (gb g + r0)), (1, .int v1), (2, .int v2)]) rfl ?_
  refine g_lv [2, 3, 4, 1, 0] rfl ?_
  refine okL_X0_evensOut_9 g F r0 v1 v2 x1 _ μ hr0 ?_ F 0
  refine g_iconst dX0_evensOut_49 (v := 0) (by decide) ?_
  exact g_ret dX0_evensOut_50 rfl rfl
set_option maxHeartbeats 4000000 in
set_option maxRecDepth 100000 in
theorem okL_X0_evenOut_10 (g : GG) (F : Nat) (r0 : Nat) (v1 : Int32) (v2 : Int32) (v3 : Int32) (v4 : Int32) (k : Option (Bool)) (μ : Mm) (hr0 : Bk r0) (hk : Go g RX0 cX0_evenOut 7 .ireturn 4 (cvZp μ) 56 [] [] μ k) : ∀ (n : Nat) (v5 : Int32), Go g RX0 cX0_evenOut 7 .ireturn 4 (cvZp μ) 10 [(0, .ref (gb g + r0)), (1, .int v1), (2, .int v2), (3, .int v3), (4, .int v4), (5, .int v5)] [] μ (L_X0_evenOut_10 F r0 v1 v2 v3 v4 k μ n v5) := by
  intro n
  induction n with
  | zero =>
    intro v5
    exact g_none
  | succ n ih =>
    intro v5
    rw [L_X0_evenOut_10_s]
    refine g_iload dX0_evenOut_10 5 rfl ?_
    refine g_bipush dX0_evenOut_12 (v := 9) (by decide) ?_
    refine g_icmp_gt (tgt := 56) dX0_evenOut_14 (by decide) (fun _ => ?_) (fun _ => ?_)
    · refine g_lv [] rfl ?_
      exact hk 
    · refine g_iload dX0_evenOut_17 5 rfl ?_
      refine g_aload_n dX0_evenOut_19 0 rfl ?_
      refine g_getR (b := (r0 + 8)) fl_X0_26 (bk_0 hr0) (by decide) rfl rfl dX0_evenOut_20 ?_
      refine g_iload_n dX0_evenOut_23 2 rfl ?_
      refine g_iaload (bk_8 hr0) dX0_evenOut_24 (fun x2 => ?_)
      refine g_isub dX0_evenOut_25 ?_
      refine g_istore dX0_evenOut_26 (by decide) (lv' := [(6, .int (v5 - x2)), (0, .ref (gb g + r0)), (1, .int v1), (2, .int v2), (3, .int v3), (4, .int v4), (5, .int v5)]) rfl ?_
      refine g_iload dX0_evenOut_28 0 rfl ?_
      refine g_if_eq (tgt := 50) dX0_evenOut_30 (by decide) (fun _ => ?_) (fun _ => ?_)
      · refine g_iinc dX0_evenOut_50 6 rfl (v := (v5 + 1)) rfl (by decide) (lv' := [(5, .int (v5 + 1)), (6, .int (v5 - x2)), (0, .ref (gb g + r0)), (1, .int v1), (2, .int v2), (3, .int v3), (4, .int v4)]) rfl ?_
        refine g_goto (tgt := 10) dX0_evenOut_53 (by decide) ?_
        refine g_lv [2, 3, 4, 5, 6, 0] rfl ?_
        exact ih (v5 + 1)
      · refine g_aload_n dX0_evenOut_33 1 rfl ?_
        refine g_iload_n dX0_evenOut_34 2 rfl ?_
        refine g_iload_n dX0_evenOut_35 4 rfl ?_
        refine g_iload dX0_evenOut_36 0 rfl ?_
        refine g_iload dX0_evenOut_38 5 rfl ?_
        refine g_imul dX0_evenOut_40 ?_
        refine g_iadd dX0_evenOut_41 ?_
        refine g_vZp [.int v1, .int (v3 + ((v5 - x2) * v4))] [] mw_X0_160 (ok_X0_evensOut g F r0 v1 (v3 + ((v5 - x2) * v4)) hr0 μ) (by omega) (bk_0 hr0) (by decide) rfl rfl (Nat.le_of_ble_eq_true rfl) dX0_evenOut_42 (fun x3 _ => ?_)
        refine g_ifeqB (tgt := 50) dX0_evenOut_45 (by decide) (fun _ => ?_) (fun _ => ?_)
        · refine g_iinc dX0_evenOut_50 6 rfl (v := (v5 + 1)) rfl (by decide) (lv' := [(5, .int (v5 + 1)), (6, .int (v5 - x2)), (0, .ref (gb g + r0)), (1, .int v1), (2, .int v2), (3, .int v3), (4, .int v4)]) rfl ?_
          refine g_goto (tgt := 10) dX0_evenOut_53 (by decide) ?_
          refine g_lv [2, 3, 4, 5, 6, 0] rfl ?_
          exact ih (v5 + 1)
        · refine g_iconst dX0_evenOut_48 (v := 1) (by decide) ?_
          exact g_ret dX0_evenOut_49 rfl rfl
set_option maxHeartbeats 4000000 in
set_option maxRecDepth 100000 in
theorem ok_X0_evenOut (g : GG) (F : Nat) (r0 : Nat) (v1 : Int32) (v2 : Int32) (v3 : Int32) (hr0 : Bk r0) (μ : Mm) : Ct g yX0_evenOut cX0_evenOut 7 (some (.boolean)) 4 (cvZp μ) [.ref (gb g + r0), .int v1, .int v2, .int v3] μ (f_X0_evenOut F r0 v1 v2 v3 μ) := by
  refine ct_Zp (by decide +kernel) (Nat.le_of_ble_eq_true rfl) (show Go g RX0 cX0_evenOut 7 .ireturn 4 (cvZp μ) 0 [(0, .ref (gb g + r0)), (1, .int v1), (2, .int v2), (3, .int v3)] [] μ (f_X0_evenOut F r0 v1 v2 v3 μ) from ?_)
  unfold f_X0_evenOut
  refine g_aload_n dX0_evenOut_0 0 rfl ?_
  refine g_iload_n dX0_evenOut_1 2 rfl ?_
  refine g_vIp [.int v2] [] mw_X0_167 (ok_X0_weightOf g r0 v2 hr0 μ) (by omega) (bk_0 hr0) (by decide) rfl rfl (Nat.le_of_ble_eq_true rfl) dX0_evenOut_2 (fun x1 _ => ?_)
  refine g_istore dX0_evenOut_5 (by decide) (lv' := [(4, .int x1), (0, .ref (gb g + r0)), (1, .int v1), (2, .int v2), (3, .int v3)]) rfl ?_
  refine g_iconst dX0_evenOut_7 (v := 0) (by decide) ?_
  refine g_istore dX0_evenOut_8 (by decide) (lv' := [(5, .int 0), (4, .int x1), (0, .ref (gb g + r0)), (1, .int v1), (2, .int v2), (3, .int v3)]) rfl ?_
  refine g_lv [2, 3, 4, 5, 1, 0] rfl ?_
  refine okL_X0_evenOut_10 g F r0 v1 v2 v3 x1 _ μ hr0 ?_ F 0
  refine g_iconst dX0_evenOut_56 (v := 0) (by decide) ?_
  exact g_ret dX0_evenOut_57 rfl rfl
set_option maxHeartbeats 4000000 in
set_option maxRecDepth 100000 in
theorem okL_X0_leastRubbed_13 (g : GG) (F : Nat) (r0 : Nat) (v1 : Int32) (k : Option (Int32)) (μ : Mm) (hr0 : Bk r0) (hk : Go g RX0 cX0_leastRubbed 4 .ireturn 5 (cvIp μ) 40 [(0, .ref (gb g + r0)), (1, .int v1)] [] μ k) : ∀ (n : Nat) (v2 : Int32), Go g RX0 cX0_leastRubbed 4 .ireturn 5 (cvIp μ) 13 [(0, .ref (gb g + r0)), (1, .int v1), (2, .int v2)] [] μ (L_X0_leastRubbed_13 F r0 v1 k μ n v2) := by
  intro n
  induction n with
  | zero =>
    intro v2
    exact g_none
  | succ n ih =>
    intro v2
    rw [L_X0_leastRubbed_13_s]
    refine g_iload_n dX0_leastRubbed_13 2 rfl ?_
    refine g_aload_n dX0_leastRubbed_14 0 rfl ?_
    refine g_vIp [] [.int v2] mw_X0_82 (ok_X0_cells g r0 hr0 μ) (by omega) (bk_0 hr0) (by decide) rfl rfl (Nat.le_of_ble_eq_true rfl) dX0_leastRubbed_15 (fun x2 _ => ?_)
    refine g_icmp_ge (tgt := 40) dX0_leastRubbed_18 (by decide) (fun _ => ?_) (fun _ => ?_)
    · refine g_lv [0, 1] rfl ?_
      exact hk 
    · refine g_aload_n dX0_leastRubbed_21 0 rfl ?_
      refine g_iload_n dX0_leastRubbed_22 2 rfl ?_
      refine g_iload_n dX0_leastRubbed_23 1 rfl ?_
      refine g_vZp [.int v2, .int v1] [] mw_X0_160 (ok_X0_evensOut g F r0 v2 v1 hr0 μ) (by omega) (bk_0 hr0) (by decide) rfl rfl (Nat.le_of_ble_eq_true rfl) dX0_leastRubbed_24 (fun x3 _ => ?_)
      refine g_ifeqB (tgt := 34) dX0_leastRubbed_27 (by decide) (fun _ => ?_) (fun _ => ?_)
      · refine g_iinc dX0_leastRubbed_34 2 rfl (v := (v2 + 1)) rfl (by decide) (lv' := [(2, .int (v2 + 1)), (0, .ref (gb g + r0)), (1, .int v1)]) rfl ?_
        refine g_goto (tgt := 13) dX0_leastRubbed_37 (by decide) ?_
        refine g_lv [1, 2, 0] rfl ?_
        exact ih (v2 + 1)
      · refine g_iconst dX0_leastRubbed_30 (v := 1) (by decide) ?_
        refine g_iload_n dX0_leastRubbed_31 2 rfl ?_
        refine g_ishl dX0_leastRubbed_32 ?_
        exact g_ret dX0_leastRubbed_33 rfl rfl
set_option maxHeartbeats 4000000 in
set_option maxRecDepth 100000 in
theorem okL_X0_leastRubbed_52 (g : GG) (F : Nat) (r0 : Nat) (v1 : Int32) (v2 : Int32) (k : Option (Int32)) (μ : Mm) (hr0 : Bk r0) (hk : Go g RX0 cX0_leastRubbed 4 .ireturn 5 (cvIp μ) 81 [(0, .ref (gb g + r0)), (1, .int v1), (2, .int v2)] [] μ k) : ∀ (n : Nat) (v3 : Int32), Go g RX0 cX0_leastRubbed 4 .ireturn 5 (cvIp μ) 52 [(0, .ref (gb g + r0)), (1, .int v1), (2, .int v2), (3, .int v3)] [] μ (L_X0_leastRubbed_52 F r0 v1 v2 k μ n v3) := by
  intro n
  induction n with
  | zero =>
    intro v3
    exact g_none
  | succ n ih =>
    intro v3
    rw [L_X0_leastRubbed_52_s]
    refine g_iload_n dX0_leastRubbed_52 3 rfl ?_
    refine g_iload_n dX0_leastRubbed_53 2 rfl ?_
    refine g_icmp_ge (tgt := 81) dX0_leastRubbed_54 (by decide) (fun _ => ?_) (fun _ => ?_)
    · refine g_lv [0, 1, 2] rfl ?_
      exact hk 
    · refine g_aload_n dX0_leastRubbed_57 0 rfl ?_
      refine g_iload_n dX0_leastRubbed_58 3 rfl ?_
      refine g_iload_n dX0_leastRubbed_59 2 rfl ?_
      refine g_iload_n dX0_leastRubbed_60 1 rfl ?_
      refine g_vZp [.int v3, .int v2, .int v1] [] mw_X0_164 (ok_X0_evenOut g F r0 v3 v2 v1 hr0 μ) (by omega) (bk_0 hr0) (by decide) rfl rfl (Nat.le_of_ble_eq_true rfl) dX0_leastRubbed_61 (fun x5 _ => ?_)
      refine g_ifeqB (tgt := 75) dX0_leastRubbed_64 (by decide) (fun _ => ?_) (fun _ => ?_)
      · refine g_iinc dX0_leastRubbed_75 3 rfl (v := (v3 + 1)) rfl (by decide) (lv' := [(3, .int (v3 + 1)), (0, .ref (gb g + r0)), (1, .int v1), (2, .int v2)]) rfl ?_
        refine g_goto (tgt := 52) dX0_leastRubbed_78 (by decide) ?_
        refine g_lv [1, 2, 3, 0] rfl ?_
        exact ih (v3 + 1)
      · refine g_iconst dX0_leastRubbed_67 (v := 1) (by decide) ?_
        refine g_iload_n dX0_leastRubbed_68 3 rfl ?_
        refine g_ishl dX0_leastRubbed_69 ?_
        refine g_iconst dX0_leastRubbed_70 (v := 1) (by decide) ?_
        refine g_iload_n dX0_leastRubbed_71 2 rfl ?_
        refine g_ishl dX0_leastRubbed_72 ?_
        refine g_ior dX0_leastRubbed_73 ?_
        exact g_ret dX0_leastRubbed_74 rfl rfl
set_option maxHeartbeats 4000000 in
set_option maxRecDepth 100000 in
theorem okL_X0_leastRubbed_42 (g : GG) (F : Nat) (r0 : Nat) (v1 : Int32) (k : Option (Int32)) (μ : Mm) (hr0 : Bk r0) (hk : Go g RX0 cX0_leastRubbed 4 .ireturn 5 (cvIp μ) 87 [] [] μ k) : ∀ (n : Nat) (v2 : Int32), Go g RX0 cX0_leastRubbed 4 .ireturn 5 (cvIp μ) 42 [(0, .ref (gb g + r0)), (1, .int v1), (2, .int v2)] [] μ (L_X0_leastRubbed_42 F r0 v1 k μ n v2) := by
  intro n
  induction n with
  | zero =>
    intro v2
    exact g_none
  | succ n ih =>
    intro v2
    rw [L_X0_leastRubbed_42_s]
    refine g_iload_n dX0_leastRubbed_42 2 rfl ?_
    refine g_aload_n dX0_leastRubbed_43 0 rfl ?_
    refine g_vIp [] [.int v2] mw_X0_82 (ok_X0_cells g r0 hr0 μ) (by omega) (bk_0 hr0) (by decide) rfl rfl (Nat.le_of_ble_eq_true rfl) dX0_leastRubbed_44 (fun x4 _ => ?_)
    refine g_icmp_ge (tgt := 87) dX0_leastRubbed_47 (by decide) (fun _ => ?_) (fun _ => ?_)
    · refine g_lv [] rfl ?_
      exact hk 
    · refine g_iconst dX0_leastRubbed_50 (v := 0) (by decide) ?_
      refine g_istore_n dX0_leastRubbed_51 rfl (by decide) (lv' := [(3, .int 0), (0, .ref (gb g + r0)), (1, .int v1), (2, .int v2)]) rfl ?_
      refine g_lv [1, 2, 3, 0] rfl ?_
      refine okL_X0_leastRubbed_52 g F r0 v1 v2 _ μ hr0 ?_ F 0
      refine g_iinc dX0_leastRubbed_81 2 rfl (v := (v2 + 1)) rfl (by decide) (lv' := [(2, .int (v2 + 1)), (0, .ref (gb g + r0)), (1, .int v1)]) rfl ?_
      refine g_goto (tgt := 42) dX0_leastRubbed_84 (by decide) ?_
      refine g_lv [1, 2, 0] rfl ?_
      exact ih (v2 + 1)
set_option maxHeartbeats 4000000 in
set_option maxRecDepth 100000 in
theorem ok_X0_leastRubbed (g : GG) (F : Nat) (r0 : Nat) (hr0 : Bk r0) (μ : Mm) : Ct g yX0_leastRubbed cX0_leastRubbed 4 (some (.int)) 5 (cvIp μ) [.ref (gb g + r0)] μ (f_X0_leastRubbed F r0 μ) := by
  refine ct_Ip (by decide +kernel) (Nat.le_of_ble_eq_true rfl) (show Go g RX0 cX0_leastRubbed 4 .ireturn 5 (cvIp μ) 0 [(0, .ref (gb g + r0))] [] μ (f_X0_leastRubbed F r0 μ) from ?_)
  unfold f_X0_leastRubbed
  refine g_aload_n dX0_leastRubbed_0 0 rfl ?_
  refine g_vIp [] [] mw_X0_157 (ok_X0_surplus g F r0 hr0 μ) (by omega) (bk_0 hr0) (by decide) rfl rfl (Nat.le_of_ble_eq_true rfl) dX0_leastRubbed_1 (fun x1 _ => ?_)
  refine g_istore_n dX0_leastRubbed_4 rfl (by decide) (lv' := [(1, .int x1), (0, .ref (gb g + r0))]) rfl ?_
  refine g_iload_n dX0_leastRubbed_5 0 rfl ?_
  refine g_if_ne (tgt := 11) dX0_leastRubbed_6 (by decide) (fun _ => ?_) (fun _ => ?_)
  · refine g_iconst dX0_leastRubbed_11 (v := 0) (by decide) ?_
    refine g_istore_n dX0_leastRubbed_12 rfl (by decide) (lv' := [(2, .int 0), (1, .int x1), (0, .ref (gb g + r0))]) rfl ?_
    refine g_lv [2, 1, 0] rfl ?_
    refine okL_X0_leastRubbed_13 g F r0 x1 _ μ hr0 ?_ F 0
    refine g_iconst dX0_leastRubbed_40 (v := 1) (by decide) ?_
    refine g_istore_n dX0_leastRubbed_41 rfl (by decide) (lv' := [(2, .int 1), (0, .ref (gb g + r0)), (1, .int x1)]) rfl ?_
    refine g_lv [1, 2, 0] rfl ?_
    refine okL_X0_leastRubbed_42 g F r0 x1 _ μ hr0 ?_ F 1
    refine g_iconst dX0_leastRubbed_87 (v := (-1)) (by decide) ?_
    exact g_ret dX0_leastRubbed_88 rfl rfl
  · refine g_iconst dX0_leastRubbed_9 (v := 0) (by decide) ?_
    exact g_ret dX0_leastRubbed_10 rfl rfl
set_option maxHeartbeats 4000000 in
set_option maxRecDepth 100000 in
theorem okL_X0_togetherInRow_5 (g : GG) (F : Nat) (r0 : Nat) (r1 : Nat) (v2 : Int32) (k : Int32 → Option (Int32)) (μ : Mm) (hr0 : Bk r0) (hr1 : shp r1 = (0, 25)) (hk : ∀ (v3 : Int32), Go g RX0 cX0_togetherInRow 5 .ireturn 1 (cvIp μ) 34 [(3, .int v3)] [] μ (k v3)) : ∀ (n : Nat) (v3 : Int32) (v4 : Int32), Go g RX0 cX0_togetherInRow 5 .ireturn 1 (cvIp μ) 5 [(0, .ref (gb g + r0)), (1, .ref (gb g + r1)), (2, .int v2), (3, .int v3), (4, .int v4)] [] μ (L_X0_togetherInRow_5 F r0 r1 v2 k μ n v3 v4) := by
  intro n
  induction n with
  | zero =>
    intro v3 v4
    exact g_none
  | succ n ih =>
    intro v3 v4
    rw [L_X0_togetherInRow_5_s]
    refine g_iload dX0_togetherInRow_5 4 rfl ?_
    refine g_aload_n dX0_togetherInRow_7 0 rfl ?_
    refine g_getI fl_X0_41 (bk_0 hr0) (by decide) rfl dX0_togetherInRow_8 ?_
    refine g_icmp_ge (tgt := 34) dX0_togetherInRow_11 (by decide) (fun _ => ?_) (fun _ => ?_)
    · refine g_lv [3] rfl ?_
      exact hk v3
    · refine g_iload_n dX0_togetherInRow_14 3 rfl ?_
      refine g_aload_n dX0_togetherInRow_15 1 rfl ?_
      refine g_iload_n dX0_togetherInRow_16 2 rfl ?_
      refine g_aload_n dX0_togetherInRow_17 0 rfl ?_
      refine g_getI fl_X0_41 (bk_0 hr0) (by decide) rfl dX0_togetherInRow_18 ?_
      refine g_imul dX0_togetherInRow_21 ?_
      refine g_iload dX0_togetherInRow_22 4 rfl ?_
      refine g_iadd dX0_togetherInRow_24 ?_
      refine g_iaload hr1 dX0_togetherInRow_25 (fun x1 => ?_)
      refine g_iadd dX0_togetherInRow_26 ?_
      refine g_istore_n dX0_togetherInRow_27 rfl (by decide) (lv' := [(3, .int (v3 + x1)), (0, .ref (gb g + r0)), (1, .ref (gb g + r1)), (2, .int v2), (4, .int v4)]) rfl ?_
      refine g_iinc dX0_togetherInRow_28 4 rfl (v := (v4 + 1)) rfl (by decide) (lv' := [(4, .int (v4 + 1)), (3, .int (v3 + x1)), (0, .ref (gb g + r0)), (1, .ref (gb g + r1)), (2, .int v2)]) rfl ?_
      refine g_goto (tgt := 5) dX0_togetherInRow_31 (by decide) ?_
      refine g_lv [2, 3, 4, 1, 0] rfl ?_
      exact ih (v3 + x1) (v4 + 1)
set_option maxHeartbeats 4000000 in
set_option maxRecDepth 100000 in
theorem ok_X0_togetherInRow (g : GG) (F : Nat) (r0 : Nat) (r1 : Nat) (v2 : Int32) (hr0 : Bk r0) (hr1 : shp r1 = (0, 25)) (μ : Mm) : Ct g yX0_togetherInRow cX0_togetherInRow 5 (some (.int)) 1 (cvIp μ) [.ref (gb g + r0), .ref (gb g + r1), .int v2] μ (f_X0_togetherInRow F r0 r1 v2 μ) := by
  refine ct_Ip (by decide +kernel) (Nat.le_of_ble_eq_true rfl) (show Go g RX0 cX0_togetherInRow 5 .ireturn 1 (cvIp μ) 0 [(0, .ref (gb g + r0)), (1, .ref (gb g + r1)), (2, .int v2)] [] μ (f_X0_togetherInRow F r0 r1 v2 μ) from ?_)
  unfold f_X0_togetherInRow
  refine g_iconst dX0_togetherInRow_0 (v := 0) (by decide) ?_
  refine g_istore_n dX0_togetherInRow_1 rfl (by decide) (lv' := [(3, .int 0), (0, .ref (gb g + r0)), (1, .ref (gb g + r1)), (2, .int v2)]) rfl ?_
  refine g_iconst dX0_togetherInRow_2 (v := 0) (by decide) ?_
  refine g_istore dX0_togetherInRow_3 (by decide) (lv' := [(4, .int 0), (3, .int 0), (0, .ref (gb g + r0)), (1, .ref (gb g + r1)), (2, .int v2)]) rfl ?_
  refine g_lv [2, 3, 4, 1, 0] rfl ?_
  refine okL_X0_togetherInRow_5 g F r0 r1 v2 _ μ hr0 hr1 (fun u2 => ?_) F 0 0
  refine g_iload_n dX0_togetherInRow_34 0 rfl ?_
  exact g_ret dX0_togetherInRow_35 rfl rfl
set_option maxHeartbeats 4000000 in
set_option maxRecDepth 100000 in
theorem okL_X0_togetherInColumn_5 (g : GG) (F : Nat) (r0 : Nat) (r1 : Nat) (v2 : Int32) (k : Int32 → Option (Int32)) (μ : Mm) (hr0 : Bk r0) (hr1 : shp r1 = (0, 25)) (hk : ∀ (v3 : Int32), Go g RX0 cX0_togetherInColumn 5 .ireturn 1 (cvIp μ) 34 [(3, .int v3)] [] μ (k v3)) : ∀ (n : Nat) (v3 : Int32) (v4 : Int32), Go g RX0 cX0_togetherInColumn 5 .ireturn 1 (cvIp μ) 5 [(0, .ref (gb g + r0)), (1, .ref (gb g + r1)), (2, .int v2), (3, .int v3), (4, .int v4)] [] μ (L_X0_togetherInColumn_5 F r0 r1 v2 k μ n v3 v4) := by
  intro n
  induction n with
  | zero =>
    intro v3 v4
    exact g_none
  | succ n ih =>
    intro v3 v4
    rw [L_X0_togetherInColumn_5_s]
    refine g_iload dX0_togetherInColumn_5 4 rfl ?_
    refine g_aload_n dX0_togetherInColumn_7 0 rfl ?_
    refine g_getI fl_X0_51 (bk_0 hr0) (by decide) rfl dX0_togetherInColumn_8 ?_
    refine g_icmp_ge (tgt := 34) dX0_togetherInColumn_11 (by decide) (fun _ => ?_) (fun _ => ?_)
    · refine g_lv [3] rfl ?_
      exact hk v3
    · refine g_iload_n dX0_togetherInColumn_14 3 rfl ?_
      refine g_aload_n dX0_togetherInColumn_15 1 rfl ?_
      refine g_iload dX0_togetherInColumn_16 4 rfl ?_
      refine g_aload_n dX0_togetherInColumn_18 0 rfl ?_
      refine g_getI fl_X0_41 (bk_0 hr0) (by decide) rfl dX0_togetherInColumn_19 ?_
      refine g_imul dX0_togetherInColumn_22 ?_
      refine g_iload_n dX0_togetherInColumn_23 2 rfl ?_
      refine g_iadd dX0_togetherInColumn_24 ?_
      refine g_iaload hr1 dX0_togetherInColumn_25 (fun x1 => ?_)
      refine g_iadd dX0_togetherInColumn_26 ?_
      refine g_istore_n dX0_togetherInColumn_27 rfl (by decide) (lv' := [(3, .int (v3 + x1)), (0, .ref (gb g + r0)), (1, .ref (gb g + r1)), (2, .int v2), (4, .int v4)]) rfl ?_
      refine g_iinc dX0_togetherInColumn_28 4 rfl (v := (v4 + 1)) rfl (by decide) (lv' := [(4, .int (v4 + 1)), (3, .int (v3 + x1)), (0, .ref (gb g + r0)), (1, .ref (gb g + r1)), (2, .int v2)]) rfl ?_
      refine g_goto (tgt := 5) dX0_togetherInColumn_31 (by decide) ?_
      refine g_lv [2, 3, 4, 1, 0] rfl ?_
      exact ih (v3 + x1) (v4 + 1)
set_option maxHeartbeats 4000000 in
set_option maxRecDepth 100000 in
theorem ok_X0_togetherInColumn (g : GG) (F : Nat) (r0 : Nat) (r1 : Nat) (v2 : Int32) (hr0 : Bk r0) (hr1 : shp r1 = (0, 25)) (μ : Mm) : Ct g yX0_togetherInColumn cX0_togetherInColumn 5 (some (.int)) 1 (cvIp μ) [.ref (gb g + r0), .ref (gb g + r1), .int v2] μ (f_X0_togetherInColumn F r0 r1 v2 μ) := by
  refine ct_Ip (by decide +kernel) (Nat.le_of_ble_eq_true rfl) (show Go g RX0 cX0_togetherInColumn 5 .ireturn 1 (cvIp μ) 0 [(0, .ref (gb g + r0)), (1, .ref (gb g + r1)), (2, .int v2)] [] μ (f_X0_togetherInColumn F r0 r1 v2 μ) from ?_)
  unfold f_X0_togetherInColumn
  refine g_iconst dX0_togetherInColumn_0 (v := 0) (by decide) ?_
  refine g_istore_n dX0_togetherInColumn_1 rfl (by decide) (lv' := [(3, .int 0), (0, .ref (gb g + r0)), (1, .ref (gb g + r1)), (2, .int v2)]) rfl ?_
  refine g_iconst dX0_togetherInColumn_2 (v := 0) (by decide) ?_
  refine g_istore dX0_togetherInColumn_3 (by decide) (lv' := [(4, .int 0), (3, .int 0), (0, .ref (gb g + r0)), (1, .ref (gb g + r1)), (2, .int v2)]) rfl ?_
  refine g_lv [2, 3, 4, 1, 0] rfl ?_
  refine okL_X0_togetherInColumn_5 g F r0 r1 v2 _ μ hr0 hr1 (fun u2 => ?_) F 0 0
  refine g_iload_n dX0_togetherInColumn_34 0 rfl ?_
  exact g_ret dX0_togetherInColumn_35 rfl rfl
