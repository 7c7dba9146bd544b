set_option maxHeartbeats 4000000 in
set_option maxRecDepth 100000 in
theorem okL_X11_stillIn_8 (g : GG) (F : Nat) (r1 : Nat) (k : Mm → Option (Int32 × Mm)) (hr1 : Bk r1) (hk : ∀ (μ : Mm), Go g RX11 cX11_stillIn 3 .ireturn 6 cvI 35 [(0, .ref (gb g + 0))] [] μ (k μ)) : ∀ (n : Nat) (v2 : Int32) (μ : Mm), Go g RX11 cX11_stillIn 3 .ireturn 6 cvI 8 [(0, .ref (gb g + 0)), (1, .ref (gb g + r1)), (2, .int v2)] [] μ (L_X11_stillIn_8 F r1 k n v2 μ) := by
  intro n
  induction n with
  | zero =>
    intro v2 μ
    exact g_none
  | succ n ih =>
    intro v2 μ
    rw [L_X11_stillIn_8_s]
    refine g_iload_n dX11_stillIn_8 2 rfl ?_
    refine g_sipush dX11_stillIn_9 (v := 300) (by decide) ?_
    refine g_icmp_gt (tgt := 35) dX11_stillIn_12 (by decide) (fun _ => ?_) (fun _ => ?_)
    · refine g_lv [0] rfl ?_
      exact hk μ
    · refine g_aload_n dX11_stillIn_15 1 rfl ?_
      refine g_iconst dX11_stillIn_16 (v := 1) (by decide) ?_
      refine g_vZ [.int 1] [] mw_X11_279 (ok_X0_passHours g F r1 1 hr1 μ) (by omega) (bk_0 hr1) (by decide) rfl rfl (Nat.le_of_ble_eq_true rfl) dX11_stillIn_17 (fun x5 μ6 _ => ?_)
      refine g_ifneB (tgt := 29) dX11_stillIn_20 (by decide) (fun _ => ?_) (fun _ => ?_)
      · refine g_iinc dX11_stillIn_29 2 rfl (v := (v2 + 1)) rfl (by decide) (lv' := [(2, .int (v2 + 1)), (0, .ref (gb g + 0)), (1, .ref (gb g + r1))]) rfl ?_
        refine g_goto (tgt := 8) dX11_stillIn_32 (by decide) ?_
        refine g_lv [1, 2, 0] rfl ?_
        exact ih (v2 + 1) μ6
      · refine g_aload_n dX11_stillIn_23 0 rfl ?_
        refine g_iload_n dX11_stillIn_24 2 rfl ?_
        refine g_vI [.int v2] [] mw_X11_175 (ok_X11_answer g v2 μ6) (by omega) sh_0 (by decide) rfl rfl (Nat.le_of_ble_eq_true rfl) dX11_stillIn_25 (fun x7 μ8 _ => ?_)
        exact g_ret dX11_stillIn_28 rfl rfl
set_option maxHeartbeats 4000000 in
set_option maxRecDepth 100000 in
theorem ok_X11_stillIn (g : GG) (F : Nat)   (μ : Mm) : Ct g yX11_stillIn cX11_stillIn 3 (some (.int)) 6 cvI [.ref (gb g + 0)] μ (f_X11_stillIn F μ) := by
  refine ct_I (by decide +kernel) (Nat.le_of_ble_eq_true rfl) (show Go g RX11 cX11_stillIn 3 .ireturn 6 cvI 0 [(0, .ref (gb g + 0))] [] μ (f_X11_stillIn F μ) from ?_)
  unfold f_X11_stillIn
  refine g_aload_n dX11_stillIn_0 0 rfl ?_
  refine g_iconst dX11_stillIn_1 (v := 0) (by decide) ?_
  refine g_vR [.int 0] [] mw_X11_299 (ok_X11_spareAhead g F 0 μ) (by omega) sh_0 (by decide) rfl rfl (Nat.le_of_ble_eq_true rfl) dX11_stillIn_2 (fun x1 μ3 _ => ?_)
  refine g_gBk (fun b4 h2 => ?_)
  refine g_astore_n dX11_stillIn_5 rfl (by decide) (lv' := [(1, .ref (gb g + b4)), (0, .ref (gb g + 0))]) rfl ?_
  refine g_iconst dX11_stillIn_6 (v := 0) (by decide) ?_
  refine g_istore_n dX11_stillIn_7 rfl (by decide) (lv' := [(2, .int 0), (1, .ref (gb g + b4)), (0, .ref (gb g + 0))]) rfl ?_
  refine g_lv [2, 1, 0] rfl ?_
  refine okL_X11_stillIn_8 g F b4 _ h2 (fun μ9 => ?_) F 0 μ3
  refine g_aload_n dX11_stillIn_35 0 rfl ?_
  refine g_bipush dX11_stillIn_36 (v := 8) (by decide) ?_
  refine g_vI [.int 8] [] mw_X11_161 (ok_X11_refuse g 8 μ9) (by omega) sh_0 (by decide) rfl rfl (Nat.le_of_ble_eq_true rfl) dX11_stillIn_38 (fun x10 μ11 _ => ?_)
  exact g_ret dX11_stillIn_41 rfl rfl
set_option maxHeartbeats 4000000 in
set_option maxRecDepth 100000 in
theorem ok_X11_bears (g : GG) (F : Nat) (v1 : Int32)  (μ : Mm) : Ct g yX11_bears cX11_bears 3 (some (.int)) 3 cvI [.ref (gb g + 0), .int v1] μ (f_X11_bears F v1 μ) := by
  refine ct_I (by decide +kernel) (Nat.le_of_ble_eq_true rfl) (show Go g RX11 cX11_bears 3 .ireturn 3 cvI 0 [(0, .ref (gb g + 0)), (1, .int v1)] [] μ (f_X11_bears F v1 μ) from ?_)
  unfold f_X11_bears
  refine g_aload_n dX11_bears_0 0 rfl ?_
  refine g_getR (b := mR μ 0) fl_X11_56 sh_0 (by decide) rfl rfl dX11_bears_1 ?_
  refine g_gBk (fun b1 h2 => ?_)
  refine g_iload_n dX11_bears_4 1 rfl ?_
  refine g_vZp [.int v1] [] mw_X11_227 (ok_X0_hasCell g b1 v1 h2 μ) (by omega) (bk_0 h2) (by decide) rfl rfl (Nat.le_of_ble_eq_true rfl) dX11_bears_5 (fun x3 _ => ?_)
  refine g_ifneB (tgt := 17) dX11_bears_8 (by decide) (fun _ => ?_) (fun _ => ?_)
  · refine g_aload_n dX11_bears_17 0 rfl ?_
    refine g_getR (b := mR μ 0) fl_X11_56 sh_0 (by decide) rfl rfl dX11_bears_18 ?_
    refine g_gBk (fun b4 h5 => ?_)
    refine g_aload_n dX11_bears_21 0 rfl ?_
    refine g_getR (b := mR μ 0) fl_X11_56 sh_0 (by decide) rfl rfl dX11_bears_22 ?_
    refine g_gBk (fun b6 h7 => ?_)
    refine g_getR (b := (b6 + 8)) fl_X11_230 (bk_0 h7) (by decide) rfl rfl dX11_bears_25 ?_
    refine g_iload_n dX11_bears_28 1 rfl ?_
    refine g_vIp [.ref (gb g + (b6 + 8)), .int v1] [] mw_X11_303 (ok_X0_bearing g F b4 (b6 + 8) v1 h5 (bk_8 h7) μ) (by omega) (bk_0 h5) (by decide) rfl rfl (Nat.le_of_ble_eq_true rfl) dX11_bears_29 (fun x8 _ => ?_)
    refine g_istore_n dX11_bears_32 rfl (by decide) (lv' := [(2, .int x8), (0, .ref (gb g + 0)), (1, .int v1)]) rfl ?_
    refine g_iload_n dX11_bears_33 0 rfl ?_
    refine g_iconst dX11_bears_34 (v := (-1)) (by decide) ?_
    refine g_icmp_ne (tgt := 47) dX11_bears_35 (by decide) (fun _ => ?_) (fun _ => ?_)
    · refine g_aload_n dX11_bears_47 1 rfl ?_
      refine g_iload_n dX11_bears_48 0 rfl ?_
      refine g_vI [.int x8] [] mw_X11_175 (ok_X11_answer g x8 μ) (by omega) sh_0 (by decide) rfl rfl (Nat.le_of_ble_eq_true rfl) dX11_bears_49 (fun x10 μ11 _ => ?_)
      exact g_ret dX11_bears_52 rfl rfl
    · refine g_aload_n dX11_bears_38 1 rfl ?_
      refine g_bipush dX11_bears_39 (v := 8) (by decide) ?_
      refine g_vI [.int 8] [] mw_X11_161 (ok_X11_refuse g 8 μ) (by omega) sh_0 (by decide) rfl rfl (Nat.le_of_ble_eq_true rfl) dX11_bears_41 (fun x12 μ13 _ => ?_)
      refine g_goto (tgt := 52) dX11_bears_44 (by decide) ?_
      exact g_ret dX11_bears_52 rfl rfl
  · refine g_aload_n dX11_bears_11 0 rfl ?_
    refine g_iconst dX11_bears_12 (v := 2) (by decide) ?_
    refine g_vI [.int 2] [] mw_X11_161 (ok_X11_refuse g 2 μ) (by omega) sh_0 (by decide) rfl rfl (Nat.le_of_ble_eq_true rfl) dX11_bears_13 (fun x14 μ15 _ => ?_)
    exact g_ret dX11_bears_16 rfl rfl
set_option maxHeartbeats 4000000 in
set_option maxRecDepth 100000 in
theorem ok_X11_lookAtRound (g : GG) (v1 : Int32) (v2 : Int32)  (μ : Mm) : Ct g yX11_lookAtRound cX11_lookAtRound 3 (some (.int)) 2 (cvIp μ) [.ref (gb g + 0), .int v1, .int v2] μ (f_X11_lookAtRound v1 v2 μ) := by
  refine ct_Ip (by decide +kernel) (Nat.le_of_ble_eq_true rfl) (show Go g RX11 cX11_lookAtRound 3 .ireturn 2 (cvIp μ) 0 [(0, .ref (gb g + 0)), (1, .int v1), (2, .int v2)] [] μ (f_X11_lookAtRound v1 v2 μ) from ?_)
  unfold f_X11_lookAtRound
  refine g_iload_n dX11_lookAtRound_0 2 rfl ?_
  refine g_iconst dX11_lookAtRound_1 (v := 1) (by decide) ?_
  refine g_iconst dX11_lookAtRound_2 (v := 5) (by decide) ?_
  refine g_sZp [.int v2, .int 1, .int 5] [] mw_X11_116 (ok_X11_within g v2 1 5 μ) (by omega) rfl rfl (Nat.le_of_ble_eq_true rfl) dX11_lookAtRound_3 (fun x1 _ => ?_)
  refine g_ifeqB (tgt := 28) dX11_lookAtRound_6 (by decide) (fun _ => ?_) (fun _ => ?_)
  · refine g_iconst dX11_lookAtRound_28 (v := 5) (by decide) ?_
    exact g_ret dX11_lookAtRound_29 rfl rfl
  · refine g_iload_n dX11_lookAtRound_9 1 rfl ?_
    refine g_iconst dX11_lookAtRound_10 (v := 0) (by decide) ?_
    refine g_iconst dX11_lookAtRound_11 (v := 1) (by decide) ?_
    refine g_aload_n dX11_lookAtRound_12 0 rfl ?_
    refine g_getR (b := mR μ 0) fl_X11_56 sh_0 (by decide) rfl rfl dX11_lookAtRound_13 ?_
    refine g_gBk (fun b2 h3 => ?_)
    refine g_vIp [] [.int 1, .int 0, .int v1] mw_X11_211 (ok_X0_cells g b2 h3 μ) (by omega) (bk_0 h3) (by decide) rfl rfl (Nat.le_of_ble_eq_true rfl) dX11_lookAtRound_16 (fun x4 _ => ?_)
    refine g_ishl dX11_lookAtRound_19 ?_
    refine g_iconst dX11_lookAtRound_20 (v := 1) (by decide) ?_
    refine g_isub dX11_lookAtRound_21 ?_
    refine g_sZp [.int v1, .int 0, .int (((1 : Int32) <<< (x4 &&& 31)) - (1 : Int32))] [] mw_X11_116 (ok_X11_within g v1 0 (((1 : Int32) <<< (x4 &&& 31)) - (1 : Int32)) μ) (by omega) rfl rfl (Nat.le_of_ble_eq_true rfl) dX11_lookAtRound_22 (fun x5 _ => ?_)
    refine g_ifneB (tgt := 30) dX11_lookAtRound_25 (by decide) (fun _ => ?_) (fun _ => ?_)
    · refine g_aload_n dX11_lookAtRound_30 0 rfl ?_
      refine g_getR (b := mR μ 0) fl_X11_56 sh_0 (by decide) rfl rfl dX11_lookAtRound_31 ?_
      refine g_gBk (fun b6 h7 => ?_)
      refine g_getI fl_X11_172 (bk_0 h7) (by decide) rfl dX11_lookAtRound_34 ?_
      have hJ10 : ∀ (w9 : Int32), w9 = (if (mI μ b6 3) = 0 then (8 : Int32) else 0) → Go g RX11 cX11_lookAtRound 3 .ireturn 2 (cvIp μ) 46 [] [.int w9] μ (some (if (mI μ b6 3) = 0 then (8 : Int32) else 0)) := by
        intro w9 ew9
        subst ew9
        exact g_ret dX11_lookAtRound_46 rfl rfl
      refine g_same (g_if_ne (tgt := 45) dX11_lookAtRound_37 (by decide) (fun c8 => ?_) (fun c8 => ?_))
      · refine g_iconst dX11_lookAtRound_45 (v := 0) (by decide) ?_
        refine g_lv [] rfl ?_
        exact hJ10 _ (by rw [if_neg c8])
      · refine g_bipush dX11_lookAtRound_40 (v := 8) (by decide) ?_
        refine g_goto (tgt := 46) dX11_lookAtRound_42 (by decide) ?_
        refine g_lv [] rfl ?_
        exact hJ10 _ (by rw [if_pos c8])
    · refine g_iconst dX11_lookAtRound_28 (v := 5) (by decide) ?_
      exact g_ret dX11_lookAtRound_29 rfl rfl
set_option maxHeartbeats 4000000 in
set_option maxRecDepth 100000 in
theorem ok_X11_round (g : GG) (F : Nat) (v1 : Int32) (v2 : Int32)  (μ : Mm) : Ct g yX11_round cX11_round 4 (some (.int)) 38 cvI [.ref (gb g + 0), .int v1, .int v2] μ (f_X11_round F v1 v2 μ) := by
  refine ct_I (by decide +kernel) (Nat.le_of_ble_eq_true rfl) (show Go g RX11 cX11_round 4 .ireturn 38 cvI 0 [(0, .ref (gb g + 0)), (1, .int v1), (2, .int v2)] [] μ (f_X11_round F v1 v2 μ) from ?_)
  unfold f_X11_round
  refine g_aload_n dX11_round_0 0 rfl ?_
  refine g_iload_n dX11_round_1 1 rfl ?_
  refine g_iload_n dX11_round_2 2 rfl ?_
  refine g_vIp [.int v1, .int v2] [] mw_X11_306 (ok_X11_lookAtRound g v1 v2 μ) (by omega) sh_0 (by decide) rfl rfl (Nat.le_of_ble_eq_true rfl) dX11_round_3 (fun x1 _ => ?_)
  refine g_istore_n dX11_round_6 rfl (by decide) (lv' := [(3, .int x1), (0, .ref (gb g + 0)), (1, .int v1), (2, .int v2)]) rfl ?_
  refine g_iload_n dX11_round_7 0 rfl ?_
  refine g_if_eq (tgt := 17) dX11_round_8 (by decide) (fun _ => ?_) (fun _ => ?_)
  · refine g_aload_n dX11_round_17 1 rfl ?_
    refine g_getR (b := 107) fl_X11_84 sh_0 (by decide) rfl rfl dX11_round_18 ?_
    refine g_aload_n dX11_round_21 1 rfl ?_
    refine g_getR (b := mR μ 0) fl_X11_56 sh_0 (by decide) rfl rfl dX11_round_22 ?_
    refine g_gBk (fun b2 h3 => ?_)
    refine g_iload_n dX11_round_25 2 rfl ?_
    refine g_iload_n dX11_round_26 3 rfl ?_
    refine g_vV [.ref (gb g + b2), .int v1, .int v2] [] mw_X11_309 (ok_X8_seek g F b2 v1 v2 h3 μ) (by omega) sh_107 (by decide) rfl rfl (Nat.le_of_ble_eq_true rfl) dX11_round_27 (fun μ5 _ => ?_)
    refine g_aload_n dX11_round_30 1 rfl ?_
    refine g_aload_n dX11_round_31 1 rfl ?_
    refine g_getR (b := 107) fl_X11_84 sh_0 (by decide) rfl rfl dX11_round_32 ?_
    refine g_getI fl_X11_313 sh_107 (by decide) rfl dX11_round_35 ?_
    refine g_vI [.int (mI μ5 107 0)] [] mw_X11_175 (ok_X11_answer g (mI μ5 107 0) μ5) (by omega) sh_0 (by decide) rfl rfl (Nat.le_of_ble_eq_true rfl) dX11_round_38 (fun x6 μ7 _ => ?_)
    exact g_ret dX11_round_41 rfl rfl
  · refine g_aload_n dX11_round_11 1 rfl ?_
    refine g_iload_n dX11_round_12 0 rfl ?_
    refine g_vI [.int x1] [] mw_X11_161 (ok_X11_refuse g x1 μ) (by omega) sh_0 (by decide) rfl rfl (Nat.le_of_ble_eq_true rfl) dX11_round_13 (fun x8 μ9 _ => ?_)
    exact g_ret dX11_round_16 rfl rfl
set_option maxHeartbeats 4000000 in
set_option maxRecDepth 100000 in
theorem ok_X11_roundAt (g : GG) (F : Nat) (v1 : Int32) (v2 : Int32) (v3 : Int32)  (μ : Mm) : Ct g yX11_roundAt cX11_roundAt 5 (some (.int)) 38 cvI [.ref (gb g + 0), .int v1, .int v2, .int v3] μ (f_X11_roundAt F v1 v2 v3 μ) := by
  refine ct_I (by decide +kernel) (Nat.le_of_ble_eq_true rfl) (show Go g RX11 cX11_roundAt 5 .ireturn 38 cvI 0 [(0, .ref (gb g + 0)), (1, .int v1), (2, .int v2), (3, .int v3)] [] μ (f_X11_roundAt F v1 v2 v3 μ) from ?_)
  unfold f_X11_roundAt
  refine g_iload_n dX11_roundAt_0 3 rfl ?_
  refine g_iconst dX11_roundAt_1 (v := 0) (by decide) ?_
  refine g_iconst dX11_roundAt_2 (v := 4) (by decide) ?_
  refine g_sZp [.int v3, .int 0, .int 4] [] mw_X11_116 (ok_X11_within g v3 0 4 μ) (by omega) rfl rfl (Nat.le_of_ble_eq_true rfl) dX11_roundAt_3 (fun x1 _ => ?_)
  refine g_jn (fun (a5 : Int32) oo => Go g RX11 cX11_roundAt 5 .ireturn 38 cvI 24 [(0, .ref (gb g + 0)), (1, .int v1), (2, .int v2), (3, .int v3)] [.int a5] μ oo) (fun a5 => ?_) (fun K4 hF15 => ?_)
  · refine g_istore dX11_roundAt_24 (by decide) (lv' := [(4, .int a5), (0, .ref (gb g + 0)), (1, .int v1), (2, .int v2), (3, .int v3)]) rfl ?_
    refine g_iload dX11_roundAt_26 0 rfl ?_
    refine g_if_eq (tgt := 38) dX11_roundAt_28 (by decide) (fun _ => ?_) (fun _ => ?_)
    · refine g_aload_n dX11_roundAt_38 1 rfl ?_
      refine g_getR (b := 107) fl_X11_84 sh_0 (by decide) rfl rfl dX11_roundAt_39 ?_
      refine g_aload_n dX11_roundAt_42 1 rfl ?_
      refine g_getR (b := mR μ 0) fl_X11_56 sh_0 (by decide) rfl rfl dX11_roundAt_43 ?_
      refine g_gBk (fun b6 h7 => ?_)
      refine g_iload_n dX11_roundAt_46 2 rfl ?_
      refine g_iload_n dX11_roundAt_47 3 rfl ?_
      refine g_vV [.ref (gb g + b6), .int v1, .int v2] [] mw_X11_309 (ok_X8_seek g F b6 v1 v2 h7 μ) (by omega) sh_107 (by decide) rfl rfl (Nat.le_of_ble_eq_true rfl) dX11_roundAt_48 (fun μ9 _ => ?_)
      refine g_aload_n dX11_roundAt_51 1 rfl ?_
      refine g_aload_n dX11_roundAt_52 1 rfl ?_
      refine g_getR (b := 107) fl_X11_84 sh_0 (by decide) rfl rfl dX11_roundAt_53 ?_
      refine g_getR (b := 108) fl_X11_316 sh_107 (by decide) rfl rfl dX11_roundAt_56 ?_
      refine g_iload_n dX11_roundAt_59 4 rfl ?_
      refine g_iaload sh_108 dX11_roundAt_60 (fun x10 => ?_)
      refine g_vI [.int x10] [] mw_X11_175 (ok_X11_answer g x10 μ9) (by omega) sh_0 (by decide) rfl rfl (Nat.le_of_ble_eq_true rfl) dX11_roundAt_61 (fun x11 μ12 _ => ?_)
      exact g_ret dX11_roundAt_64 rfl rfl
    · refine g_aload_n dX11_roundAt_31 1 rfl ?_
      refine g_iload dX11_roundAt_32 0 rfl ?_
      refine g_vI [.int a5] [] mw_X11_161 (ok_X11_refuse g a5 μ) (by omega) sh_0 (by decide) rfl rfl (Nat.le_of_ble_eq_true rfl) dX11_roundAt_34 (fun x13 μ14 _ => ?_)
      exact g_ret dX11_roundAt_37 rfl rfl
  · refine g_ifeqB (tgt := 23) dX11_roundAt_6 (by decide) (fun _ => ?_) (fun _ => ?_)
    · refine g_iconst dX11_roundAt_23 (v := 5) (by decide) ?_
      refine g_lv [0, 1, 2, 3] rfl ?_
      exact hF15 5
    · refine g_iload_n dX11_roundAt_9 3 rfl ?_
      refine g_iload_n dX11_roundAt_10 2 rfl ?_
      refine g_icmp_ge (tgt := 23) dX11_roundAt_11 (by decide) (fun _ => ?_) (fun _ => ?_)
      · refine g_iconst dX11_roundAt_23 (v := 5) (by decide) ?_
        refine g_lv [0, 1, 2, 3] rfl ?_
        exact hF15 5
      · refine g_aload_n dX11_roundAt_14 0 rfl ?_
        refine g_iload_n dX11_roundAt_15 1 rfl ?_
        refine g_iload_n dX11_roundAt_16 2 rfl ?_
        refine g_vIp [.int v1, .int v2] [] mw_X11_306 (ok_X11_lookAtRound g v1 v2 μ) (by omega) sh_0 (by decide) rfl rfl (Nat.le_of_ble_eq_true rfl) dX11_roundAt_17 (fun x16 _ => ?_)
        refine g_goto (tgt := 24) dX11_roundAt_20 (by decide) ?_
        refine g_lv [0, 1, 2, 3] rfl ?_
        exact hF15 x16
set_option maxHeartbeats 4000000 in
set_option maxRecDepth 100000 in
theorem ok_X11_far (g : GG) (v1 : Int32)  (μ : Mm) : Ct g yX11_far cX11_far 2 (some (.int)) 3 cvI [.ref (gb g + 0), .int v1] μ (f_X11_far v1 μ) := by
  refine ct_I (by decide +kernel) (Nat.le_of_ble_eq_true rfl) (show Go g RX11 cX11_far 2 .ireturn 3 cvI 0 [(0, .ref (gb g + 0)), (1, .int v1)] [] μ (f_X11_far v1 μ) from ?_)
  unfold f_X11_far
  refine g_aload_n dX11_far_0 0 rfl ?_
  refine g_getR (b := mR μ 0) fl_X11_56 sh_0 (by decide) rfl rfl dX11_far_1 ?_
  refine g_gBk (fun b1 h2 => ?_)
  refine g_iload_n dX11_far_4 1 rfl ?_
  refine g_vZp [.int v1] [] mw_X11_227 (ok_X0_hasCell g b1 v1 h2 μ) (by omega) (bk_0 h2) (by decide) rfl rfl (Nat.le_of_ble_eq_true rfl) dX11_far_5 (fun x3 _ => ?_)
  refine g_ifneB (tgt := 17) dX11_far_8 (by decide) (fun _ => ?_) (fun _ => ?_)
  · refine g_aload_n dX11_far_17 0 rfl ?_
    refine g_aload_n dX11_far_18 0 rfl ?_
    refine g_getR (b := mR μ 0) fl_X11_56 sh_0 (by decide) rfl rfl dX11_far_19 ?_
    refine g_gBk (fun b4 h5 => ?_)
    refine g_aload_n dX11_far_22 0 rfl ?_
    refine g_getR (b := mR μ 0) fl_X11_56 sh_0 (by decide) rfl rfl dX11_far_23 ?_
    refine g_gBk (fun b6 h7 => ?_)
    refine g_getI fl_X11_242 (bk_0 h7) (by decide) rfl dX11_far_26 ?_
    refine g_iload_n dX11_far_29 1 rfl ?_
    refine g_vIp [.int (mI μ b6 4), .int v1] [.ref (gb g + 0)] mw_X11_319 (ok_X0_stepsBetween g b4 (mI μ b6 4) v1 h5 μ) (by omega) (bk_0 h5) (by decide) rfl rfl (Nat.le_of_ble_eq_true rfl) dX11_far_30 (fun x8 _ => ?_)
    refine g_vI [.int x8] [] mw_X11_175 (ok_X11_answer g x8 μ) (by omega) sh_0 (by decide) rfl rfl (Nat.le_of_ble_eq_true rfl) dX11_far_33 (fun x9 μ10 _ => ?_)
    exact g_ret dX11_far_36 rfl rfl
  · refine g_aload_n dX11_far_11 0 rfl ?_
    refine g_iconst dX11_far_12 (v := 2) (by decide) ?_
    refine g_vI [.int 2] [] mw_X11_161 (ok_X11_refuse g 2 μ) (by omega) sh_0 (by decide) rfl rfl (Nat.le_of_ble_eq_true rfl) dX11_far_13 (fun x11 μ12 _ => ?_)
    exact g_ret dX11_far_16 rfl rfl
set_option maxHeartbeats 4000000 in
set_option maxRecDepth 100000 in
theorem ok_X11_past (g : GG) (F : Nat) (v1 : Int32)  (μ : Mm) : Ct g yX11_past cX11_past 2 (some (.int)) 6 cvI [.ref (gb g + 0), .int v1] μ (f_X11_past F v1 μ) := by
  refine ct_I (by decide +kernel) (Nat.le_of_ble_eq_true rfl) (show Go g RX11 cX11_past 2 .ireturn 6 cvI 0 [(0, .ref (gb g + 0)), (1, .int v1)] [] μ (f_X11_past F v1 μ) from ?_)
  unfold f_X11_past
  refine g_aload_n dX11_past_0 0 rfl ?_
  refine g_getR (b := mR μ 0) fl_X11_56 sh_0 (by decide) rfl rfl dX11_past_1 ?_
  refine g_gBk (fun b1 h2 => ?_)
  refine g_iload_n dX11_past_4 1 rfl ?_
  refine g_vZp [.int v1] [] mw_X11_245 (ok_X0_hasAccount g b1 v1 h2 μ) (by omega) (bk_0 h2) (by decide) rfl rfl (Nat.le_of_ble_eq_true rfl) dX11_past_5 (fun x3 _ => ?_)
  refine g_ifneB (tgt := 17) dX11_past_8 (by decide) (fun _ => ?_) (fun _ => ?_)
  · refine g_aload_n dX11_past_17 0 rfl ?_
    refine g_getR (b := 131) fl_X11_91 sh_0 (by decide) rfl rfl dX11_past_18 ?_
    refine g_aload_n dX11_past_21 0 rfl ?_
    refine g_getR (b := mR μ 0) fl_X11_56 sh_0 (by decide) rfl rfl dX11_past_22 ?_
    refine g_gBk (fun b4 h5 => ?_)
    refine g_iload_n dX11_past_25 1 rfl ?_
    refine g_vV [.ref (gb g + b4), .int v1] [] mw_X11_322 (ok_X7_gather g F b4 v1 h5 μ) (by omega) sh_131 (by decide) rfl rfl (Nat.le_of_ble_eq_true rfl) dX11_past_26 (fun μ7 _ => ?_)
    refine g_aload_n dX11_past_29 0 rfl ?_
    refine g_aload_n dX11_past_30 0 rfl ?_
    refine g_getR (b := 131) fl_X11_91 sh_0 (by decide) rfl rfl dX11_past_31 ?_
    refine g_getI fl_X11_326 sh_131 (by decide) rfl dX11_past_34 ?_
    refine g_vI [.int (mI μ7 131 0)] [] mw_X11_175 (ok_X11_answer g (mI μ7 131 0) μ7) (by omega) sh_0 (by decide) rfl rfl (Nat.le_of_ble_eq_true rfl) dX11_past_37 (fun x8 μ9 _ => ?_)
    exact g_ret dX11_past_40 rfl rfl
  · refine g_aload_n dX11_past_11 0 rfl ?_
    refine g_iconst dX11_past_12 (v := 2) (by decide) ?_
    refine g_vI [.int 2] [] mw_X11_161 (ok_X11_refuse g 2 μ) (by omega) sh_0 (by decide) rfl rfl (Nat.le_of_ble_eq_true rfl) dX11_past_13 (fun x10 μ11 _ => ?_)
    exact g_ret dX11_past_16 rfl rfl
set_option maxHeartbeats 4000000 in
set_option maxRecDepth 100000 in
theorem ok_X11_likely (g : GG) (F : Nat) (v1 : Int32) (v2 : Int32)  (μ : Mm) : Ct g yX11_likely cX11_likely 3 (some (.int)) 5 cvI [.ref (gb g + 0), .int v1, .int v2] μ (f_X11_likely F v1 v2 μ) := by
  refine ct_I (by decide +kernel) (Nat.le_of_ble_eq_true rfl) (show Go g RX11 cX11_likely 3 .ireturn 5 cvI 0 [(0, .ref (gb g + 0)), (1, .int v1), (2, .int v2)] [] μ (f_X11_likely F v1 v2 μ) from ?_)
  unfold f_X11_likely
  refine g_aload_n dX11_likely_0 0 rfl ?_
  refine g_getR (b := mR μ 0) fl_X11_56 sh_0 (by decide) rfl rfl dX11_likely_1 ?_
  refine g_gBk (fun b1 h2 => ?_)
  refine g_iload_n dX11_likely_4 1 rfl ?_
  refine g_vZp [.int v1] [] mw_X11_245 (ok_X0_hasAccount g b1 v1 h2 μ) (by omega) (bk_0 h2) (by decide) rfl rfl (Nat.le_of_ble_eq_true rfl) dX11_likely_5 (fun x3 _ => ?_)
  refine g_ifneB (tgt := 17) dX11_likely_8 (by decide) (fun _ => ?_) (fun _ => ?_)
  · refine g_iload_n dX11_likely_17 2 rfl ?_
    refine g_if_ge (tgt := 27) dX11_likely_18 (by decide) (fun _ => ?_) (fun _ => ?_)
    · refine g_aload_n dX11_likely_27 0 rfl ?_
      refine g_aload_n dX11_likely_28 0 rfl ?_
      refine g_getR (b := 131) fl_X11_91 sh_0 (by decide) rfl rfl dX11_likely_29 ?_
      refine g_aload_n dX11_likely_32 0 rfl ?_
      refine g_getR (b := mR μ 0) fl_X11_56 sh_0 (by decide) rfl rfl dX11_likely_33 ?_
      refine g_gBk (fun b4 h5 => ?_)
      refine g_iload_n dX11_likely_36 1 rfl ?_
      refine g_iload_n dX11_likely_37 2 rfl ?_
      refine g_vZ [.ref (gb g + b4), .int v1, .int v2] [.ref (gb g + 0)] mw_X11_329 (ok_X7_couldHaveBeen g F b4 v1 v2 h5 μ) (by omega) sh_131 (by decide) rfl rfl (Nat.le_of_ble_eq_true rfl) dX11_likely_38 (fun x6 μ7 _ => ?_)
      have hJ12 : ∀ (w9 : Int32), w9 = (if x6 = true then (1 : Int32) else 0) → Go g RX11 cX11_likely 3 .ireturn 5 cvI 49 [] [.int w9, .ref (gb g + 0)] μ7 (bd (f_X11_answer (if x6 = true then (1 : Int32) else 0) μ7) fun x10 μ11 => some (x10, μ11)) := by
        intro w9 ew9
        subst ew9
        refine g_vI [.int (if x6 = true then (1 : Int32) else 0)] [] mw_X11_175 (ok_X11_answer g (if x6 = true then (1 : Int32) else 0) μ7) (by omega) sh_0 (by decide) rfl rfl (Nat.le_of_ble_eq_true rfl) dX11_likely_49 (fun x10 μ11 _ => ?_)
        exact g_ret dX11_likely_52 rfl rfl
      refine g_same (g_ifeqB (tgt := 48) dX11_likely_41 (by decide) (fun c8 => ?_) (fun c8 => ?_))
      · refine g_iconst dX11_likely_48 (v := 0) (by decide) ?_
        refine g_lv [] rfl ?_
        exact hJ12 _ (by rw [if_neg c8])
      · refine g_iconst dX11_likely_44 (v := 1) (by decide) ?_
        refine g_goto (tgt := 49) dX11_likely_45 (by decide) ?_
        refine g_lv [] rfl ?_
        exact hJ12 _ (by rw [if_pos c8])
    · refine g_aload_n dX11_likely_21 0 rfl ?_
      refine g_iconst dX11_likely_22 (v := 5) (by decide) ?_
      refine g_vI [.int 5] [] mw_X11_161 (ok_X11_refuse g 5 μ) (by omega) sh_0 (by decide) rfl rfl (Nat.le_of_ble_eq_true rfl) dX11_likely_23 (fun x13 μ14 _ => ?_)
      exact g_ret dX11_likely_26 rfl rfl
  · refine g_aload_n dX11_likely_11 0 rfl ?_
    refine g_iconst dX11_likely_12 (v := 2) (by decide) ?_
    refine g_vI [.int 2] [] mw_X11_161 (ok_X11_refuse g 2 μ) (by omega) sh_0 (by decide) rfl rfl (Nat.le_of_ble_eq_true rfl) dX11_likely_13 (fun x15 μ16 _ => ?_)
    exact g_ret dX11_likely_16 rfl rfl
set_option maxHeartbeats 4000000 in
set_option maxRecDepth 100000 in
theorem ok_X11_leastPast (g : GG) (F : Nat) (v1 : Int32)  (μ : Mm) : Ct g yX11_leastPast cX11_leastPast 2 (some (.int)) 6 cvI [.ref (gb g + 0), .int v1] μ (f_X11_leastPast F v1 μ) := by
  refine ct_I (by decide +kernel) (Nat.le_of_ble_eq_true rfl) (show Go g RX11 cX11_leastPast 2 .ireturn 6 cvI 0 [(0, .ref (gb g + 0)), (1, .int v1)] [] μ (f_X11_leastPast F v1 μ) from ?_)
  unfold f_X11_leastPast
  refine g_aload_n dX11_leastPast_0 0 rfl ?_
  refine g_getR (b := mR μ 0) fl_X11_56 sh_0 (by decide) rfl rfl dX11_leastPast_1 ?_
  refine g_gBk (fun b1 h2 => ?_)
  refine g_iload_n dX11_leastPast_4 1 rfl ?_
  refine g_vZp [.int v1] [] mw_X11_245 (ok_X0_hasAccount g b1 v1 h2 μ) (by omega) (bk_0 h2) (by decide) rfl rfl (Nat.le_of_ble_eq_true rfl) dX11_leastPast_5 (fun x3 _ => ?_)
  refine g_ifneB (tgt := 17) dX11_leastPast_8 (by decide) (fun _ => ?_) (fun _ => ?_)
  · refine g_aload_n dX11_leastPast_17 0 rfl ?_
    refine g_getR (b := 131) fl_X11_91 sh_0 (by decide) rfl rfl dX11_leastPast_18 ?_
    refine g_aload_n dX11_leastPast_21 0 rfl ?_
    refine g_getR (b := mR μ 0) fl_X11_56 sh_0 (by decide) rfl rfl dX11_leastPast_22 ?_
    refine g_gBk (fun b4 h5 => ?_)
    refine g_iload_n dX11_leastPast_25 1 rfl ?_
    refine g_vV [.ref (gb g + b4), .int v1] [] mw_X11_322 (ok_X7_gather g F b4 v1 h5 μ) (by omega) sh_131 (by decide) rfl rfl (Nat.le_of_ble_eq_true rfl) dX11_leastPast_26 (fun μ7 _ => ?_)
    refine g_aload_n dX11_leastPast_29 0 rfl ?_
    refine g_getR (b := 131) fl_X11_91 sh_0 (by decide) rfl rfl dX11_leastPast_30 ?_
    refine g_getI fl_X11_326 sh_131 (by decide) rfl dX11_leastPast_33 ?_
    refine g_if_ne (tgt := 48) dX11_leastPast_36 (by decide) (fun _ => ?_) (fun _ => ?_)
    · refine g_aload_n dX11_leastPast_48 0 rfl ?_
      refine g_aload_n dX11_leastPast_49 0 rfl ?_
      refine g_getR (b := 131) fl_X11_91 sh_0 (by decide) rfl rfl dX11_leastPast_50 ?_
      refine g_getI fl_X11_333 sh_131 (by decide) rfl dX11_leastPast_53 ?_
      refine g_vI [.int (mI μ7 131 1)] [] mw_X11_175 (ok_X11_answer g (mI μ7 131 1) μ7) (by omega) sh_0 (by decide) rfl rfl (Nat.le_of_ble_eq_true rfl) dX11_leastPast_56 (fun x9 μ10 _ => ?_)
      exact g_ret dX11_leastPast_59 rfl rfl
    · refine g_aload_n dX11_leastPast_39 0 rfl ?_
      refine g_bipush dX11_leastPast_40 (v := 8) (by decide) ?_
      refine g_vI [.int 8] [] mw_X11_161 (ok_X11_refuse g 8 μ7) (by omega) sh_0 (by decide) rfl rfl (Nat.le_of_ble_eq_true rfl) dX11_leastPast_42 (fun x11 μ12 _ => ?_)
      refine g_goto (tgt := 59) dX11_leastPast_45 (by decide) ?_
      exact g_ret dX11_leastPast_59 rfl rfl
  · refine g_aload_n dX11_leastPast_11 0 rfl ?_
    refine g_iconst dX11_leastPast_12 (v := 2) (by decide) ?_
    refine g_vI [.int 2] [] mw_X11_161 (ok_X11_refuse g 2 μ) (by omega) sh_0 (by decide) rfl rfl (Nat.le_of_ble_eq_true rfl) dX11_leastPast_13 (fun x13 μ14 _ => ?_)
    exact g_ret dX11_leastPast_16 rfl rfl
set_option maxHeartbeats 4000000 in
set_option maxRecDepth 100000 in
theorem ok_X11_may (g : GG) (F : Nat) (v1 : Int32)  (μ : Mm) : Ct g yX11_may cX11_may 2 (some (.int)) 2 cvI [.ref (gb g + 0), .int v1] μ (f_X11_may F v1 μ) := by
  refine ct_I (by decide +kernel) (Nat.le_of_ble_eq_true rfl) (show Go g RX11 cX11_may 2 .ireturn 2 cvI 0 [(0, .ref (gb g + 0)), (1, .int v1)] [] μ (f_X11_may F v1 μ) from ?_)
  unfold f_X11_may
  refine g_iload_n dX11_may_0 1 rfl ?_
  refine g_iconst dX11_may_1 (v := 0) (by decide) ?_
  refine g_bipush dX11_may_2 (v := 9) (by decide) ?_
  refine g_sZp [.int v1, .int 0, .int 9] [] mw_X11_116 (ok_X11_within g v1 0 9 μ) (by omega) rfl rfl (Nat.le_of_ble_eq_true rfl) dX11_may_4 (fun x1 _ => ?_)
  refine g_ifeqB (tgt := 28) dX11_may_7 (by decide) (fun _ => ?_) (fun _ => ?_)
  · refine g_aload_n dX11_may_28 0 rfl ?_
    refine g_iconst dX11_may_29 (v := 5) (by decide) ?_
    refine g_vI [.int 5] [] mw_X11_161 (ok_X11_refuse g 5 μ) (by omega) sh_0 (by decide) rfl rfl (Nat.le_of_ble_eq_true rfl) dX11_may_30 (fun x3 μ4 _ => ?_)
    exact g_ret dX11_may_33 rfl rfl
  · refine g_aload_n dX11_may_10 0 rfl ?_
    refine g_aload_n dX11_may_11 0 rfl ?_
    refine g_getR (b := mR μ 0) fl_X11_56 sh_0 (by decide) rfl rfl dX11_may_12 ?_
    refine g_gBk (fun b5 h6 => ?_)
    refine g_getR (b := (b5 + 1)) fl_X11_190 (bk_0 h6) (by decide) rfl rfl dX11_may_15 ?_
    refine g_iload_n dX11_may_18 1 rfl ?_
    refine g_vIp [.int v1] [.ref (gb g + 0)] mw_X11_336 (ok_X3_reach g F (b5 + 1) v1 (bk_lw h6) μ) (by omega) (bk_1 h6) (by decide) rfl rfl (Nat.le_of_ble_eq_true rfl) dX11_may_19 (fun x7 _ => ?_)
    refine g_vI [.int x7] [] mw_X11_175 (ok_X11_answer g x7 μ) (by omega) sh_0 (by decide) rfl rfl (Nat.le_of_ble_eq_true rfl) dX11_may_22 (fun x8 μ9 _ => ?_)
    refine g_goto (tgt := 33) dX11_may_25 (by decide) ?_
    exact g_ret dX11_may_33 rfl rfl
set_option maxHeartbeats 4000000 in
set_option maxRecDepth 100000 in
theorem okL_X11_theft_4 (g : GG) (F : Nat)  (k : Int32 → Option (Int32 × Mm)) (μ : Mm)  (hk : ∀ (v1 : Int32), Go g RX11 cX11_theft 3 .ireturn 2 cvI 61 [(0, .ref (gb g + 0)), (1, .int v1)] [] μ (k v1)) : ∀ (n : Nat) (v1 : Int32) (v2 : Int32), Go g RX11 cX11_theft 3 .ireturn 2 cvI 4 [(0, .ref (gb g + 0)), (1, .int v1), (2, .int v2)] [] μ (L_X11_theft_4 F k μ n v1 v2) := by
  intro n
  induction n with
  | zero =>
    intro v1 v2
    exact g_none
  | succ n ih =>
    intro v1 v2
    rw [L_X11_theft_4_s]
    refine g_iload_n dX11_theft_4 2 rfl ?_
    refine g_aload_n dX11_theft_5 0 rfl ?_
    refine g_getR (b := mR μ 0) fl_X11_56 sh_0 (by decide) rfl rfl dX11_theft_6 ?_
    refine g_gBk (fun b1 h2 => ?_)
    refine g_vIp [] [.int v2] mw_X11_211 (ok_X0_cells g b1 h2 μ) (by omega) (bk_0 h2) (by decide) rfl rfl (Nat.le_of_ble_eq_true rfl) dX11_theft_9 (fun x3 _ => ?_)
    refine g_icmp_ge (tgt := 61) dX11_theft_12 (by decide) (fun _ => ?_) (fun _ => ?_)
    · refine g_lv [0, 1] rfl ?_
      exact hk v1
    · refine g_aload_n dX11_theft_15 0 rfl ?_
      refine g_getR (b := mR μ 0) fl_X11_56 sh_0 (by decide) rfl rfl dX11_theft_16 ?_
      refine g_gBk (fun b4 h5 => ?_)
      refine g_getR (b := (b4 + 1)) fl_X11_190 (bk_0 h5) (by decide) rfl rfl dX11_theft_19 ?_
      refine g_aload_n dX11_theft_22 0 rfl ?_
      refine g_getR (b := mR μ 0) fl_X11_56 sh_0 (by decide) rfl rfl dX11_theft_23 ?_
      refine g_gBk (fun b6 h7 => ?_)
      refine g_getR (b := (b6 + 9)) fl_X11_233 (bk_0 h7) (by decide) rfl rfl dX11_theft_26 ?_
      refine g_iload_n dX11_theft_29 2 rfl ?_
      refine g_iaload (bk_9 h7) dX11_theft_30 (fun x8 => ?_)
      refine g_vIp [.int x8] [] mw_X11_336 (ok_X3_reach g F (b4 + 1) x8 (bk_lw h5) μ) (by omega) (bk_1 h5) (by decide) rfl rfl (Nat.le_of_ble_eq_true rfl) dX11_theft_31 (fun x9 _ => ?_)
      refine g_aload_n dX11_theft_34 0 rfl ?_
      refine g_getR (b := mR μ 0) fl_X11_56 sh_0 (by decide) rfl rfl dX11_theft_35 ?_
      refine g_gBk (fun b10 h11 => ?_)
      refine g_getR (b := (b10 + 8)) fl_X11_230 (bk_0 h11) (by decide) rfl rfl dX11_theft_38 ?_
      refine g_iload_n dX11_theft_41 2 rfl ?_
      refine g_iaload (bk_8 h11) dX11_theft_42 (fun x12 => ?_)
      refine g_ishr dX11_theft_43 ?_
      refine g_iconst dX11_theft_44 (v := 1) (by decide) ?_
      refine g_iand dX11_theft_45 ?_
      have hJ15 : ∀ (w14 : Int32), w14 = (if ((x9 >>> (x12 &&& 31)) &&& (1 : Int32)) = 0 then (v1 ||| ((1 : Int32) <<< (v2 &&& 31))) else v1) → Go g RX11 cX11_theft 3 .ireturn 2 cvI 55 [(0, .ref (gb g + 0)), (1, .int w14), (2, .int v2)] [] μ (L_X11_theft_4 F k μ n (if ((x9 >>> (x12 &&& 31)) &&& (1 : Int32)) = 0 then (v1 ||| ((1 : Int32) <<< (v2 &&& 31))) else v1) (v2 + 1)) := by
        intro w14 ew14
        subst ew14
        refine g_iinc dX11_theft_55 2 rfl (v := (v2 + 1)) rfl (by decide) (lv' := [(2, .int (v2 + 1)), (0, .ref (gb g + 0)), (1, .int (if ((x9 >>> (x12 &&& 31)) &&& (1 : Int32)) = 0 then (v1 ||| ((1 : Int32) <<< (v2 &&& 31))) else v1))]) rfl ?_
        refine g_goto (tgt := 4) dX11_theft_58 (by decide) ?_
        refine g_lv [1, 2, 0] rfl ?_
        exact ih (if ((x9 >>> (x12 &&& 31)) &&& (1 : Int32)) = 0 then (v1 ||| ((1 : Int32) <<< (v2 &&& 31))) else v1) (v2 + 1)
      refine g_same (g_if_ne (tgt := 55) dX11_theft_46 (by decide) (fun c13 => ?_) (fun c13 => ?_))
      · refine g_lv [0, 1, 2] rfl ?_
        exact hJ15 _ (by rw [if_neg c13])
      · refine g_iload_n dX11_theft_49 1 rfl ?_
        refine g_iconst dX11_theft_50 (v := 1) (by decide) ?_
        refine g_iload_n dX11_theft_51 2 rfl ?_
        refine g_ishl dX11_theft_52 ?_
        refine g_ior dX11_theft_53 ?_
        refine g_istore_n dX11_theft_54 rfl (by decide) (lv' := [(1, .int (v1 ||| ((1 : Int32) <<< (v2 &&& 31)))), (0, .ref (gb g + 0)), (2, .int v2)]) rfl ?_
        refine g_lv [1, 0, 2] rfl ?_
        exact hJ15 _ (by rw [if_pos c13])
set_option maxHeartbeats 4000000 in
set_option maxRecDepth 100000 in
theorem ok_X11_theft (g : GG) (F : Nat)   (μ : Mm) : Ct g yX11_theft cX11_theft 3 (some (.int)) 2 cvI [.ref (gb g + 0)] μ (f_X11_theft F μ) := by
  refine ct_I (by decide +kernel) (Nat.le_of_ble_eq_true rfl) (show Go g RX11 cX11_theft 3 .ireturn 2 cvI 0 [(0, .ref (gb g + 0))] [] μ (f_X11_theft F μ) from ?_)
  unfold f_X11_theft
  refine g_iconst dX11_theft_0 (v := 0) (by decide) ?_
  refine g_istore_n dX11_theft_1 rfl (by decide) (lv' := [(1, .int 0), (0, .ref (gb g + 0))]) rfl ?_
  refine g_iconst dX11_theft_2 (v := 0) (by decide) ?_
  refine g_istore_n dX11_theft_3 rfl (by decide) (lv' := [(2, .int 0), (1, .int 0), (0, .ref (gb g + 0))]) rfl ?_
  refine g_lv [2, 1, 0] rfl ?_
  refine okL_X11_theft_4 g F _ μ (fun u16 => ?_) F 0 0
  refine g_aload_n dX11_theft_61 0 rfl ?_
  refine g_iload_n dX11_theft_62 1 rfl ?_
  refine g_vI [.int u16] [] mw_X11_175 (ok_X11_answer g u16 μ) (by omega) sh_0 (by decide) rfl rfl (Nat.le_of_ble_eq_true rfl) dX11_theft_63 (fun x17 μ18 _ => ?_)
  exact g_ret dX11_theft_66 rfl rfl
set_option maxHeartbeats 4000000 in
set_option maxRecDepth 100000 in
theorem ok_X11_told (g : GG) (F : Nat)   (μ : Mm) : Ct g yX11_told cX11_told 2 (some (.int)) 3 cvI [.ref (gb g + 0)] μ (f_X11_told F μ) := by
  refine ct_I (by decide +kernel) (Nat.le_of_ble_eq_true rfl) (show Go g RX11 cX11_told 2 .ireturn 3 cvI 0 [(0, .ref (gb g + 0))] [] μ (f_X11_told F μ) from ?_)
  unfold f_X11_told
  refine g_aload_n dX11_told_0 0 rfl ?_
  refine g_getR (b := mR μ 0) fl_X11_56 sh_0 (by decide) rfl rfl dX11_told_1 ?_
  refine g_gBk (fun b1 h2 => ?_)
  refine g_vIp [] [] mw_X11_339 (ok_X0_cellBySums g F b1 h2 μ) (by omega) (bk_0 h2) (by decide) rfl rfl (Nat.le_of_ble_eq_true rfl) dX11_told_4 (fun x3 _ => ?_)
  refine g_istore_n dX11_told_7 rfl (by decide) (lv' := [(1, .int x3), (0, .ref (gb g + 0))]) rfl ?_
  refine g_iload_n dX11_told_8 0 rfl ?_
  refine g_iconst dX11_told_9 (v := (-1)) (by decide) ?_
  refine g_icmp_ne (tgt := 22) dX11_told_10 (by decide) (fun _ => ?_) (fun _ => ?_)
  · refine g_aload_n dX11_told_22 1 rfl ?_
    refine g_iload_n dX11_told_23 0 rfl ?_
    refine g_vI [.int x3] [] mw_X11_175 (ok_X11_answer g x3 μ) (by omega) sh_0 (by decide) rfl rfl (Nat.le_of_ble_eq_true rfl) dX11_told_24 (fun x5 μ6 _ => ?_)
    exact g_ret dX11_told_27 rfl rfl
  · refine g_aload_n dX11_told_13 1 rfl ?_
    refine g_bipush dX11_told_14 (v := 8) (by decide) ?_
    refine g_vI [.int 8] [] mw_X11_161 (ok_X11_refuse g 8 μ) (by omega) sh_0 (by decide) rfl rfl (Nat.le_of_ble_eq_true rfl) dX11_told_16 (fun x7 μ8 _ => ?_)
    refine g_goto (tgt := 27) dX11_told_19 (by decide) ?_
    exact g_ret dX11_told_27 rfl rfl
set_option maxHeartbeats 4000000 in
set_option maxRecDepth 100000 in
theorem ok_J6_bitCount_0f7a4 (g : GG) (v0 : Int32)  (μ : Mm) : Ct g yJ6_bitCount_0f7a4 cJ6_bitCount_0f7a4 1 (some (.int)) 1 (cvIp μ) [.int v0] μ (f_J6_bitCount_0f7a4 v0 μ) := by
  refine ct_Ip (by decide +kernel) (Nat.le_of_ble_eq_true rfl) (show Go g RJ6 cJ6_bitCount_0f7a4 1 .ireturn 1 (cvIp μ) 0 [(0, .int v0)] [] μ (f_J6_bitCount_0f7a4 v0 μ) from ?_)
  unfold f_J6_bitCount_0f7a4
  refine g_iload_n dJ6_bitCount_0f7a4_0 0 rfl ?_
  refine g_iload_n dJ6_bitCount_0f7a4_1 0 rfl ?_
  refine g_iconst dJ6_bitCount_0f7a4_2 (v := 1) (by decide) ?_
  refine g_iushr dJ6_bitCount_0f7a4_3 ?_
  refine g_ldcw kl_J6_265 dJ6_bitCount_0f7a4_4 ?_
  refine g_iand dJ6_bitCount_0f7a4_7 ?_
  refine g_isub dJ6_bitCount_0f7a4_8 ?_
  refine g_istore_n dJ6_bitCount_0f7a4_9 rfl (by decide) (lv' := [(0, .int (v0 - (((v0.toUInt32 >>> ((1 : Int32).toUInt32 &&& Int32.toUInt32 31)).toInt32) &&& (1431655765 : Int32))))]) rfl ?_
  refine g_iload_n dJ6_bitCount_0f7a4_10 0 rfl ?_
  refine g_ldcw kl_J6_266 dJ6_bitCount_0f7a4_11 ?_
  refine g_iand dJ6_bitCount_0f7a4_14 ?_
  refine g_iload_n dJ6_bitCount_0f7a4_15 0 rfl ?_
  refine g_iconst dJ6_bitCount_0f7a4_16 (v := 2) (by decide) ?_
  refine g_iushr dJ6_bitCount_0f7a4_17 ?_
  refine g_ldcw kl_J6_266 dJ6_bitCount_0f7a4_18 ?_
  refine g_iand dJ6_bitCount_0f7a4_21 ?_
  refine g_iadd dJ6_bitCount_0f7a4_22 ?_
  refine g_istore_n dJ6_bitCount_0f7a4_23 rfl (by decide) (lv' := [(0, .int (((v0 - (((v0.toUInt32 >>> ((1 : Int32).toUInt32 &&& Int32.toUInt32 31)).toInt32) &&& (1431655765 : Int32))) &&& (858993459 : Int32)) + ((((v0 - (((v0.toUInt32 >>> ((1 : Int32).toUInt32 &&& Int32.toUInt32 31)).toInt32) &&& (1431655765 : Int32))).toUInt32 >>> ((2 : Int32).toUInt32 &&& Int32.toUInt32 31)).toInt32) &&& (858993459 : Int32))))]) rfl ?_
  refine g_iload_n dJ6_bitCount_0f7a4_24 0 rfl ?_
  refine g_iload_n dJ6_bitCount_0f7a4_25 0 rfl ?_
  refine g_iconst dJ6_bitCount_0f7a4_26 (v := 4) (by decide) ?_
  refine g_iushr dJ6_bitCount_0f7a4_27 ?_
  refine g_iadd dJ6_bitCount_0f7a4_28 ?_
  refine g_ldcw kl_J6_267 dJ6_bitCount_0f7a4_29 ?_
  refine g_iand dJ6_bitCount_0f7a4_32 ?_
  refine g_istore_n dJ6_bitCount_0f7a4_33 rfl (by decide) (lv' := [(0, .int (((((v0 - (((v0.toUInt32 >>> ((1 : Int32).toUInt32 &&& Int32.toUInt32 31)).toInt32) &&& (1431655765 : Int32))) &&& (858993459 : Int32)) + ((((v0 - (((v0.toUInt32 >>> ((1 : Int32).toUInt32 &&& Int32.toUInt32 31)).toInt32) &&& (1431655765 : Int32))).toUInt32 >>> ((2 : Int32).toUInt32 &&& Int32.toUInt32 31)).toInt32) &&& (858993459 : Int32))) + (((((v0 - (((v0.toUInt32 >>> ((1 : Int32).toUInt32 &&& Int32.toUInt32 31)).toInt32) &&& (1431655765 : Int32))) &&& (858993459 : Int32)) + ((((v0 - (((v0.toUInt32 >>> ((1 : Int32).toUInt32 &&& Int32.toUInt32 31)).toInt32) &&& (1431655765 : Int32))).toUInt32 >>> ((2 : Int32).toUInt32 &&& Int32.toUInt32 31)).toInt32) &&& (858993459 : Int32))).toUInt32 >>> ((4 : Int32).toUInt32 &&& Int32.toUInt32 31)).toInt32)) &&& (252645135 : Int32)))]) rfl ?_
  refine g_iload_n dJ6_bitCount_0f7a4_34 0 rfl ?_
  refine g_iload_n dJ6_bitCount_0f7a4_35 0 rfl ?_
  refine g_bipush dJ6_bitCount_0f7a4_36 (v := 8) (by decide) ?_
  refine g_iushr dJ6_bitCount_0f7a4_38 ?_
  refine g_iadd dJ6_bitCount_0f7a4_39 ?_
  refine g_istore_n dJ6_bitCount_0f7a4_40 rfl (by decide) (lv' := [(0, .int ((((((v0 - (((v0.toUInt32 >>> ((1 : Int32).toUInt32 &&& Int32.toUInt32 31)).toInt32) &&& (1431655765 : Int32))) &&& (858993459 : Int32)) + ((((v0 - (((v0.toUInt32 >>> ((1 : Int32).toUInt32 &&& Int32.toUInt32 31)).toInt32) &&& (1431655765 : Int32))).toUInt32 >>> ((2 : Int32).toUInt32 &&& Int32.toUInt32 31)).toInt32) &&& (858993459 : Int32))) + (((((v0 - (((v0.toUInt32 >>> ((1 : Int32).toUInt32 &&& Int32.toUInt32 31)).toInt32) &&& (1431655765 : Int32))) &&& (858993459 : Int32)) + ((((v0 - (((v0.toUInt32 >>> ((1 : Int32).toUInt32 &&& Int32.toUInt32 31)).toInt32) &&& (1431655765 : Int32))).toUInt32 >>> ((2 : Int32).toUInt32 &&& Int32.toUInt32 31)).toInt32) &&& (858993459 : Int32))).toUInt32 >>> ((4 : Int32).toUInt32 &&& Int32.toUInt32 31)).toInt32)) &&& (252645135 : Int32)) + (((((((v0 - (((v0.toUInt32 >>> ((1 : Int32).toUInt32 &&& Int32.toUInt32 31)).toInt32) &&& (1431655765 : Int32))) &&& (858993459 : Int32)) + ((((v0 - (((v0.toUInt32 >>> ((1 : Int32).toUInt32 &&& Int32.toUInt32 31)).toInt32) &&& (1431655765 : Int32))).toUInt32 >>> ((2 : Int32).toUInt32 &&& Int32.toUInt32 31)).toInt32) &&& (858993459 : Int32))) + (((((v0 - (((v0.toUInt32 >>> ((1 : Int32).toUInt32 &&& Int32.toUInt32 31)).toInt32) &&& (1431655765 : Int32))) &&& (858993459 : Int32)) + ((((v0 - (((v0.toUInt32 >>> ((1 : Int32).toUInt32 &&& Int32.toUInt32 31)).toInt32) &&& (1431655765 : Int32))).toUInt32 >>> ((2 : Int32).toUInt32 &&& Int32.toUInt32 31)).toInt32) &&& (858993459 : Int32))).toUInt32 >>> ((4 : Int32).toUInt32 &&& Int32.toUInt32 31)).toInt32)) &&& (252645135 : Int32)).toUInt32 >>> ((8 : Int32).toUInt32 &&& Int32.toUInt32 31)).toInt32)))]) rfl ?_
  refine g_iload_n dJ6_bitCount_0f7a4_41 0 rfl ?_
  refine g_iload_n dJ6_bitCount_0f7a4_42 0 rfl ?_
  refine g_bipush dJ6_bitCount_0f7a4_43 (v := 16) (by decide) ?_
  refine g_iushr dJ6_bitCount_0f7a4_45 ?_
  refine g_iadd dJ6_bitCount_0f7a4_46 ?_
  refine g_istore_n dJ6_bitCount_0f7a4_47 rfl (by decide) (lv' := [(0, .int (((((((v0 - (((v0.toUInt32 >>> ((1 : Int32).toUInt32 &&& Int32.toUInt32 31)).toInt32) &&& (1431655765 : Int32))) &&& (858993459 : Int32)) + ((((v0 - (((v0.toUInt32 >>> ((1 : Int32).toUInt32 &&& Int32.toUInt32 31)).toInt32) &&& (1431655765 : Int32))).toUInt32 >>> ((2 : Int32).toUInt32 &&& Int32.toUInt32 31)).toInt32) &&& (858993459 : Int32))) + (((((v0 - (((v0.toUInt32 >>> ((1 : Int32).toUInt32 &&& Int32.toUInt32 31)).toInt32) &&& (1431655765 : Int32))) &&& (858993459 : Int32)) + ((((v0 - (((v0.toUInt32 >>> ((1 : Int32).toUInt32 &&& Int32.toUInt32 31)).toInt32) &&& (1431655765 : Int32))).toUInt32 >>> ((2 : Int32).toUInt32 &&& Int32.toUInt32 31)).toInt32) &&& (858993459 : Int32))).toUInt32 >>> ((4 : Int32).toUInt32 &&& Int32.toUInt32 31)).toInt32)) &&& (252645135 : Int32)) + (((((((v0 - (((v0.toUInt32 >>> ((1 : Int32).toUInt32 &&& Int32.toUInt32 31)).toInt32) &&& (1431655765 : Int32))) &&& (858993459 : Int32)) + ((((v0 - (((v0.toUInt32 >>> ((1 : Int32).toUInt32 &&& Int32.toUInt32 31)).toInt32) &&& (1431655765 : Int32))).toUInt32 >>> ((2 : Int32).toUInt32 &&& Int32.toUInt32 31)).toInt32) &&& (858993459 : Int32))) + (((((v0 - (((v0.toUInt32 >>> ((1 : Int32).toUInt32 &&& Int32.toUInt32 31)).toInt32) &&& (1431655765 : Int32))) &&& (858993459 : Int32)) + ((((v0 - (((v0.toUInt32 >>> ((1 : Int32).toUInt32 &&& Int32.toUInt32 31)).toInt32) &&& (1431655765 : Int32))).toUInt32 >>> ((2 : Int32).toUInt32 &&& Int32.toUInt32 31)).toInt32) &&& (858993459 : Int32))).toUInt32 >>> ((4 : Int32).toUInt32 &&& Int32.toUInt32 31)).toInt32)) &&& (252645135 : Int32)).toUInt32 >>> ((8 : Int32).toUInt32 &&& Int32.toUInt32 31)).toInt32)) + ((((((((v0 - (((v0.toUInt32 >>> ((1 : Int32).toUInt32 &&& Int32.toUInt32 31)).toInt32) &&& (1431655765 : Int32))) &&& (858993459 : Int32)) + ((((v0 - (((v0.toUInt32 >>> ((1 : Int32).toUInt32 &&& Int32.toUInt32 31)).toInt32) &&& (1431655765 : Int32))).toUInt32 >>> ((2 : Int32).toUInt32 &&& Int32.toUInt32 31)).toInt32) &&& (858993459 : Int32))) + (((((v0 - (((v0.toUInt32 >>> ((1 : Int32).toUInt32 &&& Int32.toUInt32 31)).toInt32) &&& (1431655765 : Int32))) &&& (858993459 : Int32)) + ((((v0 - (((v0.toUInt32 >>> ((1 : Int32).toUInt32 &&& Int32.toUInt32 31)).toInt32) &&& (1431655765 : Int32))).toUInt32 >>> ((2 : Int32).toUInt32 &&& Int32.toUInt32 31)).toInt32) &&& (858993459 : Int32))).toUInt32 >>> ((4 : Int32).toUInt32 &&& Int32.toUInt32 31)).toInt32)) &&& (252645135 : Int32)) + (((((((v0 - (((v0.toUInt32 >>> ((1 : Int32).toUInt32 &&& Int32.toUInt32 31)).toInt32) &&& (1431655765 : Int32))) &&& (858993459 : Int32)) + ((((v0 - (((v0.toUInt32 >>> ((1 : Int32).toUInt32 &&& Int32.toUInt32 31)).toInt32) &&& (1431655765 : Int32))).toUInt32 >>> ((2 : Int32).toUInt32 &&& Int32.toUInt32 31)).toInt32) &&& (858993459 : Int32))) + (((((v0 - (((v0.toUInt32 >>> ((1 : Int32).toUInt32 &&& Int32.toUInt32 31)).toInt32) &&& (1431655765 : Int32))) &&& (858993459 : Int32)) + ((((v0 - (((v0.toUInt32 >>> ((1 : Int32).toUInt32 &&& Int32.toUInt32 31)).toInt32) &&& (1431655765 : Int32))).toUInt32 >>> ((2 : Int32).toUInt32 &&& Int32.toUInt32 31)).toInt32) &&& (858993459 : Int32))).toUInt32 >>> ((4 : Int32).toUInt32 &&& Int32.toUInt32 31)).toInt32)) &&& (252645135 : Int32)).toUInt32 >>> ((8 : Int32).toUInt32 &&& Int32.toUInt32 31)).toInt32)).toUInt32 >>> ((16 : Int32).toUInt32 &&& Int32.toUInt32 31)).toInt32)))]) rfl ?_
  refine g_iload_n dJ6_bitCount_0f7a4_48 0 rfl ?_
  refine g_bipush dJ6_bitCount_0f7a4_49 (v := 63) (by decide) ?_
  refine g_iand dJ6_bitCount_0f7a4_51 ?_
  exact g_ret dJ6_bitCount_0f7a4_52 rfl rfl
set_option maxHeartbeats 4000000 in
set_option maxRecDepth 100000 in
theorem ok_X11_rubbed (g : GG) (F : Nat)   (μ : Mm) : Ct g yX11_rubbed cX11_rubbed 2 (some (.int)) 6 cvI [.ref (gb g + 0)] μ (f_X11_rubbed F μ) := by
  refine ct_I (by decide +kernel) (Nat.le_of_ble_eq_true rfl) (show Go g RX11 cX11_rubbed 2 .ireturn 6 cvI 0 [(0, .ref (gb g + 0))] [] μ (f_X11_rubbed F μ) from ?_)
  unfold f_X11_rubbed
  refine g_aload_n dX11_rubbed_0 0 rfl ?_
  refine g_getR (b := mR μ 0) fl_X11_56 sh_0 (by decide) rfl rfl dX11_rubbed_1 ?_
  refine g_gBk (fun b1 h2 => ?_)
  refine g_vIp [] [] mw_X11_342 (ok_X0_leastRubbed g F b1 h2 μ) (by omega) (bk_0 h2) (by decide) rfl rfl (Nat.le_of_ble_eq_true rfl) dX11_rubbed_4 (fun x3 _ => ?_)
  refine g_istore_n dX11_rubbed_7 rfl (by decide) (lv' := [(1, .int x3), (0, .ref (gb g + 0))]) rfl ?_
  refine g_iload_n dX11_rubbed_8 0 rfl ?_
  refine g_iconst dX11_rubbed_9 (v := (-1)) (by decide) ?_
  refine g_icmp_ne (tgt := 22) dX11_rubbed_10 (by decide) (fun _ => ?_) (fun _ => ?_)
  · refine g_aload_n dX11_rubbed_22 1 rfl ?_
    refine g_iload_n dX11_rubbed_23 0 rfl ?_
    refine g_sIp [.int x3] [.ref (gb g + 0)] mw_X11_345 (ok_J6_bitCount_0f7a4 g x3 μ) (by omega) rfl rfl (Nat.le_of_ble_eq_true rfl) dX11_rubbed_24 (fun x5 _ => ?_)
    refine g_vI [.int x5] [] mw_X11_175 (ok_X11_answer g x5 μ) (by omega) sh_0 (by decide) rfl rfl (Nat.le_of_ble_eq_true rfl) dX11_rubbed_27 (fun x6 μ7 _ => ?_)
    exact g_ret dX11_rubbed_30 rfl rfl
  · refine g_aload_n dX11_rubbed_13 1 rfl ?_
    refine g_bipush dX11_rubbed_14 (v := 8) (by decide) ?_
    refine g_vI [.int 8] [] mw_X11_161 (ok_X11_refuse g 8 μ) (by omega) sh_0 (by decide) rfl rfl (Nat.le_of_ble_eq_true rfl) dX11_rubbed_16 (fun x8 μ9 _ => ?_)
    refine g_goto (tgt := 30) dX11_rubbed_19 (by decide) ?_
    exact g_ret dX11_rubbed_30 rfl rfl
set_option maxHeartbeats 4000000 in
set_option maxRecDepth 100000 in
theorem ok_X11_rubbedSet (g : GG) (F : Nat)   (μ : Mm) : Ct g yX11_rubbedSet cX11_rubbedSet 2 (some (.int)) 6 cvI [.ref (gb g + 0)] μ (f_X11_rubbedSet F μ) := by
  refine ct_I (by decide +kernel) (Nat.le_of_ble_eq_true rfl) (show Go g RX11 cX11_rubbedSet 2 .ireturn 6 cvI 0 [(0, .ref (gb g + 0))] [] μ (f_X11_rubbedSet F μ) from ?_)
  unfold f_X11_rubbedSet
  refine g_aload_n dX11_rubbedSet_0 0 rfl ?_
  refine g_getR (b := mR μ 0) fl_X11_56 sh_0 (by decide) rfl rfl dX11_rubbedSet_1 ?_
  refine g_gBk (fun b1 h2 => ?_)
  refine g_vIp [] [] mw_X11_342 (ok_X0_leastRubbed g F b1 h2 μ) (by omega) (bk_0 h2) (by decide) rfl rfl (Nat.le_of_ble_eq_true rfl) dX11_rubbedSet_4 (fun x3 _ => ?_)
  refine g_istore_n dX11_rubbedSet_7 rfl (by decide) (lv' := [(1, .int x3), (0, .ref (gb g + 0))]) rfl ?_
  refine g_iload_n dX11_rubbedSet_8 0 rfl ?_
  refine g_iconst dX11_rubbedSet_9 (v := (-1)) (by decide) ?_
  refine g_icmp_ne (tgt := 22) dX11_rubbedSet_10 (by decide) (fun _ => ?_) (fun _ => ?_)
  · refine g_aload_n dX11_rubbedSet_22 1 rfl ?_
    refine g_iload_n dX11_rubbedSet_23 0 rfl ?_
    refine g_vI [.int x3] [] mw_X11_175 (ok_X11_answer g x3 μ) (by omega) sh_0 (by decide) rfl rfl (Nat.le_of_ble_eq_true rfl) dX11_rubbedSet_24 (fun x5 μ6 _ => ?_)
    exact g_ret dX11_rubbedSet_27 rfl rfl
  · refine g_aload_n dX11_rubbedSet_13 1 rfl ?_
    refine g_bipush dX11_rubbedSet_14 (v := 8) (by decide) ?_
    refine g_vI [.int 8] [] mw_X11_161 (ok_X11_refuse g 8 μ) (by omega) sh_0 (by decide) rfl rfl (Nat.le_of_ble_eq_true rfl) dX11_rubbedSet_16 (fun x7 μ8 _ => ?_)
    refine g_goto (tgt := 27) dX11_rubbedSet_19 (by decide) ?_
    exact g_ret dX11_rubbedSet_27 rfl rfl
set_option maxHeartbeats 4000000 in
set_option maxRecDepth 100000 in
theorem ok_X11_game (g : GG) (F : Nat) (v1 : Int32)  (μ : Mm) : Ct g yX11_game cX11_game 2 (some (.int)) 55 cvI [.ref (gb g + 0), .int v1] μ (f_X11_game F v1 μ) := by
  refine ct_I (by decide +kernel) (Nat.le_of_ble_eq_true rfl) (show Go g RX11 cX11_game 2 .ireturn 55 cvI 0 [(0, .ref (gb g + 0)), (1, .int v1)] [] μ (f_X11_game F v1 μ) from ?_)
  unfold f_X11_game
  refine g_iload_n dX11_game_0 1 rfl ?_
  refine g_iconst dX11_game_1 (v := 0) (by decide) ?_
  refine g_iconst dX11_game_2 (v := 2) (by decide) ?_
  refine g_sZp [.int v1, .int 0, .int 2] [] mw_X11_116 (ok_X11_within g v1 0 2 μ) (by omega) rfl rfl (Nat.le_of_ble_eq_true rfl) dX11_game_3 (fun x1 _ => ?_)
  refine g_ifneB (tgt := 15) dX11_game_6 (by decide) (fun _ => ?_) (fun _ => ?_)
  · refine g_aload_n dX11_game_15 0 rfl ?_
    refine g_getR (b := mR μ 0) fl_X11_56 sh_0 (by decide) rfl rfl dX11_game_16 ?_
    refine g_gBk (fun b2 h3 => ?_)
    refine g_getI fl_X11_172 (bk_0 h3) (by decide) rfl dX11_game_19 ?_
    refine g_if_ne (tgt := 32) dX11_game_22 (by decide) (fun _ => ?_) (fun _ => ?_)
    · refine g_aload_n dX11_game_32 0 rfl ?_
      refine g_aload_n dX11_game_33 0 rfl ?_
      refine g_getR (b := mR μ 0) fl_X11_56 sh_0 (by decide) rfl rfl dX11_game_34 ?_
      refine g_gBk (fun b4 h5 => ?_)
      refine g_iload_n dX11_game_37 1 rfl ?_
      refine g_aload_n dX11_game_38 0 rfl ?_
      refine g_getR (b := mR μ 0) fl_X11_56 sh_0 (by decide) rfl rfl dX11_game_39 ?_
      refine g_gBk (fun b6 h7 => ?_)
      refine g_getI fl_X11_242 (bk_0 h7) (by decide) rfl dX11_game_42 ?_
      refine g_iconst dX11_game_45 (v := 0) (by decide) ?_
      refine g_sIp [.ref (gb g + b4), .int v1, .int (mI μ b6 4), .int 0] [.ref (gb g + 0)] mw_X11_350 (okt_X2_loot g F 9 b4 v1 (mI μ b6 4) 0 h5 μ) (by omega) rfl rfl (Nat.le_of_ble_eq_true rfl) dX11_game_46 (fun x8 _ => ?_)
      refine g_vI [.int x8] [] mw_X11_175 (ok_X11_answer g x8 μ) (by omega) sh_0 (by decide) rfl rfl (Nat.le_of_ble_eq_true rfl) dX11_game_49 (fun x9 μ10 _ => ?_)
      exact g_ret dX11_game_52 rfl rfl
    · refine g_aload_n dX11_game_25 0 rfl ?_
      refine g_bipush dX11_game_26 (v := 8) (by decide) ?_
      refine g_vI [.int 8] [] mw_X11_161 (ok_X11_refuse g 8 μ) (by omega) sh_0 (by decide) rfl rfl (Nat.le_of_ble_eq_true rfl) dX11_game_28 (fun x11 μ12 _ => ?_)
      exact g_ret dX11_game_31 rfl rfl
  · refine g_aload_n dX11_game_9 0 rfl ?_
    refine g_iconst dX11_game_10 (v := 5) (by decide) ?_
    refine g_vI [.int 5] [] mw_X11_161 (ok_X11_refuse g 5 μ) (by omega) sh_0 (by decide) rfl rfl (Nat.le_of_ble_eq_true rfl) dX11_game_11 (fun x13 μ14 _ => ?_)
    exact g_ret dX11_game_14 rfl rfl
set_option maxHeartbeats 4000000 in
set_option maxRecDepth 100000 in
theorem ok_X11_moveOf (g : GG) (F : Nat) (v1 : Int32)  (μ : Mm) : Ct g yX11_moveOf cX11_moveOf 3 (some (.int)) 58 cvI [.ref (gb g + 0), .int v1] μ (f_X11_moveOf F v1 μ) := by
  refine ct_I (by decide +kernel) (Nat.le_of_ble_eq_true rfl) (show Go g RX11 cX11_moveOf 3 .ireturn 58 cvI 0 [(0, .ref (gb g + 0)), (1, .int v1)] [] μ (f_X11_moveOf F v1 μ) from ?_)
  unfold f_X11_moveOf
  refine g_iload_n dX11_moveOf_0 1 rfl ?_
  refine g_iconst dX11_moveOf_1 (v := 1) (by decide) ?_
  refine g_iconst dX11_moveOf_2 (v := 2) (by decide) ?_
  refine g_sZp [.int v1, .int 1, .int 2] [] mw_X11_116 (ok_X11_within g v1 1 2 μ) (by omega) rfl rfl (Nat.le_of_ble_eq_true rfl) dX11_moveOf_3 (fun x1 _ => ?_)
  refine g_ifneB (tgt := 15) dX11_moveOf_6 (by decide) (fun _ => ?_) (fun _ => ?_)
  · refine g_aload_n dX11_moveOf_15 0 rfl ?_
    refine g_getR (b := mR μ 0) fl_X11_56 sh_0 (by decide) rfl rfl dX11_moveOf_16 ?_
    refine g_gBk (fun b2 h3 => ?_)
    refine g_getI fl_X11_172 (bk_0 h3) (by decide) rfl dX11_moveOf_19 ?_
    refine g_if_ne (tgt := 32) dX11_moveOf_22 (by decide) (fun _ => ?_) (fun _ => ?_)
    · refine g_aload_n dX11_moveOf_32 0 rfl ?_
      refine g_getR (b := mR μ 0) fl_X11_56 sh_0 (by decide) rfl rfl dX11_moveOf_33 ?_
      refine g_gBk (fun b4 h5 => ?_)
      refine g_iload_n dX11_moveOf_36 1 rfl ?_
      refine g_sIp [.ref (gb g + b4), .int v1] [] mw_X11_356 (ok_X2_firstTheft g F b4 v1 h5 μ) (by omega) rfl rfl (Nat.le_of_ble_eq_true rfl) dX11_moveOf_37 (fun x6 _ => ?_)
      refine g_istore_n dX11_moveOf_40 rfl (by decide) (lv' := [(2, .int x6), (0, .ref (gb g + 0)), (1, .int v1)]) rfl ?_
      refine g_iload_n dX11_moveOf_41 0 rfl ?_
      refine g_iconst dX11_moveOf_42 (v := (-1)) (by decide) ?_
      refine g_icmp_ne (tgt := 55) dX11_moveOf_43 (by decide) (fun _ => ?_) (fun _ => ?_)
      · refine g_aload_n dX11_moveOf_55 1 rfl ?_
        refine g_iload_n dX11_moveOf_56 0 rfl ?_
        refine g_vI [.int x6] [] mw_X11_175 (ok_X11_answer g x6 μ) (by omega) sh_0 (by decide) rfl rfl (Nat.le_of_ble_eq_true rfl) dX11_moveOf_57 (fun x8 μ9 _ => ?_)
        exact g_ret dX11_moveOf_60 rfl rfl
      · refine g_aload_n dX11_moveOf_46 1 rfl ?_
        refine g_bipush dX11_moveOf_47 (v := 8) (by decide) ?_
        refine g_vI [.int 8] [] mw_X11_161 (ok_X11_refuse g 8 μ) (by omega) sh_0 (by decide) rfl rfl (Nat.le_of_ble_eq_true rfl) dX11_moveOf_49 (fun x10 μ11 _ => ?_)
        refine g_goto (tgt := 60) dX11_moveOf_52 (by decide) ?_
        exact g_ret dX11_moveOf_60 rfl rfl
    · refine g_aload_n dX11_moveOf_25 0 rfl ?_
      refine g_bipush dX11_moveOf_26 (v := 8) (by decide) ?_
      refine g_vI [.int 8] [] mw_X11_161 (ok_X11_refuse g 8 μ) (by omega) sh_0 (by decide) rfl rfl (Nat.le_of_ble_eq_true rfl) dX11_moveOf_28 (fun x12 μ13 _ => ?_)
      exact g_ret dX11_moveOf_31 rfl rfl
  · refine g_aload_n dX11_moveOf_9 0 rfl ?_
    refine g_iconst dX11_moveOf_10 (v := 5) (by decide) ?_
    refine g_vI [.int 5] [] mw_X11_161 (ok_X11_refuse g 5 μ) (by omega) sh_0 (by decide) rfl rfl (Nat.le_of_ble_eq_true rfl) dX11_moveOf_11 (fun x14 μ15 _ => ?_)
    exact g_ret dX11_moveOf_14 rfl rfl
set_option maxHeartbeats 4000000 in
set_option maxRecDepth 100000 in
theorem okL_X11_power_5 (g : GG) (F : Nat) (v0 : Int32) (v1 : Int32) (k : Int64 → Option (Int64)) (μ : Mm)  (hk : ∀ (v2 : Int64), Go g RX11 cX11_power 5 .lreturn 1 (cvJp μ) 22 [(2, .long v2)] [] μ (k v2)) : ∀ (n : Nat) (v2 : Int64) (v4 : Int32), Go g RX11 cX11_power 5 .lreturn 1 (cvJp μ) 5 [(0, .int v0), (1, .int v1), (2, .long v2), (4, .int v4)] [] μ (L_X11_power_5 F v0 v1 k μ n v2 v4) := by
  intro n
  induction n with
  | zero =>
    intro v2 v4
    exact g_none
  | succ n ih =>
    intro v2 v4
    rw [L_X11_power_5_s]
    refine g_iload dX11_power_5 3 rfl ?_
    refine g_iload_n dX11_power_7 1 rfl ?_
    refine g_icmp_ge (tgt := 22) dX11_power_8 (by decide) (fun _ => ?_) (fun _ => ?_)
    · refine g_lv [2] rfl ?_
      exact hk v2
    · refine g_lload_n dX11_power_11 2 rfl ?_
      refine g_iload_n dX11_power_12 0 rfl ?_
      refine g_i2l dX11_power_13 ?_
      refine g_lmul dX11_power_14 ?_
      refine g_lstore_n dX11_power_15 rfl (by decide) (lv' := [(2, .long (v2 * (v0.toInt64))), (0, .int v0), (1, .int v1), (4, .int v4)]) rfl ?_
      refine g_iinc dX11_power_16 3 rfl (v := (v4 + 1)) rfl (by decide) (lv' := [(4, .int (v4 + 1)), (2, .long (v2 * (v0.toInt64))), (0, .int v0), (1, .int v1)]) rfl ?_
      refine g_goto (tgt := 5) dX11_power_19 (by decide) ?_
      refine g_lv [2, 3, 1, 0] rfl ?_
      exact ih (v2 * (v0.toInt64)) (v4 + 1)
set_option maxHeartbeats 4000000 in
set_option maxRecDepth 100000 in
theorem ok_X11_power (g : GG) (F : Nat) (v0 : Int32) (v1 : Int32)  (μ : Mm) : Ct g yX11_power cX11_power 5 (some (.long)) 1 (cvJp μ) [.int v0, .int v1] μ (f_X11_power F v0 v1 μ) := by
  refine ct_Jp (by decide +kernel) (Nat.le_of_ble_eq_true rfl) (show Go g RX11 cX11_power 5 .lreturn 1 (cvJp μ) 0 [(0, .int v0), (1, .int v1)] [] μ (f_X11_power F v0 v1 μ) from ?_)
  unfold f_X11_power
  refine g_lconst dX11_power_0 (v := 1) (by decide) ?_
  refine g_lstore_n dX11_power_1 rfl (by decide) (lv' := [(2, .long 1), (0, .int v0), (1, .int v1)]) rfl ?_
  refine g_iconst dX11_power_2 (v := 0) (by decide) ?_
  refine g_istore dX11_power_3 (by decide) (lv' := [(4, .int 0), (2, .long 1), (0, .int v0), (1, .int v1)]) rfl ?_
  refine g_lv [2, 3, 1, 0] rfl ?_
  refine okL_X11_power_5 g F v0 v1 _ μ (fun u1 => ?_) F 1 0
  refine g_lload_n dX11_power_22 0 rfl ?_
  exact g_ret dX11_power_23 rfl rfl
set_option maxHeartbeats 4000000 in
set_option maxRecDepth 100000 in
theorem okL_X11_waysToDoze_8 (g : GG) (F : Nat) (v0 : Int32) (v1 : Int32) (v2 : Int32) (k : Int64 → Option (Int64)) (μ : Mm)  (hk : ∀ (v3 : Int64), Go g RX11 cX11_waysToDoze 8 .lreturn 2 (cvJp μ) 66 [(3, .long v3)] [] μ (k v3)) : ∀ (n : Nat) (v3 : Int64) (v5 : Int64) (v7 : Int32), Go g RX11 cX11_waysToDoze 8 .lreturn 2 (cvJp μ) 8 [(0, .int v0), (1, .int v1), (2, .int v2), (3, .long v3), (5, .long v5), (7, .int v7)] [] μ (L_X11_waysToDoze_8 F v0 v1 v2 k μ n v3 v5 v7) := by
  intro n
  induction n with
  | zero =>
    intro v3 v5 v7
    exact g_none
  | succ n ih =>
    intro v3 v5 v7
    rw [L_X11_waysToDoze_8_s]
    refine g_iload dX11_waysToDoze_8 5 rfl ?_
    refine g_iload_n dX11_waysToDoze_10 1 rfl ?_
    refine g_icmp_gt (tgt := 66) dX11_waysToDoze_11 (by decide) (fun _ => ?_) (fun _ => ?_)
    · refine g_lv [3] rfl ?_
      exact hk v3
    · refine g_iload dX11_waysToDoze_14 5 rfl ?_
      refine g_iload_n dX11_waysToDoze_16 2 rfl ?_
      refine g_jn (fun (a3 : Int64) oo => Go g RX11 cX11_waysToDoze 8 .lreturn 2 (cvJp μ) 44 [(0, .int v0), (1, .int v1), (2, .int v2), (3, .long a3), (5, .long v5), (7, .int v7)] [] μ oo) (fun a3 => ?_) (fun K2 hF4 => ?_)
      · refine g_lload dX11_waysToDoze_44 4 rfl ?_
        refine g_iload_n dX11_waysToDoze_46 1 rfl ?_
        refine g_iload dX11_waysToDoze_47 5 rfl ?_
        refine g_isub dX11_waysToDoze_49 ?_
        refine g_i2l dX11_waysToDoze_50 ?_
        refine g_lmul dX11_waysToDoze_51 ?_
        refine g_iload dX11_waysToDoze_52 5 rfl ?_
        refine g_iconst dX11_waysToDoze_54 (v := 1) (by decide) ?_
        refine g_iadd dX11_waysToDoze_55 ?_
        refine g_i2l dX11_waysToDoze_56 ?_
        refine g_ldiv dX11_waysToDoze_57 ?_
        refine g_lstore dX11_waysToDoze_58 (by decide) (lv' := [(5, .long ((v5 * ((v1 - v7).toInt64)) / ((v7 + (1 : Int32)).toInt64))), (0, .int v0), (1, .int v1), (2, .int v2), (3, .long a3), (7, .int v7)]) rfl ?_
        refine g_iinc dX11_waysToDoze_60 5 rfl (v := (v7 + 1)) rfl (by decide) (lv' := [(7, .int (v7 + 1)), (5, .long ((v5 * ((v1 - v7).toInt64)) / ((v7 + (1 : Int32)).toInt64))), (0, .int v0), (1, .int v1), (2, .int v2), (3, .long a3)]) rfl ?_
        refine g_goto (tgt := 8) dX11_waysToDoze_63 (by decide) ?_
        refine g_lv [2, 3, 4, 5, 1, 0] rfl ?_
        exact ih a3 ((v5 * ((v1 - v7).toInt64)) / ((v7 + (1 : Int32)).toInt64)) (v7 + 1)
      · refine g_icmp_lt (tgt := 44) dX11_waysToDoze_17 (by decide) (fun _ => ?_) (fun _ => ?_)
        · refine g_lv [0, 1, 2, 3, 4, 5] rfl ?_
          exact hF4 v3
        · refine g_lload_n dX11_waysToDoze_20 3 rfl ?_
          refine g_lload dX11_waysToDoze_21 4 rfl ?_
          refine g_iload_n dX11_waysToDoze_23 0 rfl ?_
          refine g_iload dX11_waysToDoze_24 5 rfl ?_
          refine g_sJp [.int v0, .int v7] [.long v5, .long v3] mw_X11_364 (ok_X11_power g F v0 v7 μ) (by omega) rfl rfl (Nat.le_of_ble_eq_true rfl) dX11_waysToDoze_26 (fun x5 _ => ?_)
          refine g_lmul dX11_waysToDoze_29 ?_
          refine g_bipush dX11_waysToDoze_30 (v := 16) (by decide) ?_
          refine g_iload_n dX11_waysToDoze_32 0 rfl ?_
          refine g_isub dX11_waysToDoze_33 ?_
          refine g_iload_n dX11_waysToDoze_34 1 rfl ?_
          refine g_iload dX11_waysToDoze_35 5 rfl ?_
          refine g_isub dX11_waysToDoze_37 ?_
          refine g_sJp [.int ((16 : Int32) - v0), .int (v1 - v7)] [.long (v5 * x5), .long v3] mw_X11_364 (ok_X11_power g F ((16 : Int32) - v0) (v1 - v7) μ) (by omega) rfl rfl (Nat.le_of_ble_eq_true rfl) dX11_waysToDoze_38 (fun x6 _ => ?_)
          refine g_lmul dX11_waysToDoze_41 ?_
          refine g_ladd dX11_waysToDoze_42 ?_
          refine g_lstore_n dX11_waysToDoze_43 rfl (by decide) (lv' := [(3, .long (v3 + ((v5 * x5) * x6))), (0, .int v0), (1, .int v1), (2, .int v2), (5, .long v5), (7, .int v7)]) rfl ?_
          refine g_lv [1, 2, 3, 0, 4, 5] rfl ?_
          exact hF4 (v3 + ((v5 * x5) * x6))
set_option maxHeartbeats 4000000 in
set_option maxRecDepth 100000 in
theorem ok_X11_waysToDoze (g : GG) (F : Nat) (v0 : Int32) (v1 : Int32) (v2 : Int32)  (μ : Mm) : Ct g yX11_waysToDoze cX11_waysToDoze 8 (some (.long)) 2 (cvJp μ) [.int v0, .int v1, .int v2] μ (f_X11_waysToDoze F v0 v1 v2 μ) := by
  refine ct_Jp (by decide +kernel) (Nat.le_of_ble_eq_true rfl) (show Go g RX11 cX11_waysToDoze 8 .lreturn 2 (cvJp μ) 0 [(0, .int v0), (1, .int v1), (2, .int v2)] [] μ (f_X11_waysToDoze F v0 v1 v2 μ) from ?_)
  unfold f_X11_waysToDoze
  refine g_lconst dX11_waysToDoze_0 (v := 0) (by decide) ?_
  refine g_lstore_n dX11_waysToDoze_1 rfl (by decide) (lv' := [(3, .long 0), (0, .int v0), (1, .int v1), (2, .int v2)]) rfl ?_
  refine g_lconst dX11_waysToDoze_2 (v := 1) (by decide) ?_
  refine g_lstore dX11_waysToDoze_3 (by decide) (lv' := [(5, .long 1), (3, .long 0), (0, .int v0), (1, .int v1), (2, .int v2)]) rfl ?_
  refine g_iconst dX11_waysToDoze_5 (v := 0) (by decide) ?_
  refine g_istore dX11_waysToDoze_6 (by decide) (lv' := [(7, .int 0), (5, .long 1), (3, .long 0), (0, .int v0), (1, .int v1), (2, .int v2)]) rfl ?_
  refine g_lv [3, 4, 5, 2, 1, 0] rfl ?_
  refine okL_X11_waysToDoze_8 g F v0 v1 v2 _ μ (fun u7 => ?_) F 0 1 0
  refine g_lload_n dX11_waysToDoze_66 0 rfl ?_
  exact g_ret dX11_waysToDoze_67 rfl rfl
set_option maxHeartbeats 4000000 in
set_option maxRecDepth 100000 in
theorem ok_X11_dozes (g : GG) (F : Nat) (v1 : Int32) (v2 : Int32)  (μ : Mm) : Ct g yX11_dozes cX11_dozes 3 (some (.boolean)) 3 cvZ [.ref (gb g + 0), .int v1, .int v2] μ (f_X11_dozes F v1 v2 μ) := by
  refine ct_Z (by decide +kernel) (Nat.le_of_ble_eq_true rfl) (show Go g RX11 cX11_dozes 3 .ireturn 3 cvZ 0 [(0, .ref (gb g + 0)), (1, .int v1), (2, .int v2)] [] μ (f_X11_dozes F v1 v2 μ) from ?_)
  unfold f_X11_dozes
  refine g_iload_n dX11_dozes_0 1 rfl ?_
  refine g_iconst dX11_dozes_1 (v := 0) (by decide) ?_
  refine g_bipush dX11_dozes_2 (v := 12) (by decide) ?_
  refine g_sZp [.int v1, .int 0, .int 12] [] mw_X11_116 (ok_X11_within g v1 0 12 μ) (by omega) rfl rfl (Nat.le_of_ble_eq_true rfl) dX11_dozes_4 (fun x1 _ => ?_)
  refine g_ifeqB (tgt := 20) dX11_dozes_7 (by decide) (fun _ => ?_) (fun _ => ?_)
  · refine g_aload_n dX11_dozes_20 0 rfl ?_
    refine g_iconst dX11_dozes_21 (v := 5) (by decide) ?_
    refine g_vZ [.int 5] [] mw_X11_109 (ok_X11_verdict g 5 μ) (by omega) sh_0 (by decide) rfl rfl (Nat.le_of_ble_eq_true rfl) dX11_dozes_22 (fun x2 μ3 _ => ?_)
    exact g_ret dX11_dozes_25 rfl rfl
  · refine g_iload_n dX11_dozes_10 2 rfl ?_
    refine g_iconst dX11_dozes_11 (v := 0) (by decide) ?_
    refine g_bipush dX11_dozes_12 (v := 12) (by decide) ?_
    refine g_sZp [.int v2, .int 0, .int 12] [] mw_X11_116 (ok_X11_within g v2 0 12 μ) (by omega) rfl rfl (Nat.le_of_ble_eq_true rfl) dX11_dozes_14 (fun x4 _ => ?_)
    refine g_ifneB (tgt := 26) dX11_dozes_17 (by decide) (fun _ => ?_) (fun _ => ?_)
    · refine g_aload_n dX11_dozes_26 0 rfl ?_
      refine g_aload_n dX11_dozes_27 0 rfl ?_
      refine g_getR (b := mR μ 0) fl_X11_56 sh_0 (by decide) rfl rfl dX11_dozes_28 ?_
      refine g_gBk (fun b5 h6 => ?_)
      refine g_getI fl_X11_205 (bk_0 h6) (by decide) rfl dX11_dozes_31 ?_
      refine g_iload_n dX11_dozes_34 1 rfl ?_
      refine g_iload_n dX11_dozes_35 2 rfl ?_
      refine g_sJp [.int (mI μ b5 2), .int v1, .int v2] [.ref (gb g + 0)] mw_X11_360 (ok_X11_waysToDoze g F (mI μ b5 2) v1 v2 μ) (by omega) rfl rfl (Nat.le_of_ble_eq_true rfl) dX11_dozes_36 (fun x7 _ => ?_)
      refine g_bipush dX11_dozes_39 (v := 16) (by decide) ?_
      refine g_iload_n dX11_dozes_41 1 rfl ?_
      refine g_sJp [.int 16, .int v1] [.long x7, .ref (gb g + 0)] mw_X11_364 (ok_X11_power g F 16 v1 μ) (by omega) rfl rfl (Nat.le_of_ble_eq_true rfl) dX11_dozes_42 (fun x8 _ => ?_)
      refine g_vZ [.long x7, .long x8] [] mw_X11_368 (ok_X11_tellFraction g F x7 x8 μ) (by omega) sh_0 (by decide) rfl rfl (Nat.le_of_ble_eq_true rfl) dX11_dozes_45 (fun x9 μ10 _ => ?_)
      exact g_ret dX11_dozes_48 rfl rfl
    · refine g_aload_n dX11_dozes_20 0 rfl ?_
      refine g_iconst dX11_dozes_21 (v := 5) (by decide) ?_
      refine g_vZ [.int 5] [] mw_X11_109 (ok_X11_verdict g 5 μ) (by omega) sh_0 (by decide) rfl rfl (Nat.le_of_ble_eq_true rfl) dX11_dozes_22 (fun x11 μ12 _ => ?_)
      exact g_ret dX11_dozes_25 rfl rfl
set_option maxHeartbeats 4000000 in
set_option maxRecDepth 100000 in
theorem ok_X11_shame (g : GG) (F : Nat)   (μ : Mm) : Ct g yX11_shame cX11_shame 2 (some (.boolean)) 3 cvZ [.ref (gb g + 0)] μ (f_X11_shame F μ) := by
  refine ct_Z (by decide +kernel) (Nat.le_of_ble_eq_true rfl) (show Go g RX11 cX11_shame 2 .ireturn 3 cvZ 0 [(0, .ref (gb g + 0))] [] μ (f_X11_shame F μ) from ?_)
  unfold f_X11_shame
  refine g_aload_n dX11_shame_0 0 rfl ?_
  refine g_getR (b := mR μ 0) fl_X11_56 sh_0 (by decide) rfl rfl dX11_shame_1 ?_
  refine g_gBk (fun b1 h2 => ?_)
  refine g_vIp [] [] mw_X11_211 (ok_X0_cells g b1 h2 μ) (by omega) (bk_0 h2) (by decide) rfl rfl (Nat.le_of_ble_eq_true rfl) dX11_shame_4 (fun x3 _ => ?_)
  refine g_istore_n dX11_shame_7 rfl (by decide) (lv' := [(1, .int x3), (0, .ref (gb g + 0))]) rfl ?_
  refine g_iload_n dX11_shame_8 0 rfl ?_
  refine g_if_ne (tgt := 21) dX11_shame_9 (by decide) (fun _ => ?_) (fun _ => ?_)
  · refine g_aload_n dX11_shame_21 1 rfl ?_
    refine g_aload_n dX11_shame_22 1 rfl ?_
    refine g_getR (b := mR μ 0) fl_X11_56 sh_0 (by decide) rfl rfl dX11_shame_23 ?_
    refine g_gBk (fun b4 h5 => ?_)
    refine g_vIp [] [.ref (gb g + 0)] mw_X11_215 (ok_X0_wrongs g F b4 h5 μ) (by omega) (bk_0 h5) (by decide) rfl rfl (Nat.le_of_ble_eq_true rfl) dX11_shame_26 (fun x6 _ => ?_)
    refine g_i2l dX11_shame_29 ?_
    refine g_iload_n dX11_shame_30 0 rfl ?_
    refine g_i2l dX11_shame_31 ?_
    refine g_vZ [.long (x6.toInt64), .long (x3.toInt64)] [] mw_X11_368 (ok_X11_tellFraction g F (x6.toInt64) (x3.toInt64) μ) (by omega) sh_0 (by decide) rfl rfl (Nat.le_of_ble_eq_true rfl) dX11_shame_32 (fun x7 μ8 _ => ?_)
    exact g_ret dX11_shame_35 rfl rfl
  · refine g_aload_n dX11_shame_12 1 rfl ?_
    refine g_bipush dX11_shame_13 (v := 8) (by decide) ?_
    refine g_vZ [.int 8] [] mw_X11_109 (ok_X11_verdict g 8 μ) (by omega) sh_0 (by decide) rfl rfl (Nat.le_of_ble_eq_true rfl) dX11_shame_15 (fun x9 μ10 _ => ?_)
    refine g_goto (tgt := 35) dX11_shame_18 (by decide) ?_
    exact g_ret dX11_shame_35 rfl rfl
set_option maxHeartbeats 4000000 in
set_option maxRecDepth 100000 in
theorem ok_X11_live (g : GG) (F : Nat) (v1 : Int32)  (μ : Mm) : Ct g yX11_live cX11_live 2 (some (.int)) 8 cvI [.ref (gb g + 0), .int v1] μ (f_X11_live F v1 μ) := by
  refine ct_I (by decide +kernel) (Nat.le_of_ble_eq_true rfl) (show Go g RX11 cX11_live 2 .ireturn 8 cvI 0 [(0, .ref (gb g + 0)), (1, .int v1)] [] μ (f_X11_live F v1 μ) from ?_)
  unfold f_X11_live
  refine g_iload_n dX11_live_0 1 rfl ?_
  refine g_iconst dX11_live_1 (v := 0) (by decide) ?_
  refine g_sipush dX11_live_2 (v := 9999) (by decide) ?_
  refine g_sZp [.int v1, .int 0, .int 9999] [] mw_X11_116 (ok_X11_within g v1 0 9999 μ) (by omega) rfl rfl (Nat.le_of_ble_eq_true rfl) dX11_live_5 (fun x1 _ => ?_)
  refine g_ifneB (tgt := 17) dX11_live_8 (by decide) (fun _ => ?_) (fun _ => ?_)
  · refine g_aload_n dX11_live_17 0 rfl ?_
    refine g_getR (b := mR μ 2) fl_X11_66 sh_0 (by decide) rfl rfl dX11_live_18 ?_
    refine g_gNt (fun b2 h3 => ?_)
    refine g_getI fl_X11_372 (nt_0 h3) (by decide) rfl dX11_live_21 ?_
    refine g_if_ne (tgt := 34) dX11_live_24 (by decide) (fun _ => ?_) (fun _ => ?_)
    · refine g_aload_n dX11_live_34 0 rfl ?_
      refine g_getR (b := 137) fl_X11_98 sh_0 (by decide) rfl rfl dX11_live_35 ?_
      refine g_aload_n dX11_live_38 0 rfl ?_
      refine g_getR (b := mR μ 0) fl_X11_56 sh_0 (by decide) rfl rfl dX11_live_39 ?_
      refine g_gBk (fun b4 h5 => ?_)
      refine g_aload_n dX11_live_42 0 rfl ?_
      refine g_getR (b := mR μ 2) fl_X11_66 sh_0 (by decide) rfl rfl dX11_live_43 ?_
      refine g_gNt (fun b6 h7 => ?_)
      refine g_iload_n dX11_live_46 1 rfl ?_
      refine g_vV [.ref (gb g + b4), .ref (gb g + b6), .int v1] [] mw_X11_376 (ok_X4_goThrough g F 137 b4 b6 v1 (Or.inl rfl) h5 h7 μ) (by omega) sh_137 (by decide) rfl rfl (Nat.le_of_ble_eq_true rfl) dX11_live_47 (fun μ9 _ => ?_)
      refine g_aload_n dX11_live_50 0 rfl ?_
      refine g_aload_n dX11_live_51 0 rfl ?_
      refine g_getR (b := 137) fl_X11_98 sh_0 (by decide) rfl rfl dX11_live_52 ?_
      refine g_getI fl_X11_380 sh_137 (by decide) rfl dX11_live_55 ?_
      refine g_vI [.int (mI μ9 137 1)] [] mw_X11_175 (ok_X11_answer g (mI μ9 137 1) μ9) (by omega) sh_0 (by decide) rfl rfl (Nat.le_of_ble_eq_true rfl) dX11_live_58 (fun x10 μ11 _ => ?_)
      exact g_ret dX11_live_61 rfl rfl
    · refine g_aload_n dX11_live_27 0 rfl ?_
      refine g_bipush dX11_live_28 (v := 8) (by decide) ?_
      refine g_vI [.int 8] [] mw_X11_161 (ok_X11_refuse g 8 μ) (by omega) sh_0 (by decide) rfl rfl (Nat.le_of_ble_eq_true rfl) dX11_live_30 (fun x12 μ13 _ => ?_)
      exact g_ret dX11_live_33 rfl rfl
  · refine g_aload_n dX11_live_11 0 rfl ?_
    refine g_iconst dX11_live_12 (v := 5) (by decide) ?_
    refine g_vI [.int 5] [] mw_X11_161 (ok_X11_refuse g 5 μ) (by omega) sh_0 (by decide) rfl rfl (Nat.le_of_ble_eq_true rfl) dX11_live_13 (fun x14 μ15 _ => ?_)
    exact g_ret dX11_live_16 rfl rfl
set_option maxHeartbeats 4000000 in
set_option maxRecDepth 100000 in
theorem ok_X11_lived (g : GG) (v1 : Int32)  (μ : Mm) : Ct g yX11_lived cX11_lived 2 (some (.int)) 2 cvI [.ref (gb g + 0), .int v1] μ (f_X11_lived v1 μ) := by
  refine ct_I (by decide +kernel) (Nat.le_of_ble_eq_true rfl) (show Go g RX11 cX11_lived 2 .ireturn 2 cvI 0 [(0, .ref (gb g + 0)), (1, .int v1)] [] μ (f_X11_lived v1 μ) from ?_)
  unfold f_X11_lived
  refine g_iload_n dX11_lived_0 1 rfl ?_
  refine g_iconst dX11_lived_1 (v := 0) (by decide) ?_
  refine g_iconst dX11_lived_2 (v := 4) (by decide) ?_
  refine g_sZp [.int v1, .int 0, .int 4] [] mw_X11_116 (ok_X11_within g v1 0 4 μ) (by omega) rfl rfl (Nat.le_of_ble_eq_true rfl) dX11_lived_3 (fun x1 _ => ?_)
  refine g_ifneB (tgt := 15) dX11_lived_6 (by decide) (fun _ => ?_) (fun _ => ?_)
  · refine g_aload_n dX11_lived_15 0 rfl ?_
    refine g_getR (b := 137) fl_X11_98 sh_0 (by decide) rfl rfl dX11_lived_16 ?_
    refine g_getI fl_X11_383 sh_137 (by decide) rfl dX11_lived_19 ?_
    refine g_if_ne (tgt := 32) dX11_lived_22 (by decide) (fun _ => ?_) (fun _ => ?_)
    · refine g_iload_n dX11_lived_32 1 rfl ?_
      refine g_if (fun hs0 => ?_) (fun hs0 => ?_)
      · refine g_tswIn 0 (tgt := 64) (off := 31) dX11_lived_33 hs0 (by decide) (by decide) (by decide) (by decide) ?_
        refine g_aload_n dX11_lived_64 0 rfl ?_
        refine g_aload_n dX11_lived_65 0 rfl ?_
        refine g_getR (b := 137) fl_X11_98 sh_0 (by decide) rfl rfl dX11_lived_66 ?_
        refine g_getI fl_X11_386 sh_137 (by decide) rfl dX11_lived_69 ?_
        refine g_vI [.int (mI μ 137 2)] [] mw_X11_175 (ok_X11_answer g (mI μ 137 2) μ) (by omega) sh_0 (by decide) rfl rfl (Nat.le_of_ble_eq_true rfl) dX11_lived_72 (fun x2 μ3 _ => ?_)
        exact g_ret dX11_lived_75 rfl rfl
      · refine g_if (fun hs1 => ?_) (fun hs1 => ?_)
        · refine g_tswIn 1 (tgt := 76) (off := 43) dX11_lived_33 hs1 (by decide) (by decide) (by decide) (by decide) ?_
          refine g_aload_n dX11_lived_76 0 rfl ?_
          refine g_aload_n dX11_lived_77 0 rfl ?_
          refine g_getR (b := 137) fl_X11_98 sh_0 (by decide) rfl rfl dX11_lived_78 ?_
          refine g_getI fl_X11_389 sh_137 (by decide) rfl dX11_lived_81 ?_
          refine g_vI [.int (mI μ 137 3)] [] mw_X11_175 (ok_X11_answer g (mI μ 137 3) μ) (by omega) sh_0 (by decide) rfl rfl (Nat.le_of_ble_eq_true rfl) dX11_lived_84 (fun x4 μ5 _ => ?_)
          exact g_ret dX11_lived_87 rfl rfl
        · refine g_if (fun hs2 => ?_) (fun hs2 => ?_)
          · refine g_tswIn 2 (tgt := 88) (off := 55) dX11_lived_33 hs2 (by decide) (by decide) (by decide) (by decide) ?_
            refine g_aload_n dX11_lived_88 0 rfl ?_
            refine g_aload_n dX11_lived_89 0 rfl ?_
            refine g_getR (b := 137) fl_X11_98 sh_0 (by decide) rfl rfl dX11_lived_90 ?_
            refine g_getI fl_X11_392 sh_137 (by decide) rfl dX11_lived_93 ?_
            refine g_vI [.int (mI μ 137 4)] [] mw_X11_175 (ok_X11_answer g (mI μ 137 4) μ) (by omega) sh_0 (by decide) rfl rfl (Nat.le_of_ble_eq_true rfl) dX11_lived_96 (fun x6 μ7 _ => ?_)
            exact g_ret dX11_lived_99 rfl rfl
          · refine g_if (fun hs3 => ?_) (fun hs3 => ?_)
            · refine g_tswIn 3 (tgt := 100) (off := 67) dX11_lived_33 hs3 (by decide) (by decide) (by decide) (by decide) ?_
              refine g_aload_n dX11_lived_100 0 rfl ?_
              refine g_aload_n dX11_lived_101 0 rfl ?_
              refine g_getR (b := 137) fl_X11_98 sh_0 (by decide) rfl rfl dX11_lived_102 ?_
              refine g_getI fl_X11_395 sh_137 (by decide) rfl dX11_lived_105 ?_
              refine g_vI [.int (mI μ 137 5)] [] mw_X11_175 (ok_X11_answer g (mI μ 137 5) μ) (by omega) sh_0 (by decide) rfl rfl (Nat.le_of_ble_eq_true rfl) dX11_lived_108 (fun x8 μ9 _ => ?_)
              exact g_ret dX11_lived_111 rfl rfl
            · refine g_tswOut (tgt := 112) dX11_lived_33 (by have n0 := lv_neT (a := 0) hs0 (by decide); have n1 := lv_neT (a := 1) hs1 (by decide); have n2 := lv_neT (a := 2) hs2 (by decide); have n3 := lv_neT (a := 3) hs3 (by decide); omega) (by decide) ?_
              refine g_aload_n dX11_lived_112 0 rfl ?_
              refine g_aload_n dX11_lived_113 0 rfl ?_
              refine g_getR (b := 137) fl_X11_98 sh_0 (by decide) rfl rfl dX11_lived_114 ?_
              refine g_getI fl_X11_396 sh_137 (by decide) rfl dX11_lived_117 ?_
              refine g_vI [.int (mI μ 137 6)] [] mw_X11_175 (ok_X11_answer g (mI μ 137 6) μ) (by omega) sh_0 (by decide) rfl rfl (Nat.le_of_ble_eq_true rfl) dX11_lived_120 (fun x10 μ11 _ => ?_)
              exact g_ret dX11_lived_123 rfl rfl
    · refine g_aload_n dX11_lived_25 0 rfl ?_
      refine g_bipush dX11_lived_26 (v := 8) (by decide) ?_
      refine g_vI [.int 8] [] mw_X11_161 (ok_X11_refuse g 8 μ) (by omega) sh_0 (by decide) rfl rfl (Nat.le_of_ble_eq_true rfl) dX11_lived_28 (fun x12 μ13 _ => ?_)
      exact g_ret dX11_lived_31 rfl rfl
  · refine g_aload_n dX11_lived_9 0 rfl ?_
    refine g_iconst dX11_lived_10 (v := 5) (by decide) ?_
    refine g_vI [.int 5] [] mw_X11_161 (ok_X11_refuse g 5 μ) (by omega) sh_0 (by decide) rfl rfl (Nat.le_of_ble_eq_true rfl) dX11_lived_11 (fun x14 μ15 _ => ?_)
    exact g_ret dX11_lived_14 rfl rfl
set_option maxHeartbeats 4000000 in
set_option maxRecDepth 100000 in
theorem okL_X11_mean_53 (g : GG) (F : Nat) (v1 : Int32) (v2 : Int32) (k : Int64 → Mm → Option (Bool × Mm))  (hk : ∀ (v3 : Int64) (μ : Mm), Go g RX11 cX11_mean 6 .ireturn 8 cvZ 106 [(0, .ref (gb g + 0)), (2, .int v2), (3, .long v3)] [] μ (k v3 μ)) : ∀ (n : Nat) (v3 : Int64) (v5 : Int32) (μ : Mm), Go g RX11 cX11_mean 6 .ireturn 8 cvZ 53 [(0, .ref (gb g + 0)), (1, .int v1), (2, .int v2), (3, .long v3), (5, .int v5)] [] μ (L_X11_mean_53 F v1 v2 k n v3 v5 μ) := by
  intro n
  induction n with
  | zero =>
    intro v3 v5 μ
    exact g_none
  | succ n ih =>
    intro v3 v5 μ
    rw [L_X11_mean_53_s]
    refine g_iload dX11_mean_53 4 rfl ?_
    refine g_iload_n dX11_mean_55 2 rfl ?_
    refine g_icmp_ge (tgt := 106) dX11_mean_56 (by decide) (fun _ => ?_) (fun _ => ?_)
    · refine g_lv [0, 2, 3] rfl ?_
      exact hk v3 μ
    · refine g_aload_n dX11_mean_59 0 rfl ?_
      refine g_getR (b := mR μ 1) fl_X11_60 sh_0 (by decide) rfl rfl dX11_mean_60 ?_
      refine g_gBk (fun b7 h8 => ?_)
      refine g_aload_n dX11_mean_63 0 rfl ?_
      refine g_getR (b := mR μ 0) fl_X11_56 sh_0 (by decide) rfl rfl dX11_mean_64 ?_
      refine g_gBk (fun b9 h10 => ?_)
      refine g_vV [.ref (gb g + b9)] [] mw_X11_295 (ok_X0_takeFrom g b7 b9 h8 h10 μ) (by omega) (bk_0 h8) (by decide) rfl rfl (Nat.le_of_ble_eq_true rfl) dX11_mean_67 (fun μ12 _ => ?_)
      refine g_aload_n dX11_mean_70 0 rfl ?_
      refine g_getR (b := 139) fl_X11_102 sh_0 (by decide) rfl rfl dX11_mean_71 ?_
      refine g_aload_n dX11_mean_74 0 rfl ?_
      refine g_getR (b := mR μ12 1) fl_X11_60 sh_0 (by decide) rfl rfl dX11_mean_75 ?_
      refine g_gBk (fun b13 h14 => ?_)
      refine g_aload_n dX11_mean_78 0 rfl ?_
      refine g_getR (b := mR μ12 2) fl_X11_66 sh_0 (by decide) rfl rfl dX11_mean_79 ?_
      refine g_gNt (fun b15 h16 => ?_)
      refine g_iload_n dX11_mean_82 1 rfl ?_
      refine g_iload dX11_mean_83 4 rfl ?_
      refine g_iadd dX11_mean_85 ?_
      refine g_vV [.ref (gb g + b13), .ref (gb g + b15), .int (v1 + v5)] [] mw_X11_376 (ok_X4_goThrough g F 139 b13 b15 (v1 + v5) (Or.inr rfl) h14 h16 μ12) (by omega) sh_139 (by decide) rfl rfl (Nat.le_of_ble_eq_true rfl) dX11_mean_86 (fun μ18 _ => ?_)
      refine g_lload_n dX11_mean_89 3 rfl ?_
      refine g_aload_n dX11_mean_90 0 rfl ?_
      refine g_getR (b := mR μ18 1) fl_X11_60 sh_0 (by decide) rfl rfl dX11_mean_91 ?_
      refine g_gBk (fun b19 h20 => ?_)
      refine g_vIp [] [.long v3] mw_X11_215 (ok_X0_wrongs g F b19 h20 μ18) (by omega) (bk_0 h20) (by decide) rfl rfl (Nat.le_of_ble_eq_true rfl) dX11_mean_94 (fun x21 _ => ?_)
      refine g_i2l dX11_mean_97 ?_
      refine g_ladd dX11_mean_98 ?_
      refine g_lstore_n dX11_mean_99 rfl (by decide) (lv' := [(3, .long (v3 + (x21.toInt64))), (0, .ref (gb g + 0)), (1, .int v1), (2, .int v2), (5, .int v5)]) rfl ?_
      refine g_iinc dX11_mean_100 4 rfl (v := (v5 + 1)) rfl (by decide) (lv' := [(5, .int (v5 + 1)), (3, .long (v3 + (x21.toInt64))), (0, .ref (gb g + 0)), (1, .int v1), (2, .int v2)]) rfl ?_
      refine g_goto (tgt := 53) dX11_mean_103 (by decide) ?_
      refine g_lv [2, 3, 4, 1, 0] rfl ?_
      exact ih (v3 + (x21.toInt64)) (v5 + 1) μ18
set_option maxHeartbeats 4000000 in
set_option maxRecDepth 100000 in
theorem ok_X11_mean (g : GG) (F : Nat) (v1 : Int32) (v2 : Int32)  (μ : Mm) : Ct g yX11_mean cX11_mean 6 (some (.boolean)) 8 cvZ [.ref (gb g + 0), .int v1, .int v2] μ (f_X11_mean F v1 v2 μ) := by
  refine ct_Z (by decide +kernel) (Nat.le_of_ble_eq_true rfl) (show Go g RX11 cX11_mean 6 .ireturn 8 cvZ 0 [(0, .ref (gb g + 0)), (1, .int v1), (2, .int v2)] [] μ (f_X11_mean F v1 v2 μ) from ?_)
  unfold f_X11_mean
  refine g_iload_n dX11_mean_0 2 rfl ?_
  refine g_iconst dX11_mean_1 (v := 1) (by decide) ?_
  refine g_bipush dX11_mean_2 (v := 20) (by decide) ?_
  refine g_sZp [.int v2, .int 1, .int 20] [] mw_X11_116 (ok_X11_within g v2 1 20 μ) (by omega) rfl rfl (Nat.le_of_ble_eq_true rfl) dX11_mean_4 (fun x1 _ => ?_)
  refine g_ifeqB (tgt := 25) dX11_mean_7 (by decide) (fun _ => ?_) (fun _ => ?_)
  · refine g_aload_n dX11_mean_25 0 rfl ?_
    refine g_iconst dX11_mean_26 (v := 5) (by decide) ?_
    refine g_vZ [.int 5] [] mw_X11_109 (ok_X11_verdict g 5 μ) (by omega) sh_0 (by decide) rfl rfl (Nat.le_of_ble_eq_true rfl) dX11_mean_27 (fun x2 μ3 _ => ?_)
    exact g_ret dX11_mean_30 rfl rfl
  · refine g_iload_n dX11_mean_10 1 rfl ?_
    refine g_iconst dX11_mean_11 (v := 0) (by decide) ?_
    refine g_sipush dX11_mean_12 (v := 9999) (by decide) ?_
    refine g_iload_n dX11_mean_15 2 rfl ?_
    refine g_isub dX11_mean_16 ?_
    refine g_iconst dX11_mean_17 (v := 1) (by decide) ?_
    refine g_iadd dX11_mean_18 ?_
    refine g_sZp [.int v1, .int 0, .int (((9999 : Int32) - v2) + (1 : Int32))] [] mw_X11_116 (ok_X11_within g v1 0 (((9999 : Int32) - v2) + (1 : Int32)) μ) (by omega) rfl rfl (Nat.le_of_ble_eq_true rfl) dX11_mean_19 (fun x4 _ => ?_)
    refine g_ifneB (tgt := 31) dX11_mean_22 (by decide) (fun _ => ?_) (fun _ => ?_)
    · refine g_aload_n dX11_mean_31 0 rfl ?_
      refine g_getR (b := mR μ 2) fl_X11_66 sh_0 (by decide) rfl rfl dX11_mean_32 ?_
      refine g_gNt (fun b5 h6 => ?_)
      refine g_getI fl_X11_372 (nt_0 h6) (by decide) rfl dX11_mean_35 ?_
      refine g_if_ne (tgt := 48) dX11_mean_38 (by decide) (fun _ => ?_) (fun _ => ?_)
      · refine g_lconst dX11_mean_48 (v := 0) (by decide) ?_
        refine g_lstore_n dX11_mean_49 rfl (by decide) (lv' := [(3, .long 0), (0, .ref (gb g + 0)), (1, .int v1), (2, .int v2)]) rfl ?_
        refine g_iconst dX11_mean_50 (v := 0) (by decide) ?_
        refine g_istore dX11_mean_51 (by decide) (lv' := [(5, .int 0), (3, .long 0), (0, .ref (gb g + 0)), (1, .int v1), (2, .int v2)]) rfl ?_
        refine g_lv [2, 3, 4, 1, 0] rfl ?_
        refine okL_X11_mean_53 g F v1 v2 _ (fun u22 μ23 => ?_) F 0 0 μ
        refine g_aload_n dX11_mean_106 0 rfl ?_
        refine g_lload_n dX11_mean_107 2 rfl ?_
        refine g_iload_n dX11_mean_108 1 rfl ?_
        refine g_i2l dX11_mean_109 ?_
        refine g_vZ [.long u22, .long (v2.toInt64)] [] mw_X11_368 (ok_X11_tellFraction g F u22 (v2.toInt64) μ23) (by omega) sh_0 (by decide) rfl rfl (Nat.le_of_ble_eq_true rfl) dX11_mean_110 (fun x24 μ25 _ => ?_)
        exact g_ret dX11_mean_113 rfl rfl
      · refine g_aload_n dX11_mean_41 0 rfl ?_
        refine g_bipush dX11_mean_42 (v := 8) (by decide) ?_
        refine g_vZ [.int 8] [] mw_X11_109 (ok_X11_verdict g 8 μ) (by omega) sh_0 (by decide) rfl rfl (Nat.le_of_ble_eq_true rfl) dX11_mean_44 (fun x26 μ27 _ => ?_)
        exact g_ret dX11_mean_47 rfl rfl
    · refine g_aload_n dX11_mean_25 0 rfl ?_
      refine g_iconst dX11_mean_26 (v := 5) (by decide) ?_
      refine g_vZ [.int 5] [] mw_X11_109 (ok_X11_verdict g 5 μ) (by omega) sh_0 (by decide) rfl rfl (Nat.le_of_ble_eq_true rfl) dX11_mean_27 (fun x28 μ29 _ => ?_)
      exact g_ret dX11_mean_30 rfl rfl
set_option maxHeartbeats 4000000 in
set_option maxRecDepth 100000 in
theorem ok_X11_mark (g : GG)   (μ : Mm) : Ct g yX11_mark cX11_mark 1 (some (.int)) 3 cvI [.ref (gb g + 0)] μ (f_X11_mark  μ) := by
  refine ct_I (by decide +kernel) (Nat.le_of_ble_eq_true rfl) (show Go g RX11 cX11_mark 1 .ireturn 3 cvI 0 [(0, .ref (gb g + 0))] [] μ (f_X11_mark  μ) from ?_)
  unfold f_X11_mark
  refine g_aload_n dX11_mark_0 0 rfl ?_
  refine g_getI fl_X11_20 sh_0 (by decide) rfl dX11_mark_1 ?_
  refine g_iconst dX11_mark_4 (v := 3) (by decide) ?_
  refine g_icmp_lt (tgt := 15) dX11_mark_5 (by decide) (fun _ => ?_) (fun _ => ?_)
  · refine g_aload_n dX11_mark_15 0 rfl ?_
    refine g_getR (b := 51) fl_X11_73 sh_0 (by decide) rfl rfl dX11_mark_16 ?_
    refine g_aload_n dX11_mark_19 0 rfl ?_
    refine g_getI fl_X11_20 sh_0 (by decide) rfl dX11_mark_20 ?_
    refine g_aaload3 sh_51 dX11_mark_23 (fun q1 h2 => ?_)
    refine g_aload_n dX11_mark_24 0 rfl ?_
    refine g_getR (b := mR μ 0) fl_X11_56 sh_0 (by decide) rfl rfl dX11_mark_25 ?_
    refine g_gBk (fun b3 h4 => ?_)
    refine g_vV [.ref (gb g + b3)] [] mw_X11_295 (ok_X0_takeFrom g q1 b3 (rdE_bk h2) h4 μ) (by omega) (bk_0 (rdE_bk h2)) (by decide) rfl rfl (Nat.le_of_ble_eq_true rfl) dX11_mark_28 (fun μ6 _ => ?_)
    refine g_aload_n dX11_mark_31 0 rfl ?_
    refine g_getR (b := 52) fl_X11_77 sh_0 (by decide) rfl rfl dX11_mark_32 ?_
    refine g_aload_n dX11_mark_35 0 rfl ?_
    refine g_getI fl_X11_20 sh_0 (by decide) rfl dX11_mark_36 ?_
    refine g_aaload4 sh_52 dX11_mark_39 (fun q7 h8 => ?_)
    refine g_aload_n dX11_mark_40 0 rfl ?_
    refine g_getR (b := mR μ6 2) fl_X11_66 sh_0 (by decide) rfl rfl dX11_mark_41 ?_
    refine g_gNt (fun b9 h10 => ?_)
    refine g_vV [.ref (gb g + b9)] [] mw_X11_399 (ok_X5_takeFrom g q7 b9 (rdE_nt h8) h10 μ6) (by omega) (nt_0 (rdE_nt h8)) (by decide) rfl rfl (Nat.le_of_ble_eq_true rfl) dX11_mark_44 (fun μ12 _ => ?_)
    refine g_aload_n dX11_mark_47 0 rfl ?_
    refine g_dup dX11_mark_48 rfl ?_
    refine g_getI fl_X11_20 sh_0 (by decide) rfl dX11_mark_49 ?_
    refine g_iconst dX11_mark_52 (v := 1) (by decide) ?_
    refine g_iadd dX11_mark_53 ?_
    refine g_putI fl_X11_20 sh_0 (by decide) rfl dX11_mark_54 ?_
    refine g_aload_n dX11_mark_57 0 rfl ?_
    refine g_aload_n dX11_mark_58 0 rfl ?_
    refine g_getI fl_X11_20 sh_0 (by decide) rfl dX11_mark_59 ?_
    refine g_vI [.int (mI (sI μ12 0 3 ((mI μ12 0 3) + (1 : Int32))) 0 3)] [] mw_X11_175 (ok_X11_answer g (mI (sI μ12 0 3 ((mI μ12 0 3) + (1 : Int32))) 0 3) (sI μ12 0 3 ((mI μ12 0 3) + (1 : Int32)))) (by omega) sh_0 (by decide) rfl rfl (Nat.le_of_ble_eq_true rfl) dX11_mark_62 (fun x13 μ14 _ => ?_)
    exact g_ret dX11_mark_65 rfl rfl
  · refine g_aload_n dX11_mark_8 0 rfl ?_
    refine g_bipush dX11_mark_9 (v := 7) (by decide) ?_
    refine g_vI [.int 7] [] mw_X11_161 (ok_X11_refuse g 7 μ) (by omega) sh_0 (by decide) rfl rfl (Nat.le_of_ble_eq_true rfl) dX11_mark_11 (fun x15 μ16 _ => ?_)
    exact g_ret dX11_mark_14 rfl rfl
set_option maxHeartbeats 4000000 in
set_option maxRecDepth 100000 in
theorem ok_X11_back (g : GG)   (μ : Mm) : Ct g yX11_back cX11_back 1 (some (.int)) 3 cvI [.ref (gb g + 0)] μ (f_X11_back  μ) := by
  refine ct_I (by decide +kernel) (Nat.le_of_ble_eq_true rfl) (show Go g RX11 cX11_back 1 .ireturn 3 cvI 0 [(0, .ref (gb g + 0))] [] μ (f_X11_back  μ) from ?_)
  unfold f_X11_back
  refine g_aload_n dX11_back_0 0 rfl ?_
  refine g_getI fl_X11_20 sh_0 (by decide) rfl dX11_back_1 ?_
  refine g_if_gt (tgt := 14) dX11_back_4 (by decide) (fun _ => ?_) (fun _ => ?_)
  · refine g_aload_n dX11_back_14 0 rfl ?_
    refine g_dup dX11_back_15 rfl ?_
    refine g_getI fl_X11_20 sh_0 (by decide) rfl dX11_back_16 ?_
    refine g_iconst dX11_back_19 (v := 1) (by decide) ?_
    refine g_isub dX11_back_20 ?_
    refine g_putI fl_X11_20 sh_0 (by decide) rfl dX11_back_21 ?_
    refine g_aload_n dX11_back_24 0 rfl ?_
    refine g_getR (b := mR (sI μ 0 3 ((mI μ 0 3) - (1 : Int32))) 0) fl_X11_56 sh_0 (by decide) rfl rfl dX11_back_25 ?_
    refine g_gBk (fun b1 h2 => ?_)
    refine g_aload_n dX11_back_28 0 rfl ?_
    refine g_getR (b := 51) fl_X11_73 sh_0 (by decide) rfl rfl dX11_back_29 ?_
    refine g_aload_n dX11_back_32 0 rfl ?_
    refine g_getI fl_X11_20 sh_0 (by decide) rfl dX11_back_33 ?_
    refine g_aaload3 sh_51 dX11_back_36 (fun q3 h4 => ?_)
    refine g_vV [.ref (gb g + q3)] [] mw_X11_295 (ok_X0_takeFrom g b1 q3 h2 (rdE_bk h4) (sI μ 0 3 ((mI μ 0 3) - (1 : Int32)))) (by omega) (bk_0 h2) (by decide) rfl rfl (Nat.le_of_ble_eq_true rfl) dX11_back_37 (fun μ6 _ => ?_)
    refine g_aload_n dX11_back_40 0 rfl ?_
    refine g_getR (b := mR μ6 2) fl_X11_66 sh_0 (by decide) rfl rfl dX11_back_41 ?_
    refine g_gNt (fun b7 h8 => ?_)
    refine g_aload_n dX11_back_44 0 rfl ?_
    refine g_getR (b := 52) fl_X11_77 sh_0 (by decide) rfl rfl dX11_back_45 ?_
    refine g_aload_n dX11_back_48 0 rfl ?_
    refine g_getI fl_X11_20 sh_0 (by decide) rfl dX11_back_49 ?_
    refine g_aaload4 sh_52 dX11_back_52 (fun q9 h10 => ?_)
    refine g_vV [.ref (gb g + q9)] [] mw_X11_399 (ok_X5_takeFrom g b7 q9 h8 (rdE_nt h10) μ6) (by omega) (nt_0 h8) (by decide) rfl rfl (Nat.le_of_ble_eq_true rfl) dX11_back_53 (fun μ12 _ => ?_)
    refine g_aload_n dX11_back_56 0 rfl ?_
    refine g_aload_n dX11_back_57 0 rfl ?_
    refine g_getI fl_X11_20 sh_0 (by decide) rfl dX11_back_58 ?_
    refine g_vI [.int (mI μ12 0 3)] [] mw_X11_175 (ok_X11_answer g (mI μ12 0 3) μ12) (by omega) sh_0 (by decide) rfl rfl (Nat.le_of_ble_eq_true rfl) dX11_back_61 (fun x13 μ14 _ => ?_)
    exact g_ret dX11_back_64 rfl rfl
  · refine g_aload_n dX11_back_7 0 rfl ?_
    refine g_bipush dX11_back_8 (v := 8) (by decide) ?_
    refine g_vI [.int 8] [] mw_X11_161 (ok_X11_refuse g 8 μ) (by omega) sh_0 (by decide) rfl rfl (Nat.le_of_ble_eq_true rfl) dX11_back_10 (fun x15 μ16 _ => ?_)
    exact g_ret dX11_back_13 rfl rfl
set_option maxHeartbeats 4000000 in
set_option maxRecDepth 100000 in
theorem ok_X12_status (g : GG)   (μ : Mm) : Ct g yX12_status cX12_status 1 (some (.int)) 1 cvI [.ref (gb g + 141)] μ (f_X12_status  μ) := by
  refine ct_I (by decide +kernel) (Nat.le_of_ble_eq_true rfl) (show Go g RX12 cX12_status 1 .ireturn 1 cvI 0 [(0, .ref (gb g + 141))] [] μ (f_X12_status  μ) from ?_)
  unfold f_X12_status
  refine g_aload_n dX12_status_0 0 rfl ?_
  refine g_iconst dX12_status_1 (v := 0) (by decide) ?_
  refine g_putI fl_X12_72 sh_141 (by decide) rfl dX12_status_2 ?_
  refine g_aload_n dX12_status_5 0 rfl ?_
  refine g_getI fl_X12_75 sh_141 (by decide) rfl dX12_status_6 ?_
  exact g_ret dX12_status_9 rfl rfl
set_option maxHeartbeats 4000000 in
set_option maxRecDepth 100000 in
theorem ok_X12_top (g : GG)   (μ : Mm) : Ct g yX12_top cX12_top 1 (some (.long)) 1 cvJ [.ref (gb g + 141)] μ (f_X12_top  μ) := by
  refine ct_J (by decide +kernel) (Nat.le_of_ble_eq_true rfl) (show Go g RX12 cX12_top 1 .lreturn 1 cvJ 0 [(0, .ref (gb g + 141))] [] μ (f_X12_top  μ) from ?_)
  unfold f_X12_top
  refine g_aload_n dX12_top_0 0 rfl ?_
  refine g_iconst dX12_top_1 (v := 0) (by decide) ?_
  refine g_putI fl_X12_72 sh_141 (by decide) rfl dX12_top_2 ?_
  refine g_aload_n dX12_top_5 0 rfl ?_
  refine g_getJ fl_X12_78 sh_141 (by decide) rfl dX12_top_6 ?_
  exact g_ret dX12_top_9 rfl rfl
set_option maxHeartbeats 4000000 in
set_option maxRecDepth 100000 in
theorem ok_X12_bottom (g : GG)   (μ : Mm) : Ct g yX12_bottom cX12_bottom 1 (some (.long)) 1 cvJ [.ref (gb g + 141)] μ (f_X12_bottom  μ) := by
  refine ct_J (by decide +kernel) (Nat.le_of_ble_eq_true rfl) (show Go g RX12 cX12_bottom 1 .lreturn 1 cvJ 0 [(0, .ref (gb g + 141))] [] μ (f_X12_bottom  μ) from ?_)
  unfold f_X12_bottom
  refine g_aload_n dX12_bottom_0 0 rfl ?_
  refine g_iconst dX12_bottom_1 (v := 0) (by decide) ?_
  refine g_putI fl_X12_72 sh_141 (by decide) rfl dX12_bottom_2 ?_
  refine g_aload_n dX12_bottom_5 0 rfl ?_
  refine g_getJ fl_X12_7 sh_141 (by decide) rfl dX12_bottom_6 ?_
  exact g_ret dX12_bottom_9 rfl rfl
set_option maxHeartbeats 4000000 in
set_option maxRecDepth 100000 in
theorem ok_X12_refuse (g : GG) (v1 : Int32)  (μ : Mm) : Ct g yX12_refuse cX12_refuse 2 (some (.int)) 1 cvI [.ref (gb g + 141), .int v1] μ (f_X12_refuse v1 μ) := by
  refine ct_I (by decide +kernel) (Nat.le_of_ble_eq_true rfl) (show Go g RX12 cX12_refuse 2 .ireturn 1 cvI 0 [(0, .ref (gb g + 141)), (1, .int v1)] [] μ (f_X12_refuse v1 μ) from ?_)
  unfold f_X12_refuse
  refine g_aload_n dX12_refuse_0 0 rfl ?_
  refine g_iload_n dX12_refuse_1 1 rfl ?_
  refine g_putI fl_X12_75 sh_141 (by decide) rfl dX12_refuse_2 ?_
  refine g_iconst dX12_refuse_5 (v := (-1)) (by decide) ?_
  exact g_ret dX12_refuse_6 rfl rfl
set_option maxHeartbeats 4000000 in
set_option maxRecDepth 100000 in
theorem ok_X12_no (g : GG) (v1 : Int32)  (μ : Mm) : Ct g yX12_no cX12_no 2 (some (.boolean)) 1 cvZ [.ref (gb g + 141), .int v1] μ (f_X12_no v1 μ) := by
  refine ct_Z (by decide +kernel) (Nat.le_of_ble_eq_true rfl) (show Go g RX12 cX12_no 2 .ireturn 1 cvZ 0 [(0, .ref (gb g + 141)), (1, .int v1)] [] μ (f_X12_no v1 μ) from ?_)
  unfold f_X12_no
  refine g_aload_n dX12_no_0 0 rfl ?_
  refine g_iload_n dX12_no_1 1 rfl ?_
  refine g_putI fl_X12_75 sh_141 (by decide) rfl dX12_no_2 ?_
  refine g_iconst dX12_no_5 (v := 0) (by decide) ?_
  exact g_ret dX12_no_6 rfl rfl
set_option maxHeartbeats 4000000 in
set_option maxRecDepth 100000 in
theorem ok_X12_isIn (g : GG) (v0 : Int64) (v2 : Int64) (v4 : Int64)  (μ : Mm) : Ct g yX12_isIn cX12_isIn 6 (some (.boolean)) 1 (cvZp μ) [.long v0, .long v2, .long v4] μ (f_X12_isIn v0 v2 v4 μ) := by
  refine ct_Zp (by decide +kernel) (Nat.le_of_ble_eq_true rfl) (show Go g RX12 cX12_isIn 6 .ireturn 1 (cvZp μ) 0 [(0, .long v0), (2, .long v2), (4, .long v4)] [] μ (f_X12_isIn v0 v2 v4 μ) from ?_)
  unfold f_X12_isIn
  refine g_lload_n dX12_isIn_0 0 rfl ?_
  refine g_lload_n dX12_isIn_1 1 rfl ?_
  refine g_lcmp dX12_isIn_2 ?_
  refine g_if_lt (tgt := 17) dX12_isIn_3 (by decide) (fun _ => ?_) (fun _ => ?_)
  · refine g_iconst dX12_isIn_17 (v := 0) (by decide) ?_
    exact g_ret dX12_isIn_18 rfl rfl
  · refine g_lload_n dX12_isIn_6 0 rfl ?_
    refine g_lload dX12_isIn_7 2 rfl ?_
    refine g_lcmp dX12_isIn_9 ?_
    refine g_if_gt (tgt := 17) dX12_isIn_10 (by decide) (fun _ => ?_) (fun _ => ?_)
    · refine g_iconst dX12_isIn_17 (v := 0) (by decide) ?_
      exact g_ret dX12_isIn_18 rfl rfl
    · refine g_iconst dX12_isIn_13 (v := 1) (by decide) ?_
      refine g_goto (tgt := 18) dX12_isIn_14 (by decide) ?_
      exact g_ret dX12_isIn_18 rfl rfl
set_option maxHeartbeats 4000000 in
set_option maxRecDepth 100000 in
theorem okL_X12_fraction_9 (g : GG) (F : Nat) (v1 : Int64) (v3 : Int64) (k : Int64 → Option (Bool × Mm)) (μ : Mm)  (hk : ∀ (v5 : Int64), Go g RX12 cX12_fraction 11 .ireturn 2 cvZ 34 [(0, .ref (gb g + 141)), (1, .long v1), (3, .long v3), (5, .long v5)] [] μ (k v5)) : ∀ (n : Nat) (v5 : Int64) (v7 : Int64), Go g RX12 cX12_fraction 11 .ireturn 2 cvZ 9 [(0, .ref (gb g + 141)), (1, .long v1), (3, .long v3), (5, .long v5), (7, .long v7)] [] μ (L_X12_fraction_9 F v1 v3 k μ n v5 v7) := by
  intro n
  induction n with
  | zero =>
    intro v5 v7
    exact g_none
  | succ n ih =>
    intro v5 v7
    rw [L_X12_fraction_9_s]
    refine g_lload dX12_fraction_9 4 rfl ?_
    refine g_lconst dX12_fraction_11 (v := 0) (by decide) ?_
    refine g_lcmp dX12_fraction_12 ?_
    refine g_if_eq (tgt := 34) dX12_fraction_13 (by decide) (fun _ => ?_) (fun _ => ?_)
    · refine g_lv [0, 1, 2, 3] rfl ?_
      exact hk v5
    · refine g_lload dX12_fraction_16 3 rfl ?_
      refine g_lload dX12_fraction_18 4 rfl ?_
      refine g_lrem dX12_fraction_20 ?_
      refine g_lstore dX12_fraction_21 (by decide) (lv' := [(9, .long (v5 - v5 / v7 * v7)), (0, .ref (gb g + 141)), (1, .long v1), (3, .long v3), (5, .long v5), (7, .long v7)]) rfl ?_
      refine g_lload dX12_fraction_23 5 rfl ?_
      refine g_lstore dX12_fraction_25 (by decide) (lv' := [(5, .long v7), (9, .long (v5 - v5 / v7 * v7)), (0, .ref (gb g + 141)), (1, .long v1), (3, .long v3), (7, .long v7)]) rfl ?_
      refine g_lload dX12_fraction_27 1 rfl ?_
      refine g_lstore dX12_fraction_29 (by decide) (lv' := [(7, .long (v5 - v5 / v7 * v7)), (5, .long v7), (9, .long (v5 - v5 / v7 * v7)), (0, .ref (gb g + 141)), (1, .long v1), (3, .long v3)]) rfl ?_
      refine g_goto (tgt := 9) dX12_fraction_31 (by decide) ?_
      refine g_lv [3, 4, 5, 1, 0] rfl ?_
      exact ih v7 (v5 - v5 / v7 * v7)
set_option maxHeartbeats 4000000 in
set_option maxRecDepth 100000 in
theorem ok_X12_fraction (g : GG) (F : Nat) (v1 : Int64) (v3 : Int64)  (μ : Mm) : Ct g yX12_fraction cX12_fraction 11 (some (.boolean)) 2 cvZ [.ref (gb g + 141), .long v1, .long v3] μ (f_X12_fraction F v1 v3 μ) := by
  refine ct_Z (by decide +kernel) (Nat.le_of_ble_eq_true rfl) (show Go g RX12 cX12_fraction 11 .ireturn 2 cvZ 0 [(0, .ref (gb g + 141)), (1, .long v1), (3, .long v3)] [] μ (f_X12_fraction F v1 v3 μ) from ?_)
  unfold f_X12_fraction
  refine g_lload_n dX12_fraction_0 1 rfl ?_
  refine g_mlabs mw_X12_81 (by omega) (Nat.le_of_ble_eq_true rfl) dX12_fraction_1 (fun x1 => ?_)
  refine g_lstore dX12_fraction_4 (by decide) (lv' := [(5, .long x1), (0, .ref (gb g + 141)), (1, .long v1), (3, .long v3)]) rfl ?_
  refine g_lload_n dX12_fraction_6 3 rfl ?_
  refine g_lstore dX12_fraction_7 (by decide) (lv' := [(7, .long v3), (5, .long x1), (0, .ref (gb g + 141)), (1, .long v1), (3, .long v3)]) rfl ?_
  refine g_lv [2, 3, 4, 1, 0] rfl ?_
  refine okL_X12_fraction_9 g F v1 v3 _ μ (fun u2 => ?_) F x1 v3
  refine g_aload_n dX12_fraction_34 0 rfl ?_
  refine g_lload_n dX12_fraction_35 1 rfl ?_
  refine g_lload dX12_fraction_36 3 rfl ?_
  refine g_ldiv dX12_fraction_38 ?_
  refine g_putJ fl_X12_78 sh_141 (by decide) rfl dX12_fraction_39 ?_
  refine g_aload_n dX12_fraction_42 0 rfl ?_
  refine g_lload_n dX12_fraction_43 2 rfl ?_
  refine g_lload dX12_fraction_44 3 rfl ?_
  refine g_ldiv dX12_fraction_46 ?_
  refine g_putJ fl_X12_7 sh_141 (by decide) rfl dX12_fraction_47 ?_
  refine g_iconst dX12_fraction_50 (v := 1) (by decide) ?_
  exact g_ret dX12_fraction_51 rfl rfl
set_option maxHeartbeats 4000000 in
set_option maxRecDepth 100000 in
theorem ok_X12_cut (g : GG) (v0 : Int32) (v1 : Int64)  (μ : Mm) : Ct g yX12_cut cX12_cut 3 (some (.long)) 1 (cvJp μ) [.int v0, .long v1] μ (f_X12_cut v0 v1 μ) := by
  refine ct_Jp (by decide +kernel) (Nat.le_of_ble_eq_true rfl) (show Go g RX12 cX12_cut 3 .lreturn 1 (cvJp μ) 0 [(0, .int v0), (1, .long v1)] [] μ (f_X12_cut v0 v1 μ) from ?_)
  unfold f_X12_cut
  refine g_iload_n dX12_cut_0 0 rfl ?_
  have hJ5 : ∀ (w4 : Int64), w4 = (if v0 = 0 then (((v1.toInt32).toInt8.toInt32).toInt64) else (if v0 = 1 then (((v1.toInt32).toInt16.toInt32).toInt64) else (if v0 = 2 then ((v1.toInt32).toInt64) else v1))) → Go g RX12 cX12_cut 3 .lreturn 1 (cvJp μ) 35 [] [.long w4] μ (some (if v0 = 0 then (((v1.toInt32).toInt8.toInt32).toInt64) else (if v0 = 1 then (((v1.toInt32).toInt16.toInt32).toInt64) else (if v0 = 2 then ((v1.toInt32).toInt64) else v1)))) := by
    intro w4 ew4
    subst ew4
    exact g_ret dX12_cut_35 rfl rfl
  refine g_same (g_if_ne (tgt := 11) dX12_cut_1 (by decide) (fun c1 => ?_) (fun c1 => ?_))
  · refine g_iload_n dX12_cut_11 0 rfl ?_
    refine g_iconst dX12_cut_12 (v := 1) (by decide) ?_
    refine g_same (g_icmp_ne (tgt := 23) dX12_cut_13 (by decide) (fun c2 => ?_) (fun c2 => ?_))
    · refine g_iload_n dX12_cut_23 0 rfl ?_
      refine g_iconst dX12_cut_24 (v := 2) (by decide) ?_
      refine g_same (g_icmp_ne (tgt := 34) dX12_cut_25 (by decide) (fun c3 => ?_) (fun c3 => ?_))
      · refine g_lload_n dX12_cut_34 1 rfl ?_
        refine g_lv [] rfl ?_
        exact hJ5 _ (by rw [if_neg c1, if_neg c2, if_neg c3])
      · refine g_lload_n dX12_cut_28 1 rfl ?_
        refine g_l2i dX12_cut_29 ?_
        refine g_i2l dX12_cut_30 ?_
        refine g_goto (tgt := 35) dX12_cut_31 (by decide) ?_
        refine g_lv [] rfl ?_
        exact hJ5 _ (by rw [if_neg c1, if_neg c2, if_pos c3])
    · refine g_lload_n dX12_cut_16 1 rfl ?_
      refine g_l2i dX12_cut_17 ?_
      refine g_i2s dX12_cut_18 ?_
      refine g_i2l dX12_cut_19 ?_
      refine g_goto (tgt := 35) dX12_cut_20 (by decide) ?_
      refine g_lv [] rfl ?_
      exact hJ5 _ (by rw [if_neg c1, if_pos c2])
  · refine g_lload_n dX12_cut_4 1 rfl ?_
    refine g_l2i dX12_cut_5 ?_
    refine g_i2b dX12_cut_6 ?_
    refine g_i2l dX12_cut_7 ?_
    refine g_goto (tgt := 35) dX12_cut_8 (by decide) ?_
    refine g_lv [] rfl ?_
    exact hJ5 _ (by rw [if_pos c1])
set_option maxHeartbeats 4000000 in
set_option maxRecDepth 100000 in
theorem okL_X12_tray_74 (g : GG) (F : Nat) (v1 : Int32) (v3 : Int32) (k : Mm → Option (Bool × Mm))  (hk : ∀ (μ : Mm), Go g RX12 cX12_tray 5 .ireturn 2 cvZ 99 [] [] μ (k μ)) : ∀ (n : Nat) (v4 : Int32) (μ : Mm), Go g RX12 cX12_tray 5 .ireturn 2 cvZ 74 [(0, .ref (gb g + 141)), (1, .int v1), (3, .int v3), (4, .int v4)] [] μ (L_X12_tray_74 F v1 v3 k n v4 μ) := by
  intro n
  induction n with
  | zero =>
    intro v4 μ
    exact g_none
  | succ n ih =>
    intro v4 μ
    rw [L_X12_tray_74_s]
    refine g_iload dX12_tray_74 3 rfl ?_
    refine g_iload_n dX12_tray_76 2 rfl ?_
    refine g_icmp_ge (tgt := 99) dX12_tray_77 (by decide) (fun _ => ?_) (fun _ => ?_)
    · refine g_lv [] rfl ?_
      exact hk μ
    · refine g_aload_n dX12_tray_80 0 rfl ?_
      refine g_getR (b := 144) fl_X12_20 sh_141 (by decide) rfl rfl dX12_tray_81 ?_
      refine g_bipush dX12_tray_84 (v := 60) (by decide) ?_
      refine g_iload_n dX12_tray_86 1 rfl ?_
      refine g_imul dX12_tray_87 ?_
      refine g_iload dX12_tray_88 3 rfl ?_
      refine g_iadd dX12_tray_90 ?_
      refine g_lconst dX12_tray_91 (v := 0) (by decide) ?_
      refine g_lastore sh_144 dX12_tray_92 (fun μ9 => ?_)
      refine g_iinc dX12_tray_93 3 rfl (v := (v4 + 1)) rfl (by decide) (lv' := [(4, .int (v4 + 1)), (0, .ref (gb g + 141)), (1, .int v1), (3, .int v3)]) rfl ?_
      refine g_goto (tgt := 74) dX12_tray_96 (by decide) ?_
      refine g_lv [1, 2, 3, 0] rfl ?_
      exact ih (v4 + 1) μ9
set_option maxHeartbeats 4000000 in
set_option maxRecDepth 100000 in
theorem ok_X12_tray (g : GG) (F : Nat) (v1 : Int32) (v2 : Int32) (v3 : Int32)  (μ : Mm) : Ct g yX12_tray cX12_tray 5 (some (.boolean)) 2 cvZ [.ref (gb g + 141), .int v1, .int v2, .int v3] μ (f_X12_tray F v1 v2 v3 μ) := by
  refine ct_Z (by decide +kernel) (Nat.le_of_ble_eq_true rfl) (show Go g RX12 cX12_tray 5 .ireturn 2 cvZ 0 [(0, .ref (gb g + 141)), (1, .int v1), (2, .int v2), (3, .int v3)] [] μ (f_X12_tray F v1 v2 v3 μ) from ?_)
  unfold f_X12_tray
  refine g_aload_n dX12_tray_0 0 rfl ?_
  refine g_iconst dX12_tray_1 (v := 0) (by decide) ?_
  refine g_putI fl_X12_72 sh_141 (by decide) rfl dX12_tray_2 ?_
  refine g_aload_n dX12_tray_5 0 rfl ?_
  refine g_iconst dX12_tray_6 (v := 0) (by decide) ?_
  refine g_putI fl_X12_75 sh_141 (by decide) rfl dX12_tray_7 ?_
  refine g_iload_n dX12_tray_10 1 rfl ?_
  refine g_if_lt (tgt := 28) dX12_tray_11 (by decide) (fun _ => ?_) (fun _ => ?_)
  · refine g_aload_n dX12_tray_28 0 rfl ?_
    refine g_iconst dX12_tray_29 (v := 1) (by decide) ?_
    refine g_vZ [.int 1] [] mw_X12_87 (ok_X12_no g 1 (sI (sI μ 141 1 0) 141 0 0)) (by omega) sh_141 (by decide) rfl rfl (Nat.le_of_ble_eq_true rfl) dX12_tray_30 (fun x1 μ2 _ => ?_)
    exact g_ret dX12_tray_33 rfl rfl
  · refine g_iload_n dX12_tray_14 1 rfl ?_
    refine g_iconst dX12_tray_15 (v := 4) (by decide) ?_
    refine g_icmp_ge (tgt := 28) dX12_tray_16 (by decide) (fun _ => ?_) (fun _ => ?_)
    · refine g_aload_n dX12_tray_28 0 rfl ?_
      refine g_iconst dX12_tray_29 (v := 1) (by decide) ?_
      refine g_vZ [.int 1] [] mw_X12_87 (ok_X12_no g 1 (sI (sI μ 141 1 0) 141 0 0)) (by omega) sh_141 (by decide) rfl rfl (Nat.le_of_ble_eq_true rfl) dX12_tray_30 (fun x3 μ4 _ => ?_)
      exact g_ret dX12_tray_33 rfl rfl
    · refine g_iload_n dX12_tray_19 2 rfl ?_
      refine g_if_lt (tgt := 28) dX12_tray_20 (by decide) (fun _ => ?_) (fun _ => ?_)
      · refine g_aload_n dX12_tray_28 0 rfl ?_
        refine g_iconst dX12_tray_29 (v := 1) (by decide) ?_
        refine g_vZ [.int 1] [] mw_X12_87 (ok_X12_no g 1 (sI (sI μ 141 1 0) 141 0 0)) (by omega) sh_141 (by decide) rfl rfl (Nat.le_of_ble_eq_true rfl) dX12_tray_30 (fun x5 μ6 _ => ?_)
        exact g_ret dX12_tray_33 rfl rfl
      · refine g_iload_n dX12_tray_23 2 rfl ?_
        refine g_iconst dX12_tray_24 (v := 3) (by decide) ?_
        refine g_icmp_le (tgt := 34) dX12_tray_25 (by decide) (fun _ => ?_) (fun _ => ?_)
        · refine g_iload_n dX12_tray_34 3 rfl ?_
          refine g_bipush dX12_tray_35 (v := 60) (by decide) ?_
          refine g_icmp_le (tgt := 46) dX12_tray_37 (by decide) (fun _ => ?_) (fun _ => ?_)
          · refine g_iload_n dX12_tray_46 3 rfl ?_
            refine g_if_ge (tgt := 57) dX12_tray_47 (by decide) (fun _ => ?_) (fun _ => ?_)
            · refine g_aload_n dX12_tray_57 0 rfl ?_
              refine g_getR (b := 142) fl_X12_13 sh_141 (by decide) rfl rfl dX12_tray_58 ?_
              refine g_iload_n dX12_tray_61 1 rfl ?_
              refine g_iload_n dX12_tray_62 2 rfl ?_
              refine g_iastore sh_142 dX12_tray_63 (fun μ7 => ?_)
              refine g_aload_n dX12_tray_64 0 rfl ?_
              refine g_getR (b := 143) fl_X12_17 sh_141 (by decide) rfl rfl dX12_tray_65 ?_
              refine g_iload_n dX12_tray_68 1 rfl ?_
              refine g_iload_n dX12_tray_69 3 rfl ?_
              refine g_iastore sh_143 dX12_tray_70 (fun μ8 => ?_)
              refine g_iconst dX12_tray_71 (v := 0) (by decide) ?_
              refine g_istore dX12_tray_72 (by decide) (lv' := [(4, .int 0), (0, .ref (gb g + 141)), (1, .int v1), (2, .int v2), (3, .int v3)]) rfl ?_
              refine g_lv [1, 2, 4, 0] rfl ?_
              refine okL_X12_tray_74 g F v1 v3 _ (fun μ10 => ?_) F 0 μ8
              refine g_iconst dX12_tray_99 (v := 1) (by decide) ?_
              exact g_ret dX12_tray_100 rfl rfl
            · refine g_aload_n dX12_tray_50 0 rfl ?_
              refine g_bipush dX12_tray_51 (v := 6) (by decide) ?_
              refine g_vZ [.int 6] [] mw_X12_87 (ok_X12_no g 6 (sI (sI μ 141 1 0) 141 0 0)) (by omega) sh_141 (by decide) rfl rfl (Nat.le_of_ble_eq_true rfl) dX12_tray_53 (fun x11 μ12 _ => ?_)
              exact g_ret dX12_tray_56 rfl rfl
          · refine g_aload_n dX12_tray_40 0 rfl ?_
            refine g_iconst dX12_tray_41 (v := 5) (by decide) ?_
            refine g_vZ [.int 5] [] mw_X12_87 (ok_X12_no g 5 (sI (sI μ 141 1 0) 141 0 0)) (by omega) sh_141 (by decide) rfl rfl (Nat.le_of_ble_eq_true rfl) dX12_tray_42 (fun x13 μ14 _ => ?_)
            exact g_ret dX12_tray_45 rfl rfl
        · refine g_aload_n dX12_tray_28 0 rfl ?_
          refine g_iconst dX12_tray_29 (v := 1) (by decide) ?_
          refine g_vZ [.int 1] [] mw_X12_87 (ok_X12_no g 1 (sI (sI μ 141 1 0) 141 0 0)) (by omega) sh_141 (by decide) rfl rfl (Nat.le_of_ble_eq_true rfl) dX12_tray_30 (fun x15 μ16 _ => ?_)
          exact g_ret dX12_tray_33 rfl rfl
set_option maxHeartbeats 4000000 in
set_option maxRecDepth 100000 in
theorem ok_X12_trayed (g : GG) (v1 : Int32)  (μ : Mm) : Ct g yX12_trayed cX12_trayed 2 (some (.int)) 1 (cvIp μ) [.ref (gb g + 141), .int v1] μ (f_X12_trayed v1 μ) := by
  refine ct_Ip (by decide +kernel) (Nat.le_of_ble_eq_true rfl) (show Go g RX12 cX12_trayed 2 .ireturn 1 (cvIp μ) 0 [(0, .ref (gb g + 141)), (1, .int v1)] [] μ (f_X12_trayed v1 μ) from ?_)
  unfold f_X12_trayed
  refine g_iload_n dX12_trayed_0 1 rfl ?_
  refine g_if_lt (tgt := 9) dX12_trayed_1 (by decide) (fun _ => ?_) (fun _ => ?_)
  · refine g_iconst dX12_trayed_9 (v := 1) (by decide) ?_
    refine g_goto (tgt := 27) dX12_trayed_10 (by decide) ?_
    exact g_ret dX12_trayed_27 rfl rfl
  · refine g_iload_n dX12_trayed_4 1 rfl ?_
    refine g_iconst dX12_trayed_5 (v := 4) (by decide) ?_
    refine g_icmp_lt (tgt := 13) dX12_trayed_6 (by decide) (fun _ => ?_) (fun _ => ?_)
    · refine g_aload_n dX12_trayed_13 0 rfl ?_
      refine g_getR (b := 143) fl_X12_17 sh_141 (by decide) rfl rfl dX12_trayed_14 ?_
      refine g_iload_n dX12_trayed_17 1 rfl ?_
      refine g_iaload sh_143 dX12_trayed_18 (fun x4 => ?_)
      have hJ7 : ∀ (w6 : Int32), w6 = (if 0 ≤ x4 then (0 : Int32) else 3) → Go g RX12 cX12_trayed 2 .ireturn 1 (cvIp μ) 27 [] [.int w6] μ (some (if 0 ≤ x4 then (0 : Int32) else 3)) := by
        intro w6 ew6
        subst ew6
        exact g_ret dX12_trayed_27 rfl rfl
      refine g_same (g_if_ge (tgt := 26) dX12_trayed_19 (by decide) (fun c5 => ?_) (fun c5 => ?_))
      · refine g_iconst dX12_trayed_26 (v := 0) (by decide) ?_
        refine g_lv [] rfl ?_
        exact hJ7 _ (by rw [if_pos c5])
      · refine g_iconst dX12_trayed_22 (v := 3) (by decide) ?_
        refine g_goto (tgt := 27) dX12_trayed_23 (by decide) ?_
        refine g_lv [] rfl ?_
        exact hJ7 _ (by rw [if_neg c5])
    · refine g_iconst dX12_trayed_9 (v := 1) (by decide) ?_
      refine g_goto (tgt := 27) dX12_trayed_10 (by decide) ?_
      exact g_ret dX12_trayed_27 rfl rfl
set_option maxHeartbeats 4000000 in
set_option maxRecDepth 100000 in
theorem ok_X12_placed (g : GG) (v1 : Int32) (v2 : Int32)  (μ : Mm) : Ct g yX12_placed cX12_placed 4 (some (.int)) 2 (cvIp μ) [.ref (gb g + 141), .int v1, .int v2] μ (f_X12_placed v1 v2 μ) := by
  refine ct_Ip (by decide +kernel) (Nat.le_of_ble_eq_true rfl) (show Go g RX12 cX12_placed 4 .ireturn 2 (cvIp μ) 0 [(0, .ref (gb g + 141)), (1, .int v1), (2, .int v2)] [] μ (f_X12_placed v1 v2 μ) from ?_)
  unfold f_X12_placed
  refine g_aload_n dX12_placed_0 0 rfl ?_
  refine g_iload_n dX12_placed_1 1 rfl ?_
  refine g_vIp [.int v1] [] mw_X12_91 (ok_X12_trayed g v1 μ) (by omega) sh_141 (by decide) rfl rfl (Nat.le_of_ble_eq_true rfl) dX12_placed_2 (fun x1 _ => ?_)
  refine g_istore_n dX12_placed_5 rfl (by decide) (lv' := [(3, .int x1), (0, .ref (gb g + 141)), (1, .int v1), (2, .int v2)]) rfl ?_
  refine g_iload_n dX12_placed_6 0 rfl ?_
  refine g_if_le (tgt := 14) dX12_placed_7 (by decide) (fun _ => ?_) (fun _ => ?_)
  · refine g_iload_n dX12_placed_14 3 rfl ?_
    refine g_if_lt (tgt := 28) dX12_placed_15 (by decide) (fun _ => ?_) (fun _ => ?_)
    · refine g_iconst dX12_placed_28 (v := 4) (by decide) ?_
      refine g_goto (tgt := 33) dX12_placed_29 (by decide) ?_
      exact g_ret dX12_placed_33 rfl rfl
    · refine g_iload_n dX12_placed_18 3 rfl ?_
      refine g_aload_n dX12_placed_19 1 rfl ?_
      refine g_getR (b := 143) fl_X12_17 sh_141 (by decide) rfl rfl dX12_placed_20 ?_
      refine g_iload_n dX12_placed_23 2 rfl ?_
      refine g_iaload sh_143 dX12_placed_24 (fun x5 => ?_)
      have hJ8 : ∀ (w7 : Int32), w7 = (if v2 < x5 then (0 : Int32) else 4) → Go g RX12 cX12_placed 4 .ireturn 2 (cvIp μ) 33 [] [.int w7] μ (some (if v2 < x5 then (0 : Int32) else 4)) := by
        intro w7 ew7
        subst ew7
        exact g_ret dX12_placed_33 rfl rfl
      refine g_same (g_icmp_lt (tgt := 32) dX12_placed_25 (by decide) (fun c6 => ?_) (fun c6 => ?_))
      · refine g_iconst dX12_placed_32 (v := 0) (by decide) ?_
        refine g_lv [] rfl ?_
        exact hJ8 _ (by rw [if_pos c6])
      · refine g_iconst dX12_placed_28 (v := 4) (by decide) ?_
        refine g_goto (tgt := 33) dX12_placed_29 (by decide) ?_
        refine g_lv [] rfl ?_
        exact hJ8 _ (by rw [if_neg c6])
  · refine g_iload_n dX12_placed_10 0 rfl ?_
    refine g_goto (tgt := 33) dX12_placed_11 (by decide) ?_
    exact g_ret dX12_placed_33 rfl rfl
set_option maxHeartbeats 4000000 in
set_option maxRecDepth 100000 in
theorem ok_X12_write (g : GG) (v1 : Int32) (v2 : Int32) (v3 : Int64)  (μ : Mm) : Ct g yX12_write cX12_write 5 (some (.boolean)) 3 cvZ [.ref (gb g + 141), .int v1, .int v2, .long v3] μ (f_X12_write v1 v2 v3 μ) := by
  refine ct_Z (by decide +kernel) (Nat.le_of_ble_eq_true rfl) (show Go g RX12 cX12_write 5 .ireturn 3 cvZ 0 [(0, .ref (gb g + 141)), (1, .int v1), (2, .int v2), (3, .long v3)] [] μ (f_X12_write v1 v2 v3 μ) from ?_)
  unfold f_X12_write
  refine g_aload_n dX12_write_0 0 rfl ?_
  refine g_iconst dX12_write_1 (v := 0) (by decide) ?_
  refine g_putI fl_X12_72 sh_141 (by decide) rfl dX12_write_2 ?_
  refine g_aload_n dX12_write_5 0 rfl ?_
  refine g_aload_n dX12_write_6 0 rfl ?_
  refine g_iload_n dX12_write_7 1 rfl ?_
  refine g_iload_n dX12_write_8 2 rfl ?_
  refine g_vIp [.int v1, .int v2] [.ref (gb g + 141)] mw_X12_95 (ok_X12_placed g v1 v2 (sI μ 141 1 0)) (by omega) sh_141 (by decide) rfl rfl (Nat.le_of_ble_eq_true rfl) dX12_write_9 (fun x1 _ => ?_)
  refine g_putI fl_X12_75 sh_141 (by decide) rfl dX12_write_12 ?_
  refine g_aload_n dX12_write_15 0 rfl ?_
  refine g_getI fl_X12_75 sh_141 (by decide) rfl dX12_write_16 ?_
  refine g_if_le (tgt := 24) dX12_write_19 (by decide) (fun _ => ?_) (fun _ => ?_)
  · refine g_aload_n dX12_write_24 0 rfl ?_
    refine g_getR (b := 144) fl_X12_20 sh_141 (by decide) rfl rfl dX12_write_25 ?_
    refine g_bipush dX12_write_28 (v := 60) (by decide) ?_
    refine g_iload_n dX12_write_30 1 rfl ?_
    refine g_imul dX12_write_31 ?_
    refine g_iload_n dX12_write_32 2 rfl ?_
    refine g_iadd dX12_write_33 ?_
    refine g_aload_n dX12_write_34 0 rfl ?_
    refine g_getR (b := 142) fl_X12_13 sh_141 (by decide) rfl rfl dX12_write_35 ?_
    refine g_iload_n dX12_write_38 1 rfl ?_
    refine g_iaload sh_142 dX12_write_39 (fun x2 => ?_)
    refine g_lload_n dX12_write_40 3 rfl ?_
    refine g_sJp [.int x2, .long v3] [.int (((60 : Int32) * v1) + v2), .ref (gb g + 144)] mw_X12_99 (ok_X12_cut g x2 v3 (sI (sI μ 141 1 0) 141 0 x1)) (by omega) rfl rfl (Nat.le_of_ble_eq_true rfl) dX12_write_41 (fun x3 _ => ?_)
    refine g_lastore sh_144 dX12_write_44 (fun μ4 => ?_)
    refine g_iconst dX12_write_45 (v := 1) (by decide) ?_
    exact g_ret dX12_write_46 rfl rfl
  · refine g_iconst dX12_write_22 (v := 0) (by decide) ?_
    exact g_ret dX12_write_23 rfl rfl
