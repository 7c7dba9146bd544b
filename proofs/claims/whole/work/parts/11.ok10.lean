set_option maxHeartbeats 4000000 in
set_option maxRecDepth 100000 in
theorem okL_X12_mayOf_15 (g : GG) (F : Nat) (v3 : Int32) (k : Int32 → Option (Int32)) (μ : Mm)  (hk : ∀ (v2 : Int32), Go g RX12 cX12_mayOf 5 .ireturn 2 (cvIp μ) 64 [(0, .ref (gb g + 141)), (2, .int v2), (3, .int v3)] [] μ (k v2)) : ∀ (n : Nat) (v2 : Int32) (v4 : Int32), Go g RX12 cX12_mayOf 5 .ireturn 2 (cvIp μ) 15 [(0, .ref (gb g + 141)), (2, .int v2), (3, .int v3), (4, .int v4)] [] μ (L_X12_mayOf_15 F v3 k μ n v2 v4) := by
  intro n
  induction n with
  | zero =>
    intro v2 v4
    exact g_none
  | succ n ih =>
    intro v2 v4
    rw [L_X12_mayOf_15_s]
    refine g_iload dX12_mayOf_15 3 rfl ?_
    refine g_aload_n dX12_mayOf_17 0 rfl ?_
    refine g_getR (b := 146) fl_X12_35 sh_141 (by decide) rfl rfl dX12_mayOf_18 ?_
    refine g_iconst dX12_mayOf_21 (v := 1) (by decide) ?_
    refine g_iaload sh_146 dX12_mayOf_22 (fun x1 => ?_)
    refine g_icmp_ge (tgt := 64) dX12_mayOf_23 (by decide) (fun _ => ?_) (fun _ => ?_)
    · refine g_lv [0, 1, 2] rfl ?_
      exact hk v2
    · refine g_iload_n dX12_mayOf_26 1 rfl ?_
      refine g_aload_n dX12_mayOf_27 0 rfl ?_
      refine g_getR (b := 146) fl_X12_35 sh_141 (by decide) rfl rfl dX12_mayOf_28 ?_
      refine g_bipush dX12_mayOf_31 (v := 88) (by decide) ?_
      refine g_iload dX12_mayOf_33 3 rfl ?_
      refine g_iadd dX12_mayOf_35 ?_
      refine g_iaload sh_146 dX12_mayOf_36 (fun x2 => ?_)
      refine g_sZp [.int v2, .int x2] [] mw_X12_242 (ok_X12_has g v2 x2 μ) (by omega) rfl rfl (Nat.le_of_ble_eq_true rfl) dX12_mayOf_37 (fun x3 _ => ?_)
      refine g_ifeqB (tgt := 58) dX12_mayOf_40 (by decide) (fun _ => ?_) (fun _ => ?_)
      · refine g_iinc dX12_mayOf_58 3 rfl (v := (v4 + 1)) rfl (by decide) (lv' := [(4, .int (v4 + 1)), (0, .ref (gb g + 141)), (2, .int v2), (3, .int v3)]) rfl ?_
        refine g_goto (tgt := 15) dX12_mayOf_61 (by decide) ?_
        refine g_lv [1, 2, 3, 0] rfl ?_
        exact ih v2 (v4 + 1)
      · refine g_iload_n dX12_mayOf_43 1 rfl ?_
        refine g_iconst dX12_mayOf_44 (v := 1) (by decide) ?_
        refine g_aload_n dX12_mayOf_45 0 rfl ?_
        refine g_getR (b := 146) fl_X12_35 sh_141 (by decide) rfl rfl dX12_mayOf_46 ?_
        refine g_bipush dX12_mayOf_49 (v := 98) (by decide) ?_
        refine g_iload dX12_mayOf_51 3 rfl ?_
        refine g_iadd dX12_mayOf_53 ?_
        refine g_iaload sh_146 dX12_mayOf_54 (fun x5 => ?_)
        refine g_ishl dX12_mayOf_55 ?_
        refine g_ior dX12_mayOf_56 ?_
        refine g_istore_n dX12_mayOf_57 rfl (by decide) (lv' := [(2, .int (v2 ||| ((1 : Int32) <<< (x5 &&& 31)))), (0, .ref (gb g + 141)), (3, .int v3), (4, .int v4)]) rfl ?_
        refine g_iinc dX12_mayOf_58 3 rfl (v := (v4 + 1)) rfl (by decide) (lv' := [(4, .int (v4 + 1)), (2, .int (v2 ||| ((1 : Int32) <<< (x5 &&& 31)))), (0, .ref (gb g + 141)), (3, .int v3)]) rfl ?_
        refine g_goto (tgt := 15) dX12_mayOf_61 (by decide) ?_
        refine g_lv [2, 1, 3, 0] rfl ?_
        exact ih (v2 ||| ((1 : Int32) <<< (x5 &&& 31))) (v4 + 1)
set_option maxHeartbeats 4000000 in
set_option maxRecDepth 100000 in
theorem okL_X12_mayOf_6 (g : GG) (F : Nat)  (k : Int32 → Option (Int32)) (μ : Mm)  (hk : ∀ (v2 : Int32), Go g RX12 cX12_mayOf 5 .ireturn 2 (cvIp μ) 70 [(2, .int v2)] [] μ (k v2)) : ∀ (n : Nat) (v2 : Int32) (v3 : Int32), Go g RX12 cX12_mayOf 5 .ireturn 2 (cvIp μ) 6 [(0, .ref (gb g + 141)), (2, .int v2), (3, .int v3)] [] μ (L_X12_mayOf_6 F k μ n v2 v3) := by
  intro n
  induction n with
  | zero =>
    intro v2 v3
    exact g_none
  | succ n ih =>
    intro v2 v3
    rw [L_X12_mayOf_6_s]
    refine g_iload_n dX12_mayOf_6 2 rfl ?_
    refine g_bipush dX12_mayOf_7 (v := 9) (by decide) ?_
    refine g_icmp_gt (tgt := 70) dX12_mayOf_9 (by decide) (fun _ => ?_) (fun _ => ?_)
    · refine g_lv [1] rfl ?_
      exact hk v2
    · refine g_iconst dX12_mayOf_12 (v := 0) (by decide) ?_
      refine g_istore dX12_mayOf_13 (by decide) (lv' := [(4, .int 0), (0, .ref (gb g + 141)), (2, .int v2), (3, .int v3)]) rfl ?_
      refine g_lv [1, 2, 3, 0] rfl ?_
      refine okL_X12_mayOf_15 g F v3 _ μ (fun u6 => ?_) F v2 0
      refine g_iinc dX12_mayOf_64 2 rfl (v := (v3 + 1)) rfl (by decide) (lv' := [(3, .int (v3 + 1)), (0, .ref (gb g + 141)), (2, .int u6)]) rfl ?_
      refine g_goto (tgt := 6) dX12_mayOf_67 (by decide) ?_
      refine g_lv [1, 2, 0] rfl ?_
      exact ih u6 (v3 + 1)
set_option maxHeartbeats 4000000 in
set_option maxRecDepth 100000 in
theorem ok_X12_mayOf (g : GG) (F : Nat) (v1 : Int32)  (μ : Mm) : Ct g yX12_mayOf cX12_mayOf 5 (some (.int)) 2 (cvIp μ) [.ref (gb g + 141), .int v1] μ (f_X12_mayOf F v1 μ) := by
  refine ct_Ip (by decide +kernel) (Nat.le_of_ble_eq_true rfl) (show Go g RX12 cX12_mayOf 5 .ireturn 2 (cvIp μ) 0 [(0, .ref (gb g + 141)), (1, .int v1)] [] μ (f_X12_mayOf F v1 μ) from ?_)
  unfold f_X12_mayOf
  refine g_iconst dX12_mayOf_0 (v := 1) (by decide) ?_
  refine g_iload_n dX12_mayOf_1 1 rfl ?_
  refine g_ishl dX12_mayOf_2 ?_
  refine g_istore_n dX12_mayOf_3 rfl (by decide) (lv' := [(2, .int ((1 : Int32) <<< (v1 &&& 31))), (0, .ref (gb g + 141)), (1, .int v1)]) rfl ?_
  refine g_iconst dX12_mayOf_4 (v := 0) (by decide) ?_
  refine g_istore_n dX12_mayOf_5 rfl (by decide) (lv' := [(3, .int 0), (2, .int ((1 : Int32) <<< (v1 &&& 31))), (0, .ref (gb g + 141)), (1, .int v1)]) rfl ?_
  refine g_lv [2, 1, 0] rfl ?_
  refine okL_X12_mayOf_6 g F _ μ (fun u7 => ?_) F ((1 : Int32) <<< (v1 &&& 31)) 0
  refine g_iload_n dX12_mayOf_70 0 rfl ?_
  exact g_ret dX12_mayOf_71 rfl rfl
set_option maxHeartbeats 4000000 in
set_option maxRecDepth 100000 in
theorem ok_X12_may (g : GG) (F : Nat) (v1 : Int32)  (μ : Mm) : Ct g yX12_may cX12_may 2 (some (.int)) 3 cvI [.ref (gb g + 141), .int v1] μ (f_X12_may F v1 μ) := by
  refine ct_I (by decide +kernel) (Nat.le_of_ble_eq_true rfl) (show Go g RX12 cX12_may 2 .ireturn 3 cvI 0 [(0, .ref (gb g + 141)), (1, .int v1)] [] μ (f_X12_may F v1 μ) from ?_)
  unfold f_X12_may
  refine g_aload_n dX12_may_0 0 rfl ?_
  refine g_iconst dX12_may_1 (v := 0) (by decide) ?_
  refine g_putI fl_X12_72 sh_141 (by decide) rfl dX12_may_2 ?_
  refine g_aload_n dX12_may_5 0 rfl ?_
  refine g_iconst dX12_may_6 (v := 0) (by decide) ?_
  refine g_putI fl_X12_75 sh_141 (by decide) rfl dX12_may_7 ?_
  refine g_iload_n dX12_may_10 1 rfl ?_
  refine g_i2l dX12_may_11 ?_
  refine g_lconst dX12_may_12 (v := 0) (by decide) ?_
  refine g_ldc2 kl_X12_249 dX12_may_13 ?_
  refine g_sZp [.long (v1.toInt64), .long 0, .long 9] [] mw_X12_107 (ok_X12_isIn g (v1.toInt64) 0 9 (sI (sI μ 141 1 0) 141 0 0)) (by omega) rfl rfl (Nat.le_of_ble_eq_true rfl) dX12_may_16 (fun x1 _ => ?_)
  refine g_ifeqB (tgt := 30) dX12_may_19 (by decide) (fun _ => ?_) (fun _ => ?_)
  · refine g_aload_n dX12_may_30 0 rfl ?_
    refine g_iconst dX12_may_31 (v := 5) (by decide) ?_
    refine g_vI [.int 5] [] mw_X12_318 (ok_X12_refuse g 5 (sI (sI μ 141 1 0) 141 0 0)) (by omega) sh_141 (by decide) rfl rfl (Nat.le_of_ble_eq_true rfl) dX12_may_32 (fun x3 μ4 _ => ?_)
    exact g_ret dX12_may_35 rfl rfl
  · refine g_aload_n dX12_may_22 0 rfl ?_
    refine g_iload_n dX12_may_23 1 rfl ?_
    refine g_vIp [.int v1] [] mw_X12_438 (ok_X12_mayOf g F v1 (sI (sI μ 141 1 0) 141 0 0)) (by omega) sh_141 (by decide) rfl rfl (Nat.le_of_ble_eq_true rfl) dX12_may_24 (fun x5 _ => ?_)
    refine g_goto (tgt := 35) dX12_may_27 (by decide) ?_
    exact g_ret dX12_may_35 rfl rfl
set_option maxHeartbeats 4000000 in
set_option maxRecDepth 100000 in
theorem okL_X12_theft_14 (g : GG) (F : Nat)  (k : Int32 → Option (Int32 × Mm)) (μ : Mm)  (hk : ∀ (v1 : Int32), Go g RX12 cX12_theft 3 .ireturn 3 cvI 66 [(1, .int v1)] [] μ (k v1)) : ∀ (n : Nat) (v1 : Int32) (v2 : Int32), Go g RX12 cX12_theft 3 .ireturn 3 cvI 14 [(0, .ref (gb g + 141)), (1, .int v1), (2, .int v2)] [] μ (L_X12_theft_14 F k μ n v1 v2) := by
  intro n
  induction n with
  | zero =>
    intro v1 v2
    exact g_none
  | succ n ih =>
    intro v1 v2
    rw [L_X12_theft_14_s]
    refine g_iload_n dX12_theft_14 2 rfl ?_
    refine g_aload_n dX12_theft_15 0 rfl ?_
    refine g_vIp [] [.int v2] mw_X12_301 (ok_X12_cells g μ) (by omega) sh_141 (by decide) rfl rfl (Nat.le_of_ble_eq_true rfl) dX12_theft_16 (fun x1 _ => ?_)
    refine g_icmp_ge (tgt := 66) dX12_theft_19 (by decide) (fun _ => ?_) (fun _ => ?_)
    · refine g_lv [1] rfl ?_
      exact hk v1
    · refine g_iload_n dX12_theft_22 1 rfl ?_
      refine g_aload_n dX12_theft_23 0 rfl ?_
      refine g_aload_n dX12_theft_24 0 rfl ?_
      refine g_getR (b := 146) fl_X12_35 sh_141 (by decide) rfl rfl dX12_theft_25 ?_
      refine g_bipush dX12_theft_28 (v := 38) (by decide) ?_
      refine g_iload_n dX12_theft_30 2 rfl ?_
      refine g_iadd dX12_theft_31 ?_
      refine g_iaload sh_146 dX12_theft_32 (fun x2 => ?_)
      refine g_vIp [.int x2] [.int v1] mw_X12_438 (ok_X12_mayOf g F x2 μ) (by omega) sh_141 (by decide) rfl rfl (Nat.le_of_ble_eq_true rfl) dX12_theft_33 (fun x3 _ => ?_)
      refine g_aload_n dX12_theft_36 0 rfl ?_
      refine g_getR (b := 146) fl_X12_35 sh_141 (by decide) rfl rfl dX12_theft_37 ?_
      refine g_bipush dX12_theft_40 (v := 13) (by decide) ?_
      refine g_iload_n dX12_theft_42 2 rfl ?_
      refine g_iadd dX12_theft_43 ?_
      refine g_iaload sh_146 dX12_theft_44 (fun x4 => ?_)
      refine g_sZp [.int x3, .int x4] [.int v1] mw_X12_242 (ok_X12_has g x3 x4 μ) (by omega) rfl rfl (Nat.le_of_ble_eq_true rfl) dX12_theft_45 (fun x5 _ => ?_)
      have hJ8 : ∀ (w7 : Int32), w7 = (if x5 = true then (0 : Int32) else ((1 : Int32) <<< (v2 &&& 31))) → Go g RX12 cX12_theft 3 .ireturn 3 cvI 58 [(0, .ref (gb g + 141)), (2, .int v2)] [.int w7, .int v1] μ (L_X12_theft_14 F k μ n (v1 ||| (if x5 = true then (0 : Int32) else ((1 : Int32) <<< (v2 &&& 31)))) (v2 + 1)) := by
        intro w7 ew7
        subst ew7
        refine g_ior dX12_theft_58 ?_
        refine g_istore_n dX12_theft_59 rfl (by decide) (lv' := [(1, .int (v1 ||| (if x5 = true then (0 : Int32) else ((1 : Int32) <<< (v2 &&& 31))))), (0, .ref (gb g + 141)), (2, .int v2)]) rfl ?_
        refine g_iinc dX12_theft_60 2 rfl (v := (v2 + 1)) rfl (by decide) (lv' := [(2, .int (v2 + 1)), (1, .int (v1 ||| (if x5 = true then (0 : Int32) else ((1 : Int32) <<< (v2 &&& 31))))), (0, .ref (gb g + 141))]) rfl ?_
        refine g_goto (tgt := 14) dX12_theft_63 (by decide) ?_
        refine g_lv [2, 1, 0] rfl ?_
        exact ih (v1 ||| (if x5 = true then (0 : Int32) else ((1 : Int32) <<< (v2 &&& 31)))) (v2 + 1)
      refine g_same (g_ifeqB (tgt := 55) dX12_theft_48 (by decide) (fun c6 => ?_) (fun c6 => ?_))
      · refine g_iconst dX12_theft_55 (v := 1) (by decide) ?_
        refine g_iload_n dX12_theft_56 2 rfl ?_
        refine g_ishl dX12_theft_57 ?_
        refine g_lv [0, 2] rfl ?_
        exact hJ8 _ (by rw [if_neg c6])
      · refine g_iconst dX12_theft_51 (v := 0) (by decide) ?_
        refine g_goto (tgt := 58) dX12_theft_52 (by decide) ?_
        refine g_lv [0, 2] rfl ?_
        exact hJ8 _ (by rw [if_pos c6])
set_option maxHeartbeats 4000000 in
set_option maxRecDepth 100000 in
theorem ok_X12_theft (g : GG) (F : Nat)   (μ : Mm) : Ct g yX12_theft cX12_theft 3 (some (.int)) 3 cvI [.ref (gb g + 141)] μ (f_X12_theft F μ) := by
  refine ct_I (by decide +kernel) (Nat.le_of_ble_eq_true rfl) (show Go g RX12 cX12_theft 3 .ireturn 3 cvI 0 [(0, .ref (gb g + 141))] [] μ (f_X12_theft F μ) from ?_)
  unfold f_X12_theft
  refine g_aload_n dX12_theft_0 0 rfl ?_
  refine g_iconst dX12_theft_1 (v := 0) (by decide) ?_
  refine g_putI fl_X12_72 sh_141 (by decide) rfl dX12_theft_2 ?_
  refine g_aload_n dX12_theft_5 0 rfl ?_
  refine g_iconst dX12_theft_6 (v := 0) (by decide) ?_
  refine g_putI fl_X12_75 sh_141 (by decide) rfl dX12_theft_7 ?_
  refine g_iconst dX12_theft_10 (v := 0) (by decide) ?_
  refine g_istore_n dX12_theft_11 rfl (by decide) (lv' := [(1, .int 0), (0, .ref (gb g + 141))]) rfl ?_
  refine g_iconst dX12_theft_12 (v := 0) (by decide) ?_
  refine g_istore_n dX12_theft_13 rfl (by decide) (lv' := [(2, .int 0), (1, .int 0), (0, .ref (gb g + 141))]) rfl ?_
  refine g_lv [2, 1, 0] rfl ?_
  refine okL_X12_theft_14 g F _ (sI (sI μ 141 1 0) 141 0 0) (fun u9 => ?_) F 0 0
  refine g_iload_n dX12_theft_66 0 rfl ?_
  exact g_ret dX12_theft_67 rfl rfl
set_option maxHeartbeats 4000000 in
set_option maxRecDepth 100000 in
theorem ok_X12_over (g : GG) (F : Nat) (v1 : Int32) (v2 : Int32) (v3 : Int32)  (μ : Mm) : Ct g yX12_over cX12_over 4 (some (.int)) 2 (cvIp μ) [.ref (gb g + 141), .int v1, .int v2, .int v3] μ (f_X12_over F v1 v2 v3 μ) := by
  refine ct_Ip (by decide +kernel) (Nat.le_of_ble_eq_true rfl) (show Go g RX12 cX12_over 4 .ireturn 2 (cvIp μ) 0 [(0, .ref (gb g + 141)), (1, .int v1), (2, .int v2), (3, .int v3)] [] μ (f_X12_over F v1 v2 v3 μ) from ?_)
  unfold f_X12_over
  refine g_aload_n dX12_over_0 0 rfl ?_
  refine g_bipush dX12_over_1 (v := 13) (by decide) ?_
  refine g_iload_n dX12_over_3 1 rfl ?_
  refine g_iload_n dX12_over_4 2 rfl ?_
  refine g_iload_n dX12_over_5 3 rfl ?_
  refine g_vIp [.int 13, .int v1, .int v2, .int v3] [] mw_X12_336 (ok_X12_together g F 13 v1 v2 v3 μ) (by omega) sh_141 (by decide) rfl rfl (Nat.le_of_ble_eq_true rfl) dX12_over_6 (fun x1 _ => ?_)
  refine g_aload_n dX12_over_9 0 rfl ?_
  refine g_bipush dX12_over_10 (v := 38) (by decide) ?_
  refine g_iload_n dX12_over_12 1 rfl ?_
  refine g_iload_n dX12_over_13 2 rfl ?_
  refine g_iload_n dX12_over_14 3 rfl ?_
  refine g_vIp [.int 38, .int v1, .int v2, .int v3] [.int x1] mw_X12_336 (ok_X12_together g F 38 v1 v2 v3 μ) (by omega) sh_141 (by decide) rfl rfl (Nat.le_of_ble_eq_true rfl) dX12_over_15 (fun x2 _ => ?_)
  refine g_isub dX12_over_18 ?_
  exact g_ret dX12_over_19 rfl rfl
set_option maxHeartbeats 4000000 in
set_option maxRecDepth 100000 in
theorem okL_X12_told_22 (g : GG) (F : Nat) (v2 : Int32) (v4 : Int32) (k : Int32 → Int32 → Option (Int32 × Mm)) (μ : Mm)  (hk : ∀ (v1 : Int32) (v3 : Int32), Go g RX12 cX12_told 6 .ireturn 3 cvI 71 [(0, .ref (gb g + 141)), (1, .int v1), (2, .int v2), (3, .int v3), (4, .int v4)] [] μ (k v1 v3)) : ∀ (n : Nat) (v1 : Int32) (v3 : Int32) (v5 : Int32), Go g RX12 cX12_told 6 .ireturn 3 cvI 22 [(0, .ref (gb g + 141)), (1, .int v1), (2, .int v2), (3, .int v3), (4, .int v4), (5, .int v5)] [] μ (L_X12_told_22 F v2 v4 k μ n v1 v3 v5) := by
  intro n
  induction n with
  | zero =>
    intro v1 v3 v5
    exact g_none
  | succ n ih =>
    intro v1 v3 v5
    rw [L_X12_told_22_s]
    refine g_iload dX12_told_22 5 rfl ?_
    refine g_aload_n dX12_told_24 0 rfl ?_
    refine g_getR (b := 146) fl_X12_35 sh_141 (by decide) rfl rfl dX12_told_25 ?_
    refine g_iconst dX12_told_28 (v := 0) (by decide) ?_
    refine g_iaload sh_146 dX12_told_29 (fun x1 => ?_)
    refine g_icmp_ge (tgt := 71) dX12_told_30 (by decide) (fun _ => ?_) (fun _ => ?_)
    · refine g_lv [0, 1, 2, 3, 4] rfl ?_
      exact hk v1 v3
    · refine g_aload_n dX12_told_33 0 rfl ?_
      refine g_aload_n dX12_told_34 0 rfl ?_
      refine g_getR (b := 146) fl_X12_35 sh_141 (by decide) rfl rfl dX12_told_35 ?_
      refine g_iconst dX12_told_38 (v := 2) (by decide) ?_
      refine g_iaload sh_146 dX12_told_39 (fun x2 => ?_)
      refine g_iload dX12_told_40 5 rfl ?_
      refine g_imul dX12_told_42 ?_
      refine g_aload_n dX12_told_43 0 rfl ?_
      refine g_getR (b := 146) fl_X12_35 sh_141 (by decide) rfl rfl dX12_told_44 ?_
      refine g_iconst dX12_told_47 (v := 2) (by decide) ?_
      refine g_iaload sh_146 dX12_told_48 (fun x3 => ?_)
      refine g_iconst dX12_told_49 (v := 1) (by decide) ?_
      refine g_vIp [.int (x2 * v5), .int x3, .int 1] [] mw_X12_441 (ok_X12_over g F (x2 * v5) x3 1 μ) (by omega) sh_141 (by decide) rfl rfl (Nat.le_of_ble_eq_true rfl) dX12_told_50 (fun x4 _ => ?_)
      have hJ8 : ∀ (w6 : Int32) (w7 : Int32), w6 = (if x4 = 0 then v1 else v5) → w7 = (if x4 = 0 then v3 else (v3 + 1)) → Go g RX12 cX12_told 6 .ireturn 3 cvI 65 [(0, .ref (gb g + 141)), (1, .int w6), (2, .int v2), (3, .int w7), (4, .int v4), (5, .int v5)] [] μ (L_X12_told_22 F v2 v4 k μ n (if x4 = 0 then v1 else v5) (if x4 = 0 then v3 else (v3 + 1)) (v5 + 1)) := by
        intro w6 w7 ew6 ew7
        subst ew6
        subst ew7
        refine g_iinc dX12_told_65 5 rfl (v := (v5 + 1)) rfl (by decide) (lv' := [(5, .int (v5 + 1)), (0, .ref (gb g + 141)), (1, .int (if x4 = 0 then v1 else v5)), (2, .int v2), (3, .int (if x4 = 0 then v3 else (v3 + 1))), (4, .int v4)]) rfl ?_
        refine g_goto (tgt := 22) dX12_told_68 (by decide) ?_
        refine g_lv [1, 2, 3, 4, 5, 0] rfl ?_
        exact ih (if x4 = 0 then v1 else v5) (if x4 = 0 then v3 else (v3 + 1)) (v5 + 1)
      refine g_same (g_if_ne (tgt := 59) dX12_told_53 (by decide) (fun c5 => ?_) (fun c5 => ?_))
      · refine g_iload dX12_told_59 5 rfl ?_
        refine g_istore_n dX12_told_61 rfl (by decide) (lv' := [(1, .int v5), (0, .ref (gb g + 141)), (2, .int v2), (3, .int v3), (4, .int v4), (5, .int v5)]) rfl ?_
        refine g_iinc dX12_told_62 3 rfl (v := (v3 + 1)) rfl (by decide) (lv' := [(3, .int (v3 + 1)), (1, .int v5), (0, .ref (gb g + 141)), (2, .int v2), (4, .int v4), (5, .int v5)]) rfl ?_
        refine g_lv [2, 1, 3, 0, 4, 5] rfl ?_
        exact hJ8 _ _ (by rw [if_neg c5]) (by rw [if_neg c5])
      · refine g_goto (tgt := 65) dX12_told_56 (by decide) ?_
        refine g_lv [0, 1, 2, 3, 4, 5] rfl ?_
        exact hJ8 _ _ (by rw [if_pos c5]) (by rw [if_pos c5])
set_option maxHeartbeats 4000000 in
set_option maxRecDepth 100000 in
theorem okL_X12_told_74 (g : GG) (F : Nat) (v1 : Int32) (v3 : Int32) (k : Int32 → Int32 → Option (Int32 × Mm)) (μ : Mm)  (hk : ∀ (v2 : Int32) (v4 : Int32), Go g RX12 cX12_told 6 .ireturn 3 cvI 121 [(0, .ref (gb g + 141)), (1, .int v1), (2, .int v2), (3, .int v3), (4, .int v4)] [] μ (k v2 v4)) : ∀ (n : Nat) (v2 : Int32) (v4 : Int32) (v5 : Int32), Go g RX12 cX12_told 6 .ireturn 3 cvI 74 [(0, .ref (gb g + 141)), (1, .int v1), (2, .int v2), (3, .int v3), (4, .int v4), (5, .int v5)] [] μ (L_X12_told_74 F v1 v3 k μ n v2 v4 v5) := by
  intro n
  induction n with
  | zero =>
    intro v2 v4 v5
    exact g_none
  | succ n ih =>
    intro v2 v4 v5
    rw [L_X12_told_74_s]
    refine g_iload dX12_told_74 5 rfl ?_
    refine g_aload_n dX12_told_76 0 rfl ?_
    refine g_getR (b := 146) fl_X12_35 sh_141 (by decide) rfl rfl dX12_told_77 ?_
    refine g_iconst dX12_told_80 (v := 2) (by decide) ?_
    refine g_iaload sh_146 dX12_told_81 (fun x11 => ?_)
    refine g_icmp_ge (tgt := 121) dX12_told_82 (by decide) (fun _ => ?_) (fun _ => ?_)
    · refine g_lv [0, 1, 2, 3, 4] rfl ?_
      exact hk v2 v4
    · refine g_aload_n dX12_told_85 0 rfl ?_
      refine g_iload dX12_told_86 5 rfl ?_
      refine g_aload_n dX12_told_88 0 rfl ?_
      refine g_getR (b := 146) fl_X12_35 sh_141 (by decide) rfl rfl dX12_told_89 ?_
      refine g_iconst dX12_told_92 (v := 0) (by decide) ?_
      refine g_iaload sh_146 dX12_told_93 (fun x12 => ?_)
      refine g_aload_n dX12_told_94 0 rfl ?_
      refine g_getR (b := 146) fl_X12_35 sh_141 (by decide) rfl rfl dX12_told_95 ?_
      refine g_iconst dX12_told_98 (v := 2) (by decide) ?_
      refine g_iaload sh_146 dX12_told_99 (fun x13 => ?_)
      refine g_vIp [.int v5, .int x12, .int x13] [] mw_X12_441 (ok_X12_over g F v5 x12 x13 μ) (by omega) sh_141 (by decide) rfl rfl (Nat.le_of_ble_eq_true rfl) dX12_told_100 (fun x14 _ => ?_)
      have hJ18 : ∀ (w16 : Int32) (w17 : Int32), w16 = (if x14 = 0 then v2 else v5) → w17 = (if x14 = 0 then v4 else (v4 + 1)) → Go g RX12 cX12_told 6 .ireturn 3 cvI 115 [(0, .ref (gb g + 141)), (1, .int v1), (2, .int w16), (3, .int v3), (4, .int w17), (5, .int v5)] [] μ (L_X12_told_74 F v1 v3 k μ n (if x14 = 0 then v2 else v5) (if x14 = 0 then v4 else (v4 + 1)) (v5 + 1)) := by
        intro w16 w17 ew16 ew17
        subst ew16
        subst ew17
        refine g_iinc dX12_told_115 5 rfl (v := (v5 + 1)) rfl (by decide) (lv' := [(5, .int (v5 + 1)), (0, .ref (gb g + 141)), (1, .int v1), (2, .int (if x14 = 0 then v2 else v5)), (3, .int v3), (4, .int (if x14 = 0 then v4 else (v4 + 1)))]) rfl ?_
        refine g_goto (tgt := 74) dX12_told_118 (by decide) ?_
        refine g_lv [1, 2, 3, 4, 5, 0] rfl ?_
        exact ih (if x14 = 0 then v2 else v5) (if x14 = 0 then v4 else (v4 + 1)) (v5 + 1)
      refine g_same (g_if_ne (tgt := 109) dX12_told_103 (by decide) (fun c15 => ?_) (fun c15 => ?_))
      · refine g_iload dX12_told_109 5 rfl ?_
        refine g_istore_n dX12_told_111 rfl (by decide) (lv' := [(2, .int v5), (0, .ref (gb g + 141)), (1, .int v1), (3, .int v3), (4, .int v4), (5, .int v5)]) rfl ?_
        refine g_iinc dX12_told_112 4 rfl (v := (v4 + 1)) rfl (by decide) (lv' := [(4, .int (v4 + 1)), (2, .int v5), (0, .ref (gb g + 141)), (1, .int v1), (3, .int v3), (5, .int v5)]) rfl ?_
        refine g_lv [2, 3, 1, 4, 0, 5] rfl ?_
        exact hJ18 _ _ (by rw [if_neg c15]) (by rw [if_neg c15])
      · refine g_goto (tgt := 115) dX12_told_106 (by decide) ?_
        refine g_lv [0, 1, 2, 3, 4, 5] rfl ?_
        exact hJ18 _ _ (by rw [if_pos c15]) (by rw [if_pos c15])
set_option maxHeartbeats 4000000 in
set_option maxRecDepth 100000 in
theorem ok_X12_told (g : GG) (F : Nat)   (μ : Mm) : Ct g yX12_told cX12_told 6 (some (.int)) 3 cvI [.ref (gb g + 141)] μ (f_X12_told F μ) := by
  refine ct_I (by decide +kernel) (Nat.le_of_ble_eq_true rfl) (show Go g RX12 cX12_told 6 .ireturn 3 cvI 0 [(0, .ref (gb g + 141))] [] μ (f_X12_told F μ) from ?_)
  unfold f_X12_told
  refine g_aload_n dX12_told_0 0 rfl ?_
  refine g_iconst dX12_told_1 (v := 0) (by decide) ?_
  refine g_putI fl_X12_72 sh_141 (by decide) rfl dX12_told_2 ?_
  refine g_aload_n dX12_told_5 0 rfl ?_
  refine g_iconst dX12_told_6 (v := 0) (by decide) ?_
  refine g_putI fl_X12_75 sh_141 (by decide) rfl dX12_told_7 ?_
  refine g_iconst dX12_told_10 (v := (-1)) (by decide) ?_
  refine g_istore_n dX12_told_11 rfl (by decide) (lv' := [(1, .int (-1)), (0, .ref (gb g + 141))]) rfl ?_
  refine g_iconst dX12_told_12 (v := (-1)) (by decide) ?_
  refine g_istore_n dX12_told_13 rfl (by decide) (lv' := [(2, .int (-1)), (1, .int (-1)), (0, .ref (gb g + 141))]) rfl ?_
  refine g_iconst dX12_told_14 (v := 0) (by decide) ?_
  refine g_istore_n dX12_told_15 rfl (by decide) (lv' := [(3, .int 0), (2, .int (-1)), (1, .int (-1)), (0, .ref (gb g + 141))]) rfl ?_
  refine g_iconst dX12_told_16 (v := 0) (by decide) ?_
  refine g_istore dX12_told_17 (by decide) (lv' := [(4, .int 0), (3, .int 0), (2, .int (-1)), (1, .int (-1)), (0, .ref (gb g + 141))]) rfl ?_
  refine g_iconst dX12_told_19 (v := 0) (by decide) ?_
  refine g_istore dX12_told_20 (by decide) (lv' := [(5, .int 0), (4, .int 0), (3, .int 0), (2, .int (-1)), (1, .int (-1)), (0, .ref (gb g + 141))]) rfl ?_
  refine g_lv [5, 4, 3, 2, 1, 0] rfl ?_
  refine okL_X12_told_22 g F (-1) 0 _ (sI (sI μ 141 1 0) 141 0 0) (fun u9 u10 => ?_) F (-1) 0 0
  refine g_iconst dX12_told_71 (v := 0) (by decide) ?_
  refine g_istore dX12_told_72 (by decide) (lv' := [(5, .int 0), (0, .ref (gb g + 141)), (1, .int u9), (2, .int (-1)), (3, .int u10), (4, .int 0)]) rfl ?_
  refine g_lv [1, 2, 3, 4, 5, 0] rfl ?_
  refine okL_X12_told_74 g F u9 u10 _ (sI (sI μ 141 1 0) 141 0 0) (fun u19 u20 => ?_) F (-1) 0 0
  refine g_iload_n dX12_told_121 3 rfl ?_
  refine g_iconst dX12_told_122 (v := 1) (by decide) ?_
  refine g_icmp_ne (tgt := 132) dX12_told_123 (by decide) (fun _ => ?_) (fun _ => ?_)
  · refine g_aload_n dX12_told_132 0 rfl ?_
    refine g_bipush dX12_told_133 (v := 8) (by decide) ?_
    refine g_vI [.int 8] [] mw_X12_318 (ok_X12_refuse g 8 (sI (sI μ 141 1 0) 141 0 0)) (by omega) sh_141 (by decide) rfl rfl (Nat.le_of_ble_eq_true rfl) dX12_told_135 (fun x21 μ22 _ => ?_)
    exact g_ret dX12_told_138 rfl rfl
  · refine g_iload dX12_told_126 4 rfl ?_
    refine g_iconst dX12_told_128 (v := 1) (by decide) ?_
    refine g_icmp_eq (tgt := 139) dX12_told_129 (by decide) (fun _ => ?_) (fun _ => ?_)
    · refine g_aload_n dX12_told_139 0 rfl ?_
      refine g_aload_n dX12_told_140 0 rfl ?_
      refine g_getR (b := 146) fl_X12_35 sh_141 (by decide) rfl rfl dX12_told_141 ?_
      refine g_iconst dX12_told_144 (v := 2) (by decide) ?_
      refine g_iaload sh_146 dX12_told_145 (fun x23 => ?_)
      refine g_iload_n dX12_told_146 1 rfl ?_
      refine g_imul dX12_told_147 ?_
      refine g_aload_n dX12_told_148 0 rfl ?_
      refine g_getR (b := 146) fl_X12_35 sh_141 (by decide) rfl rfl dX12_told_149 ?_
      refine g_iconst dX12_told_152 (v := 2) (by decide) ?_
      refine g_iaload sh_146 dX12_told_153 (fun x24 => ?_)
      refine g_iconst dX12_told_154 (v := 1) (by decide) ?_
      refine g_vIp [.int (x23 * u9), .int x24, .int 1] [] mw_X12_441 (ok_X12_over g F (x23 * u9) x24 1 (sI (sI μ 141 1 0) 141 0 0)) (by omega) sh_141 (by decide) rfl rfl (Nat.le_of_ble_eq_true rfl) dX12_told_155 (fun x25 _ => ?_)
      refine g_aload_n dX12_told_158 0 rfl ?_
      refine g_iload_n dX12_told_159 2 rfl ?_
      refine g_aload_n dX12_told_160 0 rfl ?_
      refine g_getR (b := 146) fl_X12_35 sh_141 (by decide) rfl rfl dX12_told_161 ?_
      refine g_iconst dX12_told_164 (v := 0) (by decide) ?_
      refine g_iaload sh_146 dX12_told_165 (fun x26 => ?_)
      refine g_aload_n dX12_told_166 0 rfl ?_
      refine g_getR (b := 146) fl_X12_35 sh_141 (by decide) rfl rfl dX12_told_167 ?_
      refine g_iconst dX12_told_170 (v := 2) (by decide) ?_
      refine g_iaload sh_146 dX12_told_171 (fun x27 => ?_)
      refine g_vIp [.int u19, .int x26, .int x27] [.int x25] mw_X12_441 (ok_X12_over g F u19 x26 x27 (sI (sI μ 141 1 0) 141 0 0)) (by omega) sh_141 (by decide) rfl rfl (Nat.le_of_ble_eq_true rfl) dX12_told_172 (fun x28 _ => ?_)
      refine g_icmp_ne (tgt := 191) dX12_told_175 (by decide) (fun _ => ?_) (fun _ => ?_)
      · refine g_aload_n dX12_told_191 0 rfl ?_
        refine g_bipush dX12_told_192 (v := 8) (by decide) ?_
        refine g_vI [.int 8] [] mw_X12_318 (ok_X12_refuse g 8 (sI (sI μ 141 1 0) 141 0 0)) (by omega) sh_141 (by decide) rfl rfl (Nat.le_of_ble_eq_true rfl) dX12_told_194 (fun x30 μ31 _ => ?_)
        exact g_ret dX12_told_197 rfl rfl
      · refine g_aload_n dX12_told_178 0 rfl ?_
        refine g_getR (b := 146) fl_X12_35 sh_141 (by decide) rfl rfl dX12_told_179 ?_
        refine g_iconst dX12_told_182 (v := 2) (by decide) ?_
        refine g_iaload sh_146 dX12_told_183 (fun x32 => ?_)
        refine g_iload_n dX12_told_184 1 rfl ?_
        refine g_imul dX12_told_185 ?_
        refine g_iload_n dX12_told_186 2 rfl ?_
        refine g_iadd dX12_told_187 ?_
        refine g_goto (tgt := 197) dX12_told_188 (by decide) ?_
        exact g_ret dX12_told_197 rfl rfl
    · refine g_aload_n dX12_told_132 0 rfl ?_
      refine g_bipush dX12_told_133 (v := 8) (by decide) ?_
      refine g_vI [.int 8] [] mw_X12_318 (ok_X12_refuse g 8 (sI (sI μ 141 1 0) 141 0 0)) (by omega) sh_141 (by decide) rfl rfl (Nat.le_of_ble_eq_true rfl) dX12_told_135 (fun x33 μ34 _ => ?_)
      exact g_ret dX12_told_138 rfl rfl
set_option maxHeartbeats 4000000 in
set_option maxRecDepth 100000 in
theorem okL_X12_worthOf_34 (g : GG) (F : Nat)  (k : Int32 → Option (Int32)) (μ : Mm)  (hk : ∀ (v2 : Int32), Go g RX12 cX12_worthOf 4 .ireturn 1 (cvIp μ) 57 [(2, .int v2)] [] μ (k v2)) : ∀ (n : Nat) (v2 : Int32) (v3 : Int32), Go g RX12 cX12_worthOf 4 .ireturn 1 (cvIp μ) 34 [(0, .ref (gb g + 141)), (2, .int v2), (3, .int v3)] [] μ (L_X12_worthOf_34 F k μ n v2 v3) := by
  intro n
  induction n with
  | zero =>
    intro v2 v3
    exact g_none
  | succ n ih =>
    intro v2 v3
    rw [L_X12_worthOf_34_s]
    refine g_iload_n dX12_worthOf_34 2 rfl ?_
    refine g_aload_n dX12_worthOf_35 0 rfl ?_
    refine g_getR (b := 146) fl_X12_35 sh_141 (by decide) rfl rfl dX12_worthOf_36 ?_
    refine g_iconst dX12_worthOf_39 (v := 2) (by decide) ?_
    refine g_iaload sh_146 dX12_worthOf_40 (fun x6 => ?_)
    refine g_iconst dX12_worthOf_41 (v := 1) (by decide) ?_
    refine g_isub dX12_worthOf_42 ?_
    refine g_icmp_ge (tgt := 57) dX12_worthOf_43 (by decide) (fun _ => ?_) (fun _ => ?_)
    · refine g_lv [1] rfl ?_
      exact hk v2
    · refine g_iload_n dX12_worthOf_46 1 rfl ?_
      refine g_bipush dX12_worthOf_47 (v := 10) (by decide) ?_
      refine g_imul dX12_worthOf_49 ?_
      refine g_istore_n dX12_worthOf_50 rfl (by decide) (lv' := [(2, .int (v2 * (10 : Int32))), (0, .ref (gb g + 141)), (3, .int v3)]) rfl ?_
      refine g_iinc dX12_worthOf_51 2 rfl (v := (v3 + 1)) rfl (by decide) (lv' := [(3, .int (v3 + 1)), (2, .int (v2 * (10 : Int32))), (0, .ref (gb g + 141))]) rfl ?_
      refine g_goto (tgt := 34) dX12_worthOf_54 (by decide) ?_
      refine g_lv [2, 1, 0] rfl ?_
      exact ih (v2 * (10 : Int32)) (v3 + 1)
set_option maxHeartbeats 4000000 in
set_option maxRecDepth 100000 in
theorem ok_X12_worthOf (g : GG) (F : Nat) (v1 : Int32)  (μ : Mm) : Ct g yX12_worthOf cX12_worthOf 4 (some (.int)) 1 (cvIp μ) [.ref (gb g + 141), .int v1] μ (f_X12_worthOf F v1 μ) := by
  refine ct_Ip (by decide +kernel) (Nat.le_of_ble_eq_true rfl) (show Go g RX12 cX12_worthOf 4 .ireturn 1 (cvIp μ) 0 [(0, .ref (gb g + 141)), (1, .int v1)] [] μ (f_X12_worthOf F v1 μ) from ?_)
  unfold f_X12_worthOf
  refine g_aload_n dX12_worthOf_0 0 rfl ?_
  refine g_getR (b := 146) fl_X12_35 sh_141 (by decide) rfl rfl dX12_worthOf_1 ?_
  refine g_bipush dX12_worthOf_4 (v := 8) (by decide) ?_
  refine g_iload_n dX12_worthOf_6 1 rfl ?_
  refine g_aload_n dX12_worthOf_7 0 rfl ?_
  refine g_getR (b := 146) fl_X12_35 sh_141 (by decide) rfl rfl dX12_worthOf_8 ?_
  refine g_iconst dX12_worthOf_11 (v := 2) (by decide) ?_
  refine g_iaload sh_146 dX12_worthOf_12 (fun x1 => ?_)
  refine g_idiv dX12_worthOf_13 ?_
  refine g_iadd dX12_worthOf_14 ?_
  refine g_iaload sh_146 dX12_worthOf_15 (fun x2 => ?_)
  have hJ8 : ∀ (w4 : Int32), w4 = (if x2 = 0 then (1 : Int32) else (-1)) → Go g RX12 cX12_worthOf 4 .ireturn 1 (cvIp μ) 24 [(0, .ref (gb g + 141)), (1, .int v1)] [.int w4] μ ((rdA μ 146 2000 2).bind fun x5 => (if x5 = 0 then none else L_X12_worthOf_34 F (fun u7 => some u7) μ F (if x2 = 0 then (1 : Int32) else (-1)) (v1 - v1 / x5 * x5))) := by
    intro w4 ew4
    subst ew4
    refine g_istore_n dX12_worthOf_24 rfl (by decide) (lv' := [(2, .int (if x2 = 0 then (1 : Int32) else (-1))), (0, .ref (gb g + 141)), (1, .int v1)]) rfl ?_
    refine g_iload_n dX12_worthOf_25 2 rfl ?_
    refine g_aload_n dX12_worthOf_26 1 rfl ?_
    refine g_getR (b := 146) fl_X12_35 sh_141 (by decide) rfl rfl dX12_worthOf_27 ?_
    refine g_iconst dX12_worthOf_30 (v := 2) (by decide) ?_
    refine g_iaload sh_146 dX12_worthOf_31 (fun x5 => ?_)
    refine g_irem dX12_worthOf_32 ?_
    refine g_istore_n dX12_worthOf_33 rfl (by decide) (lv' := [(3, .int (v1 - v1 / x5 * x5)), (2, .int (if x2 = 0 then (1 : Int32) else (-1))), (0, .ref (gb g + 141)), (1, .int v1)]) rfl ?_
    refine g_lv [2, 1, 0] rfl ?_
    refine okL_X12_worthOf_34 g F _ μ (fun u7 => ?_) F (if x2 = 0 then (1 : Int32) else (-1)) (v1 - v1 / x5 * x5)
    refine g_iload_n dX12_worthOf_57 0 rfl ?_
    exact g_ret dX12_worthOf_58 rfl rfl
  refine g_same (g_if_ne (tgt := 23) dX12_worthOf_16 (by decide) (fun c3 => ?_) (fun c3 => ?_))
  · refine g_iconst dX12_worthOf_23 (v := (-1)) (by decide) ?_
    refine g_lv [0, 1] rfl ?_
    exact hJ8 _ (by rw [if_neg c3])
  · refine g_iconst dX12_worthOf_19 (v := 1) (by decide) ?_
    refine g_goto (tgt := 24) dX12_worthOf_20 (by decide) ?_
    refine g_lv [0, 1] rfl ?_
    exact hJ8 _ (by rw [if_pos c3])
set_option maxHeartbeats 4000000 in
set_option maxRecDepth 100000 in
theorem okL_X12_isEvenBy_2 (g : GG) (F : Nat) (v1 : Int32) (v2 : Int32) (k : Option (Bool)) (μ : Mm)  (hk : Go g RX12 cX12_isEvenBy 4 .ireturn 2 (cvZp μ) 51 [] [] μ k) : ∀ (n : Nat) (v3 : Int32), Go g RX12 cX12_isEvenBy 4 .ireturn 2 (cvZp μ) 2 [(0, .ref (gb g + 141)), (1, .int v1), (2, .int v2), (3, .int v3)] [] μ (L_X12_isEvenBy_2 F v1 v2 k μ n v3) := by
  intro n
  induction n with
  | zero =>
    intro v3
    exact g_none
  | succ n ih =>
    intro v3
    rw [L_X12_isEvenBy_2_s]
    refine g_iload_n dX12_isEvenBy_2 3 rfl ?_
    refine g_bipush dX12_isEvenBy_3 (v := 9) (by decide) ?_
    refine g_icmp_gt (tgt := 51) dX12_isEvenBy_5 (by decide) (fun _ => ?_) (fun _ => ?_)
    · refine g_lv [] rfl ?_
      exact hk 
    · refine g_iload_n dX12_isEvenBy_8 3 rfl ?_
      refine g_aload_n dX12_isEvenBy_9 0 rfl ?_
      refine g_getR (b := 146) fl_X12_35 sh_141 (by decide) rfl rfl dX12_isEvenBy_10 ?_
      refine g_bipush dX12_isEvenBy_13 (v := 13) (by decide) ?_
      refine g_iload_n dX12_isEvenBy_15 1 rfl ?_
      refine g_iadd dX12_isEvenBy_16 ?_
      refine g_iaload sh_146 dX12_isEvenBy_17 (fun x1 => ?_)
      refine g_icmp_eq (tgt := 45) dX12_isEvenBy_18 (by decide) (fun _ => ?_) (fun _ => ?_)
      · refine g_iinc dX12_isEvenBy_45 3 rfl (v := (v3 + 1)) rfl (by decide) (lv' := [(3, .int (v3 + 1)), (0, .ref (gb g + 141)), (1, .int v1), (2, .int v2)]) rfl ?_
        refine g_goto (tgt := 2) dX12_isEvenBy_48 (by decide) ?_
        refine g_lv [1, 2, 3, 0] rfl ?_
        exact ih (v3 + 1)
      · refine g_iload_n dX12_isEvenBy_21 2 rfl ?_
        refine g_aload_n dX12_isEvenBy_22 0 rfl ?_
        refine g_iload_n dX12_isEvenBy_23 1 rfl ?_
        refine g_vIp [.int v1] [.int v2] mw_X12_445 (ok_X12_worthOf g F v1 μ) (by omega) sh_141 (by decide) rfl rfl (Nat.le_of_ble_eq_true rfl) dX12_isEvenBy_24 (fun x2 _ => ?_)
        refine g_iload_n dX12_isEvenBy_27 3 rfl ?_
        refine g_aload_n dX12_isEvenBy_28 0 rfl ?_
        refine g_getR (b := 146) fl_X12_35 sh_141 (by decide) rfl rfl dX12_isEvenBy_29 ?_
        refine g_bipush dX12_isEvenBy_32 (v := 13) (by decide) ?_
        refine g_iload_n dX12_isEvenBy_34 1 rfl ?_
        refine g_iadd dX12_isEvenBy_35 ?_
        refine g_iaload sh_146 dX12_isEvenBy_36 (fun x3 => ?_)
        refine g_isub dX12_isEvenBy_37 ?_
        refine g_imul dX12_isEvenBy_38 ?_
        refine g_iadd dX12_isEvenBy_39 ?_
        refine g_if_ne (tgt := 45) dX12_isEvenBy_40 (by decide) (fun _ => ?_) (fun _ => ?_)
        · refine g_iinc dX12_isEvenBy_45 3 rfl (v := (v3 + 1)) rfl (by decide) (lv' := [(3, .int (v3 + 1)), (0, .ref (gb g + 141)), (1, .int v1), (2, .int v2)]) rfl ?_
          refine g_goto (tgt := 2) dX12_isEvenBy_48 (by decide) ?_
          refine g_lv [1, 2, 3, 0] rfl ?_
          exact ih (v3 + 1)
        · refine g_iconst dX12_isEvenBy_43 (v := 1) (by decide) ?_
          exact g_ret dX12_isEvenBy_44 rfl rfl
set_option maxHeartbeats 4000000 in
set_option maxRecDepth 100000 in
theorem ok_X12_isEvenBy (g : GG) (F : Nat) (v1 : Int32) (v2 : Int32)  (μ : Mm) : Ct g yX12_isEvenBy cX12_isEvenBy 4 (some (.boolean)) 2 (cvZp μ) [.ref (gb g + 141), .int v1, .int v2] μ (f_X12_isEvenBy F v1 v2 μ) := by
  refine ct_Zp (by decide +kernel) (Nat.le_of_ble_eq_true rfl) (show Go g RX12 cX12_isEvenBy 4 .ireturn 2 (cvZp μ) 0 [(0, .ref (gb g + 141)), (1, .int v1), (2, .int v2)] [] μ (f_X12_isEvenBy F v1 v2 μ) from ?_)
  unfold f_X12_isEvenBy
  refine g_iconst dX12_isEvenBy_0 (v := 0) (by decide) ?_
  refine g_istore_n dX12_isEvenBy_1 rfl (by decide) (lv' := [(3, .int 0), (0, .ref (gb g + 141)), (1, .int v1), (2, .int v2)]) rfl ?_
  refine g_lv [1, 2, 3, 0] rfl ?_
  refine okL_X12_isEvenBy_2 g F v1 v2 _ μ ?_ F 0
  refine g_iconst dX12_isEvenBy_51 (v := 0) (by decide) ?_
  exact g_ret dX12_isEvenBy_52 rfl rfl
set_option maxHeartbeats 4000000 in
set_option maxRecDepth 100000 in
theorem okL_X12_isEvenByTwo_3 (g : GG) (F : Nat) (v1 : Int32) (v2 : Int32) (v3 : Int32) (k : Option (Bool)) (μ : Mm)  (hk : Go g RX12 cX12_isEvenByTwo 5 .ireturn 3 (cvZp μ) 60 [] [] μ k) : ∀ (n : Nat) (v4 : Int32), Go g RX12 cX12_isEvenByTwo 5 .ireturn 3 (cvZp μ) 3 [(0, .ref (gb g + 141)), (1, .int v1), (2, .int v2), (3, .int v3), (4, .int v4)] [] μ (L_X12_isEvenByTwo_3 F v1 v2 v3 k μ n v4) := by
  intro n
  induction n with
  | zero =>
    intro v4
    exact g_none
  | succ n ih =>
    intro v4
    rw [L_X12_isEvenByTwo_3_s]
    refine g_iload dX12_isEvenByTwo_3 4 rfl ?_
    refine g_bipush dX12_isEvenByTwo_5 (v := 9) (by decide) ?_
    refine g_icmp_gt (tgt := 60) dX12_isEvenByTwo_7 (by decide) (fun _ => ?_) (fun _ => ?_)
    · refine g_lv [] rfl ?_
      exact hk 
    · refine g_iload dX12_isEvenByTwo_10 4 rfl ?_
      refine g_aload_n dX12_isEvenByTwo_12 0 rfl ?_
      refine g_getR (b := 146) fl_X12_35 sh_141 (by decide) rfl rfl dX12_isEvenByTwo_13 ?_
      refine g_bipush dX12_isEvenByTwo_16 (v := 13) (by decide) ?_
      refine g_iload_n dX12_isEvenByTwo_18 1 rfl ?_
      refine g_iadd dX12_isEvenByTwo_19 ?_
      refine g_iaload sh_146 dX12_isEvenByTwo_20 (fun x1 => ?_)
      refine g_icmp_eq (tgt := 54) dX12_isEvenByTwo_21 (by decide) (fun _ => ?_) (fun _ => ?_)
      · refine g_iinc dX12_isEvenByTwo_54 4 rfl (v := (v4 + 1)) rfl (by decide) (lv' := [(4, .int (v4 + 1)), (0, .ref (gb g + 141)), (1, .int v1), (2, .int v2), (3, .int v3)]) rfl ?_
        refine g_goto (tgt := 3) dX12_isEvenByTwo_57 (by decide) ?_
        refine g_lv [1, 2, 3, 4, 0] rfl ?_
        exact ih (v4 + 1)
      · refine g_aload_n dX12_isEvenByTwo_24 0 rfl ?_
        refine g_iload_n dX12_isEvenByTwo_25 2 rfl ?_
        refine g_iload_n dX12_isEvenByTwo_26 3 rfl ?_
        refine g_aload_n dX12_isEvenByTwo_27 0 rfl ?_
        refine g_iload_n dX12_isEvenByTwo_28 1 rfl ?_
        refine g_vIp [.int v1] [.int v3, .int v2, .ref (gb g + 141)] mw_X12_445 (ok_X12_worthOf g F v1 μ) (by omega) sh_141 (by decide) rfl rfl (Nat.le_of_ble_eq_true rfl) dX12_isEvenByTwo_29 (fun x2 _ => ?_)
        refine g_iload dX12_isEvenByTwo_32 4 rfl ?_
        refine g_aload_n dX12_isEvenByTwo_34 0 rfl ?_
        refine g_getR (b := 146) fl_X12_35 sh_141 (by decide) rfl rfl dX12_isEvenByTwo_35 ?_
        refine g_bipush dX12_isEvenByTwo_38 (v := 13) (by decide) ?_
        refine g_iload_n dX12_isEvenByTwo_40 1 rfl ?_
        refine g_iadd dX12_isEvenByTwo_41 ?_
        refine g_iaload sh_146 dX12_isEvenByTwo_42 (fun x3 => ?_)
        refine g_isub dX12_isEvenByTwo_43 ?_
        refine g_imul dX12_isEvenByTwo_44 ?_
        refine g_iadd dX12_isEvenByTwo_45 ?_
        refine g_vZp [.int v2, .int (v3 + (x2 * (v4 - x3)))] [] mw_X12_448 (ok_X12_isEvenBy g F v2 (v3 + (x2 * (v4 - x3))) μ) (by omega) sh_141 (by decide) rfl rfl (Nat.le_of_ble_eq_true rfl) dX12_isEvenByTwo_46 (fun x4 _ => ?_)
        refine g_ifeqB (tgt := 54) dX12_isEvenByTwo_49 (by decide) (fun _ => ?_) (fun _ => ?_)
        · refine g_iinc dX12_isEvenByTwo_54 4 rfl (v := (v4 + 1)) rfl (by decide) (lv' := [(4, .int (v4 + 1)), (0, .ref (gb g + 141)), (1, .int v1), (2, .int v2), (3, .int v3)]) rfl ?_
          refine g_goto (tgt := 3) dX12_isEvenByTwo_57 (by decide) ?_
          refine g_lv [1, 2, 3, 4, 0] rfl ?_
          exact ih (v4 + 1)
        · refine g_iconst dX12_isEvenByTwo_52 (v := 1) (by decide) ?_
          exact g_ret dX12_isEvenByTwo_53 rfl rfl
set_option maxHeartbeats 4000000 in
set_option maxRecDepth 100000 in
theorem ok_X12_isEvenByTwo (g : GG) (F : Nat) (v1 : Int32) (v2 : Int32) (v3 : Int32)  (μ : Mm) : Ct g yX12_isEvenByTwo cX12_isEvenByTwo 5 (some (.boolean)) 3 (cvZp μ) [.ref (gb g + 141), .int v1, .int v2, .int v3] μ (f_X12_isEvenByTwo F v1 v2 v3 μ) := by
  refine ct_Zp (by decide +kernel) (Nat.le_of_ble_eq_true rfl) (show Go g RX12 cX12_isEvenByTwo 5 .ireturn 3 (cvZp μ) 0 [(0, .ref (gb g + 141)), (1, .int v1), (2, .int v2), (3, .int v3)] [] μ (f_X12_isEvenByTwo F v1 v2 v3 μ) from ?_)
  unfold f_X12_isEvenByTwo
  refine g_iconst dX12_isEvenByTwo_0 (v := 0) (by decide) ?_
  refine g_istore dX12_isEvenByTwo_1 (by decide) (lv' := [(4, .int 0), (0, .ref (gb g + 141)), (1, .int v1), (2, .int v2), (3, .int v3)]) rfl ?_
  refine g_lv [1, 2, 3, 4, 0] rfl ?_
  refine okL_X12_isEvenByTwo_3 g F v1 v2 v3 _ μ ?_ F 0
  refine g_iconst dX12_isEvenByTwo_60 (v := 0) (by decide) ?_
  exact g_ret dX12_isEvenByTwo_61 rfl rfl
set_option maxHeartbeats 4000000 in
set_option maxRecDepth 100000 in
theorem okL_X12_rubs_13 (g : GG) (F : Nat) (v1 : Int32) (k : Option (Int32)) (μ : Mm)  (hk : Go g RX12 cX12_rubs 4 .ireturn 4 (cvIp μ) 40 [(0, .ref (gb g + 141)), (1, .int v1)] [] μ k) : ∀ (n : Nat) (v2 : Int32), Go g RX12 cX12_rubs 4 .ireturn 4 (cvIp μ) 13 [(0, .ref (gb g + 141)), (1, .int v1), (2, .int v2)] [] μ (L_X12_rubs_13 F v1 k μ n v2) := by
  intro n
  induction n with
  | zero =>
    intro v2
    exact g_none
  | succ n ih =>
    intro v2
    rw [L_X12_rubs_13_s]
    refine g_iload_n dX12_rubs_13 2 rfl ?_
    refine g_aload_n dX12_rubs_14 0 rfl ?_
    refine g_vIp [] [.int v2] mw_X12_301 (ok_X12_cells g μ) (by omega) sh_141 (by decide) rfl rfl (Nat.le_of_ble_eq_true rfl) dX12_rubs_15 (fun x2 _ => ?_)
    refine g_icmp_ge (tgt := 40) dX12_rubs_18 (by decide) (fun _ => ?_) (fun _ => ?_)
    · refine g_lv [0, 1] rfl ?_
      exact hk 
    · refine g_aload_n dX12_rubs_21 0 rfl ?_
      refine g_iload_n dX12_rubs_22 2 rfl ?_
      refine g_iload_n dX12_rubs_23 1 rfl ?_
      refine g_vZp [.int v2, .int v1] [] mw_X12_448 (ok_X12_isEvenBy g F v2 v1 μ) (by omega) sh_141 (by decide) rfl rfl (Nat.le_of_ble_eq_true rfl) dX12_rubs_24 (fun x3 _ => ?_)
      refine g_ifeqB (tgt := 34) dX12_rubs_27 (by decide) (fun _ => ?_) (fun _ => ?_)
      · refine g_iinc dX12_rubs_34 2 rfl (v := (v2 + 1)) rfl (by decide) (lv' := [(2, .int (v2 + 1)), (0, .ref (gb g + 141)), (1, .int v1)]) rfl ?_
        refine g_goto (tgt := 13) dX12_rubs_37 (by decide) ?_
        refine g_lv [1, 2, 0] rfl ?_
        exact ih (v2 + 1)
      · refine g_iconst dX12_rubs_30 (v := 1) (by decide) ?_
        refine g_iload_n dX12_rubs_31 2 rfl ?_
        refine g_ishl dX12_rubs_32 ?_
        exact g_ret dX12_rubs_33 rfl rfl
set_option maxHeartbeats 4000000 in
set_option maxRecDepth 100000 in
theorem okL_X12_rubs_52 (g : GG) (F : Nat) (v1 : Int32) (v2 : Int32) (k : Option (Int32)) (μ : Mm)  (hk : Go g RX12 cX12_rubs 4 .ireturn 4 (cvIp μ) 81 [(0, .ref (gb g + 141)), (1, .int v1), (2, .int v2)] [] μ k) : ∀ (n : Nat) (v3 : Int32), Go g RX12 cX12_rubs 4 .ireturn 4 (cvIp μ) 52 [(0, .ref (gb g + 141)), (1, .int v1), (2, .int v2), (3, .int v3)] [] μ (L_X12_rubs_52 F v1 v2 k μ n v3) := by
  intro n
  induction n with
  | zero =>
    intro v3
    exact g_none
  | succ n ih =>
    intro v3
    rw [L_X12_rubs_52_s]
    refine g_iload_n dX12_rubs_52 3 rfl ?_
    refine g_iload_n dX12_rubs_53 2 rfl ?_
    refine g_icmp_ge (tgt := 81) dX12_rubs_54 (by decide) (fun _ => ?_) (fun _ => ?_)
    · refine g_lv [0, 1, 2] rfl ?_
      exact hk 
    · refine g_aload_n dX12_rubs_57 0 rfl ?_
      refine g_iload_n dX12_rubs_58 3 rfl ?_
      refine g_iload_n dX12_rubs_59 2 rfl ?_
      refine g_iload_n dX12_rubs_60 1 rfl ?_
      refine g_vZp [.int v3, .int v2, .int v1] [] mw_X12_451 (ok_X12_isEvenByTwo g F v3 v2 v1 μ) (by omega) sh_141 (by decide) rfl rfl (Nat.le_of_ble_eq_true rfl) dX12_rubs_61 (fun x5 _ => ?_)
      refine g_ifeqB (tgt := 75) dX12_rubs_64 (by decide) (fun _ => ?_) (fun _ => ?_)
      · refine g_iinc dX12_rubs_75 3 rfl (v := (v3 + 1)) rfl (by decide) (lv' := [(3, .int (v3 + 1)), (0, .ref (gb g + 141)), (1, .int v1), (2, .int v2)]) rfl ?_
        refine g_goto (tgt := 52) dX12_rubs_78 (by decide) ?_
        refine g_lv [1, 2, 3, 0] rfl ?_
        exact ih (v3 + 1)
      · refine g_iconst dX12_rubs_67 (v := 1) (by decide) ?_
        refine g_iload_n dX12_rubs_68 3 rfl ?_
        refine g_ishl dX12_rubs_69 ?_
        refine g_iconst dX12_rubs_70 (v := 1) (by decide) ?_
        refine g_iload_n dX12_rubs_71 2 rfl ?_
        refine g_ishl dX12_rubs_72 ?_
        refine g_ior dX12_rubs_73 ?_
        exact g_ret dX12_rubs_74 rfl rfl
set_option maxHeartbeats 4000000 in
set_option maxRecDepth 100000 in
theorem okL_X12_rubs_42 (g : GG) (F : Nat) (v1 : Int32) (k : Option (Int32)) (μ : Mm)  (hk : Go g RX12 cX12_rubs 4 .ireturn 4 (cvIp μ) 87 [] [] μ k) : ∀ (n : Nat) (v2 : Int32), Go g RX12 cX12_rubs 4 .ireturn 4 (cvIp μ) 42 [(0, .ref (gb g + 141)), (1, .int v1), (2, .int v2)] [] μ (L_X12_rubs_42 F v1 k μ n v2) := by
  intro n
  induction n with
  | zero =>
    intro v2
    exact g_none
  | succ n ih =>
    intro v2
    rw [L_X12_rubs_42_s]
    refine g_iload_n dX12_rubs_42 2 rfl ?_
    refine g_aload_n dX12_rubs_43 0 rfl ?_
    refine g_vIp [] [.int v2] mw_X12_301 (ok_X12_cells g μ) (by omega) sh_141 (by decide) rfl rfl (Nat.le_of_ble_eq_true rfl) dX12_rubs_44 (fun x4 _ => ?_)
    refine g_icmp_ge (tgt := 87) dX12_rubs_47 (by decide) (fun _ => ?_) (fun _ => ?_)
    · refine g_lv [] rfl ?_
      exact hk 
    · refine g_iconst dX12_rubs_50 (v := 0) (by decide) ?_
      refine g_istore_n dX12_rubs_51 rfl (by decide) (lv' := [(3, .int 0), (0, .ref (gb g + 141)), (1, .int v1), (2, .int v2)]) rfl ?_
      refine g_lv [1, 2, 3, 0] rfl ?_
      refine okL_X12_rubs_52 g F v1 v2 _ μ ?_ F 0
      refine g_iinc dX12_rubs_81 2 rfl (v := (v2 + 1)) rfl (by decide) (lv' := [(2, .int (v2 + 1)), (0, .ref (gb g + 141)), (1, .int v1)]) rfl ?_
      refine g_goto (tgt := 42) dX12_rubs_84 (by decide) ?_
      refine g_lv [1, 2, 0] rfl ?_
      exact ih (v2 + 1)
set_option maxHeartbeats 4000000 in
set_option maxRecDepth 100000 in
theorem ok_X12_rubs (g : GG) (F : Nat)   (μ : Mm) : Ct g yX12_rubs cX12_rubs 4 (some (.int)) 4 (cvIp μ) [.ref (gb g + 141)] μ (f_X12_rubs F μ) := by
  refine ct_Ip (by decide +kernel) (Nat.le_of_ble_eq_true rfl) (show Go g RX12 cX12_rubs 4 .ireturn 4 (cvIp μ) 0 [(0, .ref (gb g + 141))] [] μ (f_X12_rubs F μ) from ?_)
  unfold f_X12_rubs
  refine g_aload_n dX12_rubs_0 0 rfl ?_
  refine g_vIp [] [] mw_X12_313 (ok_X12_balanced g F μ) (by omega) sh_141 (by decide) rfl rfl (Nat.le_of_ble_eq_true rfl) dX12_rubs_1 (fun x1 _ => ?_)
  refine g_istore_n dX12_rubs_4 rfl (by decide) (lv' := [(1, .int x1), (0, .ref (gb g + 141))]) rfl ?_
  refine g_iload_n dX12_rubs_5 0 rfl ?_
  refine g_if_ne (tgt := 11) dX12_rubs_6 (by decide) (fun _ => ?_) (fun _ => ?_)
  · refine g_iconst dX12_rubs_11 (v := 0) (by decide) ?_
    refine g_istore_n dX12_rubs_12 rfl (by decide) (lv' := [(2, .int 0), (1, .int x1), (0, .ref (gb g + 141))]) rfl ?_
    refine g_lv [2, 1, 0] rfl ?_
    refine okL_X12_rubs_13 g F x1 _ μ ?_ F 0
    refine g_iconst dX12_rubs_40 (v := 1) (by decide) ?_
    refine g_istore_n dX12_rubs_41 rfl (by decide) (lv' := [(2, .int 1), (0, .ref (gb g + 141)), (1, .int x1)]) rfl ?_
    refine g_lv [1, 2, 0] rfl ?_
    refine okL_X12_rubs_42 g F x1 _ μ ?_ F 1
    refine g_iconst dX12_rubs_87 (v := (-1)) (by decide) ?_
    exact g_ret dX12_rubs_88 rfl rfl
  · refine g_iconst dX12_rubs_9 (v := 0) (by decide) ?_
    exact g_ret dX12_rubs_10 rfl rfl
set_option maxHeartbeats 4000000 in
set_option maxRecDepth 100000 in
theorem okL_X12_rubbed_19 (g : GG) (F : Nat) (v1 : Int32) (k : Int32 → Option (Int32 × Mm)) (μ : Mm)  (hk : ∀ (v2 : Int32), Go g RX12 cX12_rubbed 4 .ireturn 5 cvI 47 [(0, .ref (gb g + 141)), (1, .int v1), (2, .int v2)] [] μ (k v2)) : ∀ (n : Nat) (v2 : Int32) (v3 : Int32), Go g RX12 cX12_rubbed 4 .ireturn 5 cvI 19 [(0, .ref (gb g + 141)), (1, .int v1), (2, .int v2), (3, .int v3)] [] μ (L_X12_rubbed_19 F v1 k μ n v2 v3) := by
  intro n
  induction n with
  | zero =>
    intro v2 v3
    exact g_none
  | succ n ih =>
    intro v2 v3
    rw [L_X12_rubbed_19_s]
    refine g_iload_n dX12_rubbed_19 3 rfl ?_
    refine g_bipush dX12_rubbed_20 (v := 25) (by decide) ?_
    refine g_icmp_ge (tgt := 47) dX12_rubbed_22 (by decide) (fun _ => ?_) (fun _ => ?_)
    · refine g_lv [0, 1, 2] rfl ?_
      exact hk v2
    · refine g_iload_n dX12_rubbed_25 2 rfl ?_
      refine g_iload_n dX12_rubbed_26 1 rfl ?_
      refine g_iload_n dX12_rubbed_27 3 rfl ?_
      refine g_sZp [.int v1, .int v3] [.int v2] mw_X12_242 (ok_X12_has g v1 v3 μ) (by omega) rfl rfl (Nat.le_of_ble_eq_true rfl) dX12_rubbed_28 (fun x2 _ => ?_)
      have hJ5 : ∀ (w4 : Int32), w4 = (if x2 = true then (1 : Int32) else 0) → Go g RX12 cX12_rubbed 4 .ireturn 5 cvI 39 [(0, .ref (gb g + 141)), (1, .int v1), (3, .int v3)] [.int w4, .int v2] μ (L_X12_rubbed_19 F v1 k μ n (v2 + (if x2 = true then (1 : Int32) else 0)) (v3 + 1)) := by
        intro w4 ew4
        subst ew4
        refine g_iadd dX12_rubbed_39 ?_
        refine g_istore_n dX12_rubbed_40 rfl (by decide) (lv' := [(2, .int (v2 + (if x2 = true then (1 : Int32) else 0))), (0, .ref (gb g + 141)), (1, .int v1), (3, .int v3)]) rfl ?_
        refine g_iinc dX12_rubbed_41 3 rfl (v := (v3 + 1)) rfl (by decide) (lv' := [(3, .int (v3 + 1)), (2, .int (v2 + (if x2 = true then (1 : Int32) else 0))), (0, .ref (gb g + 141)), (1, .int v1)]) rfl ?_
        refine g_goto (tgt := 19) dX12_rubbed_44 (by decide) ?_
        refine g_lv [2, 3, 1, 0] rfl ?_
        exact ih (v2 + (if x2 = true then (1 : Int32) else 0)) (v3 + 1)
      refine g_same (g_ifeqB (tgt := 38) dX12_rubbed_31 (by decide) (fun c3 => ?_) (fun c3 => ?_))
      · refine g_iconst dX12_rubbed_38 (v := 0) (by decide) ?_
        refine g_lv [0, 1, 3] rfl ?_
        exact hJ5 _ (by rw [if_neg c3])
      · refine g_iconst dX12_rubbed_34 (v := 1) (by decide) ?_
        refine g_goto (tgt := 39) dX12_rubbed_35 (by decide) ?_
        refine g_lv [0, 1, 3] rfl ?_
        exact hJ5 _ (by rw [if_pos c3])
set_option maxHeartbeats 4000000 in
set_option maxRecDepth 100000 in
theorem ok_X12_rubbed (g : GG) (F : Nat)   (μ : Mm) : Ct g yX12_rubbed cX12_rubbed 4 (some (.int)) 5 cvI [.ref (gb g + 141)] μ (f_X12_rubbed F μ) := by
  refine ct_I (by decide +kernel) (Nat.le_of_ble_eq_true rfl) (show Go g RX12 cX12_rubbed 4 .ireturn 5 cvI 0 [(0, .ref (gb g + 141))] [] μ (f_X12_rubbed F μ) from ?_)
  unfold f_X12_rubbed
  refine g_aload_n dX12_rubbed_0 0 rfl ?_
  refine g_iconst dX12_rubbed_1 (v := 0) (by decide) ?_
  refine g_putI fl_X12_72 sh_141 (by decide) rfl dX12_rubbed_2 ?_
  refine g_aload_n dX12_rubbed_5 0 rfl ?_
  refine g_iconst dX12_rubbed_6 (v := 0) (by decide) ?_
  refine g_putI fl_X12_75 sh_141 (by decide) rfl dX12_rubbed_7 ?_
  refine g_aload_n dX12_rubbed_10 0 rfl ?_
  refine g_vIp [] [] mw_X12_455 (ok_X12_rubs g F (sI (sI μ 141 1 0) 141 0 0)) (by omega) sh_141 (by decide) rfl rfl (Nat.le_of_ble_eq_true rfl) dX12_rubbed_11 (fun x1 _ => ?_)
  refine g_istore_n dX12_rubbed_14 rfl (by decide) (lv' := [(1, .int x1), (0, .ref (gb g + 141))]) rfl ?_
  refine g_iconst dX12_rubbed_15 (v := 0) (by decide) ?_
  refine g_istore_n dX12_rubbed_16 rfl (by decide) (lv' := [(2, .int 0), (1, .int x1), (0, .ref (gb g + 141))]) rfl ?_
  refine g_iconst dX12_rubbed_17 (v := 0) (by decide) ?_
  refine g_istore_n dX12_rubbed_18 rfl (by decide) (lv' := [(3, .int 0), (2, .int 0), (1, .int x1), (0, .ref (gb g + 141))]) rfl ?_
  refine g_lv [3, 2, 1, 0] rfl ?_
  refine okL_X12_rubbed_19 g F x1 _ (sI (sI μ 141 1 0) 141 0 0) (fun u6 => ?_) F 0 0
  refine g_iload_n dX12_rubbed_47 1 rfl ?_
  refine g_if_ge (tgt := 60) dX12_rubbed_48 (by decide) (fun _ => ?_) (fun _ => ?_)
  · refine g_iload_n dX12_rubbed_60 2 rfl ?_
    exact g_ret dX12_rubbed_61 rfl rfl
  · refine g_aload_n dX12_rubbed_51 0 rfl ?_
    refine g_bipush dX12_rubbed_52 (v := 8) (by decide) ?_
    refine g_vI [.int 8] [] mw_X12_318 (ok_X12_refuse g 8 (sI (sI μ 141 1 0) 141 0 0)) (by omega) sh_141 (by decide) rfl rfl (Nat.le_of_ble_eq_true rfl) dX12_rubbed_54 (fun x8 μ9 _ => ?_)
    refine g_goto (tgt := 61) dX12_rubbed_57 (by decide) ?_
    exact g_ret dX12_rubbed_61 rfl rfl
set_option maxHeartbeats 4000000 in
set_option maxRecDepth 100000 in
theorem ok_X12_rubbedSet (g : GG) (F : Nat)   (μ : Mm) : Ct g yX12_rubbedSet cX12_rubbedSet 2 (some (.int)) 5 cvI [.ref (gb g + 141)] μ (f_X12_rubbedSet F μ) := by
  refine ct_I (by decide +kernel) (Nat.le_of_ble_eq_true rfl) (show Go g RX12 cX12_rubbedSet 2 .ireturn 5 cvI 0 [(0, .ref (gb g + 141))] [] μ (f_X12_rubbedSet F μ) from ?_)
  unfold f_X12_rubbedSet
  refine g_aload_n dX12_rubbedSet_0 0 rfl ?_
  refine g_iconst dX12_rubbedSet_1 (v := 0) (by decide) ?_
  refine g_putI fl_X12_72 sh_141 (by decide) rfl dX12_rubbedSet_2 ?_
  refine g_aload_n dX12_rubbedSet_5 0 rfl ?_
  refine g_iconst dX12_rubbedSet_6 (v := 0) (by decide) ?_
  refine g_putI fl_X12_75 sh_141 (by decide) rfl dX12_rubbedSet_7 ?_
  refine g_aload_n dX12_rubbedSet_10 0 rfl ?_
  refine g_vIp [] [] mw_X12_455 (ok_X12_rubs g F (sI (sI μ 141 1 0) 141 0 0)) (by omega) sh_141 (by decide) rfl rfl (Nat.le_of_ble_eq_true rfl) dX12_rubbedSet_11 (fun x1 _ => ?_)
  refine g_istore_n dX12_rubbedSet_14 rfl (by decide) (lv' := [(1, .int x1), (0, .ref (gb g + 141))]) rfl ?_
  refine g_iload_n dX12_rubbedSet_15 0 rfl ?_
  refine g_if_ge (tgt := 28) dX12_rubbedSet_16 (by decide) (fun _ => ?_) (fun _ => ?_)
  · refine g_iload_n dX12_rubbedSet_28 0 rfl ?_
    exact g_ret dX12_rubbedSet_29 rfl rfl
  · refine g_aload_n dX12_rubbedSet_19 1 rfl ?_
    refine g_bipush dX12_rubbedSet_20 (v := 8) (by decide) ?_
    refine g_vI [.int 8] [] mw_X12_318 (ok_X12_refuse g 8 (sI (sI μ 141 1 0) 141 0 0)) (by omega) sh_141 (by decide) rfl rfl (Nat.le_of_ble_eq_true rfl) dX12_rubbedSet_22 (fun x3 μ4 _ => ?_)
    refine g_goto (tgt := 29) dX12_rubbedSet_25 (by decide) ?_
    exact g_ret dX12_rubbedSet_29 rfl rfl
set_option maxHeartbeats 4000000 in
set_option maxRecDepth 100000 in
theorem okL_X12_thieves_14 (g : GG) (dr : Nat) (F : Nat) (rc_X12_watches : Int32 → Mm → Option (Int32 × Mm)) (v1 : Int32) (v2 : Int32) (k : Int32 → Int32 → Mm → Option (Int32 × Mm))  (hr_X12_watches : ∀ (v1 : Int32) (μ : Mm), Ct g yX12_watches cX12_watches 7 (some (.int)) dr cvI [.ref (gb g + 141), .int v1] μ (rc_X12_watches v1 μ)) (hk : ∀ (v3 : Int32) (v4 : Int32) (μ : Mm), Go g RX12 cX12_thieves 9 .ireturn (dr + 3) cvI 156 [(0, .ref (gb g + 141)), (2, .int v2), (3, .int v3), (4, .int v4)] [] μ (k v3 v4 μ)) : ∀ (n : Nat) (v3 : Int32) (v4 : Int32) (v5 : Int32) (μ : Mm), Go g RX12 cX12_thieves 9 .ireturn (dr + 3) cvI 14 [(0, .ref (gb g + 141)), (1, .int v1), (2, .int v2), (3, .int v3), (4, .int v4), (5, .int v5)] [] μ (L_X12_thieves_14 F rc_X12_watches v1 v2 k n v3 v4 v5 μ) := by
  intro n
  induction n with
  | zero =>
    intro v3 v4 v5 μ
    exact g_none
  | succ n ih =>
    intro v3 v4 v5 μ
    rw [L_X12_thieves_14_s]
    refine g_iload dX12_thieves_14 5 rfl ?_
    refine g_aload_n dX12_thieves_16 0 rfl ?_
    refine g_vIp [] [.int v5] mw_X12_301 (ok_X12_cells g μ) (by omega) sh_141 (by decide) rfl rfl (Nat.le_of_ble_eq_true rfl) dX12_thieves_17 (fun x1 _ => ?_)
    refine g_icmp_gt (tgt := 156) dX12_thieves_20 (by decide) (fun _ => ?_) (fun _ => ?_)
    · refine g_lv [0, 2, 3, 4] rfl ?_
      exact hk v3 v4 μ
    · refine g_iload dX12_thieves_23 5 rfl ?_
      refine g_aload_n dX12_thieves_25 0 rfl ?_
      refine g_vIp [] [.int v5] mw_X12_301 (ok_X12_cells g μ) (by omega) sh_141 (by decide) rfl rfl (Nat.le_of_ble_eq_true rfl) dX12_thieves_26 (fun x2 _ => ?_)
      have hJ52 : ∀ (w4 : Int32), w4 = (if v5 = x2 then (1 : Int32) else 0) → Go g RX12 cX12_thieves 9 .ireturn (dr + 3) cvI 37 [(0, .ref (gb g + 141)), (1, .int v1), (2, .int v2), (3, .int v3), (4, .int v4), (5, .int v5)] [.int w4] μ (if (if v5 = x2 then (1 : Int32) else 0) = 0 then (rdA μ 146 2000 ((13 : Int32) + v5)).bind fun x27 => (if x27 = 0 then L_X12_thieves_14 F rc_X12_watches v1 v2 k n v3 v4 (v5 + 1) μ else (f_X12_farOf v5 μ).bind fun x29 => (if 2 ≤ x29 then jn (fun (a33 : Int32) => jn (fun (a36 : Mm) => bd (rc_X12_watches v1 a36) fun x37 μ38 => jn (fun (a41 : Mm) => L_X12_thieves_14 F rc_X12_watches v1 v2 k n (if v3 < (a33 + x37) then (a33 + x37) else v3) (if v3 < (a33 + x37) then v5 else v4) (v5 + 1) a41) fun K40 => (if (if v5 = x2 then (1 : Int32) else 0) = 0 then (wrA μ38 146 2000 ((13 : Int32) + v5) a33).bind fun μ47 => K40 μ47 else K40 μ38)) fun K35 => (if (if v5 = x2 then (1 : Int32) else 0) = 0 then (wrA μ 146 2000 ((13 : Int32) + v5) 0).bind fun μ49 => K35 μ49 else K35 μ)) fun K32 => (if (if v5 = x2 then (1 : Int32) else 0) = 0 then (rdA μ 146 2000 ((13 : Int32) + v5)).bind fun x51 => K32 x51 else K32 0) else L_X12_thieves_14 F rc_X12_watches v1 v2 k n v3 v4 (v5 + 1) μ)) else jn (fun (a8 : Int32) => jn (fun (a11 : Mm) => bd (rc_X12_watches v1 a11) fun x12 μ13 => jn (fun (a16 : Mm) => L_X12_thieves_14 F rc_X12_watches v1 v2 k n (if v3 < (a8 + x12) then (a8 + x12) else v3) (if v3 < (a8 + x12) then v5 else v4) (v5 + 1) a16) fun K15 => (if (if v5 = x2 then (1 : Int32) else 0) = 0 then (wrA μ13 146 2000 ((13 : Int32) + v5) a8).bind fun μ22 => K15 μ22 else K15 μ13)) fun K10 => (if (if v5 = x2 then (1 : Int32) else 0) = 0 then (wrA μ 146 2000 ((13 : Int32) + v5) 0).bind fun μ24 => K10 μ24 else K10 μ)) fun K7 => (if (if v5 = x2 then (1 : Int32) else 0) = 0 then (rdA μ 146 2000 ((13 : Int32) + v5)).bind fun x26 => K7 x26 else K7 0)) := by
        intro w4 ew4
        subst ew4
        refine g_istore dX12_thieves_37 (by decide) (lv' := [(6, .int (if v5 = x2 then (1 : Int32) else 0)), (0, .ref (gb g + 141)), (1, .int v1), (2, .int v2), (3, .int v3), (4, .int v4), (5, .int v5)]) rfl ?_
        refine g_iload dX12_thieves_39 0 rfl ?_
        refine g_if_ne (tgt := 70) dX12_thieves_41 (by decide) (fun _ => ?_) (fun _ => ?_)
        · refine g_iload dX12_thieves_70 0 rfl ?_
          refine g_jn (fun (a8 : Int32) oo => Go g RX12 cX12_thieves 9 .ireturn (dr + 3) cvI 89 [(0, .ref (gb g + 141)), (1, .int v1), (2, .int v2), (3, .int v3), (4, .int v4), (5, .int v5), (6, .int (if v5 = x2 then (1 : Int32) else 0))] [.int a8] μ oo) (fun a8 => ?_) (fun K7 hF25 => ?_)
          · refine g_istore dX12_thieves_89 (by decide) (lv' := [(7, .int a8), (0, .ref (gb g + 141)), (1, .int v1), (2, .int v2), (3, .int v3), (4, .int v4), (5, .int v5), (6, .int (if v5 = x2 then (1 : Int32) else 0))]) rfl ?_
            refine g_iload dX12_thieves_91 7 rfl ?_
            refine g_jn (fun (a11 : Mm) oo => Go g RX12 cX12_thieves 9 .ireturn (dr + 3) cvI 107 [(0, .ref (gb g + 141)), (1, .int v1), (2, .int v2), (3, .int v3), (4, .int v4), (5, .int v5), (6, .int (if v5 = x2 then (1 : Int32) else 0)), (7, .int a8)] [] a11 oo) (fun a11 => ?_) (fun K10 hF23 => ?_)
            · refine g_iload dX12_thieves_107 7 rfl ?_
              refine g_aload_n dX12_thieves_109 0 rfl ?_
              refine g_iload_n dX12_thieves_110 1 rfl ?_
              refine g_vI [.int v1] [.int a8] mw_X12_458 (hr_X12_watches v1 a11) (by omega) sh_141 (by decide) rfl rfl (Nat.le_of_ble_eq_true rfl) dX12_thieves_111 (fun x12 μ13 _ => ?_)
              refine g_iadd dX12_thieves_114 ?_
              refine g_istore dX12_thieves_115 (by decide) (lv' := [(8, .int (a8 + x12)), (0, .ref (gb g + 141)), (1, .int v1), (2, .int v2), (3, .int v3), (4, .int v4), (5, .int v5), (6, .int (if v5 = x2 then (1 : Int32) else 0)), (7, .int a8)]) rfl ?_
              refine g_iload dX12_thieves_117 7 rfl ?_
              refine g_jn (fun (a16 : Mm) oo => Go g RX12 cX12_thieves 9 .ireturn (dr + 3) cvI 134 [(0, .ref (gb g + 141)), (1, .int v1), (2, .int v2), (3, .int v3), (4, .int v4), (5, .int v5), (8, .int (a8 + x12))] [] a16 oo) (fun a16 => ?_) (fun K15 hF21 => ?_)
              · refine g_iload dX12_thieves_134 6 rfl ?_
                refine g_iload_n dX12_thieves_136 3 rfl ?_
                have hJ20 : ∀ (w18 : Int32) (w19 : Int32), w18 = (if v3 < (a8 + x12) then (a8 + x12) else v3) → w19 = (if v3 < (a8 + x12) then v5 else v4) → Go g RX12 cX12_thieves 9 .ireturn (dr + 3) cvI 150 [(0, .ref (gb g + 141)), (1, .int v1), (2, .int v2), (3, .int w18), (4, .int w19), (5, .int v5)] [] a16 (L_X12_thieves_14 F rc_X12_watches v1 v2 k n (if v3 < (a8 + x12) then (a8 + x12) else v3) (if v3 < (a8 + x12) then v5 else v4) (v5 + 1) a16) := by
                  intro w18 w19 ew18 ew19
                  subst ew18
                  subst ew19
                  refine g_iinc dX12_thieves_150 5 rfl (v := (v5 + 1)) rfl (by decide) (lv' := [(5, .int (v5 + 1)), (0, .ref (gb g + 141)), (1, .int v1), (2, .int v2), (3, .int (if v3 < (a8 + x12) then (a8 + x12) else v3)), (4, .int (if v3 < (a8 + x12) then v5 else v4))]) rfl ?_
                  refine g_goto (tgt := 14) dX12_thieves_153 (by decide) ?_
                  refine g_lv [1, 2, 3, 4, 5, 0] rfl ?_
                  exact ih (if v3 < (a8 + x12) then (a8 + x12) else v3) (if v3 < (a8 + x12) then v5 else v4) (v5 + 1) a16
                refine g_same (g_icmp_gt (tgt := 143) dX12_thieves_137 (by decide) (fun c17 => ?_) (fun c17 => ?_))
                · refine g_iload dX12_thieves_143 6 rfl ?_
                  refine g_istore_n dX12_thieves_145 rfl (by decide) (lv' := [(3, .int (a8 + x12)), (0, .ref (gb g + 141)), (1, .int v1), (2, .int v2), (4, .int v4), (5, .int v5), (8, .int (a8 + x12))]) rfl ?_
                  refine g_iload dX12_thieves_146 5 rfl ?_
                  refine g_istore dX12_thieves_148 (by decide) (lv' := [(4, .int v5), (3, .int (a8 + x12)), (0, .ref (gb g + 141)), (1, .int v1), (2, .int v2), (5, .int v5), (8, .int (a8 + x12))]) rfl ?_
                  refine g_lv [2, 3, 4, 1, 0, 5] rfl ?_
                  exact hJ20 _ _ (by rw [if_pos c17]) (by rw [if_pos c17])
                · refine g_goto (tgt := 150) dX12_thieves_140 (by decide) ?_
                  refine g_lv [0, 1, 2, 3, 4, 5] rfl ?_
                  exact hJ20 _ _ (by rw [if_neg c17]) (by rw [if_neg c17])
              · refine g_if_ne (tgt := 134) dX12_thieves_119 (by decide) (fun _ => ?_) (fun _ => ?_)
                · refine g_lv [1, 2, 3, 4, 5, 6, 0] rfl ?_
                  exact hF21 μ13
                · refine g_aload_n dX12_thieves_122 1 rfl ?_
                  refine g_getR (b := 146) fl_X12_35 sh_141 (by decide) rfl rfl dX12_thieves_123 ?_
                  refine g_bipush dX12_thieves_126 (v := 13) (by decide) ?_
                  refine g_iload dX12_thieves_128 6 rfl ?_
                  refine g_iadd dX12_thieves_130 ?_
                  refine g_iload dX12_thieves_131 8 rfl ?_
                  refine g_iastore sh_146 dX12_thieves_133 (fun μ22 => ?_)
                  refine g_lv [1, 2, 3, 4, 5, 6, 0] rfl ?_
                  exact hF21 μ22
            · refine g_if_ne (tgt := 107) dX12_thieves_93 (by decide) (fun _ => ?_) (fun _ => ?_)
              · refine g_lv [1, 2, 3, 4, 5, 6, 7, 0] rfl ?_
                exact hF23 μ
              · refine g_aload_n dX12_thieves_96 1 rfl ?_
                refine g_getR (b := 146) fl_X12_35 sh_141 (by decide) rfl rfl dX12_thieves_97 ?_
                refine g_bipush dX12_thieves_100 (v := 13) (by decide) ?_
                refine g_iload dX12_thieves_102 6 rfl ?_
                refine g_iadd dX12_thieves_104 ?_
                refine g_iconst dX12_thieves_105 (v := 0) (by decide) ?_
                refine g_iastore sh_146 dX12_thieves_106 (fun μ24 => ?_)
                refine g_lv [1, 2, 3, 4, 5, 6, 7, 0] rfl ?_
                exact hF23 μ24
          · refine g_if_eq (tgt := 79) dX12_thieves_72 (by decide) (fun _ => ?_) (fun _ => ?_)
            · refine g_aload_n dX12_thieves_79 1 rfl ?_
              refine g_getR (b := 146) fl_X12_35 sh_141 (by decide) rfl rfl dX12_thieves_80 ?_
              refine g_bipush dX12_thieves_83 (v := 13) (by decide) ?_
              refine g_iload dX12_thieves_85 6 rfl ?_
              refine g_iadd dX12_thieves_87 ?_
              refine g_iaload sh_146 dX12_thieves_88 (fun x26 => ?_)
              refine g_lv [1, 2, 3, 4, 5, 6, 0] rfl ?_
              exact hF25 x26
            · refine g_iconst dX12_thieves_75 (v := 0) (by decide) ?_
              refine g_goto (tgt := 89) dX12_thieves_76 (by decide) ?_
              refine g_lv [1, 2, 3, 4, 5, 6, 0] rfl ?_
              exact hF25 0
        · refine g_aload_n dX12_thieves_44 1 rfl ?_
          refine g_getR (b := 146) fl_X12_35 sh_141 (by decide) rfl rfl dX12_thieves_45 ?_
          refine g_bipush dX12_thieves_48 (v := 13) (by decide) ?_
          refine g_iload dX12_thieves_50 6 rfl ?_
          refine g_iadd dX12_thieves_52 ?_
          refine g_iaload sh_146 dX12_thieves_53 (fun x27 => ?_)
          refine g_if_eq (tgt := 150) dX12_thieves_54 (by decide) (fun _ => ?_) (fun _ => ?_)
          · refine g_iinc dX12_thieves_150 6 rfl (v := (v5 + 1)) rfl (by decide) (lv' := [(5, .int (v5 + 1)), (6, .int (if v5 = x2 then (1 : Int32) else 0)), (0, .ref (gb g + 141)), (1, .int v1), (2, .int v2), (3, .int v3), (4, .int v4)]) rfl ?_
            refine g_goto (tgt := 14) dX12_thieves_153 (by decide) ?_
            refine g_lv [2, 3, 4, 5, 6, 0] rfl ?_
            exact ih v3 v4 (v5 + 1) μ
          · refine g_aload_n dX12_thieves_57 1 rfl ?_
            refine g_iload dX12_thieves_58 6 rfl ?_
            refine g_vIp [.int v5] [] mw_X12_420 (ok_X12_farOf g v5 μ) (by omega) sh_141 (by decide) rfl rfl (Nat.le_of_ble_eq_true rfl) dX12_thieves_60 (fun x29 _ => ?_)
            refine g_iconst dX12_thieves_63 (v := 2) (by decide) ?_
            refine g_icmp_ge (tgt := 70) dX12_thieves_64 (by decide) (fun _ => ?_) (fun _ => ?_)
            · refine g_iload dX12_thieves_70 0 rfl ?_
              refine g_jn (fun (a33 : Int32) oo => Go g RX12 cX12_thieves 9 .ireturn (dr + 3) cvI 89 [(0, .ref (gb g + 141)), (1, .int v1), (2, .int v2), (3, .int v3), (4, .int v4), (5, .int v5), (6, .int (if v5 = x2 then (1 : Int32) else 0))] [.int a33] μ oo) (fun a33 => ?_) (fun K32 hF50 => ?_)
              · refine g_istore dX12_thieves_89 (by decide) (lv' := [(7, .int a33), (0, .ref (gb g + 141)), (1, .int v1), (2, .int v2), (3, .int v3), (4, .int v4), (5, .int v5), (6, .int (if v5 = x2 then (1 : Int32) else 0))]) rfl ?_
                refine g_iload dX12_thieves_91 7 rfl ?_
                refine g_jn (fun (a36 : Mm) oo => Go g RX12 cX12_thieves 9 .ireturn (dr + 3) cvI 107 [(0, .ref (gb g + 141)), (1, .int v1), (2, .int v2), (3, .int v3), (4, .int v4), (5, .int v5), (6, .int (if v5 = x2 then (1 : Int32) else 0)), (7, .int a33)] [] a36 oo) (fun a36 => ?_) (fun K35 hF48 => ?_)
                · refine g_iload dX12_thieves_107 7 rfl ?_
                  refine g_aload_n dX12_thieves_109 0 rfl ?_
                  refine g_iload_n dX12_thieves_110 1 rfl ?_
                  refine g_vI [.int v1] [.int a33] mw_X12_458 (hr_X12_watches v1 a36) (by omega) sh_141 (by decide) rfl rfl (Nat.le_of_ble_eq_true rfl) dX12_thieves_111 (fun x37 μ38 _ => ?_)
                  refine g_iadd dX12_thieves_114 ?_
                  refine g_istore dX12_thieves_115 (by decide) (lv' := [(8, .int (a33 + x37)), (0, .ref (gb g + 141)), (1, .int v1), (2, .int v2), (3, .int v3), (4, .int v4), (5, .int v5), (6, .int (if v5 = x2 then (1 : Int32) else 0)), (7, .int a33)]) rfl ?_
                  refine g_iload dX12_thieves_117 7 rfl ?_
                  refine g_jn (fun (a41 : Mm) oo => Go g RX12 cX12_thieves 9 .ireturn (dr + 3) cvI 134 [(0, .ref (gb g + 141)), (1, .int v1), (2, .int v2), (3, .int v3), (4, .int v4), (5, .int v5), (8, .int (a33 + x37))] [] a41 oo) (fun a41 => ?_) (fun K40 hF46 => ?_)
                  · refine g_iload dX12_thieves_134 6 rfl ?_
                    refine g_iload_n dX12_thieves_136 3 rfl ?_
                    have hJ45 : ∀ (w43 : Int32) (w44 : Int32), w43 = (if v3 < (a33 + x37) then (a33 + x37) else v3) → w44 = (if v3 < (a33 + x37) then v5 else v4) → Go g RX12 cX12_thieves 9 .ireturn (dr + 3) cvI 150 [(0, .ref (gb g + 141)), (1, .int v1), (2, .int v2), (3, .int w43), (4, .int w44), (5, .int v5)] [] a41 (L_X12_thieves_14 F rc_X12_watches v1 v2 k n (if v3 < (a33 + x37) then (a33 + x37) else v3) (if v3 < (a33 + x37) then v5 else v4) (v5 + 1) a41) := by
                      intro w43 w44 ew43 ew44
                      subst ew43
                      subst ew44
                      refine g_iinc dX12_thieves_150 5 rfl (v := (v5 + 1)) rfl (by decide) (lv' := [(5, .int (v5 + 1)), (0, .ref (gb g + 141)), (1, .int v1), (2, .int v2), (3, .int (if v3 < (a33 + x37) then (a33 + x37) else v3)), (4, .int (if v3 < (a33 + x37) then v5 else v4))]) rfl ?_
                      refine g_goto (tgt := 14) dX12_thieves_153 (by decide) ?_
                      refine g_lv [1, 2, 3, 4, 5, 0] rfl ?_
                      exact ih (if v3 < (a33 + x37) then (a33 + x37) else v3) (if v3 < (a33 + x37) then v5 else v4) (v5 + 1) a41
                    refine g_same (g_icmp_gt (tgt := 143) dX12_thieves_137 (by decide) (fun c42 => ?_) (fun c42 => ?_))
                    · refine g_iload dX12_thieves_143 6 rfl ?_
                      refine g_istore_n dX12_thieves_145 rfl (by decide) (lv' := [(3, .int (a33 + x37)), (0, .ref (gb g + 141)), (1, .int v1), (2, .int v2), (4, .int v4), (5, .int v5), (8, .int (a33 + x37))]) rfl ?_
                      refine g_iload dX12_thieves_146 5 rfl ?_
                      refine g_istore dX12_thieves_148 (by decide) (lv' := [(4, .int v5), (3, .int (a33 + x37)), (0, .ref (gb g + 141)), (1, .int v1), (2, .int v2), (5, .int v5), (8, .int (a33 + x37))]) rfl ?_
                      refine g_lv [2, 3, 4, 1, 0, 5] rfl ?_
                      exact hJ45 _ _ (by rw [if_pos c42]) (by rw [if_pos c42])
                    · refine g_goto (tgt := 150) dX12_thieves_140 (by decide) ?_
                      refine g_lv [0, 1, 2, 3, 4, 5] rfl ?_
                      exact hJ45 _ _ (by rw [if_neg c42]) (by rw [if_neg c42])
                  · refine g_if_ne (tgt := 134) dX12_thieves_119 (by decide) (fun _ => ?_) (fun _ => ?_)
                    · refine g_lv [1, 2, 3, 4, 5, 6, 0] rfl ?_
                      exact hF46 μ38
                    · refine g_aload_n dX12_thieves_122 1 rfl ?_
                      refine g_getR (b := 146) fl_X12_35 sh_141 (by decide) rfl rfl dX12_thieves_123 ?_
                      refine g_bipush dX12_thieves_126 (v := 13) (by decide) ?_
                      refine g_iload dX12_thieves_128 6 rfl ?_
                      refine g_iadd dX12_thieves_130 ?_
                      refine g_iload dX12_thieves_131 8 rfl ?_
                      refine g_iastore sh_146 dX12_thieves_133 (fun μ47 => ?_)
                      refine g_lv [1, 2, 3, 4, 5, 6, 0] rfl ?_
                      exact hF46 μ47
                · refine g_if_ne (tgt := 107) dX12_thieves_93 (by decide) (fun _ => ?_) (fun _ => ?_)
                  · refine g_lv [1, 2, 3, 4, 5, 6, 7, 0] rfl ?_
                    exact hF48 μ
                  · refine g_aload_n dX12_thieves_96 1 rfl ?_
                    refine g_getR (b := 146) fl_X12_35 sh_141 (by decide) rfl rfl dX12_thieves_97 ?_
                    refine g_bipush dX12_thieves_100 (v := 13) (by decide) ?_
                    refine g_iload dX12_thieves_102 6 rfl ?_
                    refine g_iadd dX12_thieves_104 ?_
                    refine g_iconst dX12_thieves_105 (v := 0) (by decide) ?_
                    refine g_iastore sh_146 dX12_thieves_106 (fun μ49 => ?_)
                    refine g_lv [1, 2, 3, 4, 5, 6, 7, 0] rfl ?_
                    exact hF48 μ49
              · refine g_if_eq (tgt := 79) dX12_thieves_72 (by decide) (fun _ => ?_) (fun _ => ?_)
                · refine g_aload_n dX12_thieves_79 1 rfl ?_
                  refine g_getR (b := 146) fl_X12_35 sh_141 (by decide) rfl rfl dX12_thieves_80 ?_
                  refine g_bipush dX12_thieves_83 (v := 13) (by decide) ?_
                  refine g_iload dX12_thieves_85 6 rfl ?_
                  refine g_iadd dX12_thieves_87 ?_
                  refine g_iaload sh_146 dX12_thieves_88 (fun x51 => ?_)
                  refine g_lv [1, 2, 3, 4, 5, 6, 0] rfl ?_
                  exact hF50 x51
                · refine g_iconst dX12_thieves_75 (v := 0) (by decide) ?_
                  refine g_goto (tgt := 89) dX12_thieves_76 (by decide) ?_
                  refine g_lv [1, 2, 3, 4, 5, 6, 0] rfl ?_
                  exact hF50 0
            · refine g_goto (tgt := 150) dX12_thieves_67 (by decide) ?_
              refine g_iinc dX12_thieves_150 6 rfl (v := (v5 + 1)) rfl (by decide) (lv' := [(5, .int (v5 + 1)), (6, .int (if v5 = x2 then (1 : Int32) else 0)), (0, .ref (gb g + 141)), (1, .int v1), (2, .int v2), (3, .int v3), (4, .int v4)]) rfl ?_
              refine g_goto (tgt := 14) dX12_thieves_153 (by decide) ?_
              refine g_lv [2, 3, 4, 5, 6, 0] rfl ?_
              exact ih v3 v4 (v5 + 1) μ
      refine g_same (g_icmp_ne (tgt := 36) dX12_thieves_29 (by decide) (fun c3 => ?_) (fun c3 => ?_))
      · refine g_iconst dX12_thieves_36 (v := 0) (by decide) ?_
        refine g_lv [0, 1, 2, 3, 4, 5] rfl ?_
        exact hJ52 _ (by rw [if_neg c3])
      · refine g_iconst dX12_thieves_32 (v := 1) (by decide) ?_
        refine g_goto (tgt := 37) dX12_thieves_33 (by decide) ?_
        refine g_lv [0, 1, 2, 3, 4, 5] rfl ?_
        exact hJ52 _ (by rw [if_pos c3])
set_option maxHeartbeats 4000000 in
set_option maxRecDepth 100000 in
theorem ok_X12_thieves (g : GG) (dr : Nat) (F : Nat) (rc_X12_watches : Int32 → Mm → Option (Int32 × Mm)) (v1 : Int32) (v2 : Int32)  (hr_X12_watches : ∀ (v1 : Int32) (μ : Mm), Ct g yX12_watches cX12_watches 7 (some (.int)) dr cvI [.ref (gb g + 141), .int v1] μ (rc_X12_watches v1 μ)) (μ : Mm) : Ct g yX12_thieves cX12_thieves 9 (some (.int)) (dr + 3) cvI [.ref (gb g + 141), .int v1, .int v2] μ (f_X12_thieves F rc_X12_watches v1 v2 μ) := by
  refine ct_I (by decide +kernel) (Nat.le_of_ble_eq_true rfl) (show Go g RX12 cX12_thieves 9 .ireturn (dr + 3) cvI 0 [(0, .ref (gb g + 141)), (1, .int v1), (2, .int v2)] [] μ (f_X12_thieves F rc_X12_watches v1 v2 μ) from ?_)
  unfold f_X12_thieves
  refine g_iload_n dX12_thieves_0 1 rfl ?_
  refine g_if_ne (tgt := 6) dX12_thieves_1 (by decide) (fun _ => ?_) (fun _ => ?_)
  · refine g_iconst dX12_thieves_6 (v := (-1)) (by decide) ?_
    refine g_istore_n dX12_thieves_7 rfl (by decide) (lv' := [(3, .int (-1)), (0, .ref (gb g + 141)), (1, .int v1), (2, .int v2)]) rfl ?_
    refine g_iconst dX12_thieves_8 (v := (-1)) (by decide) ?_
    refine g_istore dX12_thieves_9 (by decide) (lv' := [(4, .int (-1)), (3, .int (-1)), (0, .ref (gb g + 141)), (1, .int v1), (2, .int v2)]) rfl ?_
    refine g_iconst dX12_thieves_11 (v := 0) (by decide) ?_
    refine g_istore dX12_thieves_12 (by decide) (lv' := [(5, .int 0), (4, .int (-1)), (3, .int (-1)), (0, .ref (gb g + 141)), (1, .int v1), (2, .int v2)]) rfl ?_
    refine g_lv [3, 4, 5, 2, 1, 0] rfl ?_
    refine okL_X12_thieves_14 g dr F rc_X12_watches v1 v2 _ hr_X12_watches (fun u53 u54 μ55 => ?_) F (-1) (-1) 0 μ
    refine g_iload_n dX12_thieves_156 1 rfl ?_
    refine g_if_eq (tgt := 166) dX12_thieves_157 (by decide) (fun _ => ?_) (fun _ => ?_)
    · refine g_iload_n dX12_thieves_166 2 rfl ?_
      exact g_ret dX12_thieves_167 rfl rfl
    · refine g_aload_n dX12_thieves_160 0 rfl ?_
      refine g_iload dX12_thieves_161 3 rfl ?_
      refine g_putI fl_X12_461 sh_141 (by decide) rfl dX12_thieves_163 ?_
      refine g_iload_n dX12_thieves_166 2 rfl ?_
      exact g_ret dX12_thieves_167 rfl rfl
  · refine g_iconst dX12_thieves_4 (v := 0) (by decide) ?_
    exact g_ret dX12_thieves_5 rfl rfl
set_option maxHeartbeats 4000000 in
set_option maxRecDepth 100000 in
theorem okL_X12_watches_13 (g : GG) (dr : Nat) (F : Nat) (rc_X12_thieves : Int32 → Int32 → Mm → Option (Int32 × Mm)) (v1 : Int32) (v3 : Int32) (k : Int32 → Mm → Option (Int32 × Mm))  (hr_X12_thieves : ∀ (v1 : Int32) (v2 : Int32) (μ : Mm), Ct g yX12_thieves cX12_thieves 9 (some (.int)) dr cvI [.ref (gb g + 141), .int v1, .int v2] μ (rc_X12_thieves v1 v2 μ)) (hk : ∀ (v2 : Int32) (μ : Mm), Go g RX12 cX12_watches 7 .ireturn (dr + 5) cvI 77 [(0, .ref (gb g + 141)), (2, .int v2), (3, .int v3)] [] μ (k v2 μ)) : ∀ (n : Nat) (v2 : Int32) (v4 : Int32) (μ : Mm), Go g RX12 cX12_watches 7 .ireturn (dr + 5) cvI 13 [(0, .ref (gb g + 141)), (1, .int v1), (2, .int v2), (3, .int v3), (4, .int v4)] [] μ (L_X12_watches_13 F rc_X12_thieves v1 v3 k n v2 v4 μ) := by
  intro n
  induction n with
  | zero =>
    intro v2 v4 μ
    exact g_none
  | succ n ih =>
    intro v2 v4 μ
    rw [L_X12_watches_13_s]
    refine g_iload dX12_watches_13 4 rfl ?_
    refine g_iconst dX12_watches_15 (v := 4) (by decide) ?_
    refine g_icmp_gt (tgt := 77) dX12_watches_16 (by decide) (fun _ => ?_) (fun _ => ?_)
    · refine g_lv [0, 2, 3] rfl ?_
      exact hk v2 μ
    · refine g_aload_n dX12_watches_19 0 rfl ?_
      refine g_iload_n dX12_watches_20 3 rfl ?_
      refine g_iload dX12_watches_21 4 rfl ?_
      refine g_vIp [.int v3, .int v4] [] mw_X12_362 (ok_X12_wayFrom g v3 v4 μ) (by omega) sh_141 (by decide) rfl rfl (Nat.le_of_ble_eq_true rfl) dX12_watches_23 (fun x2 _ => ?_)
      refine g_istore dX12_watches_26 (by decide) (lv' := [(5, .int x2), (0, .ref (gb g + 141)), (1, .int v1), (2, .int v2), (3, .int v3), (4, .int v4)]) rfl ?_
      refine g_iload dX12_watches_28 0 rfl ?_
      refine g_if_ge (tgt := 36) dX12_watches_30 (by decide) (fun _ => ?_) (fun _ => ?_)
      · refine g_aload_n dX12_watches_36 1 rfl ?_
        refine g_getR (b := 146) fl_X12_35 sh_141 (by decide) rfl rfl dX12_watches_37 ?_
        refine g_bipush dX12_watches_40 (v := 7) (by decide) ?_
        refine g_iload dX12_watches_42 0 rfl ?_
        refine g_iastore sh_146 dX12_watches_44 (fun μ4 => ?_)
        refine g_aload_n dX12_watches_45 1 rfl ?_
        refine g_iload_n dX12_watches_46 2 rfl ?_
        refine g_iconst dX12_watches_47 (v := 1) (by decide) ?_
        refine g_isub dX12_watches_48 ?_
        refine g_iconst dX12_watches_49 (v := 0) (by decide) ?_
        refine g_vI [.int (v1 - (1 : Int32)), .int 0] [] mw_X12_464 (hr_X12_thieves (v1 - (1 : Int32)) 0 μ4) (by omega) sh_141 (by decide) rfl rfl (Nat.le_of_ble_eq_true rfl) dX12_watches_50 (fun x5 μ6 _ => ?_)
        refine g_istore dX12_watches_53 (by decide) (lv' := [(6, .int x5), (5, .int x2), (0, .ref (gb g + 141)), (1, .int v1), (2, .int v2), (3, .int v3), (4, .int v4)]) rfl ?_
        refine g_iload_n dX12_watches_55 4 rfl ?_
        refine g_if_ge (tgt := 64) dX12_watches_56 (by decide) (fun _ => ?_) (fun _ => ?_)
        · refine g_iload_n dX12_watches_64 4 rfl ?_
          refine g_iload dX12_watches_65 0 rfl ?_
          refine g_mmin mw_X12_468 (by omega) (Nat.le_of_ble_eq_true rfl) dX12_watches_67 (fun x8 => ?_)
          refine g_istore_n dX12_watches_70 rfl (by decide) (lv' := [(2, .int x8), (6, .int x5), (5, .int x2), (0, .ref (gb g + 141)), (1, .int v1), (3, .int v3), (4, .int v4)]) rfl ?_
          refine g_iinc dX12_watches_71 6 rfl (v := (v4 + 1)) rfl (by decide) (lv' := [(4, .int (v4 + 1)), (2, .int x8), (6, .int x5), (5, .int x2), (0, .ref (gb g + 141)), (1, .int v1), (3, .int v3)]) rfl ?_
          refine g_goto (tgt := 13) dX12_watches_74 (by decide) ?_
          refine g_lv [4, 5, 1, 6, 0] rfl ?_
          exact ih x8 (v4 + 1) μ6
        · refine g_iload dX12_watches_59 0 rfl ?_
          refine g_goto (tgt := 70) dX12_watches_61 (by decide) ?_
          refine g_istore_n dX12_watches_70 rfl (by decide) (lv' := [(2, .int x5), (6, .int x5), (5, .int x2), (0, .ref (gb g + 141)), (1, .int v1), (3, .int v3), (4, .int v4)]) rfl ?_
          refine g_iinc dX12_watches_71 6 rfl (v := (v4 + 1)) rfl (by decide) (lv' := [(4, .int (v4 + 1)), (2, .int x5), (6, .int x5), (5, .int x2), (0, .ref (gb g + 141)), (1, .int v1), (3, .int v3)]) rfl ?_
          refine g_goto (tgt := 13) dX12_watches_74 (by decide) ?_
          refine g_lv [4, 5, 1, 6, 0] rfl ?_
          exact ih x5 (v4 + 1) μ6
      · refine g_goto (tgt := 71) dX12_watches_33 (by decide) ?_
        refine g_iinc dX12_watches_71 5 rfl (v := (v4 + 1)) rfl (by decide) (lv' := [(4, .int (v4 + 1)), (5, .int x2), (0, .ref (gb g + 141)), (1, .int v1), (2, .int v2), (3, .int v3)]) rfl ?_
        refine g_goto (tgt := 13) dX12_watches_74 (by decide) ?_
        refine g_lv [2, 3, 4, 5, 0] rfl ?_
        exact ih v2 (v4 + 1) μ
set_option maxHeartbeats 4000000 in
set_option maxRecDepth 100000 in
theorem ok_X12_watches (g : GG) (dr : Nat) (F : Nat) (rc_X12_thieves : Int32 → Int32 → Mm → Option (Int32 × Mm)) (v1 : Int32)  (hr_X12_thieves : ∀ (v1 : Int32) (v2 : Int32) (μ : Mm), Ct g yX12_thieves cX12_thieves 9 (some (.int)) dr cvI [.ref (gb g + 141), .int v1, .int v2] μ (rc_X12_thieves v1 v2 μ)) (μ : Mm) : Ct g yX12_watches cX12_watches 7 (some (.int)) (dr + 5) cvI [.ref (gb g + 141), .int v1] μ (f_X12_watches F rc_X12_thieves v1 μ) := by
  refine ct_I (by decide +kernel) (Nat.le_of_ble_eq_true rfl) (show Go g RX12 cX12_watches 7 .ireturn (dr + 5) cvI 0 [(0, .ref (gb g + 141)), (1, .int v1)] [] μ (f_X12_watches F rc_X12_thieves v1 μ) from ?_)
  unfold f_X12_watches
  refine g_iconst dX12_watches_0 (v := (-1)) (by decide) ?_
  refine g_istore_n dX12_watches_1 rfl (by decide) (lv' := [(2, .int (-1)), (0, .ref (gb g + 141)), (1, .int v1)]) rfl ?_
  refine g_aload_n dX12_watches_2 1 rfl ?_
  refine g_getR (b := 146) fl_X12_35 sh_141 (by decide) rfl rfl dX12_watches_3 ?_
  refine g_bipush dX12_watches_6 (v := 7) (by decide) ?_
  refine g_iaload sh_146 dX12_watches_8 (fun x1 => ?_)
  refine g_istore_n dX12_watches_9 rfl (by decide) (lv' := [(3, .int x1), (2, .int (-1)), (0, .ref (gb g + 141)), (1, .int v1)]) rfl ?_
  refine g_iconst dX12_watches_10 (v := 0) (by decide) ?_
  refine g_istore dX12_watches_11 (by decide) (lv' := [(4, .int 0), (3, .int x1), (2, .int (-1)), (0, .ref (gb g + 141)), (1, .int v1)]) rfl ?_
  refine g_lv [3, 4, 2, 1, 0] rfl ?_
  refine okL_X12_watches_13 g dr F rc_X12_thieves v1 x1 _ hr_X12_thieves (fun u9 μ10 => ?_) F (-1) 0 μ
  refine g_aload_n dX12_watches_77 0 rfl ?_
  refine g_getR (b := 146) fl_X12_35 sh_141 (by decide) rfl rfl dX12_watches_78 ?_
  refine g_bipush dX12_watches_81 (v := 7) (by decide) ?_
  refine g_iload_n dX12_watches_83 2 rfl ?_
  refine g_iastore sh_146 dX12_watches_84 (fun μ11 => ?_)
  refine g_iload_n dX12_watches_85 1 rfl ?_
  exact g_ret dX12_watches_86 rfl rfl
theorem okt_X12_thieves (g : GG) (F : Nat) : ∀ (D : Nat) (v1 : Int32) (v2 : Int32)  (μ : Mm), Ct g yX12_thieves cX12_thieves 9 (some (.int)) (D * 8) cvI [.ref (gb g + 141), .int v1, .int v2] μ (t_X12_thieves F D v1 v2 μ) := by
  intro D
  induction D with
  | zero =>
    intro v1 v2 μ r hr
    cases hr
  | succ D ih =>
    intro v1 v2 μ
    rw [t_X12_thieves_s, show (D + 1) * 8 = D * 8 + 8 by omega]
    exact ok_X12_thieves g (D * 8 + 5) F (f_X12_watches F (t_X12_thieves F D)) v1 v2 (fun v1 μ => ok_X12_watches g (D * 8) F (t_X12_thieves F D) v1 (fun v1 v2 μ => ih v1 v2 μ) μ) μ
theorem okt_X12_watches (g : GG) (F : Nat) (D : Nat) (v1 : Int32)  (μ : Mm) : Ct g yX12_watches cX12_watches 7 (some (.int)) (D * 8 + 5) cvI [.ref (gb g + 141), .int v1] μ (t_X12_watches F D v1 μ) :=
  ok_X12_watches g (D * 8) F (t_X12_thieves F D) v1 (fun v1 v2 μ => okt_X12_thieves g F D v1 v2 μ) μ
set_option maxHeartbeats 4000000 in
set_option maxRecDepth 100000 in
theorem ok_X12_whyNoGame (g : GG) (v1 : Int32) (v2 : Int32)  (μ : Mm) : Ct g yX12_whyNoGame cX12_whyNoGame 3 (some (.int)) 2 (cvIp μ) [.ref (gb g + 141), .int v1, .int v2] μ (f_X12_whyNoGame v1 v2 μ) := by
  refine ct_Ip (by decide +kernel) (Nat.le_of_ble_eq_true rfl) (show Go g RX12 cX12_whyNoGame 3 .ireturn 2 (cvIp μ) 0 [(0, .ref (gb g + 141)), (1, .int v1), (2, .int v2)] [] μ (f_X12_whyNoGame v1 v2 μ) from ?_)
  unfold f_X12_whyNoGame
  refine g_iload_n dX12_whyNoGame_0 1 rfl ?_
  refine g_i2l dX12_whyNoGame_1 ?_
  refine g_iload_n dX12_whyNoGame_2 2 rfl ?_
  refine g_i2l dX12_whyNoGame_3 ?_
  refine g_ldc2 kl_X12_471 dX12_whyNoGame_4 ?_
  refine g_sZp [.long (v1.toInt64), .long (v2.toInt64), .long 2] [] mw_X12_107 (ok_X12_isIn g (v1.toInt64) (v2.toInt64) 2 μ) (by omega) rfl rfl (Nat.le_of_ble_eq_true rfl) dX12_whyNoGame_7 (fun x1 _ => ?_)
  refine g_ifneB (tgt := 17) dX12_whyNoGame_10 (by decide) (fun _ => ?_) (fun _ => ?_)
  · refine g_aload_n dX12_whyNoGame_17 0 rfl ?_
    refine g_getR (b := 146) fl_X12_35 sh_141 (by decide) rfl rfl dX12_whyNoGame_18 ?_
    refine g_iconst dX12_whyNoGame_21 (v := 0) (by decide) ?_
    refine g_iaload sh_146 dX12_whyNoGame_22 (fun x3 => ?_)
    have hJ6 : ∀ (w5 : Int32), w5 = (if x3 = 0 then (8 : Int32) else 0) → Go g RX12 cX12_whyNoGame 3 .ireturn 2 (cvIp μ) 32 [] [.int w5] μ (some (if x3 = 0 then (8 : Int32) else 0)) := by
      intro w5 ew5
      subst ew5
      exact g_ret dX12_whyNoGame_32 rfl rfl
    refine g_same (g_if_ne (tgt := 31) dX12_whyNoGame_23 (by decide) (fun c4 => ?_) (fun c4 => ?_))
    · refine g_iconst dX12_whyNoGame_31 (v := 0) (by decide) ?_
      refine g_lv [] rfl ?_
      exact hJ6 _ (by rw [if_neg c4])
    · refine g_bipush dX12_whyNoGame_26 (v := 8) (by decide) ?_
      refine g_goto (tgt := 32) dX12_whyNoGame_28 (by decide) ?_
      refine g_lv [] rfl ?_
      exact hJ6 _ (by rw [if_pos c4])
  · refine g_iconst dX12_whyNoGame_13 (v := 5) (by decide) ?_
    refine g_goto (tgt := 32) dX12_whyNoGame_14 (by decide) ?_
    exact g_ret dX12_whyNoGame_32 rfl rfl
set_option maxHeartbeats 4000000 in
set_option maxRecDepth 100000 in
theorem ok_X12_game (g : GG) (F : Nat) (v1 : Int32)  (μ : Mm) : Ct g yX12_game cX12_game 2 (some (.int)) 73 cvI [.ref (gb g + 141), .int v1] μ (f_X12_game F v1 μ) := by
  refine ct_I (by decide +kernel) (Nat.le_of_ble_eq_true rfl) (show Go g RX12 cX12_game 2 .ireturn 73 cvI 0 [(0, .ref (gb g + 141)), (1, .int v1)] [] μ (f_X12_game F v1 μ) from ?_)
  unfold f_X12_game
  refine g_aload_n dX12_game_0 0 rfl ?_
  refine g_iconst dX12_game_1 (v := 0) (by decide) ?_
  refine g_putI fl_X12_72 sh_141 (by decide) rfl dX12_game_2 ?_
  refine g_aload_n dX12_game_5 0 rfl ?_
  refine g_aload_n dX12_game_6 0 rfl ?_
  refine g_iload_n dX12_game_7 1 rfl ?_
  refine g_iconst dX12_game_8 (v := 0) (by decide) ?_
  refine g_vIp [.int v1, .int 0] [.ref (gb g + 141)] mw_X12_473 (ok_X12_whyNoGame g v1 0 (sI μ 141 1 0)) (by omega) sh_141 (by decide) rfl rfl (Nat.le_of_ble_eq_true rfl) dX12_game_9 (fun x1 _ => ?_)
  refine g_putI fl_X12_75 sh_141 (by decide) rfl dX12_game_12 ?_
  refine g_aload_n dX12_game_15 0 rfl ?_
  refine g_getI fl_X12_75 sh_141 (by decide) rfl dX12_game_16 ?_
  refine g_if_le (tgt := 26) dX12_game_19 (by decide) (fun _ => ?_) (fun _ => ?_)
  · refine g_aload_n dX12_game_26 0 rfl ?_
    refine g_iload_n dX12_game_27 1 rfl ?_
    refine g_iconst dX12_game_28 (v := 1) (by decide) ?_
    refine g_vI [.int v1, .int 1] [] mw_X12_464 (okt_X12_thieves g F 9 v1 1 (sI (sI μ 141 1 0) 141 0 x1)) (by omega) sh_141 (by decide) rfl rfl (Nat.le_of_ble_eq_true rfl) dX12_game_29 (fun x3 μ4 _ => ?_)
    exact g_ret dX12_game_32 rfl rfl
  · refine g_iconst dX12_game_22 (v := (-1)) (by decide) ?_
    refine g_goto (tgt := 32) dX12_game_23 (by decide) ?_
    exact g_ret dX12_game_32 rfl rfl
set_option maxHeartbeats 4000000 in
set_option maxRecDepth 100000 in
theorem ok_X12_moveOf (g : GG) (F : Nat) (v1 : Int32)  (μ : Mm) : Ct g yX12_moveOf cX12_moveOf 2 (some (.int)) 73 cvI [.ref (gb g + 141), .int v1] μ (f_X12_moveOf F v1 μ) := by
  refine ct_I (by decide +kernel) (Nat.le_of_ble_eq_true rfl) (show Go g RX12 cX12_moveOf 2 .ireturn 73 cvI 0 [(0, .ref (gb g + 141)), (1, .int v1)] [] μ (f_X12_moveOf F v1 μ) from ?_)
  unfold f_X12_moveOf
  refine g_aload_n dX12_moveOf_0 0 rfl ?_
  refine g_iconst dX12_moveOf_1 (v := 0) (by decide) ?_
  refine g_putI fl_X12_72 sh_141 (by decide) rfl dX12_moveOf_2 ?_
  refine g_aload_n dX12_moveOf_5 0 rfl ?_
  refine g_aload_n dX12_moveOf_6 0 rfl ?_
  refine g_iload_n dX12_moveOf_7 1 rfl ?_
  refine g_iconst dX12_moveOf_8 (v := 1) (by decide) ?_
  refine g_vIp [.int v1, .int 1] [.ref (gb g + 141)] mw_X12_473 (ok_X12_whyNoGame g v1 1 (sI μ 141 1 0)) (by omega) sh_141 (by decide) rfl rfl (Nat.le_of_ble_eq_true rfl) dX12_moveOf_9 (fun x1 _ => ?_)
  refine g_putI fl_X12_75 sh_141 (by decide) rfl dX12_moveOf_12 ?_
  refine g_aload_n dX12_moveOf_15 0 rfl ?_
  refine g_getI fl_X12_75 sh_141 (by decide) rfl dX12_moveOf_16 ?_
  refine g_if_le (tgt := 24) dX12_moveOf_19 (by decide) (fun _ => ?_) (fun _ => ?_)
  · refine g_aload_n dX12_moveOf_24 0 rfl ?_
    refine g_iload_n dX12_moveOf_25 1 rfl ?_
    refine g_iconst dX12_moveOf_26 (v := 1) (by decide) ?_
    refine g_vI [.int v1, .int 1] [] mw_X12_464 (okt_X12_thieves g F 9 v1 1 (sI (sI μ 141 1 0) 141 0 x1)) (by omega) sh_141 (by decide) rfl rfl (Nat.le_of_ble_eq_true rfl) dX12_moveOf_27 (fun x2 μ3 _ => ?_)
    refine g_pop dX12_moveOf_30 rfl ?_
    refine g_aload_n dX12_moveOf_31 0 rfl ?_
    refine g_getI fl_X12_461 sh_141 (by decide) rfl dX12_moveOf_32 ?_
    refine g_aload_n dX12_moveOf_35 0 rfl ?_
    refine g_vIp [] [.int (mI μ3 141 37)] mw_X12_301 (ok_X12_cells g μ3) (by omega) sh_141 (by decide) rfl rfl (Nat.le_of_ble_eq_true rfl) dX12_moveOf_36 (fun x4 _ => ?_)
    refine g_icmp_ne (tgt := 51) dX12_moveOf_39 (by decide) (fun _ => ?_) (fun _ => ?_)
    · refine g_aload_n dX12_moveOf_51 0 rfl ?_
      refine g_getI fl_X12_461 sh_141 (by decide) rfl dX12_moveOf_52 ?_
      exact g_ret dX12_moveOf_55 rfl rfl
    · refine g_aload_n dX12_moveOf_42 0 rfl ?_
      refine g_bipush dX12_moveOf_43 (v := 8) (by decide) ?_
      refine g_vI [.int 8] [] mw_X12_318 (ok_X12_refuse g 8 μ3) (by omega) sh_141 (by decide) rfl rfl (Nat.le_of_ble_eq_true rfl) dX12_moveOf_45 (fun x6 μ7 _ => ?_)
      refine g_goto (tgt := 55) dX12_moveOf_48 (by decide) ?_
      exact g_ret dX12_moveOf_55 rfl rfl
  · refine g_iconst dX12_moveOf_22 (v := (-1)) (by decide) ?_
    exact g_ret dX12_moveOf_23 rfl rfl
set_option maxHeartbeats 4000000 in
set_option maxRecDepth 100000 in
theorem okL_X12_dozes_45 (g : GG) (F : Nat) (v1 : Int32) (v2 : Int32) (v3 : Int64) (k : Mm → Option (Bool × Mm))  (hk : ∀ (μ : Mm), Go g RX12 cX12_dozes 8 .ireturn 3 cvZ 75 [(0, .ref (gb g + 141)), (1, .int v1), (2, .int v2), (3, .long v3)] [] μ (k μ)) : ∀ (n : Nat) (v5 : Int32) (μ : Mm), Go g RX12 cX12_dozes 8 .ireturn 3 cvZ 45 [(0, .ref (gb g + 141)), (1, .int v1), (2, .int v2), (3, .long v3), (5, .int v5)] [] μ (L_X12_dozes_45 F v1 v2 v3 k n v5 μ) := by
  intro n
  induction n with
  | zero =>
    intro v5 μ
    exact g_none
  | succ n ih =>
    intro v5 μ
    rw [L_X12_dozes_45_s]
    refine g_iload dX12_dozes_45 4 rfl ?_
    refine g_bipush dX12_dozes_47 (v := 12) (by decide) ?_
    refine g_icmp_gt (tgt := 75) dX12_dozes_49 (by decide) (fun _ => ?_) (fun _ => ?_)
    · refine g_lv [0, 1, 2, 3] rfl ?_
      exact hk μ
    · refine g_aload_n dX12_dozes_52 0 rfl ?_
      refine g_getR (b := 155) fl_X12_62 sh_141 (by decide) rfl rfl dX12_dozes_53 ?_
      refine g_iload dX12_dozes_56 4 rfl ?_
      refine g_iload dX12_dozes_58 4 rfl ?_
      have hJ8 : ∀ (w6 : Int64), w6 = (if v5 = 0 then (1 : Int64) else 0) → Go g RX12 cX12_dozes 8 .ireturn 3 cvZ 68 [(0, .ref (gb g + 141)), (1, .int v1), (2, .int v2), (3, .long v3), (5, .int v5)] [.long w6, .int v5, .ref (gb g + 155)] μ ((wrL μ 155 13 v5 (if v5 = 0 then (1 : Int64) else 0)).bind fun μ7 => L_X12_dozes_45 F v1 v2 v3 k n (v5 + 1) μ7) := by
        intro w6 ew6
        subst ew6
        refine g_lastore sh_155 dX12_dozes_68 (fun μ7 => ?_)
        refine g_iinc dX12_dozes_69 4 rfl (v := (v5 + 1)) rfl (by decide) (lv' := [(5, .int (v5 + 1)), (0, .ref (gb g + 141)), (1, .int v1), (2, .int v2), (3, .long v3)]) rfl ?_
        refine g_goto (tgt := 45) dX12_dozes_72 (by decide) ?_
        refine g_lv [1, 2, 3, 4, 0] rfl ?_
        exact ih (v5 + 1) μ7
      refine g_same (g_if_ne (tgt := 67) dX12_dozes_60 (by decide) (fun c5 => ?_) (fun c5 => ?_))
      · refine g_lconst dX12_dozes_67 (v := 0) (by decide) ?_
        refine g_lv [0, 1, 2, 3, 4] rfl ?_
        exact hJ8 _ (by rw [if_neg c5])
      · refine g_lconst dX12_dozes_63 (v := 1) (by decide) ?_
        refine g_goto (tgt := 68) dX12_dozes_64 (by decide) ?_
        refine g_lv [0, 1, 2, 3, 4] rfl ?_
        exact hJ8 _ (by rw [if_pos c5])
set_option maxHeartbeats 4000000 in
set_option maxRecDepth 100000 in
theorem okL_X12_dozes_88 (g : GG) (F : Nat) (v1 : Int32) (v2 : Int32) (v3 : Int64) (v5 : Int32) (k : Mm → Option (Bool × Mm))  (hk : ∀ (μ : Mm), Go g RX12 cX12_dozes 8 .ireturn 3 cvZ 142 [(0, .ref (gb g + 141)), (1, .int v1), (2, .int v2), (3, .long v3), (5, .int v5)] [] μ (k μ)) : ∀ (n : Nat) (v6 : Int32) (μ : Mm), Go g RX12 cX12_dozes 8 .ireturn 3 cvZ 88 [(0, .ref (gb g + 141)), (1, .int v1), (2, .int v2), (3, .long v3), (5, .int v5), (6, .int v6)] [] μ (L_X12_dozes_88 F v1 v2 v3 v5 k n v6 μ) := by
  intro n
  induction n with
  | zero =>
    intro v6 μ
    exact g_none
  | succ n ih =>
    intro v6 μ
    rw [L_X12_dozes_88_s]
    refine g_iload dX12_dozes_88 5 rfl ?_
    refine g_if_le (tgt := 142) dX12_dozes_90 (by decide) (fun _ => ?_) (fun _ => ?_)
    · refine g_lv [0, 1, 2, 3, 4] rfl ?_
      exact hk μ
    · refine g_aload_n dX12_dozes_93 0 rfl ?_
      refine g_getR (b := 155) fl_X12_62 sh_141 (by decide) rfl rfl dX12_dozes_94 ?_
      refine g_iload dX12_dozes_97 5 rfl ?_
      refine g_aload_n dX12_dozes_99 0 rfl ?_
      refine g_getR (b := 155) fl_X12_62 sh_141 (by decide) rfl rfl dX12_dozes_100 ?_
      refine g_iload dX12_dozes_103 5 rfl ?_
      refine g_laload sh_155 dX12_dozes_105 (fun x10 => ?_)
      refine g_bipush dX12_dozes_106 (v := 16) (by decide) ?_
      refine g_aload_n dX12_dozes_108 0 rfl ?_
      refine g_getR (b := 146) fl_X12_35 sh_141 (by decide) rfl rfl dX12_dozes_109 ?_
      refine g_iconst dX12_dozes_112 (v := 4) (by decide) ?_
      refine g_iaload sh_146 dX12_dozes_113 (fun x11 => ?_)
      refine g_isub dX12_dozes_114 ?_
      refine g_i2l dX12_dozes_115 ?_
      refine g_lmul dX12_dozes_116 ?_
      refine g_aload_n dX12_dozes_117 0 rfl ?_
      refine g_getR (b := 155) fl_X12_62 sh_141 (by decide) rfl rfl dX12_dozes_118 ?_
      refine g_iload dX12_dozes_121 5 rfl ?_
      refine g_iconst dX12_dozes_123 (v := 1) (by decide) ?_
      refine g_isub dX12_dozes_124 ?_
      refine g_laload sh_155 dX12_dozes_125 (fun x12 => ?_)
      refine g_aload_n dX12_dozes_126 0 rfl ?_
      refine g_getR (b := 146) fl_X12_35 sh_141 (by decide) rfl rfl dX12_dozes_127 ?_
      refine g_iconst dX12_dozes_130 (v := 4) (by decide) ?_
      refine g_iaload sh_146 dX12_dozes_131 (fun x13 => ?_)
      refine g_i2l dX12_dozes_132 ?_
      refine g_lmul dX12_dozes_133 ?_
      refine g_ladd dX12_dozes_134 ?_
      refine g_lastore sh_155 dX12_dozes_135 (fun μ14 => ?_)
      refine g_iinc dX12_dozes_136 5 rfl (v := (v6 + (-1))) rfl (by decide) (lv' := [(6, .int (v6 + (-1))), (0, .ref (gb g + 141)), (1, .int v1), (2, .int v2), (3, .long v3), (5, .int v5)]) rfl ?_
      refine g_goto (tgt := 88) dX12_dozes_139 (by decide) ?_
      refine g_lv [1, 2, 3, 4, 5, 0] rfl ?_
      exact ih (v6 + (-1)) μ14
set_option maxHeartbeats 4000000 in
set_option maxRecDepth 100000 in
theorem okL_X12_dozes_78 (g : GG) (F : Nat) (v1 : Int32) (v2 : Int32) (k : Int64 → Mm → Option (Bool × Mm))  (hk : ∀ (v3 : Int64) (μ : Mm), Go g RX12 cX12_dozes 8 .ireturn 3 cvZ 173 [(0, .ref (gb g + 141)), (2, .int v2), (3, .long v3)] [] μ (k v3 μ)) : ∀ (n : Nat) (v3 : Int64) (v5 : Int32) (μ : Mm), Go g RX12 cX12_dozes 8 .ireturn 3 cvZ 78 [(0, .ref (gb g + 141)), (1, .int v1), (2, .int v2), (3, .long v3), (5, .int v5)] [] μ (L_X12_dozes_78 F v1 v2 k n v3 v5 μ) := by
  intro n
  induction n with
  | zero =>
    intro v3 v5 μ
    exact g_none
  | succ n ih =>
    intro v3 v5 μ
    rw [L_X12_dozes_78_s]
    refine g_iload dX12_dozes_78 4 rfl ?_
    refine g_iload_n dX12_dozes_80 1 rfl ?_
    refine g_icmp_ge (tgt := 173) dX12_dozes_81 (by decide) (fun _ => ?_) (fun _ => ?_)
    · refine g_lv [0, 2, 3] rfl ?_
      exact hk v3 μ
    · refine g_bipush dX12_dozes_84 (v := 12) (by decide) ?_
      refine g_istore dX12_dozes_86 (by decide) (lv' := [(6, .int 12), (0, .ref (gb g + 141)), (1, .int v1), (2, .int v2), (3, .long v3), (5, .int v5)]) rfl ?_
      refine g_lv [1, 2, 3, 4, 5, 0] rfl ?_
      refine okL_X12_dozes_88 g F v1 v2 v3 v5 _ (fun μ15 => ?_) F 12 μ
      refine g_aload_n dX12_dozes_142 0 rfl ?_
      refine g_getR (b := 155) fl_X12_62 sh_141 (by decide) rfl rfl dX12_dozes_143 ?_
      refine g_iconst dX12_dozes_146 (v := 0) (by decide) ?_
      refine g_dup2 dX12_dozes_147 rfl rfl ?_
      refine g_laload sh_155 dX12_dozes_148 (fun x16 => ?_)
      refine g_bipush dX12_dozes_149 (v := 16) (by decide) ?_
      refine g_aload_n dX12_dozes_151 0 rfl ?_
      refine g_getR (b := 146) fl_X12_35 sh_141 (by decide) rfl rfl dX12_dozes_152 ?_
      refine g_iconst dX12_dozes_155 (v := 4) (by decide) ?_
      refine g_iaload sh_146 dX12_dozes_156 (fun x17 => ?_)
      refine g_isub dX12_dozes_157 ?_
      refine g_i2l dX12_dozes_158 ?_
      refine g_lmul dX12_dozes_159 ?_
      refine g_lastore sh_155 dX12_dozes_160 (fun μ18 => ?_)
      refine g_lload_n dX12_dozes_161 3 rfl ?_
      refine g_ldc2 kl_X12_381 dX12_dozes_162 ?_
      refine g_lmul dX12_dozes_165 ?_
      refine g_lstore_n dX12_dozes_166 rfl (by decide) (lv' := [(3, .long (v3 * (16 : Int64))), (0, .ref (gb g + 141)), (1, .int v1), (2, .int v2), (5, .int v5)]) rfl ?_
      refine g_iinc dX12_dozes_167 4 rfl (v := (v5 + 1)) rfl (by decide) (lv' := [(5, .int (v5 + 1)), (3, .long (v3 * (16 : Int64))), (0, .ref (gb g + 141)), (1, .int v1), (2, .int v2)]) rfl ?_
      refine g_goto (tgt := 78) dX12_dozes_170 (by decide) ?_
      refine g_lv [2, 3, 4, 1, 0] rfl ?_
      exact ih (v3 * (16 : Int64)) (v5 + 1) μ18
set_option maxHeartbeats 4000000 in
set_option maxRecDepth 100000 in
theorem okL_X12_dozes_179 (g : GG) (F : Nat) (v3 : Int64) (k : Int64 → Option (Bool × Mm)) (μ : Mm)  (hk : ∀ (v5 : Int64), Go g RX12 cX12_dozes 8 .ireturn 3 cvZ 204 [(0, .ref (gb g + 141)), (3, .long v3), (5, .long v5)] [] μ (k v5)) : ∀ (n : Nat) (v5 : Int64) (v7 : Int32), Go g RX12 cX12_dozes 8 .ireturn 3 cvZ 179 [(0, .ref (gb g + 141)), (3, .long v3), (5, .long v5), (7, .int v7)] [] μ (L_X12_dozes_179 F v3 k μ n v5 v7) := by
  intro n
  induction n with
  | zero =>
    intro v5 v7
    exact g_none
  | succ n ih =>
    intro v5 v7
    rw [L_X12_dozes_179_s]
    refine g_iload dX12_dozes_179 3 rfl ?_
    refine g_bipush dX12_dozes_181 (v := 12) (by decide) ?_
    refine g_icmp_gt (tgt := 204) dX12_dozes_183 (by decide) (fun _ => ?_) (fun _ => ?_)
    · refine g_lv [0, 1, 2] rfl ?_
      exact hk v5
    · refine g_lload dX12_dozes_186 2 rfl ?_
      refine g_aload_n dX12_dozes_188 0 rfl ?_
      refine g_getR (b := 155) fl_X12_62 sh_141 (by decide) rfl rfl dX12_dozes_189 ?_
      refine g_iload dX12_dozes_192 3 rfl ?_
      refine g_laload sh_155 dX12_dozes_194 (fun x21 => ?_)
      refine g_ladd dX12_dozes_195 ?_
      refine g_lstore dX12_dozes_196 (by decide) (lv' := [(5, .long (v5 + x21)), (0, .ref (gb g + 141)), (3, .long v3), (7, .int v7)]) rfl ?_
      refine g_iinc dX12_dozes_198 3 rfl (v := (v7 + 1)) rfl (by decide) (lv' := [(7, .int (v7 + 1)), (5, .long (v5 + x21)), (0, .ref (gb g + 141)), (3, .long v3)]) rfl ?_
      refine g_goto (tgt := 179) dX12_dozes_201 (by decide) ?_
      refine g_lv [2, 3, 1, 0] rfl ?_
      exact ih (v5 + x21) (v7 + 1)
set_option maxHeartbeats 4000000 in
set_option maxRecDepth 100000 in
theorem ok_X12_dozes (g : GG) (F : Nat) (v1 : Int32) (v2 : Int32)  (μ : Mm) : Ct g yX12_dozes cX12_dozes 8 (some (.boolean)) 3 cvZ [.ref (gb g + 141), .int v1, .int v2] μ (f_X12_dozes F v1 v2 μ) := by
  refine ct_Z (by decide +kernel) (Nat.le_of_ble_eq_true rfl) (show Go g RX12 cX12_dozes 8 .ireturn 3 cvZ 0 [(0, .ref (gb g + 141)), (1, .int v1), (2, .int v2)] [] μ (f_X12_dozes F v1 v2 μ) from ?_)
  unfold f_X12_dozes
  refine g_aload_n dX12_dozes_0 0 rfl ?_
  refine g_iconst dX12_dozes_1 (v := 0) (by decide) ?_
  refine g_putI fl_X12_72 sh_141 (by decide) rfl dX12_dozes_2 ?_
  refine g_aload_n dX12_dozes_5 0 rfl ?_
  refine g_iconst dX12_dozes_6 (v := 0) (by decide) ?_
  refine g_putI fl_X12_75 sh_141 (by decide) rfl dX12_dozes_7 ?_
  refine g_iload_n dX12_dozes_10 1 rfl ?_
  refine g_i2l dX12_dozes_11 ?_
  refine g_lconst dX12_dozes_12 (v := 0) (by decide) ?_
  refine g_ldc2 kl_X12_476 dX12_dozes_13 ?_
  refine g_sZp [.long (v1.toInt64), .long 0, .long 12] [] mw_X12_107 (ok_X12_isIn g (v1.toInt64) 0 12 (sI (sI μ 141 1 0) 141 0 0)) (by omega) rfl rfl (Nat.le_of_ble_eq_true rfl) dX12_dozes_16 (fun x1 _ => ?_)
  refine g_ifeqB (tgt := 34) dX12_dozes_19 (by decide) (fun _ => ?_) (fun _ => ?_)
  · refine g_aload_n dX12_dozes_34 0 rfl ?_
    refine g_iconst dX12_dozes_35 (v := 5) (by decide) ?_
    refine g_vZ [.int 5] [] mw_X12_87 (ok_X12_no g 5 (sI (sI μ 141 1 0) 141 0 0)) (by omega) sh_141 (by decide) rfl rfl (Nat.le_of_ble_eq_true rfl) dX12_dozes_36 (fun x2 μ3 _ => ?_)
    exact g_ret dX12_dozes_39 rfl rfl
  · refine g_iload_n dX12_dozes_22 2 rfl ?_
    refine g_i2l dX12_dozes_23 ?_
    refine g_lconst dX12_dozes_24 (v := 0) (by decide) ?_
    refine g_ldc2 kl_X12_476 dX12_dozes_25 ?_
    refine g_sZp [.long (v2.toInt64), .long 0, .long 12] [] mw_X12_107 (ok_X12_isIn g (v2.toInt64) 0 12 (sI (sI μ 141 1 0) 141 0 0)) (by omega) rfl rfl (Nat.le_of_ble_eq_true rfl) dX12_dozes_28 (fun x4 _ => ?_)
    refine g_ifneB (tgt := 40) dX12_dozes_31 (by decide) (fun _ => ?_) (fun _ => ?_)
    · refine g_lconst dX12_dozes_40 (v := 1) (by decide) ?_
      refine g_lstore_n dX12_dozes_41 rfl (by decide) (lv' := [(3, .long 1), (0, .ref (gb g + 141)), (1, .int v1), (2, .int v2)]) rfl ?_
      refine g_iconst dX12_dozes_42 (v := 0) (by decide) ?_
      refine g_istore dX12_dozes_43 (by decide) (lv' := [(5, .int 0), (3, .long 1), (0, .ref (gb g + 141)), (1, .int v1), (2, .int v2)]) rfl ?_
      refine g_lv [2, 3, 4, 1, 0] rfl ?_
      refine okL_X12_dozes_45 g F v1 v2 1 _ (fun μ9 => ?_) F 0 (sI (sI μ 141 1 0) 141 0 0)
      refine g_iconst dX12_dozes_75 (v := 0) (by decide) ?_
      refine g_istore dX12_dozes_76 (by decide) (lv' := [(5, .int 0), (0, .ref (gb g + 141)), (1, .int v1), (2, .int v2), (3, .long 1)]) rfl ?_
      refine g_lv [1, 2, 3, 4, 0] rfl ?_
      refine okL_X12_dozes_78 g F v1 v2 _ (fun u19 μ20 => ?_) F 1 0 μ9
      refine g_lconst dX12_dozes_173 (v := 0) (by decide) ?_
      refine g_lstore dX12_dozes_174 (by decide) (lv' := [(5, .long 0), (0, .ref (gb g + 141)), (2, .int v2), (3, .long u19)]) rfl ?_
      refine g_iload_n dX12_dozes_176 2 rfl ?_
      refine g_istore dX12_dozes_177 (by decide) (lv' := [(7, .int v2), (5, .long 0), (0, .ref (gb g + 141)), (2, .int v2), (3, .long u19)]) rfl ?_
      refine g_lv [2, 4, 1, 0] rfl ?_
      refine okL_X12_dozes_179 g F u19 _ μ20 (fun u22 => ?_) F 0 v2
      refine g_aload_n dX12_dozes_204 0 rfl ?_
      refine g_lload dX12_dozes_205 2 rfl ?_
      refine g_lload_n dX12_dozes_207 1 rfl ?_
      refine g_vZ [.long u22, .long u19] [] mw_X12_478 (ok_X12_fraction g F u22 u19 μ20) (by omega) sh_141 (by decide) rfl rfl (Nat.le_of_ble_eq_true rfl) dX12_dozes_208 (fun x23 μ24 _ => ?_)
      exact g_ret dX12_dozes_211 rfl rfl
    · refine g_aload_n dX12_dozes_34 0 rfl ?_
      refine g_iconst dX12_dozes_35 (v := 5) (by decide) ?_
      refine g_vZ [.int 5] [] mw_X12_87 (ok_X12_no g 5 (sI (sI μ 141 1 0) 141 0 0)) (by omega) sh_141 (by decide) rfl rfl (Nat.le_of_ble_eq_true rfl) dX12_dozes_36 (fun x25 μ26 _ => ?_)
      exact g_ret dX12_dozes_39 rfl rfl
set_option maxHeartbeats 4000000 in
set_option maxRecDepth 100000 in
theorem ok_X12_shame (g : GG) (F : Nat)   (μ : Mm) : Ct g yX12_shame cX12_shame 1 (some (.boolean)) 4 cvZ [.ref (gb g + 141)] μ (f_X12_shame F μ) := by
  refine ct_Z (by decide +kernel) (Nat.le_of_ble_eq_true rfl) (show Go g RX12 cX12_shame 1 .ireturn 4 cvZ 0 [(0, .ref (gb g + 141))] [] μ (f_X12_shame F μ) from ?_)
  unfold f_X12_shame
  refine g_aload_n dX12_shame_0 0 rfl ?_
  refine g_iconst dX12_shame_1 (v := 0) (by decide) ?_
  refine g_putI fl_X12_72 sh_141 (by decide) rfl dX12_shame_2 ?_
  refine g_aload_n dX12_shame_5 0 rfl ?_
  refine g_iconst dX12_shame_6 (v := 0) (by decide) ?_
  refine g_putI fl_X12_75 sh_141 (by decide) rfl dX12_shame_7 ?_
  refine g_aload_n dX12_shame_10 0 rfl ?_
  refine g_vIp [] [] mw_X12_301 (ok_X12_cells g (sI (sI μ 141 1 0) 141 0 0)) (by omega) sh_141 (by decide) rfl rfl (Nat.le_of_ble_eq_true rfl) dX12_shame_11 (fun x1 _ => ?_)
  refine g_if_ne (tgt := 26) dX12_shame_14 (by decide) (fun _ => ?_) (fun _ => ?_)
  · refine g_aload_n dX12_shame_26 0 rfl ?_
    refine g_aload_n dX12_shame_27 0 rfl ?_
    refine g_vIp [] [.ref (gb g + 141)] mw_X12_321 (ok_X12_allWrong g F (sI (sI μ 141 1 0) 141 0 0)) (by omega) sh_141 (by decide) rfl rfl (Nat.le_of_ble_eq_true rfl) dX12_shame_28 (fun x2 _ => ?_)
    refine g_i2l dX12_shame_31 ?_
    refine g_aload_n dX12_shame_32 0 rfl ?_
    refine g_vIp [] [.long (x2.toInt64), .ref (gb g + 141)] mw_X12_301 (ok_X12_cells g (sI (sI μ 141 1 0) 141 0 0)) (by omega) sh_141 (by decide) rfl rfl (Nat.le_of_ble_eq_true rfl) dX12_shame_33 (fun x3 _ => ?_)
    refine g_i2l dX12_shame_36 ?_
    refine g_vZ [.long (x2.toInt64), .long (x3.toInt64)] [] mw_X12_478 (ok_X12_fraction g F (x2.toInt64) (x3.toInt64) (sI (sI μ 141 1 0) 141 0 0)) (by omega) sh_141 (by decide) rfl rfl (Nat.le_of_ble_eq_true rfl) dX12_shame_37 (fun x4 μ5 _ => ?_)
    exact g_ret dX12_shame_40 rfl rfl
  · refine g_aload_n dX12_shame_17 0 rfl ?_
    refine g_bipush dX12_shame_18 (v := 8) (by decide) ?_
    refine g_vZ [.int 8] [] mw_X12_87 (ok_X12_no g 8 (sI (sI μ 141 1 0) 141 0 0)) (by omega) sh_141 (by decide) rfl rfl (Nat.le_of_ble_eq_true rfl) dX12_shame_20 (fun x6 μ7 _ => ?_)
    refine g_goto (tgt := 40) dX12_shame_23 (by decide) ?_
    exact g_ret dX12_shame_40 rfl rfl
set_option maxHeartbeats 4000000 in
set_option maxRecDepth 100000 in
theorem ok_X12_draw (g : GG) (v1 : Int32)  (μ : Mm) : Ct g yX12_draw cX12_draw 2 (some (.int)) 1 cvI [.ref (gb g + 141), .int v1] μ (f_X12_draw v1 μ) := by
  refine ct_I (by decide +kernel) (Nat.le_of_ble_eq_true rfl) (show Go g RX12 cX12_draw 2 .ireturn 1 cvI 0 [(0, .ref (gb g + 141)), (1, .int v1)] [] μ (f_X12_draw v1 μ) from ?_)
  unfold f_X12_draw
  refine g_aload_n dX12_draw_0 0 rfl ?_
  refine g_aload_n dX12_draw_1 0 rfl ?_
  refine g_getI fl_X12_482 sh_141 (by decide) rfl dX12_draw_2 ?_
  refine g_sipush dX12_draw_5 (v := 2971) (by decide) ?_
  refine g_imul dX12_draw_8 ?_
  refine g_sipush dX12_draw_9 (v := 10853) (by decide) ?_
  refine g_iadd dX12_draw_12 ?_
  refine g_ldcw kl_X12_485 dX12_draw_13 ?_
  refine g_irem dX12_draw_16 ?_
  refine g_putI fl_X12_482 sh_141 (by decide) rfl dX12_draw_17 ?_
  refine g_aload_n dX12_draw_20 0 rfl ?_
  refine g_getI fl_X12_482 sh_141 (by decide) rfl dX12_draw_21 ?_
  refine g_bipush dX12_draw_24 (v := 8) (by decide) ?_
  refine g_idiv dX12_draw_26 ?_
  refine g_iload_n dX12_draw_27 1 rfl ?_
  refine g_irem dX12_draw_28 ?_
  exact g_ret dX12_draw_29 rfl rfl
set_option maxHeartbeats 4000000 in
set_option maxRecDepth 100000 in
theorem ok_X12_anyStep (g : GG) (F : Nat) (v1 : Int32)  (μ : Mm) : Ct g yX12_anyStep cX12_anyStep 2 (some (.boolean)) 9 cvZ [.ref (gb g + 141), .int v1] μ (f_X12_anyStep F v1 μ) := by
  refine ct_Z (by decide +kernel) (Nat.le_of_ble_eq_true rfl) (show Go g RX12 cX12_anyStep 2 .ireturn 9 cvZ 0 [(0, .ref (gb g + 141)), (1, .int v1)] [] μ (f_X12_anyStep F v1 μ) from ?_)
  unfold f_X12_anyStep
  refine g_aload_n dX12_anyStep_0 0 rfl ?_
  refine g_getR (b := 146) fl_X12_35 sh_141 (by decide) rfl rfl dX12_anyStep_1 ?_
  refine g_iconst dX12_anyStep_4 (v := 0) (by decide) ?_
  refine g_iaload sh_146 dX12_anyStep_5 (fun x1 => ?_)
  refine g_if_eq (tgt := 29) dX12_anyStep_6 (by decide) (fun _ => ?_) (fun _ => ?_)
  · refine g_iconst dX12_anyStep_29 (v := 0) (by decide) ?_
    exact g_ret dX12_anyStep_30 rfl rfl
  · refine g_aload_n dX12_anyStep_9 0 rfl ?_
    refine g_getR (b := 146) fl_X12_35 sh_141 (by decide) rfl rfl dX12_anyStep_10 ?_
    refine g_iconst dX12_anyStep_13 (v := 5) (by decide) ?_
    refine g_iaload sh_146 dX12_anyStep_14 (fun x2 => ?_)
    refine g_sipush dX12_anyStep_15 (v := 9999) (by decide) ?_
    refine g_icmp_ge (tgt := 29) dX12_anyStep_18 (by decide) (fun _ => ?_) (fun _ => ?_)
    · refine g_iconst dX12_anyStep_29 (v := 0) (by decide) ?_
      exact g_ret dX12_anyStep_30 rfl rfl
    · refine g_aload_n dX12_anyStep_21 0 rfl ?_
      refine g_iload_n dX12_anyStep_22 1 rfl ?_
      refine g_vZ [.int v1] [] mw_X12_370 (ok_X12_steps g F v1 μ) (by omega) sh_141 (by decide) rfl rfl (Nat.le_of_ble_eq_true rfl) dX12_anyStep_23 (fun x3 μ4 _ => ?_)
      refine g_ifneB (tgt := 31) dX12_anyStep_26 (by decide) (fun _ => ?_) (fun _ => ?_)
      · refine g_aload_n dX12_anyStep_31 0 rfl ?_
        refine g_dup dX12_anyStep_32 rfl ?_
        refine g_getI fl_X12_486 sh_141 (by decide) rfl dX12_anyStep_33 ?_
        refine g_iconst dX12_anyStep_36 (v := 1) (by decide) ?_
        refine g_iadd dX12_anyStep_37 ?_
        refine g_putI fl_X12_486 sh_141 (by decide) rfl dX12_anyStep_38 ?_
        refine g_aload_n dX12_anyStep_41 0 rfl ?_
        refine g_dup dX12_anyStep_42 rfl ?_
        refine g_getI fl_X12_489 sh_141 (by decide) rfl dX12_anyStep_43 ?_
        refine g_iconst dX12_anyStep_46 (v := 1) (by decide) ?_
        refine g_iadd dX12_anyStep_47 ?_
        refine g_putI fl_X12_489 sh_141 (by decide) rfl dX12_anyStep_48 ?_
        refine g_iconst dX12_anyStep_51 (v := 1) (by decide) ?_
        exact g_ret dX12_anyStep_52 rfl rfl
      · refine g_iconst dX12_anyStep_29 (v := 0) (by decide) ?_
        exact g_ret dX12_anyStep_30 rfl rfl
set_option maxHeartbeats 4000000 in
set_option maxRecDepth 100000 in
theorem okL_X12_anyDozes_18 (g : GG) (F : Nat) (v1 : Int32) (k : Mm → Option (Bool × Mm))  (hk : ∀ (μ : Mm), Go g RX12 cX12_anyDozes 3 .ireturn 8 cvZ 34 [(0, .ref (gb g + 141)), (1, .int v1)] [] μ (k μ)) : ∀ (n : Nat) (v2 : Int32) (μ : Mm), Go g RX12 cX12_anyDozes 3 .ireturn 8 cvZ 18 [(0, .ref (gb g + 141)), (1, .int v1), (2, .int v2)] [] μ (L_X12_anyDozes_18 F v1 k n v2 μ) := by
  intro n
  induction n with
  | zero =>
    intro v2 μ
    exact g_none
  | succ n ih =>
    intro v2 μ
    rw [L_X12_anyDozes_18_s]
    refine g_iload_n dX12_anyDozes_18 2 rfl ?_
    refine g_iload_n dX12_anyDozes_19 1 rfl ?_
    refine g_icmp_ge (tgt := 34) dX12_anyDozes_20 (by decide) (fun _ => ?_) (fun _ => ?_)
    · refine g_lv [0, 1] rfl ?_
      exact hk μ
    · refine g_aload_n dX12_anyDozes_23 0 rfl ?_
      refine g_vZ [] [] mw_X12_365 (ok_X12_goesHour g F μ) (by omega) sh_141 (by decide) rfl rfl (Nat.le_of_ble_eq_true rfl) dX12_anyDozes_24 (fun x2 μ3 _ => ?_)
      refine g_pop dX12_anyDozes_27 rfl ?_
      refine g_iinc dX12_anyDozes_28 2 rfl (v := (v2 + 1)) rfl (by decide) (lv' := [(2, .int (v2 + 1)), (0, .ref (gb g + 141)), (1, .int v1)]) rfl ?_
      refine g_goto (tgt := 18) dX12_anyDozes_31 (by decide) ?_
      refine g_lv [1, 2, 0] rfl ?_
      exact ih (v2 + 1) μ3
set_option maxHeartbeats 4000000 in
set_option maxRecDepth 100000 in
theorem ok_X12_anyDozes (g : GG) (F : Nat) (v1 : Int32)  (μ : Mm) : Ct g yX12_anyDozes cX12_anyDozes 3 (some (.boolean)) 8 cvZ [.ref (gb g + 141), .int v1] μ (f_X12_anyDozes F v1 μ) := by
  refine ct_Z (by decide +kernel) (Nat.le_of_ble_eq_true rfl) (show Go g RX12 cX12_anyDozes 3 .ireturn 8 cvZ 0 [(0, .ref (gb g + 141)), (1, .int v1)] [] μ (f_X12_anyDozes F v1 μ) from ?_)
  unfold f_X12_anyDozes
  refine g_aload_n dX12_anyDozes_0 0 rfl ?_
  refine g_getR (b := 146) fl_X12_35 sh_141 (by decide) rfl rfl dX12_anyDozes_1 ?_
  refine g_iconst dX12_anyDozes_4 (v := 5) (by decide) ?_
  refine g_iaload sh_146 dX12_anyDozes_5 (fun x1 => ?_)
  refine g_iload_n dX12_anyDozes_6 1 rfl ?_
  refine g_iadd dX12_anyDozes_7 ?_
  refine g_sipush dX12_anyDozes_8 (v := 9999) (by decide) ?_
  refine g_icmp_le (tgt := 16) dX12_anyDozes_11 (by decide) (fun _ => ?_) (fun _ => ?_)
  · refine g_iconst dX12_anyDozes_16 (v := 0) (by decide) ?_
    refine g_istore_n dX12_anyDozes_17 rfl (by decide) (lv' := [(2, .int 0), (0, .ref (gb g + 141)), (1, .int v1)]) rfl ?_
    refine g_lv [1, 2, 0] rfl ?_
    refine okL_X12_anyDozes_18 g F v1 _ (fun μ4 => ?_) F 0 μ
    refine g_aload_n dX12_anyDozes_34 0 rfl ?_
    refine g_dup dX12_anyDozes_35 rfl ?_
    refine g_getI fl_X12_489 sh_141 (by decide) rfl dX12_anyDozes_36 ?_
    refine g_iload_n dX12_anyDozes_39 1 rfl ?_
    refine g_iadd dX12_anyDozes_40 ?_
    refine g_putI fl_X12_489 sh_141 (by decide) rfl dX12_anyDozes_41 ?_
    refine g_iconst dX12_anyDozes_44 (v := 1) (by decide) ?_
    exact g_ret dX12_anyDozes_45 rfl rfl
  · refine g_iconst dX12_anyDozes_14 (v := 0) (by decide) ?_
    exact g_ret dX12_anyDozes_15 rfl rfl
