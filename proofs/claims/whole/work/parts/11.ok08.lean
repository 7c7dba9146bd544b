set_option maxHeartbeats 4000000 in
set_option maxRecDepth 100000 in
theorem okL_X12_nights_28 (g : GG) (F : Nat)  (k : Mm → Option (Int32 × Mm))  (hk : ∀ (μ : Mm), Go g RX12 cX12_nights 3 .ireturn 91 cvI 50 [(0, .ref (gb g + 141))] [] μ (k μ)) : ∀ (n : Nat) (μ : Mm), Go g RX12 cX12_nights 3 .ireturn 91 cvI 28 [(0, .ref (gb g + 141))] [] μ (L_X12_nights_28 F k n μ) := by
  intro n
  induction n with
  | zero =>
    intro μ
    exact g_none
  | succ n ih =>
    intro μ
    rw [L_X12_nights_28_s]
    refine g_aload_n dX12_nights_28 0 rfl ?_
    refine g_getI fl_X12_204 sh_141 (by decide) rfl dX12_nights_29 ?_
    refine g_if_ne (tgt := 50) dX12_nights_32 (by decide) (fun _ => ?_) (fun _ => ?_)
    · refine g_lv [0] rfl ?_
      exact hk μ
    · refine g_aload_n dX12_nights_35 0 rfl ?_
      refine g_getI fl_X12_123 sh_141 (by decide) rfl dX12_nights_36 ?_
      refine g_if_eq (tgt := 50) dX12_nights_39 (by decide) (fun _ => ?_) (fun _ => ?_)
      · refine g_lv [0] rfl ?_
        exact hk μ
      · refine g_aload_n dX12_nights_42 0 rfl ?_
        refine g_iconst dX12_nights_43 (v := 0) (by decide) ?_
        refine g_vV [.int 0] [] mw_X12_298 (okt_X12_readStep g F 9 0 μ) (by omega) sh_141 (by decide) rfl rfl (Nat.le_of_ble_eq_true rfl) dX12_nights_44 (fun μ4 _ => ?_)
        refine g_goto (tgt := 28) dX12_nights_47 (by decide) ?_
        refine g_lv [0] rfl ?_
        exact ih μ4
set_option maxHeartbeats 4000000 in
set_option maxRecDepth 100000 in
theorem okL_X12_nights_82 (g : GG) (F : Nat)  (k : Mm → Option (Int32 × Mm))  (hk : ∀ (μ : Mm), Go g RX12 cX12_nights 3 .ireturn 91 cvI 119 [(0, .ref (gb g + 141))] [] μ (k μ)) : ∀ (n : Nat) (v2 : Int32) (μ : Mm), Go g RX12 cX12_nights 3 .ireturn 91 cvI 82 [(0, .ref (gb g + 141)), (2, .int v2)] [] μ (L_X12_nights_82 F k n v2 μ) := by
  intro n
  induction n with
  | zero =>
    intro v2 μ
    exact g_none
  | succ n ih =>
    intro v2 μ
    rw [L_X12_nights_82_s]
    refine g_iload_n dX12_nights_82 1 rfl ?_
    refine g_bipush dX12_nights_83 (v := 9) (by decide) ?_
    refine g_aload_n dX12_nights_85 0 rfl ?_
    refine g_getI fl_X12_292 sh_141 (by decide) rfl dX12_nights_86 ?_
    refine g_imul dX12_nights_89 ?_
    refine g_icmp_ge (tgt := 119) dX12_nights_90 (by decide) (fun _ => ?_) (fun _ => ?_)
    · refine g_lv [0] rfl ?_
      exact hk μ
    · refine g_aload_n dX12_nights_93 0 rfl ?_
      refine g_getR (b := 146) fl_X12_35 sh_141 (by decide) rfl rfl dX12_nights_94 ?_
      refine g_sipush dX12_nights_97 (v := 130) (by decide) ?_
      refine g_iload_n dX12_nights_100 1 rfl ?_
      refine g_iadd dX12_nights_101 ?_
      refine g_aload_n dX12_nights_102 0 rfl ?_
      refine g_getR (b := 146) fl_X12_35 sh_141 (by decide) rfl rfl dX12_nights_103 ?_
      refine g_sipush dX12_nights_106 (v := 1730) (by decide) ?_
      refine g_iload_n dX12_nights_109 1 rfl ?_
      refine g_iadd dX12_nights_110 ?_
      refine g_iaload sh_146 dX12_nights_111 (fun x10 => ?_)
      refine g_iastore sh_146 dX12_nights_112 (fun μ11 => ?_)
      refine g_iinc dX12_nights_113 1 rfl (v := (v2 + 1)) rfl (by decide) (lv' := [(2, .int (v2 + 1)), (0, .ref (gb g + 141))]) rfl ?_
      refine g_goto (tgt := 82) dX12_nights_116 (by decide) ?_
      refine g_lv [1, 0] rfl ?_
      exact ih (v2 + 1) μ11
set_option maxHeartbeats 4000000 in
set_option maxRecDepth 100000 in
theorem ok_X12_nights (g : GG) (F : Nat) (v1 : Int32)  (μ : Mm) : Ct g yX12_nights cX12_nights 3 (some (.int)) 91 cvI [.ref (gb g + 141), .int v1] μ (f_X12_nights F v1 μ) := by
  refine ct_I (by decide +kernel) (Nat.le_of_ble_eq_true rfl) (show Go g RX12 cX12_nights 3 .ireturn 91 cvI 0 [(0, .ref (gb g + 141)), (1, .int v1)] [] μ (f_X12_nights F v1 μ) from ?_)
  unfold f_X12_nights
  refine g_aload_n dX12_nights_0 0 rfl ?_
  refine g_iconst dX12_nights_1 (v := 0) (by decide) ?_
  refine g_putI fl_X12_72 sh_141 (by decide) rfl dX12_nights_2 ?_
  refine g_aload_n dX12_nights_5 0 rfl ?_
  refine g_iconst dX12_nights_6 (v := 0) (by decide) ?_
  refine g_putI fl_X12_75 sh_141 (by decide) rfl dX12_nights_7 ?_
  refine g_aload_n dX12_nights_10 0 rfl ?_
  refine g_iload_n dX12_nights_11 1 rfl ?_
  refine g_sipush dX12_nights_12 (v := 300) (by decide) ?_
  refine g_vZ [.int v1, .int 300] [] mw_X12_271 (ok_X12_starts g F v1 300 (sI (sI μ 141 1 0) 141 0 0)) (by omega) sh_141 (by decide) rfl rfl (Nat.le_of_ble_eq_true rfl) dX12_nights_15 (fun x1 μ2 _ => ?_)
  refine g_ifneB (tgt := 23) dX12_nights_18 (by decide) (fun _ => ?_) (fun _ => ?_)
  · refine g_aload_n dX12_nights_23 0 rfl ?_
    refine g_iconst dX12_nights_24 (v := 0) (by decide) ?_
    refine g_putI fl_X12_292 sh_141 (by decide) rfl dX12_nights_25 ?_
    refine g_lv [0] rfl ?_
    refine okL_X12_nights_28 g F _ (fun μ5 => ?_) F (sI μ2 141 26 0)
    refine g_aload_n dX12_nights_50 0 rfl ?_
    refine g_vZ [] [] mw_X12_280 (ok_X12_isWell g μ5) (by omega) sh_141 (by decide) rfl rfl (Nat.le_of_ble_eq_true rfl) dX12_nights_51 (fun x6 μ7 _ => ?_)
    refine g_ifneB (tgt := 59) dX12_nights_54 (by decide) (fun _ => ?_) (fun _ => ?_)
    · refine g_aload_n dX12_nights_59 0 rfl ?_
      refine g_getR (b := 146) fl_X12_35 sh_141 (by decide) rfl rfl dX12_nights_60 ?_
      refine g_sipush dX12_nights_63 (v := 128) (by decide) ?_
      refine g_iconst dX12_nights_66 (v := 1) (by decide) ?_
      refine g_iastore sh_146 dX12_nights_67 (fun μ8 => ?_)
      refine g_aload_n dX12_nights_68 0 rfl ?_
      refine g_getR (b := 146) fl_X12_35 sh_141 (by decide) rfl rfl dX12_nights_69 ?_
      refine g_sipush dX12_nights_72 (v := 129) (by decide) ?_
      refine g_aload_n dX12_nights_75 0 rfl ?_
      refine g_getI fl_X12_292 sh_141 (by decide) rfl dX12_nights_76 ?_
      refine g_iastore sh_146 dX12_nights_79 (fun μ9 => ?_)
      refine g_iconst dX12_nights_80 (v := 0) (by decide) ?_
      refine g_istore_n dX12_nights_81 rfl (by decide) (lv' := [(2, .int 0), (0, .ref (gb g + 141))]) rfl ?_
      refine g_lv [1, 0] rfl ?_
      refine okL_X12_nights_82 g F _ (fun μ12 => ?_) F 0 μ9
      refine g_aload_n dX12_nights_119 0 rfl ?_
      refine g_getI fl_X12_292 sh_141 (by decide) rfl dX12_nights_120 ?_
      exact g_ret dX12_nights_123 rfl rfl
    · refine g_iconst dX12_nights_57 (v := (-1)) (by decide) ?_
      exact g_ret dX12_nights_58 rfl rfl
  · refine g_iconst dX12_nights_21 (v := (-1)) (by decide) ?_
    exact g_ret dX12_nights_22 rfl rfl
set_option maxHeartbeats 4000000 in
set_option maxRecDepth 100000 in
theorem ok_X12_cells (g : GG)   (μ : Mm) : Ct g yX12_cells cX12_cells 1 (some (.int)) 1 (cvIp μ) [.ref (gb g + 141)] μ (f_X12_cells  μ) := by
  refine ct_Ip (by decide +kernel) (Nat.le_of_ble_eq_true rfl) (show Go g RX12 cX12_cells 1 .ireturn 1 (cvIp μ) 0 [(0, .ref (gb g + 141))] [] μ (f_X12_cells  μ) from ?_)
  unfold f_X12_cells
  refine g_aload_n dX12_cells_0 0 rfl ?_
  refine g_getR (b := 146) fl_X12_35 sh_141 (by decide) rfl rfl dX12_cells_1 ?_
  refine g_iconst dX12_cells_4 (v := 0) (by decide) ?_
  refine g_iaload sh_146 dX12_cells_5 (fun x1 => ?_)
  refine g_aload_n dX12_cells_6 0 rfl ?_
  refine g_getR (b := 146) fl_X12_35 sh_141 (by decide) rfl rfl dX12_cells_7 ?_
  refine g_iconst dX12_cells_10 (v := 2) (by decide) ?_
  refine g_iaload sh_146 dX12_cells_11 (fun x2 => ?_)
  refine g_imul dX12_cells_12 ?_
  exact g_ret dX12_cells_13 rfl rfl
set_option maxHeartbeats 4000000 in
set_option maxRecDepth 100000 in
theorem ok_X12_isCellAt (g : GG) (v1 : Int32)  (μ : Mm) : Ct g yX12_isCellAt cX12_isCellAt 2 (some (.boolean)) 2 (cvZp μ) [.ref (gb g + 141), .int v1] μ (f_X12_isCellAt v1 μ) := by
  refine ct_Zp (by decide +kernel) (Nat.le_of_ble_eq_true rfl) (show Go g RX12 cX12_isCellAt 2 .ireturn 2 (cvZp μ) 0 [(0, .ref (gb g + 141)), (1, .int v1)] [] μ (f_X12_isCellAt v1 μ) from ?_)
  unfold f_X12_isCellAt
  refine g_iload_n dX12_isCellAt_0 1 rfl ?_
  refine g_i2l dX12_isCellAt_1 ?_
  refine g_lconst dX12_isCellAt_2 (v := 0) (by decide) ?_
  refine g_aload_n dX12_isCellAt_3 0 rfl ?_
  refine g_vIp [] [.long 0, .long (v1.toInt64)] mw_X12_301 (ok_X12_cells g μ) (by omega) sh_141 (by decide) rfl rfl (Nat.le_of_ble_eq_true rfl) dX12_isCellAt_4 (fun x1 _ => ?_)
  refine g_iconst dX12_isCellAt_7 (v := 1) (by decide) ?_
  refine g_isub dX12_isCellAt_8 ?_
  refine g_i2l dX12_isCellAt_9 ?_
  refine g_sZp [.long (v1.toInt64), .long 0, .long ((x1 - (1 : Int32)).toInt64)] [] mw_X12_107 (ok_X12_isIn g (v1.toInt64) 0 ((x1 - (1 : Int32)).toInt64) μ) (by omega) rfl rfl (Nat.le_of_ble_eq_true rfl) dX12_isCellAt_10 (fun x2 _ => ?_)
  exact g_ret dX12_isCellAt_13 rfl rfl
set_option maxHeartbeats 4000000 in
set_option maxRecDepth 100000 in
theorem ok_X12_isAccountAt (g : GG) (v1 : Int32)  (μ : Mm) : Ct g yX12_isAccountAt cX12_isAccountAt 2 (some (.boolean)) 2 (cvZp μ) [.ref (gb g + 141), .int v1] μ (f_X12_isAccountAt v1 μ) := by
  refine ct_Zp (by decide +kernel) (Nat.le_of_ble_eq_true rfl) (show Go g RX12 cX12_isAccountAt 2 .ireturn 2 (cvZp μ) 0 [(0, .ref (gb g + 141)), (1, .int v1)] [] μ (f_X12_isAccountAt v1 μ) from ?_)
  unfold f_X12_isAccountAt
  refine g_iload_n dX12_isAccountAt_0 1 rfl ?_
  refine g_i2l dX12_isAccountAt_1 ?_
  refine g_lconst dX12_isAccountAt_2 (v := 0) (by decide) ?_
  refine g_aload_n dX12_isAccountAt_3 0 rfl ?_
  refine g_getR (b := 146) fl_X12_35 sh_141 (by decide) rfl rfl dX12_isAccountAt_4 ?_
  refine g_iconst dX12_isAccountAt_7 (v := 0) (by decide) ?_
  refine g_iaload sh_146 dX12_isAccountAt_8 (fun x1 => ?_)
  refine g_iconst dX12_isAccountAt_9 (v := 1) (by decide) ?_
  refine g_isub dX12_isAccountAt_10 ?_
  refine g_i2l dX12_isAccountAt_11 ?_
  refine g_sZp [.long (v1.toInt64), .long 0, .long ((x1 - (1 : Int32)).toInt64)] [] mw_X12_107 (ok_X12_isIn g (v1.toInt64) 0 ((x1 - (1 : Int32)).toInt64) μ) (by omega) rfl rfl (Nat.le_of_ble_eq_true rfl) dX12_isAccountAt_12 (fun x2 _ => ?_)
  exact g_ret dX12_isAccountAt_15 rfl rfl
set_option maxHeartbeats 4000000 in
set_option maxRecDepth 100000 in
theorem ok_X12_isLawAt (g : GG) (v1 : Int32)  (μ : Mm) : Ct g yX12_isLawAt cX12_isLawAt 2 (some (.boolean)) 2 (cvZp μ) [.ref (gb g + 141), .int v1] μ (f_X12_isLawAt v1 μ) := by
  refine ct_Zp (by decide +kernel) (Nat.le_of_ble_eq_true rfl) (show Go g RX12 cX12_isLawAt 2 .ireturn 2 (cvZp μ) 0 [(0, .ref (gb g + 141)), (1, .int v1)] [] μ (f_X12_isLawAt v1 μ) from ?_)
  unfold f_X12_isLawAt
  refine g_iload_n dX12_isLawAt_0 1 rfl ?_
  refine g_i2l dX12_isLawAt_1 ?_
  refine g_lconst dX12_isLawAt_2 (v := 0) (by decide) ?_
  refine g_aload_n dX12_isLawAt_3 0 rfl ?_
  refine g_getR (b := 146) fl_X12_35 sh_141 (by decide) rfl rfl dX12_isLawAt_4 ?_
  refine g_iconst dX12_isLawAt_7 (v := 1) (by decide) ?_
  refine g_iaload sh_146 dX12_isLawAt_8 (fun x1 => ?_)
  refine g_iconst dX12_isLawAt_9 (v := 1) (by decide) ?_
  refine g_isub dX12_isLawAt_10 ?_
  refine g_i2l dX12_isLawAt_11 ?_
  refine g_sZp [.long (v1.toInt64), .long 0, .long ((x1 - (1 : Int32)).toInt64)] [] mw_X12_107 (ok_X12_isIn g (v1.toInt64) 0 ((x1 - (1 : Int32)).toInt64) μ) (by omega) rfl rfl (Nat.le_of_ble_eq_true rfl) dX12_isLawAt_12 (fun x2 _ => ?_)
  exact g_ret dX12_isLawAt_15 rfl rfl
set_option maxHeartbeats 4000000 in
set_option maxRecDepth 100000 in
theorem ok_X12_isWrong (g : GG) (v1 : Int32)  (μ : Mm) : Ct g yX12_isWrong cX12_isWrong 2 (some (.boolean)) 1 (cvZp μ) [.ref (gb g + 141), .int v1] μ (f_X12_isWrong v1 μ) := by
  refine ct_Zp (by decide +kernel) (Nat.le_of_ble_eq_true rfl) (show Go g RX12 cX12_isWrong 2 .ireturn 1 (cvZp μ) 0 [(0, .ref (gb g + 141)), (1, .int v1)] [] μ (f_X12_isWrong v1 μ) from ?_)
  unfold f_X12_isWrong
  refine g_aload_n dX12_isWrong_0 0 rfl ?_
  refine g_getR (b := 146) fl_X12_35 sh_141 (by decide) rfl rfl dX12_isWrong_1 ?_
  refine g_bipush dX12_isWrong_4 (v := 13) (by decide) ?_
  refine g_iload_n dX12_isWrong_6 1 rfl ?_
  refine g_iadd dX12_isWrong_7 ?_
  refine g_iaload sh_146 dX12_isWrong_8 (fun x1 => ?_)
  refine g_aload_n dX12_isWrong_9 0 rfl ?_
  refine g_getR (b := 146) fl_X12_35 sh_141 (by decide) rfl rfl dX12_isWrong_10 ?_
  refine g_bipush dX12_isWrong_13 (v := 38) (by decide) ?_
  refine g_iload_n dX12_isWrong_15 1 rfl ?_
  refine g_iadd dX12_isWrong_16 ?_
  refine g_iaload sh_146 dX12_isWrong_17 (fun x2 => ?_)
  refine g_icmp_eq (tgt := 25) dX12_isWrong_18 (by decide) (fun _ => ?_) (fun _ => ?_)
  · refine g_iconst dX12_isWrong_25 (v := 0) (by decide) ?_
    exact g_ret dX12_isWrong_26 rfl rfl
  · refine g_iconst dX12_isWrong_21 (v := 1) (by decide) ?_
    refine g_goto (tgt := 26) dX12_isWrong_22 (by decide) ?_
    exact g_ret dX12_isWrong_26 rfl rfl
set_option maxHeartbeats 4000000 in
set_option maxRecDepth 100000 in
theorem okL_X12_wrongOf_4 (g : GG) (F : Nat) (v1 : Int32) (k : Int32 → Option (Int32)) (μ : Mm)  (hk : ∀ (v2 : Int32), Go g RX12 cX12_wrongOf 4 .ireturn 2 (cvIp μ) 42 [(2, .int v2)] [] μ (k v2)) : ∀ (n : Nat) (v2 : Int32) (v3 : Int32), Go g RX12 cX12_wrongOf 4 .ireturn 2 (cvIp μ) 4 [(0, .ref (gb g + 141)), (1, .int v1), (2, .int v2), (3, .int v3)] [] μ (L_X12_wrongOf_4 F v1 k μ n v2 v3) := by
  intro n
  induction n with
  | zero =>
    intro v2 v3
    exact g_none
  | succ n ih =>
    intro v2 v3
    rw [L_X12_wrongOf_4_s]
    refine g_iload_n dX12_wrongOf_4 3 rfl ?_
    refine g_aload_n dX12_wrongOf_5 0 rfl ?_
    refine g_vIp [] [.int v3] mw_X12_301 (ok_X12_cells g μ) (by omega) sh_141 (by decide) rfl rfl (Nat.le_of_ble_eq_true rfl) dX12_wrongOf_6 (fun x1 _ => ?_)
    refine g_icmp_ge (tgt := 42) dX12_wrongOf_9 (by decide) (fun _ => ?_) (fun _ => ?_)
    · refine g_lv [2] rfl ?_
      exact hk v2
    · refine g_iload_n dX12_wrongOf_12 2 rfl ?_
      refine g_iload_n dX12_wrongOf_13 1 rfl ?_
      refine g_iload_n dX12_wrongOf_14 3 rfl ?_
      refine g_sZp [.int v1, .int v3] [.int v2] mw_X12_242 (ok_X12_has g v1 v3 μ) (by omega) rfl rfl (Nat.le_of_ble_eq_true rfl) dX12_wrongOf_15 (fun x2 _ => ?_)
      refine g_ifeqB (tgt := 33) dX12_wrongOf_18 (by decide) (fun _ => ?_) (fun _ => ?_)
      · refine g_iconst dX12_wrongOf_33 (v := 0) (by decide) ?_
        refine g_iadd dX12_wrongOf_34 ?_
        refine g_istore_n dX12_wrongOf_35 rfl (by decide) (lv' := [(2, .int (v2 + (0 : Int32))), (0, .ref (gb g + 141)), (1, .int v1), (3, .int v3)]) rfl ?_
        refine g_iinc dX12_wrongOf_36 3 rfl (v := (v3 + 1)) rfl (by decide) (lv' := [(3, .int (v3 + 1)), (2, .int (v2 + (0 : Int32))), (0, .ref (gb g + 141)), (1, .int v1)]) rfl ?_
        refine g_goto (tgt := 4) dX12_wrongOf_39 (by decide) ?_
        refine g_lv [2, 3, 1, 0] rfl ?_
        exact ih (v2 + (0 : Int32)) (v3 + 1)
      · refine g_aload_n dX12_wrongOf_21 0 rfl ?_
        refine g_iload_n dX12_wrongOf_22 3 rfl ?_
        refine g_vZp [.int v3] [.int v2] mw_X12_304 (ok_X12_isWrong g v3 μ) (by omega) sh_141 (by decide) rfl rfl (Nat.le_of_ble_eq_true rfl) dX12_wrongOf_23 (fun x4 _ => ?_)
        have hJ7 : ∀ (w6 : Int32), w6 = (if x4 = true then (1 : Int32) else 0) → Go g RX12 cX12_wrongOf 4 .ireturn 2 (cvIp μ) 34 [(0, .ref (gb g + 141)), (1, .int v1), (3, .int v3)] [.int w6, .int v2] μ (L_X12_wrongOf_4 F v1 k μ n (v2 + (if x4 = true then (1 : Int32) else 0)) (v3 + 1)) := by
          intro w6 ew6
          subst ew6
          refine g_iadd dX12_wrongOf_34 ?_
          refine g_istore_n dX12_wrongOf_35 rfl (by decide) (lv' := [(2, .int (v2 + (if x4 = true then (1 : Int32) else 0))), (0, .ref (gb g + 141)), (1, .int v1), (3, .int v3)]) rfl ?_
          refine g_iinc dX12_wrongOf_36 3 rfl (v := (v3 + 1)) rfl (by decide) (lv' := [(3, .int (v3 + 1)), (2, .int (v2 + (if x4 = true then (1 : Int32) else 0))), (0, .ref (gb g + 141)), (1, .int v1)]) rfl ?_
          refine g_goto (tgt := 4) dX12_wrongOf_39 (by decide) ?_
          refine g_lv [2, 3, 1, 0] rfl ?_
          exact ih (v2 + (if x4 = true then (1 : Int32) else 0)) (v3 + 1)
        refine g_same (g_ifeqB (tgt := 33) dX12_wrongOf_26 (by decide) (fun c5 => ?_) (fun c5 => ?_))
        · refine g_iconst dX12_wrongOf_33 (v := 0) (by decide) ?_
          refine g_lv [0, 1, 3] rfl ?_
          exact hJ7 _ (by rw [if_neg c5])
        · refine g_iconst dX12_wrongOf_29 (v := 1) (by decide) ?_
          refine g_goto (tgt := 34) dX12_wrongOf_30 (by decide) ?_
          refine g_lv [0, 1, 3] rfl ?_
          exact hJ7 _ (by rw [if_pos c5])
set_option maxHeartbeats 4000000 in
set_option maxRecDepth 100000 in
theorem ok_X12_wrongOf (g : GG) (F : Nat) (v1 : Int32)  (μ : Mm) : Ct g yX12_wrongOf cX12_wrongOf 4 (some (.int)) 2 (cvIp μ) [.ref (gb g + 141), .int v1] μ (f_X12_wrongOf F v1 μ) := by
  refine ct_Ip (by decide +kernel) (Nat.le_of_ble_eq_true rfl) (show Go g RX12 cX12_wrongOf 4 .ireturn 2 (cvIp μ) 0 [(0, .ref (gb g + 141)), (1, .int v1)] [] μ (f_X12_wrongOf F v1 μ) from ?_)
  unfold f_X12_wrongOf
  refine g_iconst dX12_wrongOf_0 (v := 0) (by decide) ?_
  refine g_istore_n dX12_wrongOf_1 rfl (by decide) (lv' := [(2, .int 0), (0, .ref (gb g + 141)), (1, .int v1)]) rfl ?_
  refine g_iconst dX12_wrongOf_2 (v := 0) (by decide) ?_
  refine g_istore_n dX12_wrongOf_3 rfl (by decide) (lv' := [(3, .int 0), (2, .int 0), (0, .ref (gb g + 141)), (1, .int v1)]) rfl ?_
  refine g_lv [2, 3, 1, 0] rfl ?_
  refine okL_X12_wrongOf_4 g F v1 _ μ (fun u8 => ?_) F 0 0
  refine g_iload_n dX12_wrongOf_42 0 rfl ?_
  exact g_ret dX12_wrongOf_43 rfl rfl
set_option maxHeartbeats 4000000 in
set_option maxRecDepth 100000 in
theorem ok_X12_allWrong (g : GG) (F : Nat)   (μ : Mm) : Ct g yX12_allWrong cX12_allWrong 1 (some (.int)) 3 (cvIp μ) [.ref (gb g + 141)] μ (f_X12_allWrong F μ) := by
  refine ct_Ip (by decide +kernel) (Nat.le_of_ble_eq_true rfl) (show Go g RX12 cX12_allWrong 1 .ireturn 3 (cvIp μ) 0 [(0, .ref (gb g + 141))] [] μ (f_X12_allWrong F μ) from ?_)
  unfold f_X12_allWrong
  refine g_aload_n dX12_allWrong_0 0 rfl ?_
  refine g_iconst dX12_allWrong_1 (v := (-1)) (by decide) ?_
  refine g_vIp [.int (-1)] [] mw_X12_307 (ok_X12_wrongOf g F (-1) μ) (by omega) sh_141 (by decide) rfl rfl (Nat.le_of_ble_eq_true rfl) dX12_allWrong_2 (fun x1 _ => ?_)
  exact g_ret dX12_allWrong_5 rfl rfl
set_option maxHeartbeats 4000000 in
set_option maxRecDepth 100000 in
theorem okL_X12_tappedSet_4 (g : GG) (F : Nat)  (k : Int32 → Option (Int32)) (μ : Mm)  (hk : ∀ (v1 : Int32), Go g RX12 cX12_tappedSet 3 .ireturn 2 (cvIp μ) 40 [(1, .int v1)] [] μ (k v1)) : ∀ (n : Nat) (v1 : Int32) (v2 : Int32), Go g RX12 cX12_tappedSet 3 .ireturn 2 (cvIp μ) 4 [(0, .ref (gb g + 141)), (1, .int v1), (2, .int v2)] [] μ (L_X12_tappedSet_4 F k μ n v1 v2) := by
  intro n
  induction n with
  | zero =>
    intro v1 v2
    exact g_none
  | succ n ih =>
    intro v1 v2
    rw [L_X12_tappedSet_4_s]
    refine g_iload_n dX12_tappedSet_4 2 rfl ?_
    refine g_aload_n dX12_tappedSet_5 0 rfl ?_
    refine g_vIp [] [.int v2] mw_X12_301 (ok_X12_cells g μ) (by omega) sh_141 (by decide) rfl rfl (Nat.le_of_ble_eq_true rfl) dX12_tappedSet_6 (fun x1 _ => ?_)
    refine g_icmp_ge (tgt := 40) dX12_tappedSet_9 (by decide) (fun _ => ?_) (fun _ => ?_)
    · refine g_lv [1] rfl ?_
      exact hk v1
    · refine g_iload_n dX12_tappedSet_12 1 rfl ?_
      refine g_aload_n dX12_tappedSet_13 0 rfl ?_
      refine g_getR (b := 146) fl_X12_35 sh_141 (by decide) rfl rfl dX12_tappedSet_14 ?_
      refine g_bipush dX12_tappedSet_17 (v := 63) (by decide) ?_
      refine g_iload_n dX12_tappedSet_19 2 rfl ?_
      refine g_iadd dX12_tappedSet_20 ?_
      refine g_iaload sh_146 dX12_tappedSet_21 (fun x2 => ?_)
      have hJ5 : ∀ (w4 : Int32), w4 = (if x2 ≤ 0 then (0 : Int32) else ((1 : Int32) <<< (v2 &&& 31))) → Go g RX12 cX12_tappedSet 3 .ireturn 2 (cvIp μ) 32 [(0, .ref (gb g + 141)), (2, .int v2)] [.int w4, .int v1] μ (L_X12_tappedSet_4 F k μ n (v1 ||| (if x2 ≤ 0 then (0 : Int32) else ((1 : Int32) <<< (v2 &&& 31)))) (v2 + 1)) := by
        intro w4 ew4
        subst ew4
        refine g_ior dX12_tappedSet_32 ?_
        refine g_istore_n dX12_tappedSet_33 rfl (by decide) (lv' := [(1, .int (v1 ||| (if x2 ≤ 0 then (0 : Int32) else ((1 : Int32) <<< (v2 &&& 31))))), (0, .ref (gb g + 141)), (2, .int v2)]) rfl ?_
        refine g_iinc dX12_tappedSet_34 2 rfl (v := (v2 + 1)) rfl (by decide) (lv' := [(2, .int (v2 + 1)), (1, .int (v1 ||| (if x2 ≤ 0 then (0 : Int32) else ((1 : Int32) <<< (v2 &&& 31))))), (0, .ref (gb g + 141))]) rfl ?_
        refine g_goto (tgt := 4) dX12_tappedSet_37 (by decide) ?_
        refine g_lv [2, 1, 0] rfl ?_
        exact ih (v1 ||| (if x2 ≤ 0 then (0 : Int32) else ((1 : Int32) <<< (v2 &&& 31)))) (v2 + 1)
      refine g_same (g_if_le (tgt := 31) dX12_tappedSet_22 (by decide) (fun c3 => ?_) (fun c3 => ?_))
      · refine g_iconst dX12_tappedSet_31 (v := 0) (by decide) ?_
        refine g_lv [0, 2] rfl ?_
        exact hJ5 _ (by rw [if_pos c3])
      · refine g_iconst dX12_tappedSet_25 (v := 1) (by decide) ?_
        refine g_iload_n dX12_tappedSet_26 2 rfl ?_
        refine g_ishl dX12_tappedSet_27 ?_
        refine g_goto (tgt := 32) dX12_tappedSet_28 (by decide) ?_
        refine g_lv [0, 2] rfl ?_
        exact hJ5 _ (by rw [if_neg c3])
set_option maxHeartbeats 4000000 in
set_option maxRecDepth 100000 in
theorem ok_X12_tappedSet (g : GG) (F : Nat)   (μ : Mm) : Ct g yX12_tappedSet cX12_tappedSet 3 (some (.int)) 2 (cvIp μ) [.ref (gb g + 141)] μ (f_X12_tappedSet F μ) := by
  refine ct_Ip (by decide +kernel) (Nat.le_of_ble_eq_true rfl) (show Go g RX12 cX12_tappedSet 3 .ireturn 2 (cvIp μ) 0 [(0, .ref (gb g + 141))] [] μ (f_X12_tappedSet F μ) from ?_)
  unfold f_X12_tappedSet
  refine g_iconst dX12_tappedSet_0 (v := 0) (by decide) ?_
  refine g_istore_n dX12_tappedSet_1 rfl (by decide) (lv' := [(1, .int 0), (0, .ref (gb g + 141))]) rfl ?_
  refine g_iconst dX12_tappedSet_2 (v := 0) (by decide) ?_
  refine g_istore_n dX12_tappedSet_3 rfl (by decide) (lv' := [(2, .int 0), (1, .int 0), (0, .ref (gb g + 141))]) rfl ?_
  refine g_lv [2, 1, 0] rfl ?_
  refine okL_X12_tappedSet_4 g F _ μ (fun u6 => ?_) F 0 0
  refine g_iload_n dX12_tappedSet_40 0 rfl ?_
  exact g_ret dX12_tappedSet_41 rfl rfl
set_option maxHeartbeats 4000000 in
set_option maxRecDepth 100000 in
theorem okL_X12_sumOf_5 (g : GG) (F : Nat) (v1 : Int32) (v2 : Int32) (k : Int32 → Option (Int32)) (μ : Mm)  (hk : ∀ (v3 : Int32), Go g RX12 cX12_sumOf 5 .ireturn 1 (cvIp μ) 46 [(3, .int v3)] [] μ (k v3)) : ∀ (n : Nat) (v3 : Int32) (v4 : Int32), Go g RX12 cX12_sumOf 5 .ireturn 1 (cvIp μ) 5 [(0, .ref (gb g + 141)), (1, .int v1), (2, .int v2), (3, .int v3), (4, .int v4)] [] μ (L_X12_sumOf_5 F v1 v2 k μ n v3 v4) := by
  intro n
  induction n with
  | zero =>
    intro v3 v4
    exact g_none
  | succ n ih =>
    intro v3 v4
    rw [L_X12_sumOf_5_s]
    refine g_iload dX12_sumOf_5 4 rfl ?_
    refine g_aload_n dX12_sumOf_7 0 rfl ?_
    refine g_getR (b := 146) fl_X12_35 sh_141 (by decide) rfl rfl dX12_sumOf_8 ?_
    refine g_iconst dX12_sumOf_11 (v := 2) (by decide) ?_
    refine g_iaload sh_146 dX12_sumOf_12 (fun x1 => ?_)
    refine g_icmp_ge (tgt := 46) dX12_sumOf_13 (by decide) (fun _ => ?_) (fun _ => ?_)
    · refine g_lv [3] rfl ?_
      exact hk v3
    · refine g_bipush dX12_sumOf_16 (v := 10) (by decide) ?_
      refine g_iload_n dX12_sumOf_18 3 rfl ?_
      refine g_imul dX12_sumOf_19 ?_
      refine g_aload_n dX12_sumOf_20 0 rfl ?_
      refine g_getR (b := 146) fl_X12_35 sh_141 (by decide) rfl rfl dX12_sumOf_21 ?_
      refine g_iload_n dX12_sumOf_24 1 rfl ?_
      refine g_aload_n dX12_sumOf_25 0 rfl ?_
      refine g_getR (b := 146) fl_X12_35 sh_141 (by decide) rfl rfl dX12_sumOf_26 ?_
      refine g_iconst dX12_sumOf_29 (v := 2) (by decide) ?_
      refine g_iaload sh_146 dX12_sumOf_30 (fun x2 => ?_)
      refine g_iload_n dX12_sumOf_31 2 rfl ?_
      refine g_imul dX12_sumOf_32 ?_
      refine g_iadd dX12_sumOf_33 ?_
      refine g_iload dX12_sumOf_34 4 rfl ?_
      refine g_iadd dX12_sumOf_36 ?_
      refine g_iaload sh_146 dX12_sumOf_37 (fun x3 => ?_)
      refine g_iadd dX12_sumOf_38 ?_
      refine g_istore_n dX12_sumOf_39 rfl (by decide) (lv' := [(3, .int (((10 : Int32) * v3) + x3)), (0, .ref (gb g + 141)), (1, .int v1), (2, .int v2), (4, .int v4)]) rfl ?_
      refine g_iinc dX12_sumOf_40 4 rfl (v := (v4 + 1)) rfl (by decide) (lv' := [(4, .int (v4 + 1)), (3, .int (((10 : Int32) * v3) + x3)), (0, .ref (gb g + 141)), (1, .int v1), (2, .int v2)]) rfl ?_
      refine g_goto (tgt := 5) dX12_sumOf_43 (by decide) ?_
      refine g_lv [2, 3, 4, 1, 0] rfl ?_
      exact ih (((10 : Int32) * v3) + x3) (v4 + 1)
set_option maxHeartbeats 4000000 in
set_option maxRecDepth 100000 in
theorem ok_X12_sumOf (g : GG) (F : Nat) (v1 : Int32) (v2 : Int32)  (μ : Mm) : Ct g yX12_sumOf cX12_sumOf 5 (some (.int)) 1 (cvIp μ) [.ref (gb g + 141), .int v1, .int v2] μ (f_X12_sumOf F v1 v2 μ) := by
  refine ct_Ip (by decide +kernel) (Nat.le_of_ble_eq_true rfl) (show Go g RX12 cX12_sumOf 5 .ireturn 1 (cvIp μ) 0 [(0, .ref (gb g + 141)), (1, .int v1), (2, .int v2)] [] μ (f_X12_sumOf F v1 v2 μ) from ?_)
  unfold f_X12_sumOf
  refine g_iconst dX12_sumOf_0 (v := 0) (by decide) ?_
  refine g_istore_n dX12_sumOf_1 rfl (by decide) (lv' := [(3, .int 0), (0, .ref (gb g + 141)), (1, .int v1), (2, .int v2)]) rfl ?_
  refine g_iconst dX12_sumOf_2 (v := 0) (by decide) ?_
  refine g_istore dX12_sumOf_3 (by decide) (lv' := [(4, .int 0), (3, .int 0), (0, .ref (gb g + 141)), (1, .int v1), (2, .int v2)]) rfl ?_
  refine g_lv [2, 3, 4, 1, 0] rfl ?_
  refine okL_X12_sumOf_5 g F v1 v2 _ μ (fun u4 => ?_) F 0 0
  refine g_iload_n dX12_sumOf_46 0 rfl ?_
  exact g_ret dX12_sumOf_47 rfl rfl
set_option maxHeartbeats 4000000 in
set_option maxRecDepth 100000 in
theorem okL_X12_balanced_4 (g : GG) (F : Nat)  (k : Int32 → Option (Int32)) (μ : Mm)  (hk : ∀ (v1 : Int32), Go g RX12 cX12_balanced 3 .ireturn 2 (cvIp μ) 53 [(1, .int v1)] [] μ (k v1)) : ∀ (n : Nat) (v1 : Int32) (v2 : Int32), Go g RX12 cX12_balanced 3 .ireturn 2 (cvIp μ) 4 [(0, .ref (gb g + 141)), (1, .int v1), (2, .int v2)] [] μ (L_X12_balanced_4 F k μ n v1 v2) := by
  intro n
  induction n with
  | zero =>
    intro v1 v2
    exact g_none
  | succ n ih =>
    intro v1 v2
    rw [L_X12_balanced_4_s]
    refine g_iload_n dX12_balanced_4 2 rfl ?_
    refine g_aload_n dX12_balanced_5 0 rfl ?_
    refine g_getR (b := 146) fl_X12_35 sh_141 (by decide) rfl rfl dX12_balanced_6 ?_
    refine g_iconst dX12_balanced_9 (v := 0) (by decide) ?_
    refine g_iaload sh_146 dX12_balanced_10 (fun x1 => ?_)
    refine g_icmp_ge (tgt := 53) dX12_balanced_11 (by decide) (fun _ => ?_) (fun _ => ?_)
    · refine g_lv [1] rfl ?_
      exact hk v1
    · refine g_iload_n dX12_balanced_14 1 rfl ?_
      refine g_aload_n dX12_balanced_15 0 rfl ?_
      refine g_getR (b := 146) fl_X12_35 sh_141 (by decide) rfl rfl dX12_balanced_16 ?_
      refine g_bipush dX12_balanced_19 (v := 8) (by decide) ?_
      refine g_iload_n dX12_balanced_21 2 rfl ?_
      refine g_iadd dX12_balanced_22 ?_
      refine g_iaload sh_146 dX12_balanced_23 (fun x2 => ?_)
      refine g_if_ne (tgt := 37) dX12_balanced_24 (by decide) (fun _ => ?_) (fun _ => ?_)
      · refine g_aload_n dX12_balanced_37 0 rfl ?_
        refine g_bipush dX12_balanced_38 (v := 13) (by decide) ?_
        refine g_iload_n dX12_balanced_40 2 rfl ?_
        refine g_vIp [.int 13, .int v2] [.int v1] mw_X12_310 (ok_X12_sumOf g F 13 v2 μ) (by omega) sh_141 (by decide) rfl rfl (Nat.le_of_ble_eq_true rfl) dX12_balanced_41 (fun x4 _ => ?_)
        refine g_ineg dX12_balanced_44 ?_
        refine g_iadd dX12_balanced_45 ?_
        refine g_istore_n dX12_balanced_46 rfl (by decide) (lv' := [(1, .int (v1 + (-x4))), (0, .ref (gb g + 141)), (2, .int v2)]) rfl ?_
        refine g_iinc dX12_balanced_47 2 rfl (v := (v2 + 1)) rfl (by decide) (lv' := [(2, .int (v2 + 1)), (1, .int (v1 + (-x4))), (0, .ref (gb g + 141))]) rfl ?_
        refine g_goto (tgt := 4) dX12_balanced_50 (by decide) ?_
        refine g_lv [2, 1, 0] rfl ?_
        exact ih (v1 + (-x4)) (v2 + 1)
      · refine g_aload_n dX12_balanced_27 0 rfl ?_
        refine g_bipush dX12_balanced_28 (v := 13) (by decide) ?_
        refine g_iload_n dX12_balanced_30 2 rfl ?_
        refine g_vIp [.int 13, .int v2] [.int v1] mw_X12_310 (ok_X12_sumOf g F 13 v2 μ) (by omega) sh_141 (by decide) rfl rfl (Nat.le_of_ble_eq_true rfl) dX12_balanced_31 (fun x5 _ => ?_)
        refine g_goto (tgt := 45) dX12_balanced_34 (by decide) ?_
        refine g_iadd dX12_balanced_45 ?_
        refine g_istore_n dX12_balanced_46 rfl (by decide) (lv' := [(1, .int (v1 + x5)), (0, .ref (gb g + 141)), (2, .int v2)]) rfl ?_
        refine g_iinc dX12_balanced_47 2 rfl (v := (v2 + 1)) rfl (by decide) (lv' := [(2, .int (v2 + 1)), (1, .int (v1 + x5)), (0, .ref (gb g + 141))]) rfl ?_
        refine g_goto (tgt := 4) dX12_balanced_50 (by decide) ?_
        refine g_lv [2, 1, 0] rfl ?_
        exact ih (v1 + x5) (v2 + 1)
set_option maxHeartbeats 4000000 in
set_option maxRecDepth 100000 in
theorem ok_X12_balanced (g : GG) (F : Nat)   (μ : Mm) : Ct g yX12_balanced cX12_balanced 3 (some (.int)) 2 (cvIp μ) [.ref (gb g + 141)] μ (f_X12_balanced F μ) := by
  refine ct_Ip (by decide +kernel) (Nat.le_of_ble_eq_true rfl) (show Go g RX12 cX12_balanced 3 .ireturn 2 (cvIp μ) 0 [(0, .ref (gb g + 141))] [] μ (f_X12_balanced F μ) from ?_)
  unfold f_X12_balanced
  refine g_iconst dX12_balanced_0 (v := 0) (by decide) ?_
  refine g_istore_n dX12_balanced_1 rfl (by decide) (lv' := [(1, .int 0), (0, .ref (gb g + 141))]) rfl ?_
  refine g_iconst dX12_balanced_2 (v := 0) (by decide) ?_
  refine g_istore_n dX12_balanced_3 rfl (by decide) (lv' := [(2, .int 0), (1, .int 0), (0, .ref (gb g + 141))]) rfl ?_
  refine g_lv [2, 1, 0] rfl ?_
  refine okL_X12_balanced_4 g F _ μ (fun u6 => ?_) F 0 0
  refine g_iload_n dX12_balanced_53 0 rfl ?_
  exact g_ret dX12_balanced_54 rfl rfl
set_option maxHeartbeats 4000000 in
set_option maxRecDepth 100000 in
theorem ok_X12_isEven (g : GG) (F : Nat)   (μ : Mm) : Ct g yX12_isEven cX12_isEven 1 (some (.boolean)) 3 (cvZp μ) [.ref (gb g + 141)] μ (f_X12_isEven F μ) := by
  refine ct_Zp (by decide +kernel) (Nat.le_of_ble_eq_true rfl) (show Go g RX12 cX12_isEven 1 .ireturn 3 (cvZp μ) 0 [(0, .ref (gb g + 141))] [] μ (f_X12_isEven F μ) from ?_)
  unfold f_X12_isEven
  refine g_aload_n dX12_isEven_0 0 rfl ?_
  refine g_vIp [] [] mw_X12_313 (ok_X12_balanced g F μ) (by omega) sh_141 (by decide) rfl rfl (Nat.le_of_ble_eq_true rfl) dX12_isEven_1 (fun x1 _ => ?_)
  refine g_if_ne (tgt := 11) dX12_isEven_4 (by decide) (fun _ => ?_) (fun _ => ?_)
  · refine g_iconst dX12_isEven_11 (v := 0) (by decide) ?_
    exact g_ret dX12_isEven_12 rfl rfl
  · refine g_iconst dX12_isEven_7 (v := 1) (by decide) ?_
    refine g_goto (tgt := 12) dX12_isEven_8 (by decide) ?_
    exact g_ret dX12_isEven_12 rfl rfl
set_option maxHeartbeats 4000000 in
set_option maxRecDepth 100000 in
theorem ok_X12_many (g : GG) (F : Nat) (v1 : Int32)  (μ : Mm) : Ct g yX12_many cX12_many 2 (some (.int)) 4 cvI [.ref (gb g + 141), .int v1] μ (f_X12_many F v1 μ) := by
  refine ct_I (by decide +kernel) (Nat.le_of_ble_eq_true rfl) (show Go g RX12 cX12_many 2 .ireturn 4 cvI 0 [(0, .ref (gb g + 141)), (1, .int v1)] [] μ (f_X12_many F v1 μ) from ?_)
  unfold f_X12_many
  refine g_aload_n dX12_many_0 0 rfl ?_
  refine g_iconst dX12_many_1 (v := 0) (by decide) ?_
  refine g_putI fl_X12_72 sh_141 (by decide) rfl dX12_many_2 ?_
  refine g_aload_n dX12_many_5 0 rfl ?_
  refine g_iconst dX12_many_6 (v := 0) (by decide) ?_
  refine g_putI fl_X12_75 sh_141 (by decide) rfl dX12_many_7 ?_
  refine g_iload_n dX12_many_10 1 rfl ?_
  refine g_i2l dX12_many_11 ?_
  refine g_lconst dX12_many_12 (v := 0) (by decide) ?_
  refine g_ldc2 kl_X12_316 dX12_many_13 ?_
  refine g_sZp [.long (v1.toInt64), .long 0, .long 10] [] mw_X12_107 (ok_X12_isIn g (v1.toInt64) 0 10 (sI (sI μ 141 1 0) 141 0 0)) (by omega) rfl rfl (Nat.le_of_ble_eq_true rfl) dX12_many_16 (fun x1 _ => ?_)
  refine g_ifneB (tgt := 28) dX12_many_19 (by decide) (fun _ => ?_) (fun _ => ?_)
  · refine g_iload_n dX12_many_28 1 rfl ?_
    refine g_bipush dX12_many_29 (v := 6) (by decide) ?_
    refine g_icmp_ge (tgt := 41) dX12_many_31 (by decide) (fun _ => ?_) (fun _ => ?_)
    · refine g_iload_n dX12_many_41 1 rfl ?_
      refine g_bipush dX12_many_42 (v := 6) (by decide) ?_
      refine g_icmp_ne (tgt := 52) dX12_many_44 (by decide) (fun _ => ?_) (fun _ => ?_)
      · refine g_iload_n dX12_many_52 1 rfl ?_
        refine g_bipush dX12_many_53 (v := 7) (by decide) ?_
        refine g_icmp_ne (tgt := 65) dX12_many_55 (by decide) (fun _ => ?_) (fun _ => ?_)
        · refine g_iload_n dX12_many_65 1 rfl ?_
          refine g_bipush dX12_many_66 (v := 8) (by decide) ?_
          refine g_icmp_ne (tgt := 78) dX12_many_68 (by decide) (fun _ => ?_) (fun _ => ?_)
          · refine g_iload_n dX12_many_78 1 rfl ?_
            refine g_bipush dX12_many_79 (v := 9) (by decide) ?_
            refine g_icmp_ne (tgt := 94) dX12_many_81 (by decide) (fun _ => ?_) (fun _ => ?_)
            · refine g_aload_n dX12_many_94 0 rfl ?_
              refine g_vZp [] [] mw_X12_327 (ok_X12_isEven g F (sI (sI μ 141 1 0) 141 0 0)) (by omega) sh_141 (by decide) rfl rfl (Nat.le_of_ble_eq_true rfl) dX12_many_95 (fun x8 _ => ?_)
              have hJ11 : ∀ (w10 : Int32), w10 = (if x8 = true then (1 : Int32) else 0) → Go g RX12 cX12_many 2 .ireturn 4 cvI 106 [] [.int w10] (sI (sI μ 141 1 0) 141 0 0) (some ((if x8 = true then (1 : Int32) else 0), (sI (sI μ 141 1 0) 141 0 0))) := by
                intro w10 ew10
                subst ew10
                exact g_ret dX12_many_106 rfl rfl
              refine g_same (g_ifeqB (tgt := 105) dX12_many_98 (by decide) (fun c9 => ?_) (fun c9 => ?_))
              · refine g_iconst dX12_many_105 (v := 0) (by decide) ?_
                refine g_lv [] rfl ?_
                exact hJ11 _ (by rw [if_neg c9])
              · refine g_iconst dX12_many_101 (v := 1) (by decide) ?_
                refine g_goto (tgt := 106) dX12_many_102 (by decide) ?_
                refine g_lv [] rfl ?_
                exact hJ11 _ (by rw [if_pos c9])
            · refine g_aload_n dX12_many_84 0 rfl ?_
              refine g_getR (b := 146) fl_X12_35 sh_141 (by decide) rfl rfl dX12_many_85 ?_
              refine g_bipush dX12_many_88 (v := 6) (by decide) ?_
              refine g_iaload sh_146 dX12_many_90 (fun x12 => ?_)
              refine g_goto (tgt := 106) dX12_many_91 (by decide) ?_
              exact g_ret dX12_many_106 rfl rfl
          · refine g_aload_n dX12_many_71 0 rfl ?_
            refine g_vIp [] [] mw_X12_324 (ok_X12_tappedSet g F (sI (sI μ 141 1 0) 141 0 0)) (by omega) sh_141 (by decide) rfl rfl (Nat.le_of_ble_eq_true rfl) dX12_many_72 (fun x13 _ => ?_)
            refine g_goto (tgt := 106) dX12_many_75 (by decide) ?_
            exact g_ret dX12_many_106 rfl rfl
        · refine g_aload_n dX12_many_58 0 rfl ?_
          refine g_vIp [] [] mw_X12_321 (ok_X12_allWrong g F (sI (sI μ 141 1 0) 141 0 0)) (by omega) sh_141 (by decide) rfl rfl (Nat.le_of_ble_eq_true rfl) dX12_many_59 (fun x14 _ => ?_)
          refine g_goto (tgt := 106) dX12_many_62 (by decide) ?_
          exact g_ret dX12_many_106 rfl rfl
      · refine g_aload_n dX12_many_47 0 rfl ?_
        refine g_vIp [] [] mw_X12_301 (ok_X12_cells g (sI (sI μ 141 1 0) 141 0 0)) (by omega) sh_141 (by decide) rfl rfl (Nat.le_of_ble_eq_true rfl) dX12_many_48 (fun x15 _ => ?_)
        exact g_ret dX12_many_51 rfl rfl
    · refine g_aload_n dX12_many_34 0 rfl ?_
      refine g_getR (b := 146) fl_X12_35 sh_141 (by decide) rfl rfl dX12_many_35 ?_
      refine g_iload_n dX12_many_38 1 rfl ?_
      refine g_iaload sh_146 dX12_many_39 (fun x16 => ?_)
      exact g_ret dX12_many_40 rfl rfl
  · refine g_aload_n dX12_many_22 0 rfl ?_
    refine g_iconst dX12_many_23 (v := 5) (by decide) ?_
    refine g_vI [.int 5] [] mw_X12_318 (ok_X12_refuse g 5 (sI (sI μ 141 1 0) 141 0 0)) (by omega) sh_141 (by decide) rfl rfl (Nat.le_of_ble_eq_true rfl) dX12_many_24 (fun x17 μ18 _ => ?_)
    exact g_ret dX12_many_27 rfl rfl
set_option maxHeartbeats 4000000 in
set_option maxRecDepth 100000 in
theorem ok_X12_cell (g : GG) (v1 : Int32) (v2 : Int32)  (μ : Mm) : Ct g yX12_cell cX12_cell 3 (some (.int)) 3 cvI [.ref (gb g + 141), .int v1, .int v2] μ (f_X12_cell v1 v2 μ) := by
  refine ct_I (by decide +kernel) (Nat.le_of_ble_eq_true rfl) (show Go g RX12 cX12_cell 3 .ireturn 3 cvI 0 [(0, .ref (gb g + 141)), (1, .int v1), (2, .int v2)] [] μ (f_X12_cell v1 v2 μ) from ?_)
  unfold f_X12_cell
  refine g_aload_n dX12_cell_0 0 rfl ?_
  refine g_iconst dX12_cell_1 (v := 0) (by decide) ?_
  refine g_putI fl_X12_72 sh_141 (by decide) rfl dX12_cell_2 ?_
  refine g_aload_n dX12_cell_5 0 rfl ?_
  refine g_iconst dX12_cell_6 (v := 0) (by decide) ?_
  refine g_putI fl_X12_75 sh_141 (by decide) rfl dX12_cell_7 ?_
  refine g_aload_n dX12_cell_10 0 rfl ?_
  refine g_iload_n dX12_cell_11 1 rfl ?_
  refine g_vZp [.int v1] [] mw_X12_330 (ok_X12_isCellAt g v1 (sI (sI μ 141 1 0) 141 0 0)) (by omega) sh_141 (by decide) rfl rfl (Nat.le_of_ble_eq_true rfl) dX12_cell_12 (fun x1 _ => ?_)
  refine g_ifneB (tgt := 24) dX12_cell_15 (by decide) (fun _ => ?_) (fun _ => ?_)
  · refine g_iload_n dX12_cell_24 2 rfl ?_
    refine g_i2l dX12_cell_25 ?_
    refine g_lconst dX12_cell_26 (v := 0) (by decide) ?_
    refine g_ldc2 kl_X12_105 dX12_cell_27 ?_
    refine g_sZp [.long (v2.toInt64), .long 0, .long 3] [] mw_X12_107 (ok_X12_isIn g (v2.toInt64) 0 3 (sI (sI μ 141 1 0) 141 0 0)) (by omega) rfl rfl (Nat.le_of_ble_eq_true rfl) dX12_cell_30 (fun x2 _ => ?_)
    refine g_ifneB (tgt := 42) dX12_cell_33 (by decide) (fun _ => ?_) (fun _ => ?_)
    · refine g_iload_n dX12_cell_42 2 rfl ?_
      refine g_iconst dX12_cell_43 (v := 3) (by decide) ?_
      refine g_icmp_ge (tgt := 64) dX12_cell_44 (by decide) (fun _ => ?_) (fun _ => ?_)
      · refine g_aload_n dX12_cell_64 0 rfl ?_
        refine g_iload_n dX12_cell_65 1 rfl ?_
        refine g_vZp [.int v1] [] mw_X12_304 (ok_X12_isWrong g v1 (sI (sI μ 141 1 0) 141 0 0)) (by omega) sh_141 (by decide) rfl rfl (Nat.le_of_ble_eq_true rfl) dX12_cell_66 (fun x4 _ => ?_)
        have hJ7 : ∀ (w6 : Int32), w6 = (if x4 = true then (1 : Int32) else 0) → Go g RX12 cX12_cell 3 .ireturn 3 cvI 77 [] [.int w6] (sI (sI μ 141 1 0) 141 0 0) (some ((if x4 = true then (1 : Int32) else 0), (sI (sI μ 141 1 0) 141 0 0))) := by
          intro w6 ew6
          subst ew6
          exact g_ret dX12_cell_77 rfl rfl
        refine g_same (g_ifeqB (tgt := 76) dX12_cell_69 (by decide) (fun c5 => ?_) (fun c5 => ?_))
        · refine g_iconst dX12_cell_76 (v := 0) (by decide) ?_
          refine g_lv [] rfl ?_
          exact hJ7 _ (by rw [if_neg c5])
        · refine g_iconst dX12_cell_72 (v := 1) (by decide) ?_
          refine g_goto (tgt := 77) dX12_cell_73 (by decide) ?_
          refine g_lv [] rfl ?_
          exact hJ7 _ (by rw [if_pos c5])
      · refine g_aload_n dX12_cell_47 0 rfl ?_
        refine g_getR (b := 146) fl_X12_35 sh_141 (by decide) rfl rfl dX12_cell_48 ?_
        refine g_bipush dX12_cell_51 (v := 13) (by decide) ?_
        refine g_bipush dX12_cell_53 (v := 25) (by decide) ?_
        refine g_iload_n dX12_cell_55 2 rfl ?_
        refine g_imul dX12_cell_56 ?_
        refine g_iadd dX12_cell_57 ?_
        refine g_iload_n dX12_cell_58 1 rfl ?_
        refine g_iadd dX12_cell_59 ?_
        refine g_iaload sh_146 dX12_cell_60 (fun x8 => ?_)
        refine g_goto (tgt := 77) dX12_cell_61 (by decide) ?_
        exact g_ret dX12_cell_77 rfl rfl
    · refine g_aload_n dX12_cell_36 0 rfl ?_
      refine g_iconst dX12_cell_37 (v := 5) (by decide) ?_
      refine g_vI [.int 5] [] mw_X12_318 (ok_X12_refuse g 5 (sI (sI μ 141 1 0) 141 0 0)) (by omega) sh_141 (by decide) rfl rfl (Nat.le_of_ble_eq_true rfl) dX12_cell_38 (fun x9 μ10 _ => ?_)
      exact g_ret dX12_cell_41 rfl rfl
  · refine g_aload_n dX12_cell_18 0 rfl ?_
    refine g_iconst dX12_cell_19 (v := 2) (by decide) ?_
    refine g_vI [.int 2] [] mw_X12_318 (ok_X12_refuse g 2 (sI (sI μ 141 1 0) 141 0 0)) (by omega) sh_141 (by decide) rfl rfl (Nat.le_of_ble_eq_true rfl) dX12_cell_20 (fun x11 μ12 _ => ?_)
    exact g_ret dX12_cell_23 rfl rfl
set_option maxHeartbeats 4000000 in
set_option maxRecDepth 100000 in
theorem ok_X12_watch (g : GG)   (μ : Mm) : Ct g yX12_watch cX12_watch 1 (some (.int)) 2 cvI [.ref (gb g + 141)] μ (f_X12_watch  μ) := by
  refine ct_I (by decide +kernel) (Nat.le_of_ble_eq_true rfl) (show Go g RX12 cX12_watch 1 .ireturn 2 cvI 0 [(0, .ref (gb g + 141))] [] μ (f_X12_watch  μ) from ?_)
  unfold f_X12_watch
  refine g_aload_n dX12_watch_0 0 rfl ?_
  refine g_iconst dX12_watch_1 (v := 0) (by decide) ?_
  refine g_putI fl_X12_72 sh_141 (by decide) rfl dX12_watch_2 ?_
  refine g_aload_n dX12_watch_5 0 rfl ?_
  refine g_iconst dX12_watch_6 (v := 0) (by decide) ?_
  refine g_putI fl_X12_75 sh_141 (by decide) rfl dX12_watch_7 ?_
  refine g_aload_n dX12_watch_10 0 rfl ?_
  refine g_getR (b := 146) fl_X12_35 sh_141 (by decide) rfl rfl dX12_watch_11 ?_
  refine g_iconst dX12_watch_14 (v := 0) (by decide) ?_
  refine g_iaload sh_146 dX12_watch_15 (fun x1 => ?_)
  refine g_if_ne (tgt := 28) dX12_watch_16 (by decide) (fun _ => ?_) (fun _ => ?_)
  · refine g_aload_n dX12_watch_28 0 rfl ?_
    refine g_getR (b := 146) fl_X12_35 sh_141 (by decide) rfl rfl dX12_watch_29 ?_
    refine g_bipush dX12_watch_32 (v := 7) (by decide) ?_
    refine g_iaload sh_146 dX12_watch_34 (fun x3 => ?_)
    exact g_ret dX12_watch_35 rfl rfl
  · refine g_aload_n dX12_watch_19 0 rfl ?_
    refine g_bipush dX12_watch_20 (v := 8) (by decide) ?_
    refine g_vI [.int 8] [] mw_X12_318 (ok_X12_refuse g 8 (sI (sI μ 141 1 0) 141 0 0)) (by omega) sh_141 (by decide) rfl rfl (Nat.le_of_ble_eq_true rfl) dX12_watch_22 (fun x4 μ5 _ => ?_)
    refine g_goto (tgt := 35) dX12_watch_25 (by decide) ?_
    exact g_ret dX12_watch_35 rfl rfl
set_option maxHeartbeats 4000000 in
set_option maxRecDepth 100000 in
theorem okL_X12_together_6 (g : GG) (F : Nat) (v1 : Int32) (v2 : Int32) (v3 : Int32) (v4 : Int32) (k : Int32 → Option (Int32)) (μ : Mm)  (hk : ∀ (v5 : Int32), Go g RX12 cX12_together 7 .ireturn 1 (cvIp μ) 37 [(5, .int v5)] [] μ (k v5)) : ∀ (n : Nat) (v5 : Int32) (v6 : Int32), Go g RX12 cX12_together 7 .ireturn 1 (cvIp μ) 6 [(0, .ref (gb g + 141)), (1, .int v1), (2, .int v2), (3, .int v3), (4, .int v4), (5, .int v5), (6, .int v6)] [] μ (L_X12_together_6 F v1 v2 v3 v4 k μ n v5 v6) := by
  intro n
  induction n with
  | zero =>
    intro v5 v6
    exact g_none
  | succ n ih =>
    intro v5 v6
    rw [L_X12_together_6_s]
    refine g_iload dX12_together_6 6 rfl ?_
    refine g_iload_n dX12_together_8 3 rfl ?_
    refine g_icmp_ge (tgt := 37) dX12_together_9 (by decide) (fun _ => ?_) (fun _ => ?_)
    · refine g_lv [5] rfl ?_
      exact hk v5
    · refine g_iload dX12_together_12 5 rfl ?_
      refine g_aload_n dX12_together_14 0 rfl ?_
      refine g_getR (b := 146) fl_X12_35 sh_141 (by decide) rfl rfl dX12_together_15 ?_
      refine g_iload_n dX12_together_18 1 rfl ?_
      refine g_iload_n dX12_together_19 2 rfl ?_
      refine g_iadd dX12_together_20 ?_
      refine g_iload dX12_together_21 4 rfl ?_
      refine g_iload dX12_together_23 6 rfl ?_
      refine g_imul dX12_together_25 ?_
      refine g_iadd dX12_together_26 ?_
      refine g_iaload sh_146 dX12_together_27 (fun x1 => ?_)
      refine g_iadd dX12_together_28 ?_
      refine g_istore dX12_together_29 (by decide) (lv' := [(5, .int (v5 + x1)), (0, .ref (gb g + 141)), (1, .int v1), (2, .int v2), (3, .int v3), (4, .int v4), (6, .int v6)]) rfl ?_
      refine g_iinc dX12_together_31 6 rfl (v := (v6 + 1)) rfl (by decide) (lv' := [(6, .int (v6 + 1)), (5, .int (v5 + x1)), (0, .ref (gb g + 141)), (1, .int v1), (2, .int v2), (3, .int v3), (4, .int v4)]) rfl ?_
      refine g_goto (tgt := 6) dX12_together_34 (by decide) ?_
      refine g_lv [2, 3, 4, 5, 6, 1, 0] rfl ?_
      exact ih (v5 + x1) (v6 + 1)
set_option maxHeartbeats 4000000 in
set_option maxRecDepth 100000 in
theorem ok_X12_together (g : GG) (F : Nat) (v1 : Int32) (v2 : Int32) (v3 : Int32) (v4 : Int32)  (μ : Mm) : Ct g yX12_together cX12_together 7 (some (.int)) 1 (cvIp μ) [.ref (gb g + 141), .int v1, .int v2, .int v3, .int v4] μ (f_X12_together F v1 v2 v3 v4 μ) := by
  refine ct_Ip (by decide +kernel) (Nat.le_of_ble_eq_true rfl) (show Go g RX12 cX12_together 7 .ireturn 1 (cvIp μ) 0 [(0, .ref (gb g + 141)), (1, .int v1), (2, .int v2), (3, .int v3), (4, .int v4)] [] μ (f_X12_together F v1 v2 v3 v4 μ) from ?_)
  unfold f_X12_together
  refine g_iconst dX12_together_0 (v := 0) (by decide) ?_
  refine g_istore dX12_together_1 (by decide) (lv' := [(5, .int 0), (0, .ref (gb g + 141)), (1, .int v1), (2, .int v2), (3, .int v3), (4, .int v4)]) rfl ?_
  refine g_iconst dX12_together_3 (v := 0) (by decide) ?_
  refine g_istore dX12_together_4 (by decide) (lv' := [(6, .int 0), (5, .int 0), (0, .ref (gb g + 141)), (1, .int v1), (2, .int v2), (3, .int v3), (4, .int v4)]) rfl ?_
  refine g_lv [2, 3, 4, 5, 6, 1, 0] rfl ?_
  refine okL_X12_together_6 g F v1 v2 v3 v4 _ μ (fun u2 => ?_) F 0 0
  refine g_iload dX12_together_37 0 rfl ?_
  exact g_ret dX12_together_39 rfl rfl
set_option maxHeartbeats 4000000 in
set_option maxRecDepth 100000 in
theorem ok_X12_account (g : GG) (F : Nat) (v1 : Int32) (v2 : Int32)  (μ : Mm) : Ct g yX12_account cX12_account 3 (some (.int)) 3 cvI [.ref (gb g + 141), .int v1, .int v2] μ (f_X12_account F v1 v2 μ) := by
  refine ct_I (by decide +kernel) (Nat.le_of_ble_eq_true rfl) (show Go g RX12 cX12_account 3 .ireturn 3 cvI 0 [(0, .ref (gb g + 141)), (1, .int v1), (2, .int v2)] [] μ (f_X12_account F v1 v2 μ) from ?_)
  unfold f_X12_account
  refine g_aload_n dX12_account_0 0 rfl ?_
  refine g_iconst dX12_account_1 (v := 0) (by decide) ?_
  refine g_putI fl_X12_72 sh_141 (by decide) rfl dX12_account_2 ?_
  refine g_aload_n dX12_account_5 0 rfl ?_
  refine g_iconst dX12_account_6 (v := 0) (by decide) ?_
  refine g_putI fl_X12_75 sh_141 (by decide) rfl dX12_account_7 ?_
  refine g_aload_n dX12_account_10 0 rfl ?_
  refine g_iload_n dX12_account_11 1 rfl ?_
  refine g_vZp [.int v1] [] mw_X12_333 (ok_X12_isAccountAt g v1 (sI (sI μ 141 1 0) 141 0 0)) (by omega) sh_141 (by decide) rfl rfl (Nat.le_of_ble_eq_true rfl) dX12_account_12 (fun x1 _ => ?_)
  refine g_ifneB (tgt := 24) dX12_account_15 (by decide) (fun _ => ?_) (fun _ => ?_)
  · refine g_iload_n dX12_account_24 2 rfl ?_
    refine g_i2l dX12_account_25 ?_
    refine g_lconst dX12_account_26 (v := 0) (by decide) ?_
    refine g_ldc2 kl_X12_105 dX12_account_27 ?_
    refine g_sZp [.long (v2.toInt64), .long 0, .long 3] [] mw_X12_107 (ok_X12_isIn g (v2.toInt64) 0 3 (sI (sI μ 141 1 0) 141 0 0)) (by omega) rfl rfl (Nat.le_of_ble_eq_true rfl) dX12_account_30 (fun x2 _ => ?_)
    refine g_ifneB (tgt := 42) dX12_account_33 (by decide) (fun _ => ?_) (fun _ => ?_)
    · refine g_iload_n dX12_account_42 2 rfl ?_
      refine g_if_ne (tgt := 58) dX12_account_43 (by decide) (fun _ => ?_) (fun _ => ?_)
      · refine g_iload_n dX12_account_58 2 rfl ?_
        refine g_iconst dX12_account_59 (v := 3) (by decide) ?_
        refine g_icmp_ne (tgt := 87) dX12_account_60 (by decide) (fun _ => ?_) (fun _ => ?_)
        · refine g_aload_n dX12_account_87 0 rfl ?_
          refine g_iload_n dX12_account_88 2 rfl ?_
          refine g_iconst dX12_account_89 (v := 1) (by decide) ?_
          have hJ9 : ∀ (w7 : Int32), w7 = (if v2 = 1 then (13 : Int32) else 38) → Go g RX12 cX12_account 3 .ireturn 3 cvI 100 [(1, .int v1)] [.int w7, .ref (gb g + 141)] (sI (sI μ 141 1 0) 141 0 0) ((f_X12_sumOf F (if v2 = 1 then (13 : Int32) else 38) v1 (sI (sI μ 141 1 0) 141 0 0)).bind fun x8 => some (x8, (sI (sI μ 141 1 0) 141 0 0))) := by
            intro w7 ew7
            subst ew7
            refine g_iload_n dX12_account_100 0 rfl ?_
            refine g_vIp [.int (if v2 = 1 then (13 : Int32) else 38), .int v1] [] mw_X12_310 (ok_X12_sumOf g F (if v2 = 1 then (13 : Int32) else 38) v1 (sI (sI μ 141 1 0) 141 0 0)) (by omega) sh_141 (by decide) rfl rfl (Nat.le_of_ble_eq_true rfl) dX12_account_101 (fun x8 _ => ?_)
            exact g_ret dX12_account_104 rfl rfl
          refine g_same (g_icmp_ne (tgt := 98) dX12_account_90 (by decide) (fun c6 => ?_) (fun c6 => ?_))
          · refine g_bipush dX12_account_98 (v := 38) (by decide) ?_
            refine g_lv [1] rfl ?_
            exact hJ9 _ (by rw [if_neg c6])
          · refine g_bipush dX12_account_93 (v := 13) (by decide) ?_
            refine g_goto (tgt := 100) dX12_account_95 (by decide) ?_
            refine g_lv [1] rfl ?_
            exact hJ9 _ (by rw [if_pos c6])
        · refine g_aload_n dX12_account_63 0 rfl ?_
          refine g_bipush dX12_account_64 (v := 13) (by decide) ?_
          refine g_aload_n dX12_account_66 0 rfl ?_
          refine g_getR (b := 146) fl_X12_35 sh_141 (by decide) rfl rfl dX12_account_67 ?_
          refine g_iconst dX12_account_70 (v := 2) (by decide) ?_
          refine g_iaload sh_146 dX12_account_71 (fun x10 => ?_)
          refine g_iload_n dX12_account_72 1 rfl ?_
          refine g_imul dX12_account_73 ?_
          refine g_aload_n dX12_account_74 0 rfl ?_
          refine g_getR (b := 146) fl_X12_35 sh_141 (by decide) rfl rfl dX12_account_75 ?_
          refine g_iconst dX12_account_78 (v := 2) (by decide) ?_
          refine g_iaload sh_146 dX12_account_79 (fun x11 => ?_)
          refine g_iconst dX12_account_80 (v := 1) (by decide) ?_
          refine g_vIp [.int 13, .int (x10 * v1), .int x11, .int 1] [] mw_X12_336 (ok_X12_together g F 13 (x10 * v1) x11 1 (sI (sI μ 141 1 0) 141 0 0)) (by omega) sh_141 (by decide) rfl rfl (Nat.le_of_ble_eq_true rfl) dX12_account_81 (fun x12 _ => ?_)
          refine g_goto (tgt := 104) dX12_account_84 (by decide) ?_
          exact g_ret dX12_account_104 rfl rfl
      · refine g_aload_n dX12_account_46 0 rfl ?_
        refine g_getR (b := 146) fl_X12_35 sh_141 (by decide) rfl rfl dX12_account_47 ?_
        refine g_bipush dX12_account_50 (v := 8) (by decide) ?_
        refine g_iload_n dX12_account_52 1 rfl ?_
        refine g_iadd dX12_account_53 ?_
        refine g_iaload sh_146 dX12_account_54 (fun x13 => ?_)
        refine g_goto (tgt := 104) dX12_account_55 (by decide) ?_
        exact g_ret dX12_account_104 rfl rfl
    · refine g_aload_n dX12_account_36 0 rfl ?_
      refine g_iconst dX12_account_37 (v := 5) (by decide) ?_
      refine g_vI [.int 5] [] mw_X12_318 (ok_X12_refuse g 5 (sI (sI μ 141 1 0) 141 0 0)) (by omega) sh_141 (by decide) rfl rfl (Nat.le_of_ble_eq_true rfl) dX12_account_38 (fun x14 μ15 _ => ?_)
      exact g_ret dX12_account_41 rfl rfl
  · refine g_aload_n dX12_account_18 0 rfl ?_
    refine g_iconst dX12_account_19 (v := 2) (by decide) ?_
    refine g_vI [.int 2] [] mw_X12_318 (ok_X12_refuse g 2 (sI (sI μ 141 1 0) 141 0 0)) (by omega) sh_141 (by decide) rfl rfl (Nat.le_of_ble_eq_true rfl) dX12_account_20 (fun x16 μ17 _ => ?_)
    exact g_ret dX12_account_23 rfl rfl
set_option maxHeartbeats 4000000 in
set_option maxRecDepth 100000 in
theorem ok_X12_law (g : GG) (v1 : Int32) (v2 : Int32)  (μ : Mm) : Ct g yX12_law cX12_law 3 (some (.int)) 3 cvI [.ref (gb g + 141), .int v1, .int v2] μ (f_X12_law v1 v2 μ) := by
  refine ct_I (by decide +kernel) (Nat.le_of_ble_eq_true rfl) (show Go g RX12 cX12_law 3 .ireturn 3 cvI 0 [(0, .ref (gb g + 141)), (1, .int v1), (2, .int v2)] [] μ (f_X12_law v1 v2 μ) from ?_)
  unfold f_X12_law
  refine g_aload_n dX12_law_0 0 rfl ?_
  refine g_iconst dX12_law_1 (v := 0) (by decide) ?_
  refine g_putI fl_X12_72 sh_141 (by decide) rfl dX12_law_2 ?_
  refine g_aload_n dX12_law_5 0 rfl ?_
  refine g_iconst dX12_law_6 (v := 0) (by decide) ?_
  refine g_putI fl_X12_75 sh_141 (by decide) rfl dX12_law_7 ?_
  refine g_aload_n dX12_law_10 0 rfl ?_
  refine g_iload_n dX12_law_11 1 rfl ?_
  refine g_vZp [.int v1] [] mw_X12_340 (ok_X12_isLawAt g v1 (sI (sI μ 141 1 0) 141 0 0)) (by omega) sh_141 (by decide) rfl rfl (Nat.le_of_ble_eq_true rfl) dX12_law_12 (fun x1 _ => ?_)
  refine g_ifneB (tgt := 24) dX12_law_15 (by decide) (fun _ => ?_) (fun _ => ?_)
  · refine g_iload_n dX12_law_24 2 rfl ?_
    refine g_i2l dX12_law_25 ?_
    refine g_lconst dX12_law_26 (v := 0) (by decide) ?_
    refine g_ldc2 kl_X12_105 dX12_law_27 ?_
    refine g_sZp [.long (v2.toInt64), .long 0, .long 3] [] mw_X12_107 (ok_X12_isIn g (v2.toInt64) 0 3 (sI (sI μ 141 1 0) 141 0 0)) (by omega) rfl rfl (Nat.le_of_ble_eq_true rfl) dX12_law_30 (fun x2 _ => ?_)
    refine g_ifeqB (tgt := 53) dX12_law_33 (by decide) (fun _ => ?_) (fun _ => ?_)
    · refine g_aload_n dX12_law_53 0 rfl ?_
      refine g_iconst dX12_law_54 (v := 5) (by decide) ?_
      refine g_vI [.int 5] [] mw_X12_318 (ok_X12_refuse g 5 (sI (sI μ 141 1 0) 141 0 0)) (by omega) sh_141 (by decide) rfl rfl (Nat.le_of_ble_eq_true rfl) dX12_law_55 (fun x4 μ5 _ => ?_)
      exact g_ret dX12_law_58 rfl rfl
    · refine g_aload_n dX12_law_36 0 rfl ?_
      refine g_getR (b := 146) fl_X12_35 sh_141 (by decide) rfl rfl dX12_law_37 ?_
      refine g_bipush dX12_law_40 (v := 88) (by decide) ?_
      refine g_bipush dX12_law_42 (v := 10) (by decide) ?_
      refine g_iload_n dX12_law_44 2 rfl ?_
      refine g_imul dX12_law_45 ?_
      refine g_iadd dX12_law_46 ?_
      refine g_iload_n dX12_law_47 1 rfl ?_
      refine g_iadd dX12_law_48 ?_
      refine g_iaload sh_146 dX12_law_49 (fun x6 => ?_)
      refine g_goto (tgt := 58) dX12_law_50 (by decide) ?_
      exact g_ret dX12_law_58 rfl rfl
  · refine g_aload_n dX12_law_18 0 rfl ?_
    refine g_iconst dX12_law_19 (v := 2) (by decide) ?_
    refine g_vI [.int 2] [] mw_X12_318 (ok_X12_refuse g 2 (sI (sI μ 141 1 0) 141 0 0)) (by omega) sh_141 (by decide) rfl rfl (Nat.le_of_ble_eq_true rfl) dX12_law_20 (fun x7 μ8 _ => ?_)
    exact g_ret dX12_law_23 rfl rfl
set_option maxHeartbeats 4000000 in
set_option maxRecDepth 100000 in
theorem ok_X12_balance (g : GG) (F : Nat)   (μ : Mm) : Ct g yX12_balance cX12_balance 1 (some (.int)) 3 cvI [.ref (gb g + 141)] μ (f_X12_balance F μ) := by
  refine ct_I (by decide +kernel) (Nat.le_of_ble_eq_true rfl) (show Go g RX12 cX12_balance 1 .ireturn 3 cvI 0 [(0, .ref (gb g + 141))] [] μ (f_X12_balance F μ) from ?_)
  unfold f_X12_balance
  refine g_aload_n dX12_balance_0 0 rfl ?_
  refine g_iconst dX12_balance_1 (v := 0) (by decide) ?_
  refine g_putI fl_X12_72 sh_141 (by decide) rfl dX12_balance_2 ?_
  refine g_aload_n dX12_balance_5 0 rfl ?_
  refine g_iconst dX12_balance_6 (v := 0) (by decide) ?_
  refine g_putI fl_X12_75 sh_141 (by decide) rfl dX12_balance_7 ?_
  refine g_aload_n dX12_balance_10 0 rfl ?_
  refine g_vIp [] [] mw_X12_313 (ok_X12_balanced g F (sI (sI μ 141 1 0) 141 0 0)) (by omega) sh_141 (by decide) rfl rfl (Nat.le_of_ble_eq_true rfl) dX12_balance_11 (fun x1 _ => ?_)
  exact g_ret dX12_balance_14 rfl rfl
set_option maxHeartbeats 4000000 in
set_option maxRecDepth 100000 in
theorem okL_X12_copyDigits_60 (g : GG) (F : Nat) (v1 : Int32) (k : Mm → Option (Int32 × Mm))  (hk : ∀ (μ : Mm), Go g RX12 cX12_copyDigits 3 .ireturn 4 cvI 91 [(0, .ref (gb g + 141))] [] μ (k μ)) : ∀ (n : Nat) (v2 : Int32) (μ : Mm), Go g RX12 cX12_copyDigits 3 .ireturn 4 cvI 60 [(0, .ref (gb g + 141)), (1, .int v1), (2, .int v2)] [] μ (L_X12_copyDigits_60 F v1 k n v2 μ) := by
  intro n
  induction n with
  | zero =>
    intro v2 μ
    exact g_none
  | succ n ih =>
    intro v2 μ
    rw [L_X12_copyDigits_60_s]
    refine g_iload_n dX12_copyDigits_60 2 rfl ?_
    refine g_aload_n dX12_copyDigits_61 0 rfl ?_
    refine g_vIp [] [.int v2] mw_X12_301 (ok_X12_cells g μ) (by omega) sh_141 (by decide) rfl rfl (Nat.le_of_ble_eq_true rfl) dX12_copyDigits_62 (fun x5 _ => ?_)
    refine g_icmp_ge (tgt := 91) dX12_copyDigits_65 (by decide) (fun _ => ?_) (fun _ => ?_)
    · refine g_lv [0] rfl ?_
      exact hk μ
    · refine g_aload_n dX12_copyDigits_68 0 rfl ?_
      refine g_iload_n dX12_copyDigits_69 1 rfl ?_
      refine g_iload_n dX12_copyDigits_70 2 rfl ?_
      refine g_aload_n dX12_copyDigits_71 0 rfl ?_
      refine g_getR (b := 146) fl_X12_35 sh_141 (by decide) rfl rfl dX12_copyDigits_72 ?_
      refine g_bipush dX12_copyDigits_75 (v := 13) (by decide) ?_
      refine g_iload_n dX12_copyDigits_77 2 rfl ?_
      refine g_iadd dX12_copyDigits_78 ?_
      refine g_iaload sh_146 dX12_copyDigits_79 (fun x6 => ?_)
      refine g_i2l dX12_copyDigits_80 ?_
      refine g_vZ [.int v1, .int v2, .long (x6.toInt64)] [] mw_X12_346 (ok_X12_write g v1 v2 (x6.toInt64) μ) (by omega) sh_141 (by decide) rfl rfl (Nat.le_of_ble_eq_true rfl) dX12_copyDigits_81 (fun x7 μ8 _ => ?_)
      refine g_pop dX12_copyDigits_84 rfl ?_
      refine g_iinc dX12_copyDigits_85 2 rfl (v := (v2 + 1)) rfl (by decide) (lv' := [(2, .int (v2 + 1)), (0, .ref (gb g + 141)), (1, .int v1)]) rfl ?_
      refine g_goto (tgt := 60) dX12_copyDigits_88 (by decide) ?_
      refine g_lv [1, 2, 0] rfl ?_
      exact ih (v2 + 1) μ8
set_option maxHeartbeats 4000000 in
set_option maxRecDepth 100000 in
theorem ok_X12_copyDigits (g : GG) (F : Nat) (v1 : Int32)  (μ : Mm) : Ct g yX12_copyDigits cX12_copyDigits 3 (some (.int)) 4 cvI [.ref (gb g + 141), .int v1] μ (f_X12_copyDigits F v1 μ) := by
  refine ct_I (by decide +kernel) (Nat.le_of_ble_eq_true rfl) (show Go g RX12 cX12_copyDigits 3 .ireturn 4 cvI 0 [(0, .ref (gb g + 141)), (1, .int v1)] [] μ (f_X12_copyDigits F v1 μ) from ?_)
  unfold f_X12_copyDigits
  refine g_aload_n dX12_copyDigits_0 0 rfl ?_
  refine g_iconst dX12_copyDigits_1 (v := 0) (by decide) ?_
  refine g_putI fl_X12_72 sh_141 (by decide) rfl dX12_copyDigits_2 ?_
  refine g_aload_n dX12_copyDigits_5 0 rfl ?_
  refine g_iconst dX12_copyDigits_6 (v := 0) (by decide) ?_
  refine g_putI fl_X12_75 sh_141 (by decide) rfl dX12_copyDigits_7 ?_
  refine g_aload_n dX12_copyDigits_10 0 rfl ?_
  refine g_iload_n dX12_copyDigits_11 1 rfl ?_
  refine g_vZp [.int v1] [] mw_X12_343 (ok_X12_isTray g v1 (sI (sI μ 141 1 0) 141 0 0)) (by omega) sh_141 (by decide) rfl rfl (Nat.le_of_ble_eq_true rfl) dX12_copyDigits_12 (fun x1 _ => ?_)
  refine g_ifneB (tgt := 24) dX12_copyDigits_15 (by decide) (fun _ => ?_) (fun _ => ?_)
  · refine g_aload_n dX12_copyDigits_24 0 rfl ?_
    refine g_getR (b := 143) fl_X12_17 sh_141 (by decide) rfl rfl dX12_copyDigits_25 ?_
    refine g_iload_n dX12_copyDigits_28 1 rfl ?_
    refine g_iaload sh_143 dX12_copyDigits_29 (fun x2 => ?_)
    refine g_if_ge (tgt := 39) dX12_copyDigits_30 (by decide) (fun _ => ?_) (fun _ => ?_)
    · refine g_aload_n dX12_copyDigits_39 0 rfl ?_
      refine g_getR (b := 143) fl_X12_17 sh_141 (by decide) rfl rfl dX12_copyDigits_40 ?_
      refine g_iload_n dX12_copyDigits_43 1 rfl ?_
      refine g_iaload sh_143 dX12_copyDigits_44 (fun x3 => ?_)
      refine g_aload_n dX12_copyDigits_45 0 rfl ?_
      refine g_vIp [] [.int x3] mw_X12_301 (ok_X12_cells g (sI (sI μ 141 1 0) 141 0 0)) (by omega) sh_141 (by decide) rfl rfl (Nat.le_of_ble_eq_true rfl) dX12_copyDigits_46 (fun x4 _ => ?_)
      refine g_icmp_ge (tgt := 58) dX12_copyDigits_49 (by decide) (fun _ => ?_) (fun _ => ?_)
      · refine g_iconst dX12_copyDigits_58 (v := 0) (by decide) ?_
        refine g_istore_n dX12_copyDigits_59 rfl (by decide) (lv' := [(2, .int 0), (0, .ref (gb g + 141)), (1, .int v1)]) rfl ?_
        refine g_lv [1, 2, 0] rfl ?_
        refine okL_X12_copyDigits_60 g F v1 _ (fun μ9 => ?_) F 0 (sI (sI μ 141 1 0) 141 0 0)
        refine g_aload_n dX12_copyDigits_91 0 rfl ?_
        refine g_vIp [] [] mw_X12_301 (ok_X12_cells g μ9) (by omega) sh_141 (by decide) rfl rfl (Nat.le_of_ble_eq_true rfl) dX12_copyDigits_92 (fun x10 _ => ?_)
        exact g_ret dX12_copyDigits_95 rfl rfl
      · refine g_aload_n dX12_copyDigits_52 0 rfl ?_
        refine g_iconst dX12_copyDigits_53 (v := 4) (by decide) ?_
        refine g_vI [.int 4] [] mw_X12_318 (ok_X12_refuse g 4 (sI (sI μ 141 1 0) 141 0 0)) (by omega) sh_141 (by decide) rfl rfl (Nat.le_of_ble_eq_true rfl) dX12_copyDigits_54 (fun x11 μ12 _ => ?_)
        exact g_ret dX12_copyDigits_57 rfl rfl
    · refine g_aload_n dX12_copyDigits_33 0 rfl ?_
      refine g_iconst dX12_copyDigits_34 (v := 3) (by decide) ?_
      refine g_vI [.int 3] [] mw_X12_318 (ok_X12_refuse g 3 (sI (sI μ 141 1 0) 141 0 0)) (by omega) sh_141 (by decide) rfl rfl (Nat.le_of_ble_eq_true rfl) dX12_copyDigits_35 (fun x13 μ14 _ => ?_)
      exact g_ret dX12_copyDigits_38 rfl rfl
  · refine g_aload_n dX12_copyDigits_18 0 rfl ?_
    refine g_iconst dX12_copyDigits_19 (v := 1) (by decide) ?_
    refine g_vI [.int 1] [] mw_X12_318 (ok_X12_refuse g 1 (sI (sI μ 141 1 0) 141 0 0)) (by omega) sh_141 (by decide) rfl rfl (Nat.le_of_ble_eq_true rfl) dX12_copyDigits_20 (fun x15 μ16 _ => ?_)
    exact g_ret dX12_copyDigits_23 rfl rfl
set_option maxHeartbeats 4000000 in
set_option maxRecDepth 100000 in
theorem ok_X12_besideOf (g : GG) (v1 : Int32) (v2 : Int32)  (μ : Mm) : Ct g yX12_besideOf cX12_besideOf 5 (some (.int)) 3 (cvIp μ) [.ref (gb g + 141), .int v1, .int v2] μ (f_X12_besideOf v1 v2 μ) := by
  refine ct_Ip (by decide +kernel) (Nat.le_of_ble_eq_true rfl) (show Go g RX12 cX12_besideOf 5 .ireturn 3 (cvIp μ) 0 [(0, .ref (gb g + 141)), (1, .int v1), (2, .int v2)] [] μ (f_X12_besideOf v1 v2 μ) from ?_)
  unfold f_X12_besideOf
  refine g_iload_n dX12_besideOf_0 1 rfl ?_
  refine g_aload_n dX12_besideOf_1 0 rfl ?_
  refine g_getR (b := 146) fl_X12_35 sh_141 (by decide) rfl rfl dX12_besideOf_2 ?_
  refine g_iconst dX12_besideOf_5 (v := 2) (by decide) ?_
  refine g_iaload sh_146 dX12_besideOf_6 (fun x1 => ?_)
  refine g_irem dX12_besideOf_7 ?_
  refine g_istore_n dX12_besideOf_8 rfl (by decide) (lv' := [(3, .int (v1 - v1 / x1 * x1)), (0, .ref (gb g + 141)), (1, .int v1), (2, .int v2)]) rfl ?_
  refine g_iload_n dX12_besideOf_9 3 rfl ?_
  refine g_iconst dX12_besideOf_10 (v := 1) (by decide) ?_
  refine g_icmp_ne (tgt := 26) dX12_besideOf_11 (by decide) (fun _ => ?_) (fun _ => ?_)
  · refine g_iload_n dX12_besideOf_26 3 rfl ?_
    refine g_iconst dX12_besideOf_27 (v := 2) (by decide) ?_
    refine g_icmp_ne (tgt := 51) dX12_besideOf_28 (by decide) (fun _ => ?_) (fun _ => ?_)
    · refine g_iload_n dX12_besideOf_51 3 rfl ?_
      refine g_iconst dX12_besideOf_52 (v := 3) (by decide) ?_
      refine g_jn (fun (a4 : Int32) oo => Go g RX12 cX12_besideOf 5 .ireturn 3 (cvIp μ) 75 [(0, .ref (gb g + 141))] [.int a4] μ oo) (fun a4 => ?_) (fun K3 hF9 => ?_)
      · refine g_istore dX12_besideOf_75 (by decide) (lv' := [(4, .int a4), (0, .ref (gb g + 141))]) rfl ?_
        refine g_aload_n dX12_besideOf_77 1 rfl ?_
        refine g_iload dX12_besideOf_78 0 rfl ?_
        refine g_vZp [.int a4] [] mw_X12_330 (ok_X12_isCellAt g a4 μ) (by omega) sh_141 (by decide) rfl rfl (Nat.le_of_ble_eq_true rfl) dX12_besideOf_80 (fun x5 _ => ?_)
        have hJ8 : ∀ (w7 : Int32), w7 = (if x5 = true then a4 else (-1)) → Go g RX12 cX12_besideOf 5 .ireturn 3 (cvIp μ) 92 [] [.int w7] μ (some (if x5 = true then a4 else (-1))) := by
          intro w7 ew7
          subst ew7
          exact g_ret dX12_besideOf_92 rfl rfl
        refine g_same (g_ifeqB (tgt := 91) dX12_besideOf_83 (by decide) (fun c6 => ?_) (fun c6 => ?_))
        · refine g_iconst dX12_besideOf_91 (v := (-1)) (by decide) ?_
          refine g_lv [] rfl ?_
          exact hJ8 _ (by rw [if_neg c6])
        · refine g_iload dX12_besideOf_86 0 rfl ?_
          refine g_goto (tgt := 92) dX12_besideOf_88 (by decide) ?_
          refine g_lv [] rfl ?_
          exact hJ8 _ (by rw [if_pos c6])
      · refine g_icmp_ne (tgt := 67) dX12_besideOf_53 (by decide) (fun _ => ?_) (fun _ => ?_)
        · refine g_iload_n dX12_besideOf_67 2 rfl ?_
          refine g_aload_n dX12_besideOf_68 1 rfl ?_
          refine g_getR (b := 146) fl_X12_35 sh_141 (by decide) rfl rfl dX12_besideOf_69 ?_
          refine g_iconst dX12_besideOf_72 (v := 2) (by decide) ?_
          refine g_iaload sh_146 dX12_besideOf_73 (fun x10 => ?_)
          refine g_iadd dX12_besideOf_74 ?_
          refine g_lv [1] rfl ?_
          exact hF9 (v1 + x10)
        · refine g_iload_n dX12_besideOf_56 2 rfl ?_
          refine g_aload_n dX12_besideOf_57 1 rfl ?_
          refine g_getR (b := 146) fl_X12_35 sh_141 (by decide) rfl rfl dX12_besideOf_58 ?_
          refine g_iconst dX12_besideOf_61 (v := 2) (by decide) ?_
          refine g_iaload sh_146 dX12_besideOf_62 (fun x11 => ?_)
          refine g_isub dX12_besideOf_63 ?_
          refine g_goto (tgt := 75) dX12_besideOf_64 (by decide) ?_
          refine g_lv [1] rfl ?_
          exact hF9 (v1 - x11)
    · refine g_iload_n dX12_besideOf_31 0 rfl ?_
      refine g_aload_n dX12_besideOf_32 1 rfl ?_
      refine g_getR (b := 146) fl_X12_35 sh_141 (by decide) rfl rfl dX12_besideOf_33 ?_
      refine g_iconst dX12_besideOf_36 (v := 2) (by decide) ?_
      refine g_iaload sh_146 dX12_besideOf_37 (fun x12 => ?_)
      refine g_iconst dX12_besideOf_38 (v := 1) (by decide) ?_
      refine g_isub dX12_besideOf_39 ?_
      have hJ15 : ∀ (w14 : Int32), w14 = (if (v1 - v1 / x1 * x1) = (x12 - (1 : Int32)) then ((-1) : Int32) else (v1 + (1 : Int32))) → Go g RX12 cX12_besideOf 5 .ireturn 3 (cvIp μ) 50 [] [.int w14] μ (some (if (v1 - v1 / x1 * x1) = (x12 - (1 : Int32)) then ((-1) : Int32) else (v1 + (1 : Int32)))) := by
        intro w14 ew14
        subst ew14
        exact g_ret dX12_besideOf_50 rfl rfl
      refine g_same (g_icmp_ne (tgt := 47) dX12_besideOf_40 (by decide) (fun c13 => ?_) (fun c13 => ?_))
      · refine g_iload_n dX12_besideOf_47 2 rfl ?_
        refine g_iconst dX12_besideOf_48 (v := 1) (by decide) ?_
        refine g_iadd dX12_besideOf_49 ?_
        refine g_lv [] rfl ?_
        exact hJ15 _ (by rw [if_neg c13])
      · refine g_iconst dX12_besideOf_43 (v := (-1)) (by decide) ?_
        refine g_goto (tgt := 50) dX12_besideOf_44 (by decide) ?_
        refine g_lv [] rfl ?_
        exact hJ15 _ (by rw [if_pos c13])
  · refine g_iload_n dX12_besideOf_14 0 rfl ?_
    have hJ18 : ∀ (w17 : Int32), w17 = (if (v1 - v1 / x1 * x1) = 0 then ((-1) : Int32) else (v1 - (1 : Int32))) → Go g RX12 cX12_besideOf 5 .ireturn 3 (cvIp μ) 25 [] [.int w17] μ (some (if (v1 - v1 / x1 * x1) = 0 then ((-1) : Int32) else (v1 - (1 : Int32)))) := by
      intro w17 ew17
      subst ew17
      exact g_ret dX12_besideOf_25 rfl rfl
    refine g_same (g_if_ne (tgt := 22) dX12_besideOf_15 (by decide) (fun c16 => ?_) (fun c16 => ?_))
    · refine g_iload_n dX12_besideOf_22 2 rfl ?_
      refine g_iconst dX12_besideOf_23 (v := 1) (by decide) ?_
      refine g_isub dX12_besideOf_24 ?_
      refine g_lv [] rfl ?_
      exact hJ18 _ (by rw [if_neg c16])
    · refine g_iconst dX12_besideOf_18 (v := (-1)) (by decide) ?_
      refine g_goto (tgt := 25) dX12_besideOf_19 (by decide) ?_
      refine g_lv [] rfl ?_
      exact hJ18 _ (by rw [if_pos c16])
set_option maxHeartbeats 4000000 in
set_option maxRecDepth 100000 in
theorem ok_X12_bearsOn (g : GG) (v1 : Int32) (v2 : Int32)  (μ : Mm) : Ct g yX12_bearsOn cX12_bearsOn 4 (some (.boolean)) 4 (cvZp μ) [.ref (gb g + 141), .int v1, .int v2] μ (f_X12_bearsOn v1 v2 μ) := by
  refine ct_Zp (by decide +kernel) (Nat.le_of_ble_eq_true rfl) (show Go g RX12 cX12_bearsOn 4 .ireturn 4 (cvZp μ) 0 [(0, .ref (gb g + 141)), (1, .int v1), (2, .int v2)] [] μ (f_X12_bearsOn v1 v2 μ) from ?_)
  unfold f_X12_bearsOn
  refine g_aload_n dX12_bearsOn_0 0 rfl ?_
  refine g_getR (b := 146) fl_X12_35 sh_141 (by decide) rfl rfl dX12_bearsOn_1 ?_
  refine g_bipush dX12_bearsOn_4 (v := 88) (by decide) ?_
  refine g_iload_n dX12_bearsOn_6 1 rfl ?_
  refine g_iadd dX12_bearsOn_7 ?_
  refine g_iaload sh_146 dX12_bearsOn_8 (fun x1 => ?_)
  refine g_aload_n dX12_bearsOn_9 0 rfl ?_
  refine g_getR (b := 146) fl_X12_35 sh_141 (by decide) rfl rfl dX12_bearsOn_10 ?_
  refine g_bipush dX12_bearsOn_13 (v := 13) (by decide) ?_
  refine g_iload_n dX12_bearsOn_15 2 rfl ?_
  refine g_iadd dX12_bearsOn_16 ?_
  refine g_iaload sh_146 dX12_bearsOn_17 (fun x2 => ?_)
  refine g_icmp_eq (tgt := 23) dX12_bearsOn_18 (by decide) (fun _ => ?_) (fun _ => ?_)
  · refine g_aload_n dX12_bearsOn_23 0 rfl ?_
    refine g_getR (b := 146) fl_X12_35 sh_141 (by decide) rfl rfl dX12_bearsOn_24 ?_
    refine g_bipush dX12_bearsOn_27 (v := 108) (by decide) ?_
    refine g_iload_n dX12_bearsOn_29 1 rfl ?_
    refine g_iadd dX12_bearsOn_30 ?_
    refine g_iaload sh_146 dX12_bearsOn_31 (fun x3 => ?_)
    refine g_if_ne (tgt := 37) dX12_bearsOn_32 (by decide) (fun _ => ?_) (fun _ => ?_)
    · refine g_aload_n dX12_bearsOn_37 0 rfl ?_
      refine g_iload_n dX12_bearsOn_38 2 rfl ?_
      refine g_aload_n dX12_bearsOn_39 0 rfl ?_
      refine g_getR (b := 146) fl_X12_35 sh_141 (by decide) rfl rfl dX12_bearsOn_40 ?_
      refine g_bipush dX12_bearsOn_43 (v := 108) (by decide) ?_
      refine g_iload_n dX12_bearsOn_45 1 rfl ?_
      refine g_iadd dX12_bearsOn_46 ?_
      refine g_iaload sh_146 dX12_bearsOn_47 (fun x4 => ?_)
      refine g_vIp [.int v2, .int x4] [] mw_X12_350 (ok_X12_besideOf g v2 x4 μ) (by omega) sh_141 (by decide) rfl rfl (Nat.le_of_ble_eq_true rfl) dX12_bearsOn_48 (fun x5 _ => ?_)
      refine g_istore_n dX12_bearsOn_51 rfl (by decide) (lv' := [(3, .int x5), (0, .ref (gb g + 141)), (1, .int v1), (2, .int v2)]) rfl ?_
      refine g_iload_n dX12_bearsOn_52 0 rfl ?_
      refine g_if_lt (tgt := 81) dX12_bearsOn_53 (by decide) (fun _ => ?_) (fun _ => ?_)
      · refine g_iconst dX12_bearsOn_81 (v := 0) (by decide) ?_
        exact g_ret dX12_bearsOn_82 rfl rfl
      · refine g_aload_n dX12_bearsOn_56 1 rfl ?_
        refine g_getR (b := 146) fl_X12_35 sh_141 (by decide) rfl rfl dX12_bearsOn_57 ?_
        refine g_bipush dX12_bearsOn_60 (v := 13) (by decide) ?_
        refine g_iload_n dX12_bearsOn_62 0 rfl ?_
        refine g_iadd dX12_bearsOn_63 ?_
        refine g_iaload sh_146 dX12_bearsOn_64 (fun x6 => ?_)
        refine g_aload_n dX12_bearsOn_65 1 rfl ?_
        refine g_getR (b := 146) fl_X12_35 sh_141 (by decide) rfl rfl dX12_bearsOn_66 ?_
        refine g_bipush dX12_bearsOn_69 (v := 118) (by decide) ?_
        refine g_iload_n dX12_bearsOn_71 2 rfl ?_
        refine g_iadd dX12_bearsOn_72 ?_
        refine g_iaload sh_146 dX12_bearsOn_73 (fun x7 => ?_)
        refine g_icmp_ne (tgt := 81) dX12_bearsOn_74 (by decide) (fun _ => ?_) (fun _ => ?_)
        · refine g_iconst dX12_bearsOn_81 (v := 0) (by decide) ?_
          exact g_ret dX12_bearsOn_82 rfl rfl
        · refine g_iconst dX12_bearsOn_77 (v := 1) (by decide) ?_
          refine g_goto (tgt := 82) dX12_bearsOn_78 (by decide) ?_
          exact g_ret dX12_bearsOn_82 rfl rfl
    · refine g_iconst dX12_bearsOn_35 (v := 1) (by decide) ?_
      exact g_ret dX12_bearsOn_36 rfl rfl
  · refine g_iconst dX12_bearsOn_21 (v := 0) (by decide) ?_
    exact g_ret dX12_bearsOn_22 rfl rfl
set_option maxHeartbeats 4000000 in
set_option maxRecDepth 100000 in
theorem okL_X12_lawOn_2 (g : GG) (F : Nat) (v1 : Int32) (k : Option (Int32)) (μ : Mm)  (hk : Go g RX12 cX12_lawOn 3 .ireturn 5 (cvIp μ) 29 [] [] μ k) : ∀ (n : Nat) (v2 : Int32), Go g RX12 cX12_lawOn 3 .ireturn 5 (cvIp μ) 2 [(0, .ref (gb g + 141)), (1, .int v1), (2, .int v2)] [] μ (L_X12_lawOn_2 F v1 k μ n v2) := by
  intro n
  induction n with
  | zero =>
    intro v2
    exact g_none
  | succ n ih =>
    intro v2
    rw [L_X12_lawOn_2_s]
    refine g_iload_n dX12_lawOn_2 2 rfl ?_
    refine g_aload_n dX12_lawOn_3 0 rfl ?_
    refine g_getR (b := 146) fl_X12_35 sh_141 (by decide) rfl rfl dX12_lawOn_4 ?_
    refine g_iconst dX12_lawOn_7 (v := 1) (by decide) ?_
    refine g_iaload sh_146 dX12_lawOn_8 (fun x1 => ?_)
    refine g_icmp_ge (tgt := 29) dX12_lawOn_9 (by decide) (fun _ => ?_) (fun _ => ?_)
    · refine g_lv [] rfl ?_
      exact hk 
    · refine g_aload_n dX12_lawOn_12 0 rfl ?_
      refine g_iload_n dX12_lawOn_13 2 rfl ?_
      refine g_iload_n dX12_lawOn_14 1 rfl ?_
      refine g_vZp [.int v2, .int v1] [] mw_X12_353 (ok_X12_bearsOn g v2 v1 μ) (by omega) sh_141 (by decide) rfl rfl (Nat.le_of_ble_eq_true rfl) dX12_lawOn_15 (fun x2 _ => ?_)
      refine g_ifeqB (tgt := 23) dX12_lawOn_18 (by decide) (fun _ => ?_) (fun _ => ?_)
      · refine g_iinc dX12_lawOn_23 2 rfl (v := (v2 + 1)) rfl (by decide) (lv' := [(2, .int (v2 + 1)), (0, .ref (gb g + 141)), (1, .int v1)]) rfl ?_
        refine g_goto (tgt := 2) dX12_lawOn_26 (by decide) ?_
        refine g_lv [1, 2, 0] rfl ?_
        exact ih (v2 + 1)
      · refine g_iload_n dX12_lawOn_21 2 rfl ?_
        exact g_ret dX12_lawOn_22 rfl rfl
set_option maxHeartbeats 4000000 in
set_option maxRecDepth 100000 in
theorem ok_X12_lawOn (g : GG) (F : Nat) (v1 : Int32)  (μ : Mm) : Ct g yX12_lawOn cX12_lawOn 3 (some (.int)) 5 (cvIp μ) [.ref (gb g + 141), .int v1] μ (f_X12_lawOn F v1 μ) := by
  refine ct_Ip (by decide +kernel) (Nat.le_of_ble_eq_true rfl) (show Go g RX12 cX12_lawOn 3 .ireturn 5 (cvIp μ) 0 [(0, .ref (gb g + 141)), (1, .int v1)] [] μ (f_X12_lawOn F v1 μ) from ?_)
  unfold f_X12_lawOn
  refine g_iconst dX12_lawOn_0 (v := 0) (by decide) ?_
  refine g_istore_n dX12_lawOn_1 rfl (by decide) (lv' := [(2, .int 0), (0, .ref (gb g + 141)), (1, .int v1)]) rfl ?_
  refine g_lv [1, 2, 0] rfl ?_
  refine okL_X12_lawOn_2 g F v1 _ μ ?_ F 0
  refine g_iconst dX12_lawOn_29 (v := (-1)) (by decide) ?_
  exact g_ret dX12_lawOn_30 rfl rfl
set_option maxHeartbeats 4000000 in
set_option maxRecDepth 100000 in
theorem ok_X12_becomesBy (g : GG) (F : Nat) (v1 : Int32)  (μ : Mm) : Ct g yX12_becomesBy cX12_becomesBy 3 (some (.int)) 6 (cvIp μ) [.ref (gb g + 141), .int v1] μ (f_X12_becomesBy F v1 μ) := by
  refine ct_Ip (by decide +kernel) (Nat.le_of_ble_eq_true rfl) (show Go g RX12 cX12_becomesBy 3 .ireturn 6 (cvIp μ) 0 [(0, .ref (gb g + 141)), (1, .int v1)] [] μ (f_X12_becomesBy F v1 μ) from ?_)
  unfold f_X12_becomesBy
  refine g_aload_n dX12_becomesBy_0 0 rfl ?_
  refine g_iload_n dX12_becomesBy_1 1 rfl ?_
  refine g_vIp [.int v1] [] mw_X12_356 (ok_X12_lawOn g F v1 μ) (by omega) sh_141 (by decide) rfl rfl (Nat.le_of_ble_eq_true rfl) dX12_becomesBy_2 (fun x1 _ => ?_)
  refine g_istore_n dX12_becomesBy_5 rfl (by decide) (lv' := [(2, .int x1), (0, .ref (gb g + 141)), (1, .int v1)]) rfl ?_
  refine g_iload_n dX12_becomesBy_6 0 rfl ?_
  refine g_if_ge (tgt := 22) dX12_becomesBy_7 (by decide) (fun _ => ?_) (fun _ => ?_)
  · refine g_aload_n dX12_becomesBy_22 1 rfl ?_
    refine g_getR (b := 146) fl_X12_35 sh_141 (by decide) rfl rfl dX12_becomesBy_23 ?_
    refine g_bipush dX12_becomesBy_26 (v := 98) (by decide) ?_
    refine g_iload_n dX12_becomesBy_28 0 rfl ?_
    refine g_iadd dX12_becomesBy_29 ?_
    refine g_iaload sh_146 dX12_becomesBy_30 (fun x3 => ?_)
    exact g_ret dX12_becomesBy_31 rfl rfl
  · refine g_aload_n dX12_becomesBy_10 1 rfl ?_
    refine g_getR (b := 146) fl_X12_35 sh_141 (by decide) rfl rfl dX12_becomesBy_11 ?_
    refine g_bipush dX12_becomesBy_14 (v := 13) (by decide) ?_
    refine g_iload_n dX12_becomesBy_16 2 rfl ?_
    refine g_iadd dX12_becomesBy_17 ?_
    refine g_iaload sh_146 dX12_becomesBy_18 (fun x4 => ?_)
    refine g_goto (tgt := 31) dX12_becomesBy_19 (by decide) ?_
    exact g_ret dX12_becomesBy_31 rfl rfl
set_option maxHeartbeats 4000000 in
set_option maxRecDepth 100000 in
theorem okL_X12_goesHour_4 (g : GG) (F : Nat) (v1 : Int32) (k : Mm → Option (Bool × Mm))  (hk : ∀ (μ : Mm), Go g RX12 cX12_goesHour 3 .ireturn 7 cvZ 53 [(0, .ref (gb g + 141)), (1, .int v1)] [] μ (k μ)) : ∀ (n : Nat) (v2 : Int32) (μ : Mm), Go g RX12 cX12_goesHour 3 .ireturn 7 cvZ 4 [(0, .ref (gb g + 141)), (1, .int v1), (2, .int v2)] [] μ (L_X12_goesHour_4 F v1 k n v2 μ) := by
  intro n
  induction n with
  | zero =>
    intro v2 μ
    exact g_none
  | succ n ih =>
    intro v2 μ
    rw [L_X12_goesHour_4_s]
    refine g_iload_n dX12_goesHour_4 2 rfl ?_
    refine g_aload_n dX12_goesHour_5 0 rfl ?_
    refine g_vIp [] [.int v2] mw_X12_301 (ok_X12_cells g μ) (by omega) sh_141 (by decide) rfl rfl (Nat.le_of_ble_eq_true rfl) dX12_goesHour_6 (fun x1 _ => ?_)
    refine g_icmp_ge (tgt := 53) dX12_goesHour_9 (by decide) (fun _ => ?_) (fun _ => ?_)
    · refine g_lv [0, 1] rfl ?_
      exact hk μ
    · refine g_aload_n dX12_goesHour_12 0 rfl ?_
      refine g_getR (b := 150) fl_X12_47 sh_141 (by decide) rfl rfl dX12_goesHour_13 ?_
      refine g_iload_n dX12_goesHour_16 2 rfl ?_
      refine g_aload_n dX12_goesHour_17 0 rfl ?_
      refine g_getR (b := 146) fl_X12_35 sh_141 (by decide) rfl rfl dX12_goesHour_18 ?_
      refine g_bipush dX12_goesHour_21 (v := 63) (by decide) ?_
      refine g_iload_n dX12_goesHour_23 2 rfl ?_
      refine g_iadd dX12_goesHour_24 ?_
      refine g_iaload sh_146 dX12_goesHour_25 (fun x2 => ?_)
      refine g_jn (fun (a5 : Int32) oo => Go g RX12 cX12_goesHour 3 .ireturn 7 cvZ 46 [(0, .ref (gb g + 141)), (1, .int v1), (2, .int v2)] [.int a5, .int v2, .ref (gb g + 150)] μ oo) (fun a5 => ?_) (fun K4 hF7 => ?_)
      · refine g_iastore sh_150 dX12_goesHour_46 (fun μ6 => ?_)
        refine g_iinc dX12_goesHour_47 2 rfl (v := (v2 + 1)) rfl (by decide) (lv' := [(2, .int (v2 + 1)), (0, .ref (gb g + 141)), (1, .int v1)]) rfl ?_
        refine g_goto (tgt := 4) dX12_goesHour_50 (by decide) ?_
        refine g_lv [1, 2, 0] rfl ?_
        exact ih (v2 + 1) μ6
      · refine g_if_le (tgt := 41) dX12_goesHour_26 (by decide) (fun _ => ?_) (fun _ => ?_)
        · refine g_aload_n dX12_goesHour_41 0 rfl ?_
          refine g_iload_n dX12_goesHour_42 2 rfl ?_
          refine g_vIp [.int v2] [.int v2, .ref (gb g + 150)] mw_X12_359 (ok_X12_becomesBy g F v2 μ) (by omega) sh_141 (by decide) rfl rfl (Nat.le_of_ble_eq_true rfl) dX12_goesHour_43 (fun x8 _ => ?_)
          refine g_lv [0, 1, 2] rfl ?_
          exact hF7 x8
        · refine g_aload_n dX12_goesHour_29 0 rfl ?_
          refine g_getR (b := 146) fl_X12_35 sh_141 (by decide) rfl rfl dX12_goesHour_30 ?_
          refine g_bipush dX12_goesHour_33 (v := 13) (by decide) ?_
          refine g_iload_n dX12_goesHour_35 2 rfl ?_
          refine g_iadd dX12_goesHour_36 ?_
          refine g_iaload sh_146 dX12_goesHour_37 (fun x9 => ?_)
          refine g_goto (tgt := 46) dX12_goesHour_38 (by decide) ?_
          refine g_lv [0, 1, 2] rfl ?_
          exact hF7 x9
set_option maxHeartbeats 4000000 in
set_option maxRecDepth 100000 in
theorem okL_X12_goesHour_55 (g : GG) (F : Nat)  (k : Int32 → Mm → Option (Bool × Mm))  (hk : ∀ (v1 : Int32) (μ : Mm), Go g RX12 cX12_goesHour 3 .ireturn 7 cvZ 136 [(0, .ref (gb g + 141)), (1, .int v1)] [] μ (k v1 μ)) : ∀ (n : Nat) (v1 : Int32) (v2 : Int32) (μ : Mm), Go g RX12 cX12_goesHour 3 .ireturn 7 cvZ 55 [(0, .ref (gb g + 141)), (1, .int v1), (2, .int v2)] [] μ (L_X12_goesHour_55 F k n v1 v2 μ) := by
  intro n
  induction n with
  | zero =>
    intro v1 v2 μ
    exact g_none
  | succ n ih =>
    intro v1 v2 μ
    rw [L_X12_goesHour_55_s]
    refine g_iload_n dX12_goesHour_55 2 rfl ?_
    refine g_aload_n dX12_goesHour_56 0 rfl ?_
    refine g_vIp [] [.int v2] mw_X12_301 (ok_X12_cells g μ) (by omega) sh_141 (by decide) rfl rfl (Nat.le_of_ble_eq_true rfl) dX12_goesHour_57 (fun x11 _ => ?_)
    refine g_icmp_ge (tgt := 136) dX12_goesHour_60 (by decide) (fun _ => ?_) (fun _ => ?_)
    · refine g_lv [0, 1] rfl ?_
      exact hk v1 μ
    · refine g_iload_n dX12_goesHour_63 1 rfl ?_
      refine g_jn (fun (a14 : Int32) oo => Go g RX12 cX12_goesHour 3 .ireturn 7 cvZ 90 [(0, .ref (gb g + 141)), (2, .int v2)] [.int a14] μ oo) (fun a14 => ?_) (fun K13 hF20 => ?_)
      · refine g_istore_n dX12_goesHour_90 rfl (by decide) (lv' := [(1, .int a14), (0, .ref (gb g + 141)), (2, .int v2)]) rfl ?_
        refine g_aload_n dX12_goesHour_91 1 rfl ?_
        refine g_getR (b := 146) fl_X12_35 sh_141 (by decide) rfl rfl dX12_goesHour_92 ?_
        refine g_bipush dX12_goesHour_95 (v := 13) (by decide) ?_
        refine g_iload_n dX12_goesHour_97 2 rfl ?_
        refine g_iadd dX12_goesHour_98 ?_
        refine g_aload_n dX12_goesHour_99 1 rfl ?_
        refine g_getR (b := 150) fl_X12_47 sh_141 (by decide) rfl rfl dX12_goesHour_100 ?_
        refine g_iload_n dX12_goesHour_103 2 rfl ?_
        refine g_iaload sh_150 dX12_goesHour_104 (fun x15 => ?_)
        refine g_iastore sh_146 dX12_goesHour_105 (fun μ16 => ?_)
        refine g_aload_n dX12_goesHour_106 1 rfl ?_
        refine g_getR (b := 146) fl_X12_35 sh_141 (by decide) rfl rfl dX12_goesHour_107 ?_
        refine g_bipush dX12_goesHour_110 (v := 63) (by decide) ?_
        refine g_iload_n dX12_goesHour_112 2 rfl ?_
        refine g_iadd dX12_goesHour_113 ?_
        refine g_iconst dX12_goesHour_114 (v := 0) (by decide) ?_
        refine g_aload_n dX12_goesHour_115 1 rfl ?_
        refine g_getR (b := 146) fl_X12_35 sh_141 (by decide) rfl rfl dX12_goesHour_116 ?_
        refine g_bipush dX12_goesHour_119 (v := 63) (by decide) ?_
        refine g_iload_n dX12_goesHour_121 2 rfl ?_
        refine g_iadd dX12_goesHour_122 ?_
        refine g_iaload sh_146 dX12_goesHour_123 (fun x17 => ?_)
        refine g_iconst dX12_goesHour_124 (v := 1) (by decide) ?_
        refine g_isub dX12_goesHour_125 ?_
        refine g_mmax mw_X12_236 (by omega) (Nat.le_of_ble_eq_true rfl) dX12_goesHour_126 (fun x18 => ?_)
        refine g_iastore sh_146 dX12_goesHour_129 (fun μ19 => ?_)
        refine g_iinc dX12_goesHour_130 2 rfl (v := (v2 + 1)) rfl (by decide) (lv' := [(2, .int (v2 + 1)), (1, .int a14), (0, .ref (gb g + 141))]) rfl ?_
        refine g_goto (tgt := 55) dX12_goesHour_133 (by decide) ?_
        refine g_lv [2, 1, 0] rfl ?_
        exact ih a14 (v2 + 1) μ19
      · refine g_if_ne (tgt := 85) dX12_goesHour_64 (by decide) (fun _ => ?_) (fun _ => ?_)
        · refine g_iconst dX12_goesHour_85 (v := 1) (by decide) ?_
          refine g_goto (tgt := 90) dX12_goesHour_86 (by decide) ?_
          refine g_lv [0, 2] rfl ?_
          exact hF20 1
        · refine g_aload_n dX12_goesHour_67 0 rfl ?_
          refine g_getR (b := 150) fl_X12_47 sh_141 (by decide) rfl rfl dX12_goesHour_68 ?_
          refine g_iload_n dX12_goesHour_71 2 rfl ?_
          refine g_iaload sh_150 dX12_goesHour_72 (fun x21 => ?_)
          refine g_aload_n dX12_goesHour_73 0 rfl ?_
          refine g_getR (b := 146) fl_X12_35 sh_141 (by decide) rfl rfl dX12_goesHour_74 ?_
          refine g_bipush dX12_goesHour_77 (v := 13) (by decide) ?_
          refine g_iload_n dX12_goesHour_79 2 rfl ?_
          refine g_iadd dX12_goesHour_80 ?_
          refine g_iaload sh_146 dX12_goesHour_81 (fun x22 => ?_)
          refine g_icmp_eq (tgt := 89) dX12_goesHour_82 (by decide) (fun _ => ?_) (fun _ => ?_)
          · refine g_iconst dX12_goesHour_89 (v := 0) (by decide) ?_
            refine g_lv [0, 2] rfl ?_
            exact hF20 0
          · refine g_iconst dX12_goesHour_85 (v := 1) (by decide) ?_
            refine g_goto (tgt := 90) dX12_goesHour_86 (by decide) ?_
            refine g_lv [0, 2] rfl ?_
            exact hF20 1
set_option maxHeartbeats 4000000 in
set_option maxRecDepth 100000 in
theorem ok_X12_goesHour (g : GG) (F : Nat)   (μ : Mm) : Ct g yX12_goesHour cX12_goesHour 3 (some (.boolean)) 7 cvZ [.ref (gb g + 141)] μ (f_X12_goesHour F μ) := by
  refine ct_Z (by decide +kernel) (Nat.le_of_ble_eq_true rfl) (show Go g RX12 cX12_goesHour 3 .ireturn 7 cvZ 0 [(0, .ref (gb g + 141))] [] μ (f_X12_goesHour F μ) from ?_)
  unfold f_X12_goesHour
  refine g_iconst dX12_goesHour_0 (v := 0) (by decide) ?_
  refine g_istore_n dX12_goesHour_1 rfl (by decide) (lv' := [(1, .int 0), (0, .ref (gb g + 141))]) rfl ?_
  refine g_iconst dX12_goesHour_2 (v := 0) (by decide) ?_
  refine g_istore_n dX12_goesHour_3 rfl (by decide) (lv' := [(2, .int 0), (1, .int 0), (0, .ref (gb g + 141))]) rfl ?_
  refine g_lv [2, 1, 0] rfl ?_
  refine okL_X12_goesHour_4 g F 0 _ (fun μ10 => ?_) F 0 μ
  refine g_iconst dX12_goesHour_53 (v := 0) (by decide) ?_
  refine g_istore_n dX12_goesHour_54 rfl (by decide) (lv' := [(2, .int 0), (0, .ref (gb g + 141)), (1, .int 0)]) rfl ?_
  refine g_lv [1, 2, 0] rfl ?_
  refine okL_X12_goesHour_55 g F _ (fun u23 μ24 => ?_) F 0 0 μ10
  refine g_aload_n dX12_goesHour_136 0 rfl ?_
  refine g_getR (b := 146) fl_X12_35 sh_141 (by decide) rfl rfl dX12_goesHour_137 ?_
  refine g_iconst dX12_goesHour_140 (v := 5) (by decide) ?_
  refine g_dup2 dX12_goesHour_141 rfl rfl ?_
  refine g_iaload sh_146 dX12_goesHour_142 (fun x25 => ?_)
  refine g_iconst dX12_goesHour_143 (v := 1) (by decide) ?_
  refine g_iadd dX12_goesHour_144 ?_
  refine g_iastore sh_146 dX12_goesHour_145 (fun μ26 => ?_)
  refine g_iload_n dX12_goesHour_146 1 rfl ?_
  exact g_retZ dX12_goesHour_147
set_option maxHeartbeats 4000000 in
set_option maxRecDepth 100000 in
theorem ok_X12_wayFrom (g : GG) (v1 : Int32) (v2 : Int32)  (μ : Mm) : Ct g yX12_wayFrom cX12_wayFrom 3 (some (.int)) 4 (cvIp μ) [.ref (gb g + 141), .int v1, .int v2] μ (f_X12_wayFrom v1 v2 μ) := by
  refine ct_Ip (by decide +kernel) (Nat.le_of_ble_eq_true rfl) (show Go g RX12 cX12_wayFrom 3 .ireturn 4 (cvIp μ) 0 [(0, .ref (gb g + 141)), (1, .int v1), (2, .int v2)] [] μ (f_X12_wayFrom v1 v2 μ) from ?_)
  unfold f_X12_wayFrom
  refine g_iload_n dX12_wayFrom_0 2 rfl ?_
  refine g_iconst dX12_wayFrom_1 (v := 4) (by decide) ?_
  refine g_icmp_ne (tgt := 7) dX12_wayFrom_2 (by decide) (fun _ => ?_) (fun _ => ?_)
  · refine g_aload_n dX12_wayFrom_7 0 rfl ?_
    refine g_iload_n dX12_wayFrom_8 1 rfl ?_
    refine g_iload_n dX12_wayFrom_9 2 rfl ?_
    have hJ5 : ∀ (w3 : Int32), w3 = (if v2 = 0 then (3 : Int32) else (if v2 = 1 then (4 : Int32) else (v2 - (1 : Int32)))) → Go g RX12 cX12_wayFrom 3 .ireturn 4 (cvIp μ) 29 [] [.int w3, .int v1, .ref (gb g + 141)] μ ((f_X12_besideOf v1 (if v2 = 0 then (3 : Int32) else (if v2 = 1 then (4 : Int32) else (v2 - (1 : Int32)))) μ).bind fun x4 => some x4) := by
      intro w3 ew3
      subst ew3
      refine g_vIp [.int v1, .int (if v2 = 0 then (3 : Int32) else (if v2 = 1 then (4 : Int32) else (v2 - (1 : Int32))))] [] mw_X12_350 (ok_X12_besideOf g v1 (if v2 = 0 then (3 : Int32) else (if v2 = 1 then (4 : Int32) else (v2 - (1 : Int32)))) μ) (by omega) sh_141 (by decide) rfl rfl (Nat.le_of_ble_eq_true rfl) dX12_wayFrom_29 (fun x4 _ => ?_)
      exact g_ret dX12_wayFrom_32 rfl rfl
    refine g_same (g_if_ne (tgt := 17) dX12_wayFrom_10 (by decide) (fun c1 => ?_) (fun c1 => ?_))
    · refine g_iload_n dX12_wayFrom_17 2 rfl ?_
      refine g_iconst dX12_wayFrom_18 (v := 1) (by decide) ?_
      refine g_same (g_icmp_ne (tgt := 26) dX12_wayFrom_19 (by decide) (fun c2 => ?_) (fun c2 => ?_))
      · refine g_iload_n dX12_wayFrom_26 2 rfl ?_
        refine g_iconst dX12_wayFrom_27 (v := 1) (by decide) ?_
        refine g_isub dX12_wayFrom_28 ?_
        refine g_lv [] rfl ?_
        exact hJ5 _ (by rw [if_neg c1, if_neg c2])
      · refine g_iconst dX12_wayFrom_22 (v := 4) (by decide) ?_
        refine g_goto (tgt := 29) dX12_wayFrom_23 (by decide) ?_
        refine g_lv [] rfl ?_
        exact hJ5 _ (by rw [if_neg c1, if_pos c2])
    · refine g_iconst dX12_wayFrom_13 (v := 3) (by decide) ?_
      refine g_goto (tgt := 29) dX12_wayFrom_14 (by decide) ?_
      refine g_lv [] rfl ?_
      exact hJ5 _ (by rw [if_pos c1])
  · refine g_iload_n dX12_wayFrom_5 1 rfl ?_
    exact g_ret dX12_wayFrom_6 rfl rfl
set_option maxHeartbeats 4000000 in
set_option maxRecDepth 100000 in
theorem ok_X12_steps (g : GG) (F : Nat) (v1 : Int32)  (μ : Mm) : Ct g yX12_steps cX12_steps 3 (some (.boolean)) 8 cvZ [.ref (gb g + 141), .int v1] μ (f_X12_steps F v1 μ) := by
  refine ct_Z (by decide +kernel) (Nat.le_of_ble_eq_true rfl) (show Go g RX12 cX12_steps 3 .ireturn 8 cvZ 0 [(0, .ref (gb g + 141)), (1, .int v1)] [] μ (f_X12_steps F v1 μ) from ?_)
  unfold f_X12_steps
  refine g_aload_n dX12_steps_0 0 rfl ?_
  refine g_aload_n dX12_steps_1 0 rfl ?_
  refine g_getR (b := 146) fl_X12_35 sh_141 (by decide) rfl rfl dX12_steps_2 ?_
  refine g_bipush dX12_steps_5 (v := 7) (by decide) ?_
  refine g_iaload sh_146 dX12_steps_7 (fun x1 => ?_)
  refine g_iload_n dX12_steps_8 1 rfl ?_
  refine g_vIp [.int x1, .int v1] [] mw_X12_362 (ok_X12_wayFrom g x1 v1 μ) (by omega) sh_141 (by decide) rfl rfl (Nat.le_of_ble_eq_true rfl) dX12_steps_9 (fun x2 _ => ?_)
  refine g_istore_n dX12_steps_12 rfl (by decide) (lv' := [(2, .int x2), (0, .ref (gb g + 141)), (1, .int v1)]) rfl ?_
  refine g_iload_n dX12_steps_13 0 rfl ?_
  refine g_if_ge (tgt := 19) dX12_steps_14 (by decide) (fun _ => ?_) (fun _ => ?_)
  · refine g_aload_n dX12_steps_19 1 rfl ?_
    refine g_getR (b := 146) fl_X12_35 sh_141 (by decide) rfl rfl dX12_steps_20 ?_
    refine g_bipush dX12_steps_23 (v := 7) (by decide) ?_
    refine g_iload_n dX12_steps_25 0 rfl ?_
    refine g_iastore sh_146 dX12_steps_26 (fun μ3 => ?_)
    refine g_aload_n dX12_steps_27 1 rfl ?_
    refine g_getR (b := 146) fl_X12_35 sh_141 (by decide) rfl rfl dX12_steps_28 ?_
    refine g_bipush dX12_steps_31 (v := 63) (by decide) ?_
    refine g_iload_n dX12_steps_33 0 rfl ?_
    refine g_iadd dX12_steps_34 ?_
    refine g_aload_n dX12_steps_35 1 rfl ?_
    refine g_getR (b := 146) fl_X12_35 sh_141 (by decide) rfl rfl dX12_steps_36 ?_
    refine g_iconst dX12_steps_39 (v := 3) (by decide) ?_
    refine g_iaload sh_146 dX12_steps_40 (fun x4 => ?_)
    refine g_iastore sh_146 dX12_steps_41 (fun μ5 => ?_)
    refine g_aload_n dX12_steps_42 1 rfl ?_
    refine g_vZ [] [] mw_X12_365 (ok_X12_goesHour g F μ5) (by omega) sh_141 (by decide) rfl rfl (Nat.le_of_ble_eq_true rfl) dX12_steps_43 (fun x6 μ7 _ => ?_)
    refine g_pop dX12_steps_46 rfl ?_
    refine g_iconst dX12_steps_47 (v := 1) (by decide) ?_
    exact g_ret dX12_steps_48 rfl rfl
  · refine g_iconst dX12_steps_17 (v := 0) (by decide) ?_
    exact g_ret dX12_steps_18 rfl rfl
set_option maxHeartbeats 4000000 in
set_option maxRecDepth 100000 in
theorem ok_X12_step (g : GG) (F : Nat) (v1 : Int32)  (μ : Mm) : Ct g yX12_step cX12_step 2 (some (.int)) 9 cvI [.ref (gb g + 141), .int v1] μ (f_X12_step F v1 μ) := by
  refine ct_I (by decide +kernel) (Nat.le_of_ble_eq_true rfl) (show Go g RX12 cX12_step 2 .ireturn 9 cvI 0 [(0, .ref (gb g + 141)), (1, .int v1)] [] μ (f_X12_step F v1 μ) from ?_)
  unfold f_X12_step
  refine g_aload_n dX12_step_0 0 rfl ?_
  refine g_iconst dX12_step_1 (v := 0) (by decide) ?_
  refine g_putI fl_X12_72 sh_141 (by decide) rfl dX12_step_2 ?_
  refine g_aload_n dX12_step_5 0 rfl ?_
  refine g_iconst dX12_step_6 (v := 0) (by decide) ?_
  refine g_putI fl_X12_75 sh_141 (by decide) rfl dX12_step_7 ?_
  refine g_iload_n dX12_step_10 1 rfl ?_
  refine g_i2l dX12_step_11 ?_
  refine g_lconst dX12_step_12 (v := 0) (by decide) ?_
  refine g_ldc2 kl_X12_368 dX12_step_13 ?_
  refine g_sZp [.long (v1.toInt64), .long 0, .long 4] [] mw_X12_107 (ok_X12_isIn g (v1.toInt64) 0 4 (sI (sI μ 141 1 0) 141 0 0)) (by omega) rfl rfl (Nat.le_of_ble_eq_true rfl) dX12_step_16 (fun x1 _ => ?_)
  refine g_ifneB (tgt := 28) dX12_step_19 (by decide) (fun _ => ?_) (fun _ => ?_)
  · refine g_aload_n dX12_step_28 0 rfl ?_
    refine g_getR (b := 146) fl_X12_35 sh_141 (by decide) rfl rfl dX12_step_29 ?_
    refine g_iconst dX12_step_32 (v := 5) (by decide) ?_
    refine g_iaload sh_146 dX12_step_33 (fun x2 => ?_)
    refine g_sipush dX12_step_34 (v := 9999) (by decide) ?_
    refine g_icmp_lt (tgt := 47) dX12_step_37 (by decide) (fun _ => ?_) (fun _ => ?_)
    · refine g_aload_n dX12_step_47 0 rfl ?_
      refine g_getR (b := 146) fl_X12_35 sh_141 (by decide) rfl rfl dX12_step_48 ?_
      refine g_iconst dX12_step_51 (v := 0) (by decide) ?_
      refine g_iaload sh_146 dX12_step_52 (fun x3 => ?_)
      refine g_if_ne (tgt := 63) dX12_step_53 (by decide) (fun _ => ?_) (fun _ => ?_)
      · refine g_aload_n dX12_step_63 0 rfl ?_
        refine g_iload_n dX12_step_64 1 rfl ?_
        refine g_vZ [.int v1] [] mw_X12_370 (ok_X12_steps g F v1 (sI (sI μ 141 1 0) 141 0 0)) (by omega) sh_141 (by decide) rfl rfl (Nat.le_of_ble_eq_true rfl) dX12_step_65 (fun x4 μ5 _ => ?_)
        refine g_ifeqB (tgt := 81) dX12_step_68 (by decide) (fun _ => ?_) (fun _ => ?_)
        · refine g_aload_n dX12_step_81 0 rfl ?_
          refine g_bipush dX12_step_82 (v := 9) (by decide) ?_
          refine g_vI [.int 9] [] mw_X12_318 (ok_X12_refuse g 9 μ5) (by omega) sh_141 (by decide) rfl rfl (Nat.le_of_ble_eq_true rfl) dX12_step_84 (fun x7 μ8 _ => ?_)
          exact g_ret dX12_step_87 rfl rfl
        · refine g_aload_n dX12_step_71 0 rfl ?_
          refine g_getR (b := 146) fl_X12_35 sh_141 (by decide) rfl rfl dX12_step_72 ?_
          refine g_bipush dX12_step_75 (v := 7) (by decide) ?_
          refine g_iaload sh_146 dX12_step_77 (fun x9 => ?_)
          refine g_goto (tgt := 87) dX12_step_78 (by decide) ?_
          exact g_ret dX12_step_87 rfl rfl
      · refine g_aload_n dX12_step_56 0 rfl ?_
        refine g_bipush dX12_step_57 (v := 8) (by decide) ?_
        refine g_vI [.int 8] [] mw_X12_318 (ok_X12_refuse g 8 (sI (sI μ 141 1 0) 141 0 0)) (by omega) sh_141 (by decide) rfl rfl (Nat.le_of_ble_eq_true rfl) dX12_step_59 (fun x10 μ11 _ => ?_)
        exact g_ret dX12_step_62 rfl rfl
    · refine g_aload_n dX12_step_40 0 rfl ?_
      refine g_bipush dX12_step_41 (v := 7) (by decide) ?_
      refine g_vI [.int 7] [] mw_X12_318 (ok_X12_refuse g 7 (sI (sI μ 141 1 0) 141 0 0)) (by omega) sh_141 (by decide) rfl rfl (Nat.le_of_ble_eq_true rfl) dX12_step_43 (fun x12 μ13 _ => ?_)
      exact g_ret dX12_step_46 rfl rfl
  · refine g_aload_n dX12_step_22 0 rfl ?_
    refine g_iconst dX12_step_23 (v := 5) (by decide) ?_
    refine g_vI [.int 5] [] mw_X12_318 (ok_X12_refuse g 5 (sI (sI μ 141 1 0) 141 0 0)) (by omega) sh_141 (by decide) rfl rfl (Nat.le_of_ble_eq_true rfl) dX12_step_24 (fun x14 μ15 _ => ?_)
    exact g_ret dX12_step_27 rfl rfl
set_option maxHeartbeats 4000000 in
set_option maxRecDepth 100000 in
theorem okL_X12_doze_51 (g : GG) (F : Nat) (v1 : Int32) (k : Mm → Option (Int32 × Mm))  (hk : ∀ (μ : Mm), Go g RX12 cX12_doze 3 .ireturn 8 cvI 67 [(0, .ref (gb g + 141))] [] μ (k μ)) : ∀ (n : Nat) (v2 : Int32) (μ : Mm), Go g RX12 cX12_doze 3 .ireturn 8 cvI 51 [(0, .ref (gb g + 141)), (1, .int v1), (2, .int v2)] [] μ (L_X12_doze_51 F v1 k n v2 μ) := by
  intro n
  induction n with
  | zero =>
    intro v2 μ
    exact g_none
  | succ n ih =>
    intro v2 μ
    rw [L_X12_doze_51_s]
    refine g_iload_n dX12_doze_51 2 rfl ?_
    refine g_iload_n dX12_doze_52 1 rfl ?_
    refine g_icmp_ge (tgt := 67) dX12_doze_53 (by decide) (fun _ => ?_) (fun _ => ?_)
    · refine g_lv [0] rfl ?_
      exact hk μ
    · refine g_aload_n dX12_doze_56 0 rfl ?_
      refine g_vZ [] [] mw_X12_365 (ok_X12_goesHour g F μ) (by omega) sh_141 (by decide) rfl rfl (Nat.le_of_ble_eq_true rfl) dX12_doze_57 (fun x3 μ4 _ => ?_)
      refine g_pop dX12_doze_60 rfl ?_
      refine g_iinc dX12_doze_61 2 rfl (v := (v2 + 1)) rfl (by decide) (lv' := [(2, .int (v2 + 1)), (0, .ref (gb g + 141)), (1, .int v1)]) rfl ?_
      refine g_goto (tgt := 51) dX12_doze_64 (by decide) ?_
      refine g_lv [1, 2, 0] rfl ?_
      exact ih (v2 + 1) μ4
set_option maxHeartbeats 4000000 in
set_option maxRecDepth 100000 in
theorem ok_X12_doze (g : GG) (F : Nat) (v1 : Int32)  (μ : Mm) : Ct g yX12_doze cX12_doze 3 (some (.int)) 8 cvI [.ref (gb g + 141), .int v1] μ (f_X12_doze F v1 μ) := by
  refine ct_I (by decide +kernel) (Nat.le_of_ble_eq_true rfl) (show Go g RX12 cX12_doze 3 .ireturn 8 cvI 0 [(0, .ref (gb g + 141)), (1, .int v1)] [] μ (f_X12_doze F v1 μ) from ?_)
  unfold f_X12_doze
  refine g_aload_n dX12_doze_0 0 rfl ?_
  refine g_iconst dX12_doze_1 (v := 0) (by decide) ?_
  refine g_putI fl_X12_72 sh_141 (by decide) rfl dX12_doze_2 ?_
  refine g_aload_n dX12_doze_5 0 rfl ?_
  refine g_iconst dX12_doze_6 (v := 0) (by decide) ?_
  refine g_putI fl_X12_75 sh_141 (by decide) rfl dX12_doze_7 ?_
  refine g_iload_n dX12_doze_10 1 rfl ?_
  refine g_i2l dX12_doze_11 ?_
  refine g_lconst dX12_doze_12 (v := 1) (by decide) ?_
  refine g_ldc2 kl_X12_373 dX12_doze_13 ?_
  refine g_sZp [.long (v1.toInt64), .long 1, .long 99] [] mw_X12_107 (ok_X12_isIn g (v1.toInt64) 1 99 (sI (sI μ 141 1 0) 141 0 0)) (by omega) rfl rfl (Nat.le_of_ble_eq_true rfl) dX12_doze_16 (fun x1 _ => ?_)
  refine g_ifneB (tgt := 28) dX12_doze_19 (by decide) (fun _ => ?_) (fun _ => ?_)
  · refine g_aload_n dX12_doze_28 0 rfl ?_
    refine g_getR (b := 146) fl_X12_35 sh_141 (by decide) rfl rfl dX12_doze_29 ?_
    refine g_iconst dX12_doze_32 (v := 5) (by decide) ?_
    refine g_iaload sh_146 dX12_doze_33 (fun x2 => ?_)
    refine g_iload_n dX12_doze_34 1 rfl ?_
    refine g_iadd dX12_doze_35 ?_
    refine g_sipush dX12_doze_36 (v := 9999) (by decide) ?_
    refine g_icmp_le (tgt := 49) dX12_doze_39 (by decide) (fun _ => ?_) (fun _ => ?_)
    · refine g_iconst dX12_doze_49 (v := 0) (by decide) ?_
      refine g_istore_n dX12_doze_50 rfl (by decide) (lv' := [(2, .int 0), (0, .ref (gb g + 141)), (1, .int v1)]) rfl ?_
      refine g_lv [1, 2, 0] rfl ?_
      refine okL_X12_doze_51 g F v1 _ (fun μ5 => ?_) F 0 (sI (sI μ 141 1 0) 141 0 0)
      refine g_aload_n dX12_doze_67 0 rfl ?_
      refine g_vIp [] [] mw_X12_321 (ok_X12_allWrong g F μ5) (by omega) sh_141 (by decide) rfl rfl (Nat.le_of_ble_eq_true rfl) dX12_doze_68 (fun x6 _ => ?_)
      exact g_ret dX12_doze_71 rfl rfl
    · refine g_aload_n dX12_doze_42 0 rfl ?_
      refine g_bipush dX12_doze_43 (v := 7) (by decide) ?_
      refine g_vI [.int 7] [] mw_X12_318 (ok_X12_refuse g 7 (sI (sI μ 141 1 0) 141 0 0)) (by omega) sh_141 (by decide) rfl rfl (Nat.le_of_ble_eq_true rfl) dX12_doze_45 (fun x7 μ8 _ => ?_)
      exact g_ret dX12_doze_48 rfl rfl
  · refine g_aload_n dX12_doze_22 0 rfl ?_
    refine g_iconst dX12_doze_23 (v := 5) (by decide) ?_
    refine g_vI [.int 5] [] mw_X12_318 (ok_X12_refuse g 5 (sI (sI μ 141 1 0) 141 0 0)) (by omega) sh_141 (by decide) rfl rfl (Nat.le_of_ble_eq_true rfl) dX12_doze_24 (fun x9 μ10 _ => ?_)
    exact g_ret dX12_doze_27 rfl rfl
set_option maxHeartbeats 4000000 in
set_option maxRecDepth 100000 in
theorem ok_X12_mends (g : GG) (v1 : Int32)  (μ : Mm) : Ct g yX12_mends cX12_mends 3 (some (.int)) 1 cvI [.ref (gb g + 141), .int v1] μ (f_X12_mends v1 μ) := by
  refine ct_I (by decide +kernel) (Nat.le_of_ble_eq_true rfl) (show Go g RX12 cX12_mends 3 .ireturn 1 cvI 0 [(0, .ref (gb g + 141)), (1, .int v1)] [] μ (f_X12_mends v1 μ) from ?_)
  unfold f_X12_mends
  refine g_aload_n dX12_mends_0 0 rfl ?_
  refine g_getR (b := 146) fl_X12_35 sh_141 (by decide) rfl rfl dX12_mends_1 ?_
  refine g_bipush dX12_mends_4 (v := 13) (by decide) ?_
  refine g_iload_n dX12_mends_6 1 rfl ?_
  refine g_iadd dX12_mends_7 ?_
  refine g_iaload sh_146 dX12_mends_8 (fun x1 => ?_)
  refine g_istore_n dX12_mends_9 rfl (by decide) (lv' := [(2, .int x1), (0, .ref (gb g + 141)), (1, .int v1)]) rfl ?_
  refine g_aload_n dX12_mends_10 1 rfl ?_
  refine g_getR (b := 146) fl_X12_35 sh_141 (by decide) rfl rfl dX12_mends_11 ?_
  refine g_bipush dX12_mends_14 (v := 13) (by decide) ?_
  refine g_iload_n dX12_mends_16 2 rfl ?_
  refine g_iadd dX12_mends_17 ?_
  refine g_aload_n dX12_mends_18 1 rfl ?_
  refine g_getR (b := 146) fl_X12_35 sh_141 (by decide) rfl rfl dX12_mends_19 ?_
  refine g_bipush dX12_mends_22 (v := 38) (by decide) ?_
  refine g_iload_n dX12_mends_24 2 rfl ?_
  refine g_iadd dX12_mends_25 ?_
  refine g_iaload sh_146 dX12_mends_26 (fun x2 => ?_)
  refine g_iastore sh_146 dX12_mends_27 (fun μ3 => ?_)
  refine g_iload_n dX12_mends_28 0 rfl ?_
  exact g_ret dX12_mends_29 rfl rfl
set_option maxHeartbeats 4000000 in
set_option maxRecDepth 100000 in
theorem ok_X12_mend (g : GG) (v1 : Int32)  (μ : Mm) : Ct g yX12_mend cX12_mend 2 (some (.int)) 3 cvI [.ref (gb g + 141), .int v1] μ (f_X12_mend v1 μ) := by
  refine ct_I (by decide +kernel) (Nat.le_of_ble_eq_true rfl) (show Go g RX12 cX12_mend 2 .ireturn 3 cvI 0 [(0, .ref (gb g + 141)), (1, .int v1)] [] μ (f_X12_mend v1 μ) from ?_)
  unfold f_X12_mend
  refine g_aload_n dX12_mend_0 0 rfl ?_
  refine g_iconst dX12_mend_1 (v := 0) (by decide) ?_
  refine g_putI fl_X12_72 sh_141 (by decide) rfl dX12_mend_2 ?_
  refine g_aload_n dX12_mend_5 0 rfl ?_
  refine g_iconst dX12_mend_6 (v := 0) (by decide) ?_
  refine g_putI fl_X12_75 sh_141 (by decide) rfl dX12_mend_7 ?_
  refine g_aload_n dX12_mend_10 0 rfl ?_
  refine g_iload_n dX12_mend_11 1 rfl ?_
  refine g_vZp [.int v1] [] mw_X12_330 (ok_X12_isCellAt g v1 (sI (sI μ 141 1 0) 141 0 0)) (by omega) sh_141 (by decide) rfl rfl (Nat.le_of_ble_eq_true rfl) dX12_mend_12 (fun x1 _ => ?_)
  refine g_ifneB (tgt := 24) dX12_mend_15 (by decide) (fun _ => ?_) (fun _ => ?_)
  · refine g_aload_n dX12_mend_24 0 rfl ?_
    refine g_iload_n dX12_mend_25 1 rfl ?_
    refine g_vZp [.int v1] [] mw_X12_304 (ok_X12_isWrong g v1 (sI (sI μ 141 1 0) 141 0 0)) (by omega) sh_141 (by decide) rfl rfl (Nat.le_of_ble_eq_true rfl) dX12_mend_26 (fun x2 _ => ?_)
    refine g_ifeqB (tgt := 40) dX12_mend_29 (by decide) (fun _ => ?_) (fun _ => ?_)
    · refine g_aload_n dX12_mend_40 0 rfl ?_
      refine g_bipush dX12_mend_41 (v := 9) (by decide) ?_
      refine g_vI [.int 9] [] mw_X12_318 (ok_X12_refuse g 9 (sI (sI μ 141 1 0) 141 0 0)) (by omega) sh_141 (by decide) rfl rfl (Nat.le_of_ble_eq_true rfl) dX12_mend_43 (fun x4 μ5 _ => ?_)
      exact g_ret dX12_mend_46 rfl rfl
    · refine g_aload_n dX12_mend_32 0 rfl ?_
      refine g_iload_n dX12_mend_33 1 rfl ?_
      refine g_vI [.int v1] [] mw_X12_375 (ok_X12_mends g v1 (sI (sI μ 141 1 0) 141 0 0)) (by omega) sh_141 (by decide) rfl rfl (Nat.le_of_ble_eq_true rfl) dX12_mend_34 (fun x6 μ7 _ => ?_)
      refine g_goto (tgt := 46) dX12_mend_37 (by decide) ?_
      exact g_ret dX12_mend_46 rfl rfl
  · refine g_aload_n dX12_mend_18 0 rfl ?_
    refine g_iconst dX12_mend_19 (v := 2) (by decide) ?_
    refine g_vI [.int 2] [] mw_X12_318 (ok_X12_refuse g 2 (sI (sI μ 141 1 0) 141 0 0)) (by omega) sh_141 (by decide) rfl rfl (Nat.le_of_ble_eq_true rfl) dX12_mend_20 (fun x8 μ9 _ => ?_)
    exact g_ret dX12_mend_23 rfl rfl
set_option maxHeartbeats 4000000 in
set_option maxRecDepth 100000 in
theorem ok_X12_takes (g : GG) (v1 : Int32)  (μ : Mm) : Ct g yX12_takes cX12_takes 3 (some (.int)) 1 cvI [.ref (gb g + 141), .int v1] μ (f_X12_takes v1 μ) := by
  refine ct_I (by decide +kernel) (Nat.le_of_ble_eq_true rfl) (show Go g RX12 cX12_takes 3 .ireturn 1 cvI 0 [(0, .ref (gb g + 141)), (1, .int v1)] [] μ (f_X12_takes v1 μ) from ?_)
  unfold f_X12_takes
  refine g_aload_n dX12_takes_0 0 rfl ?_
  refine g_getR (b := 146) fl_X12_35 sh_141 (by decide) rfl rfl dX12_takes_1 ?_
  refine g_bipush dX12_takes_4 (v := 13) (by decide) ?_
  refine g_iload_n dX12_takes_6 1 rfl ?_
  refine g_iadd dX12_takes_7 ?_
  refine g_iaload sh_146 dX12_takes_8 (fun x1 => ?_)
  refine g_istore_n dX12_takes_9 rfl (by decide) (lv' := [(2, .int x1), (0, .ref (gb g + 141)), (1, .int v1)]) rfl ?_
  refine g_aload_n dX12_takes_10 1 rfl ?_
  refine g_getR (b := 146) fl_X12_35 sh_141 (by decide) rfl rfl dX12_takes_11 ?_
  refine g_bipush dX12_takes_14 (v := 13) (by decide) ?_
  refine g_iload_n dX12_takes_16 2 rfl ?_
  refine g_iadd dX12_takes_17 ?_
  refine g_iconst dX12_takes_18 (v := 0) (by decide) ?_
  refine g_iastore sh_146 dX12_takes_19 (fun μ2 => ?_)
  refine g_aload_n dX12_takes_20 1 rfl ?_
  refine g_getR (b := 146) fl_X12_35 sh_141 (by decide) rfl rfl dX12_takes_21 ?_
  refine g_bipush dX12_takes_24 (v := 6) (by decide) ?_
  refine g_dup2 dX12_takes_26 rfl rfl ?_
  refine g_iaload sh_146 dX12_takes_27 (fun x3 => ?_)
  refine g_iload_n dX12_takes_28 0 rfl ?_
  refine g_iadd dX12_takes_29 ?_
  refine g_iastore sh_146 dX12_takes_30 (fun μ4 => ?_)
  refine g_iload_n dX12_takes_31 0 rfl ?_
  exact g_ret dX12_takes_32 rfl rfl
set_option maxHeartbeats 4000000 in
set_option maxRecDepth 100000 in
theorem ok_X12_steal (g : GG) (v1 : Int32)  (μ : Mm) : Ct g yX12_steal cX12_steal 2 (some (.int)) 3 cvI [.ref (gb g + 141), .int v1] μ (f_X12_steal v1 μ) := by
  refine ct_I (by decide +kernel) (Nat.le_of_ble_eq_true rfl) (show Go g RX12 cX12_steal 2 .ireturn 3 cvI 0 [(0, .ref (gb g + 141)), (1, .int v1)] [] μ (f_X12_steal v1 μ) from ?_)
  unfold f_X12_steal
  refine g_aload_n dX12_steal_0 0 rfl ?_
  refine g_iconst dX12_steal_1 (v := 0) (by decide) ?_
  refine g_putI fl_X12_72 sh_141 (by decide) rfl dX12_steal_2 ?_
  refine g_aload_n dX12_steal_5 0 rfl ?_
  refine g_iconst dX12_steal_6 (v := 0) (by decide) ?_
  refine g_putI fl_X12_75 sh_141 (by decide) rfl dX12_steal_7 ?_
  refine g_aload_n dX12_steal_10 0 rfl ?_
  refine g_iload_n dX12_steal_11 1 rfl ?_
  refine g_vZp [.int v1] [] mw_X12_330 (ok_X12_isCellAt g v1 (sI (sI μ 141 1 0) 141 0 0)) (by omega) sh_141 (by decide) rfl rfl (Nat.le_of_ble_eq_true rfl) dX12_steal_12 (fun x1 _ => ?_)
  refine g_ifneB (tgt := 24) dX12_steal_15 (by decide) (fun _ => ?_) (fun _ => ?_)
  · refine g_aload_n dX12_steal_24 0 rfl ?_
    refine g_getR (b := 146) fl_X12_35 sh_141 (by decide) rfl rfl dX12_steal_25 ?_
    refine g_bipush dX12_steal_28 (v := 13) (by decide) ?_
    refine g_iload_n dX12_steal_30 1 rfl ?_
    refine g_iadd dX12_steal_31 ?_
    refine g_iaload sh_146 dX12_steal_32 (fun x2 => ?_)
    refine g_if_ne (tgt := 45) dX12_steal_33 (by decide) (fun _ => ?_) (fun _ => ?_)
    · refine g_aload_n dX12_steal_45 0 rfl ?_
      refine g_iload_n dX12_steal_46 1 rfl ?_
      refine g_vI [.int v1] [] mw_X12_378 (ok_X12_takes g v1 (sI (sI μ 141 1 0) 141 0 0)) (by omega) sh_141 (by decide) rfl rfl (Nat.le_of_ble_eq_true rfl) dX12_steal_47 (fun x4 μ5 _ => ?_)
      exact g_ret dX12_steal_50 rfl rfl
    · refine g_aload_n dX12_steal_36 0 rfl ?_
      refine g_bipush dX12_steal_37 (v := 9) (by decide) ?_
      refine g_vI [.int 9] [] mw_X12_318 (ok_X12_refuse g 9 (sI (sI μ 141 1 0) 141 0 0)) (by omega) sh_141 (by decide) rfl rfl (Nat.le_of_ble_eq_true rfl) dX12_steal_39 (fun x6 μ7 _ => ?_)
      refine g_goto (tgt := 50) dX12_steal_42 (by decide) ?_
      exact g_ret dX12_steal_50 rfl rfl
  · refine g_aload_n dX12_steal_18 0 rfl ?_
    refine g_iconst dX12_steal_19 (v := 2) (by decide) ?_
    refine g_vI [.int 2] [] mw_X12_318 (ok_X12_refuse g 2 (sI (sI μ 141 1 0) 141 0 0)) (by omega) sh_141 (by decide) rfl rfl (Nat.le_of_ble_eq_true rfl) dX12_steal_20 (fun x8 μ9 _ => ?_)
    exact g_ret dX12_steal_23 rfl rfl
set_option maxHeartbeats 4000000 in
set_option maxRecDepth 100000 in
theorem ok_X12_scratch (g : GG) (v1 : Int32) (v2 : Int32)  (μ : Mm) : Ct g yX12_scratch cX12_scratch 4 (some (.int)) 3 cvI [.ref (gb g + 141), .int v1, .int v2] μ (f_X12_scratch v1 v2 μ) := by
  refine ct_I (by decide +kernel) (Nat.le_of_ble_eq_true rfl) (show Go g RX12 cX12_scratch 4 .ireturn 3 cvI 0 [(0, .ref (gb g + 141)), (1, .int v1), (2, .int v2)] [] μ (f_X12_scratch v1 v2 μ) from ?_)
  unfold f_X12_scratch
  refine g_aload_n dX12_scratch_0 0 rfl ?_
  refine g_iconst dX12_scratch_1 (v := 0) (by decide) ?_
  refine g_putI fl_X12_72 sh_141 (by decide) rfl dX12_scratch_2 ?_
  refine g_aload_n dX12_scratch_5 0 rfl ?_
  refine g_iconst dX12_scratch_6 (v := 0) (by decide) ?_
  refine g_putI fl_X12_75 sh_141 (by decide) rfl dX12_scratch_7 ?_
  refine g_aload_n dX12_scratch_10 0 rfl ?_
  refine g_iload_n dX12_scratch_11 1 rfl ?_
  refine g_vZp [.int v1] [] mw_X12_330 (ok_X12_isCellAt g v1 (sI (sI μ 141 1 0) 141 0 0)) (by omega) sh_141 (by decide) rfl rfl (Nat.le_of_ble_eq_true rfl) dX12_scratch_12 (fun x1 _ => ?_)
  refine g_ifneB (tgt := 24) dX12_scratch_15 (by decide) (fun _ => ?_) (fun _ => ?_)
  · refine g_iload_n dX12_scratch_24 2 rfl ?_
    refine g_i2l dX12_scratch_25 ?_
    refine g_lconst dX12_scratch_26 (v := 0) (by decide) ?_
    refine g_ldc2 kl_X12_249 dX12_scratch_27 ?_
    refine g_sZp [.long (v2.toInt64), .long 0, .long 9] [] mw_X12_107 (ok_X12_isIn g (v2.toInt64) 0 9 (sI (sI μ 141 1 0) 141 0 0)) (by omega) rfl rfl (Nat.le_of_ble_eq_true rfl) dX12_scratch_30 (fun x2 _ => ?_)
    refine g_ifneB (tgt := 42) dX12_scratch_33 (by decide) (fun _ => ?_) (fun _ => ?_)
    · refine g_aload_n dX12_scratch_42 0 rfl ?_
      refine g_getR (b := 146) fl_X12_35 sh_141 (by decide) rfl rfl dX12_scratch_43 ?_
      refine g_bipush dX12_scratch_46 (v := 13) (by decide) ?_
      refine g_iload_n dX12_scratch_48 1 rfl ?_
      refine g_iadd dX12_scratch_49 ?_
      refine g_iaload sh_146 dX12_scratch_50 (fun x3 => ?_)
      refine g_istore_n dX12_scratch_51 rfl (by decide) (lv' := [(3, .int x3), (0, .ref (gb g + 141)), (1, .int v1), (2, .int v2)]) rfl ?_
      refine g_iload_n dX12_scratch_52 0 rfl ?_
      refine g_iload_n dX12_scratch_53 3 rfl ?_
      refine g_icmp_ne (tgt := 64) dX12_scratch_54 (by decide) (fun _ => ?_) (fun _ => ?_)
      · refine g_aload_n dX12_scratch_64 1 rfl ?_
        refine g_getR (b := 146) fl_X12_35 sh_141 (by decide) rfl rfl dX12_scratch_65 ?_
        refine g_bipush dX12_scratch_68 (v := 13) (by decide) ?_
        refine g_iload_n dX12_scratch_70 2 rfl ?_
        refine g_iadd dX12_scratch_71 ?_
        refine g_iload_n dX12_scratch_72 3 rfl ?_
        refine g_iastore sh_146 dX12_scratch_73 (fun μ4 => ?_)
        refine g_iload_n dX12_scratch_74 0 rfl ?_
        exact g_ret dX12_scratch_75 rfl rfl
      · refine g_aload_n dX12_scratch_57 1 rfl ?_
        refine g_bipush dX12_scratch_58 (v := 9) (by decide) ?_
        refine g_vI [.int 9] [] mw_X12_318 (ok_X12_refuse g 9 (sI (sI μ 141 1 0) 141 0 0)) (by omega) sh_141 (by decide) rfl rfl (Nat.le_of_ble_eq_true rfl) dX12_scratch_60 (fun x5 μ6 _ => ?_)
        exact g_ret dX12_scratch_63 rfl rfl
    · refine g_aload_n dX12_scratch_36 0 rfl ?_
      refine g_iconst dX12_scratch_37 (v := 5) (by decide) ?_
      refine g_vI [.int 5] [] mw_X12_318 (ok_X12_refuse g 5 (sI (sI μ 141 1 0) 141 0 0)) (by omega) sh_141 (by decide) rfl rfl (Nat.le_of_ble_eq_true rfl) dX12_scratch_38 (fun x7 μ8 _ => ?_)
      exact g_ret dX12_scratch_41 rfl rfl
  · refine g_aload_n dX12_scratch_18 0 rfl ?_
    refine g_iconst dX12_scratch_19 (v := 2) (by decide) ?_
    refine g_vI [.int 2] [] mw_X12_318 (ok_X12_refuse g 2 (sI (sI μ 141 1 0) 141 0 0)) (by omega) sh_141 (by decide) rfl rfl (Nat.le_of_ble_eq_true rfl) dX12_scratch_20 (fun x9 μ10 _ => ?_)
    exact g_ret dX12_scratch_23 rfl rfl
set_option maxHeartbeats 4000000 in
set_option maxRecDepth 100000 in
theorem ok_X12_vouch (g : GG) (v1 : Int32)  (μ : Mm) : Ct g yX12_vouch cX12_vouch 3 (some (.int)) 3 cvI [.ref (gb g + 141), .int v1] μ (f_X12_vouch v1 μ) := by
  refine ct_I (by decide +kernel) (Nat.le_of_ble_eq_true rfl) (show Go g RX12 cX12_vouch 3 .ireturn 3 cvI 0 [(0, .ref (gb g + 141)), (1, .int v1)] [] μ (f_X12_vouch v1 μ) from ?_)
  unfold f_X12_vouch
  refine g_aload_n dX12_vouch_0 0 rfl ?_
  refine g_iconst dX12_vouch_1 (v := 0) (by decide) ?_
  refine g_putI fl_X12_72 sh_141 (by decide) rfl dX12_vouch_2 ?_
  refine g_aload_n dX12_vouch_5 0 rfl ?_
  refine g_iconst dX12_vouch_6 (v := 0) (by decide) ?_
  refine g_putI fl_X12_75 sh_141 (by decide) rfl dX12_vouch_7 ?_
  refine g_aload_n dX12_vouch_10 0 rfl ?_
  refine g_iload_n dX12_vouch_11 1 rfl ?_
  refine g_vZp [.int v1] [] mw_X12_330 (ok_X12_isCellAt g v1 (sI (sI μ 141 1 0) 141 0 0)) (by omega) sh_141 (by decide) rfl rfl (Nat.le_of_ble_eq_true rfl) dX12_vouch_12 (fun x1 _ => ?_)
  refine g_ifneB (tgt := 24) dX12_vouch_15 (by decide) (fun _ => ?_) (fun _ => ?_)
  · refine g_aload_n dX12_vouch_24 0 rfl ?_
    refine g_iload_n dX12_vouch_25 1 rfl ?_
    refine g_vZp [.int v1] [] mw_X12_304 (ok_X12_isWrong g v1 (sI (sI μ 141 1 0) 141 0 0)) (by omega) sh_141 (by decide) rfl rfl (Nat.le_of_ble_eq_true rfl) dX12_vouch_26 (fun x2 _ => ?_)
    refine g_ifneB (tgt := 39) dX12_vouch_29 (by decide) (fun _ => ?_) (fun _ => ?_)
    · refine g_aload_n dX12_vouch_39 0 rfl ?_
      refine g_getR (b := 146) fl_X12_35 sh_141 (by decide) rfl rfl dX12_vouch_40 ?_
      refine g_bipush dX12_vouch_43 (v := 38) (by decide) ?_
      refine g_iload_n dX12_vouch_45 1 rfl ?_
      refine g_iadd dX12_vouch_46 ?_
      refine g_iaload sh_146 dX12_vouch_47 (fun x3 => ?_)
      refine g_istore_n dX12_vouch_48 rfl (by decide) (lv' := [(2, .int x3), (0, .ref (gb g + 141)), (1, .int v1)]) rfl ?_
      refine g_aload_n dX12_vouch_49 1 rfl ?_
      refine g_getR (b := 146) fl_X12_35 sh_141 (by decide) rfl rfl dX12_vouch_50 ?_
      refine g_bipush dX12_vouch_53 (v := 38) (by decide) ?_
      refine g_iload_n dX12_vouch_55 2 rfl ?_
      refine g_iadd dX12_vouch_56 ?_
      refine g_aload_n dX12_vouch_57 1 rfl ?_
      refine g_getR (b := 146) fl_X12_35 sh_141 (by decide) rfl rfl dX12_vouch_58 ?_
      refine g_bipush dX12_vouch_61 (v := 13) (by decide) ?_
      refine g_iload_n dX12_vouch_63 2 rfl ?_
      refine g_iadd dX12_vouch_64 ?_
      refine g_iaload sh_146 dX12_vouch_65 (fun x4 => ?_)
      refine g_iastore sh_146 dX12_vouch_66 (fun μ5 => ?_)
      refine g_iload_n dX12_vouch_67 0 rfl ?_
      exact g_ret dX12_vouch_68 rfl rfl
    · refine g_aload_n dX12_vouch_32 0 rfl ?_
      refine g_bipush dX12_vouch_33 (v := 9) (by decide) ?_
      refine g_vI [.int 9] [] mw_X12_318 (ok_X12_refuse g 9 (sI (sI μ 141 1 0) 141 0 0)) (by omega) sh_141 (by decide) rfl rfl (Nat.le_of_ble_eq_true rfl) dX12_vouch_35 (fun x6 μ7 _ => ?_)
      exact g_ret dX12_vouch_38 rfl rfl
  · refine g_aload_n dX12_vouch_18 0 rfl ?_
    refine g_iconst dX12_vouch_19 (v := 2) (by decide) ?_
    refine g_vI [.int 2] [] mw_X12_318 (ok_X12_refuse g 2 (sI (sI μ 141 1 0) 141 0 0)) (by omega) sh_141 (by decide) rfl rfl (Nat.le_of_ble_eq_true rfl) dX12_vouch_20 (fun x8 μ9 _ => ?_)
    exact g_ret dX12_vouch_23 rfl rfl
