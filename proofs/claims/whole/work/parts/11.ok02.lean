set_option maxHeartbeats 4000000 in
set_option maxRecDepth 100000 in
theorem ok_X2_canSteal (g : GG) (r0 : Nat) (v1 : Int32) (v2 : Int32) (v3 : Int32) (hr0 : Bk r0) (μ : Mm) : Ct g yX2_canSteal cX2_canSteal 4 (some (.boolean)) 3 (cvZp μ) [.ref (gb g + r0), .int v1, .int v2, .int v3] μ (f_X2_canSteal r0 v1 v2 v3 μ) := by
  refine ct_Zp (by decide +kernel) (Nat.le_of_ble_eq_true rfl) (show Go g RX2 cX2_canSteal 4 .ireturn 3 (cvZp μ) 0 [(0, .ref (gb g + r0)), (1, .int v1), (2, .int v2), (3, .int v3)] [] μ (f_X2_canSteal r0 v1 v2 v3 μ) from ?_)
  unfold f_X2_canSteal
  refine g_iload_n dX2_canSteal_0 3 rfl ?_
  refine g_iload_n dX2_canSteal_1 1 rfl ?_
  refine g_ishr dX2_canSteal_2 ?_
  refine g_iconst dX2_canSteal_3 (v := 1) (by decide) ?_
  refine g_iand dX2_canSteal_4 ?_
  refine g_if_ne (tgt := 31) dX2_canSteal_5 (by decide) (fun _ => ?_) (fun _ => ?_)
  · refine g_iconst dX2_canSteal_31 (v := 0) (by decide) ?_
    exact g_ret dX2_canSteal_32 rfl rfl
  · refine g_aload_n dX2_canSteal_8 0 rfl ?_
    refine g_getR (b := (r0 + 8)) fl_X2_9 (bk_0 hr0) (by decide) rfl rfl dX2_canSteal_9 ?_
    refine g_iload_n dX2_canSteal_12 1 rfl ?_
    refine g_iaload (bk_8 hr0) dX2_canSteal_13 (fun x1 => ?_)
    refine g_if_eq (tgt := 31) dX2_canSteal_14 (by decide) (fun _ => ?_) (fun _ => ?_)
    · refine g_iconst dX2_canSteal_31 (v := 0) (by decide) ?_
      exact g_ret dX2_canSteal_32 rfl rfl
    · refine g_aload_n dX2_canSteal_17 0 rfl ?_
      refine g_iload_n dX2_canSteal_18 2 rfl ?_
      refine g_iload_n dX2_canSteal_19 1 rfl ?_
      refine g_vIp [.int v2, .int v1] [] mw_X2_15 (ok_X0_stepsBetween g r0 v2 v1 hr0 μ) (by omega) (bk_0 hr0) (by decide) rfl rfl (Nat.le_of_ble_eq_true rfl) dX2_canSteal_20 (fun x2 _ => ?_)
      refine g_iconst dX2_canSteal_23 (v := 2) (by decide) ?_
      refine g_icmp_lt (tgt := 31) dX2_canSteal_24 (by decide) (fun _ => ?_) (fun _ => ?_)
      · refine g_iconst dX2_canSteal_31 (v := 0) (by decide) ?_
        exact g_ret dX2_canSteal_32 rfl rfl
      · refine g_iconst dX2_canSteal_27 (v := 1) (by decide) ?_
        refine g_goto (tgt := 32) dX2_canSteal_28 (by decide) ?_
        exact g_ret dX2_canSteal_32 rfl rfl
set_option maxHeartbeats 4000000 in
set_option maxRecDepth 100000 in
theorem okL_X2_loot_25 (g : GG) (dr : Nat) (F : Nat) (rc_X2_lootBehindStep : Nat → Int32 → Int32 → Int32 → Mm → Option (Int32)) (r0 : Nat) (v1 : Int32) (v2 : Int32) (v3 : Int32) (k : Int32 → Option (Int32)) (μ : Mm) (hr0 : Bk r0) (hr_X2_lootBehindStep : ∀ (r0 : Nat) (v1 : Int32) (v2 : Int32) (v3 : Int32) (hr0 : Bk r0) (μ : Mm), Ct g yX2_lootBehindStep cX2_lootBehindStep 7 (some (.int)) dr (cvIp μ) [.ref (gb g + r0), .int v1, .int v2, .int v3] μ (rc_X2_lootBehindStep r0 v1 v2 v3 μ)) (hk : ∀ (v4 : Int32), Go g RX2 cX2_loot 6 .ireturn (dr + 4) (cvIp μ) 80 [(4, .int v4)] [] μ (k v4)) : ∀ (n : Nat) (v4 : Int32) (v5 : Int32), Go g RX2 cX2_loot 6 .ireturn (dr + 4) (cvIp μ) 25 [(0, .ref (gb g + r0)), (1, .int v1), (2, .int v2), (3, .int v3), (4, .int v4), (5, .int v5)] [] μ (L_X2_loot_25 F rc_X2_lootBehindStep r0 v1 v2 v3 k μ n v4 v5) := by
  intro n
  induction n with
  | zero =>
    intro v4 v5
    exact g_none
  | succ n ih =>
    intro v4 v5
    rw [L_X2_loot_25_s]
    refine g_iload dX2_loot_25 5 rfl ?_
    refine g_aload_n dX2_loot_27 0 rfl ?_
    refine g_vIp [] [.int v5] mw_X2_25 (ok_X0_cells g r0 hr0 μ) (by omega) (bk_0 hr0) (by decide) rfl rfl (Nat.le_of_ble_eq_true rfl) dX2_loot_28 (fun x2 _ => ?_)
    refine g_icmp_ge (tgt := 80) dX2_loot_31 (by decide) (fun _ => ?_) (fun _ => ?_)
    · refine g_lv [4] rfl ?_
      exact hk v4
    · refine g_aload_n dX2_loot_34 0 rfl ?_
      refine g_iload dX2_loot_35 5 rfl ?_
      refine g_iload_n dX2_loot_37 2 rfl ?_
      refine g_iload_n dX2_loot_38 3 rfl ?_
      refine g_sZp [.ref (gb g + r0), .int v5, .int v2, .int v3] [] mw_X2_29 (ok_X2_canSteal g r0 v5 v2 v3 hr0 μ) (by omega) rfl rfl (Nat.le_of_ble_eq_true rfl) dX2_loot_39 (fun x3 _ => ?_)
      refine g_ifeqB (tgt := 74) dX2_loot_42 (by decide) (fun _ => ?_) (fun _ => ?_)
      · refine g_iinc dX2_loot_74 5 rfl (v := (v5 + 1)) rfl (by decide) (lv' := [(5, .int (v5 + 1)), (0, .ref (gb g + r0)), (1, .int v1), (2, .int v2), (3, .int v3), (4, .int v4)]) rfl ?_
        refine g_goto (tgt := 25) dX2_loot_77 (by decide) ?_
        refine g_lv [1, 2, 3, 4, 5, 0] rfl ?_
        exact ih v4 (v5 + 1)
      · refine g_iload dX2_loot_45 4 rfl ?_
        refine g_aload_n dX2_loot_47 0 rfl ?_
        refine g_getR (b := (r0 + 8)) fl_X2_9 (bk_0 hr0) (by decide) rfl rfl dX2_loot_48 ?_
        refine g_iload dX2_loot_51 5 rfl ?_
        refine g_iaload (bk_8 hr0) dX2_loot_53 (fun x5 => ?_)
        refine g_aload_n dX2_loot_54 0 rfl ?_
        refine g_iload_n dX2_loot_55 1 rfl ?_
        refine g_iconst dX2_loot_56 (v := 1) (by decide) ?_
        refine g_isub dX2_loot_57 ?_
        refine g_iload_n dX2_loot_58 2 rfl ?_
        refine g_iload_n dX2_loot_59 3 rfl ?_
        refine g_iconst dX2_loot_60 (v := 1) (by decide) ?_
        refine g_iload dX2_loot_61 5 rfl ?_
        refine g_ishl dX2_loot_63 ?_
        refine g_ior dX2_loot_64 ?_
        refine g_sIp [.ref (gb g + r0), .int (v1 - (1 : Int32)), .int v2, .int (v3 ||| ((1 : Int32) <<< (v5 &&& 31)))] [.int x5, .int v4] mw_X2_19 (hr_X2_lootBehindStep r0 (v1 - (1 : Int32)) v2 (v3 ||| ((1 : Int32) <<< (v5 &&& 31))) hr0 μ) (by omega) rfl rfl (Nat.le_of_ble_eq_true rfl) dX2_loot_65 (fun x6 _ => ?_)
        refine g_iadd dX2_loot_68 ?_
        refine g_mmax mw_X2_33 (by omega) (Nat.le_of_ble_eq_true rfl) dX2_loot_69 (fun x7 => ?_)
        refine g_istore dX2_loot_72 (by decide) (lv' := [(4, .int x7), (0, .ref (gb g + r0)), (1, .int v1), (2, .int v2), (3, .int v3), (5, .int v5)]) rfl ?_
        refine g_iinc dX2_loot_74 5 rfl (v := (v5 + 1)) rfl (by decide) (lv' := [(5, .int (v5 + 1)), (4, .int x7), (0, .ref (gb g + r0)), (1, .int v1), (2, .int v2), (3, .int v3)]) rfl ?_
        refine g_goto (tgt := 25) dX2_loot_77 (by decide) ?_
        refine g_lv [2, 3, 4, 5, 1, 0] rfl ?_
        exact ih x7 (v5 + 1)
set_option maxHeartbeats 4000000 in
set_option maxRecDepth 100000 in
theorem ok_X2_loot (g : GG) (dr : Nat) (F : Nat) (rc_X2_lootBehindStep : Nat → Int32 → Int32 → Int32 → Mm → Option (Int32)) (r0 : Nat) (v1 : Int32) (v2 : Int32) (v3 : Int32) (hr0 : Bk r0) (hr_X2_lootBehindStep : ∀ (r0 : Nat) (v1 : Int32) (v2 : Int32) (v3 : Int32) (hr0 : Bk r0) (μ : Mm), Ct g yX2_lootBehindStep cX2_lootBehindStep 7 (some (.int)) dr (cvIp μ) [.ref (gb g + r0), .int v1, .int v2, .int v3] μ (rc_X2_lootBehindStep r0 v1 v2 v3 μ)) (μ : Mm) : Ct g yX2_loot cX2_loot 6 (some (.int)) (dr + 4) (cvIp μ) [.ref (gb g + r0), .int v1, .int v2, .int v3] μ (f_X2_loot F rc_X2_lootBehindStep r0 v1 v2 v3 μ) := by
  refine ct_Ip (by decide +kernel) (Nat.le_of_ble_eq_true rfl) (show Go g RX2 cX2_loot 6 .ireturn (dr + 4) (cvIp μ) 0 [(0, .ref (gb g + r0)), (1, .int v1), (2, .int v2), (3, .int v3)] [] μ (f_X2_loot F rc_X2_lootBehindStep r0 v1 v2 v3 μ) from ?_)
  unfold f_X2_loot
  refine g_iload_n dX2_loot_0 1 rfl ?_
  refine g_if_le (tgt := 9) dX2_loot_1 (by decide) (fun _ => ?_) (fun _ => ?_)
  · refine g_iconst dX2_loot_9 (v := 0) (by decide) ?_
    exact g_ret dX2_loot_10 rfl rfl
  · refine g_iload_n dX2_loot_4 1 rfl ?_
    refine g_iconst dX2_loot_5 (v := 2) (by decide) ?_
    refine g_icmp_le (tgt := 11) dX2_loot_6 (by decide) (fun _ => ?_) (fun _ => ?_)
    · refine g_aload_n dX2_loot_11 0 rfl ?_
      refine g_iload_n dX2_loot_12 1 rfl ?_
      refine g_iconst dX2_loot_13 (v := 1) (by decide) ?_
      refine g_isub dX2_loot_14 ?_
      refine g_iload_n dX2_loot_15 2 rfl ?_
      refine g_iload_n dX2_loot_16 3 rfl ?_
      refine g_sIp [.ref (gb g + r0), .int (v1 - (1 : Int32)), .int v2, .int v3] [] mw_X2_19 (hr_X2_lootBehindStep r0 (v1 - (1 : Int32)) v2 v3 hr0 μ) (by omega) rfl rfl (Nat.le_of_ble_eq_true rfl) dX2_loot_17 (fun x1 _ => ?_)
      refine g_istore dX2_loot_20 (by decide) (lv' := [(4, .int x1), (0, .ref (gb g + r0)), (1, .int v1), (2, .int v2), (3, .int v3)]) rfl ?_
      refine g_iconst dX2_loot_22 (v := 0) (by decide) ?_
      refine g_istore dX2_loot_23 (by decide) (lv' := [(5, .int 0), (4, .int x1), (0, .ref (gb g + r0)), (1, .int v1), (2, .int v2), (3, .int v3)]) rfl ?_
      refine g_lv [2, 3, 4, 5, 1, 0] rfl ?_
      refine okL_X2_loot_25 g dr F rc_X2_lootBehindStep r0 v1 v2 v3 _ μ hr0 hr_X2_lootBehindStep (fun u8 => ?_) F x1 0
      refine g_iload dX2_loot_80 0 rfl ?_
      exact g_ret dX2_loot_82 rfl rfl
    · refine g_iconst dX2_loot_9 (v := 0) (by decide) ?_
      exact g_ret dX2_loot_10 rfl rfl
set_option maxHeartbeats 4000000 in
set_option maxRecDepth 100000 in
theorem okL_X2_lootBehindStep_18 (g : GG) (dr : Nat) (F : Nat) (rc_X2_loot : Nat → Int32 → Int32 → Int32 → Mm → Option (Int32)) (r0 : Nat) (v1 : Int32) (v2 : Int32) (v3 : Int32) (k : Int32 → Option (Int32)) (μ : Mm) (hr0 : Bk r0) (hr_X2_loot : ∀ (r0 : Nat) (v1 : Int32) (v2 : Int32) (v3 : Int32) (hr0 : Bk r0) (μ : Mm), Ct g yX2_loot cX2_loot 6 (some (.int)) dr (cvIp μ) [.ref (gb g + r0), .int v1, .int v2, .int v3] μ (rc_X2_loot r0 v1 v2 v3 μ)) (hk : ∀ (v4 : Int32), Go g RX2 cX2_lootBehindStep 7 .ireturn (dr + 2) (cvIp μ) 60 [(4, .int v4)] [] μ (k v4)) : ∀ (n : Nat) (v4 : Int32) (v5 : Int32), Go g RX2 cX2_lootBehindStep 7 .ireturn (dr + 2) (cvIp μ) 18 [(0, .ref (gb g + r0)), (1, .int v1), (2, .int v2), (3, .int v3), (4, .int v4), (5, .int v5)] [] μ (L_X2_lootBehindStep_18 F rc_X2_loot r0 v1 v2 v3 k μ n v4 v5) := by
  intro n
  induction n with
  | zero =>
    intro v4 v5
    exact g_none
  | succ n ih =>
    intro v4 v5
    rw [L_X2_lootBehindStep_18_s]
    refine g_iload dX2_lootBehindStep_18 5 rfl ?_
    refine g_iconst dX2_lootBehindStep_20 (v := 4) (by decide) ?_
    refine g_icmp_ge (tgt := 60) dX2_lootBehindStep_21 (by decide) (fun _ => ?_) (fun _ => ?_)
    · refine g_lv [4] rfl ?_
      exact hk v4
    · refine g_aload_n dX2_lootBehindStep_24 0 rfl ?_
      refine g_iload_n dX2_lootBehindStep_25 2 rfl ?_
      refine g_iload dX2_lootBehindStep_26 5 rfl ?_
      refine g_vIp [.int v2, .int v5] [] mw_X2_41 (ok_X0_gone g r0 v2 v5 hr0 μ) (by omega) (bk_0 hr0) (by decide) rfl rfl (Nat.le_of_ble_eq_true rfl) dX2_lootBehindStep_28 (fun x2 _ => ?_)
      refine g_istore dX2_lootBehindStep_31 (by decide) (lv' := [(6, .int x2), (0, .ref (gb g + r0)), (1, .int v1), (2, .int v2), (3, .int v3), (4, .int v4), (5, .int v5)]) rfl ?_
      refine g_iload dX2_lootBehindStep_33 0 rfl ?_
      refine g_iconst dX2_lootBehindStep_35 (v := (-1)) (by decide) ?_
      refine g_icmp_eq (tgt := 54) dX2_lootBehindStep_36 (by decide) (fun _ => ?_) (fun _ => ?_)
      · refine g_iinc dX2_lootBehindStep_54 6 rfl (v := (v5 + 1)) rfl (by decide) (lv' := [(5, .int (v5 + 1)), (6, .int x2), (0, .ref (gb g + r0)), (1, .int v1), (2, .int v2), (3, .int v3), (4, .int v4)]) rfl ?_
        refine g_goto (tgt := 18) dX2_lootBehindStep_57 (by decide) ?_
        refine g_lv [2, 3, 4, 5, 6, 0] rfl ?_
        exact ih v4 (v5 + 1)
      · refine g_iload dX2_lootBehindStep_39 5 rfl ?_
        refine g_aload_n dX2_lootBehindStep_41 1 rfl ?_
        refine g_iload_n dX2_lootBehindStep_42 2 rfl ?_
        refine g_iload dX2_lootBehindStep_43 0 rfl ?_
        refine g_iload_n dX2_lootBehindStep_45 4 rfl ?_
        refine g_sIp [.ref (gb g + r0), .int v1, .int x2, .int v3] [.int v4] mw_X2_38 (hr_X2_loot r0 v1 x2 v3 hr0 μ) (by omega) rfl rfl (Nat.le_of_ble_eq_true rfl) dX2_lootBehindStep_46 (fun x4 _ => ?_)
        refine g_mmin mw_X2_44 (by omega) (Nat.le_of_ble_eq_true rfl) dX2_lootBehindStep_49 (fun x5 => ?_)
        refine g_istore dX2_lootBehindStep_52 (by decide) (lv' := [(4, .int x5), (6, .int x2), (0, .ref (gb g + r0)), (1, .int v1), (2, .int v2), (3, .int v3), (5, .int v5)]) rfl ?_
        refine g_iinc dX2_lootBehindStep_54 6 rfl (v := (v5 + 1)) rfl (by decide) (lv' := [(5, .int (v5 + 1)), (4, .int x5), (6, .int x2), (0, .ref (gb g + r0)), (1, .int v1), (2, .int v2), (3, .int v3)]) rfl ?_
        refine g_goto (tgt := 18) dX2_lootBehindStep_57 (by decide) ?_
        refine g_lv [3, 4, 5, 6, 1, 0] rfl ?_
        exact ih x5 (v5 + 1)
set_option maxHeartbeats 4000000 in
set_option maxRecDepth 100000 in
theorem ok_X2_lootBehindStep (g : GG) (dr : Nat) (F : Nat) (rc_X2_loot : Nat → Int32 → Int32 → Int32 → Mm → Option (Int32)) (r0 : Nat) (v1 : Int32) (v2 : Int32) (v3 : Int32) (hr0 : Bk r0) (hr_X2_loot : ∀ (r0 : Nat) (v1 : Int32) (v2 : Int32) (v3 : Int32) (hr0 : Bk r0) (μ : Mm), Ct g yX2_loot cX2_loot 6 (some (.int)) dr (cvIp μ) [.ref (gb g + r0), .int v1, .int v2, .int v3] μ (rc_X2_loot r0 v1 v2 v3 μ)) (μ : Mm) : Ct g yX2_lootBehindStep cX2_lootBehindStep 7 (some (.int)) (dr + 2) (cvIp μ) [.ref (gb g + r0), .int v1, .int v2, .int v3] μ (f_X2_lootBehindStep F rc_X2_loot r0 v1 v2 v3 μ) := by
  refine ct_Ip (by decide +kernel) (Nat.le_of_ble_eq_true rfl) (show Go g RX2 cX2_lootBehindStep 7 .ireturn (dr + 2) (cvIp μ) 0 [(0, .ref (gb g + r0)), (1, .int v1), (2, .int v2), (3, .int v3)] [] μ (f_X2_lootBehindStep F rc_X2_loot r0 v1 v2 v3 μ) from ?_)
  unfold f_X2_lootBehindStep
  refine g_iload_n dX2_lootBehindStep_0 1 rfl ?_
  refine g_if_gt (tgt := 6) dX2_lootBehindStep_1 (by decide) (fun _ => ?_) (fun _ => ?_)
  · refine g_aload_n dX2_lootBehindStep_6 0 rfl ?_
    refine g_iload_n dX2_lootBehindStep_7 1 rfl ?_
    refine g_iload_n dX2_lootBehindStep_8 2 rfl ?_
    refine g_iload_n dX2_lootBehindStep_9 3 rfl ?_
    refine g_sIp [.ref (gb g + r0), .int v1, .int v2, .int v3] [] mw_X2_38 (hr_X2_loot r0 v1 v2 v3 hr0 μ) (by omega) rfl rfl (Nat.le_of_ble_eq_true rfl) dX2_lootBehindStep_10 (fun x1 _ => ?_)
    refine g_istore dX2_lootBehindStep_13 (by decide) (lv' := [(4, .int x1), (0, .ref (gb g + r0)), (1, .int v1), (2, .int v2), (3, .int v3)]) rfl ?_
    refine g_iconst dX2_lootBehindStep_15 (v := 0) (by decide) ?_
    refine g_istore dX2_lootBehindStep_16 (by decide) (lv' := [(5, .int 0), (4, .int x1), (0, .ref (gb g + r0)), (1, .int v1), (2, .int v2), (3, .int v3)]) rfl ?_
    refine g_lv [2, 3, 4, 5, 1, 0] rfl ?_
    refine okL_X2_lootBehindStep_18 g dr F rc_X2_loot r0 v1 v2 v3 _ μ hr0 hr_X2_loot (fun u6 => ?_) F x1 0
    refine g_iload dX2_lootBehindStep_60 0 rfl ?_
    exact g_ret dX2_lootBehindStep_62 rfl rfl
  · refine g_iconst dX2_lootBehindStep_4 (v := 0) (by decide) ?_
    exact g_ret dX2_lootBehindStep_5 rfl rfl
theorem okt_X2_loot (g : GG) (F : Nat) : ∀ (D : Nat) (r0 : Nat) (v1 : Int32) (v2 : Int32) (v3 : Int32) (hr0 : Bk r0) (μ : Mm), Ct g yX2_loot cX2_loot 6 (some (.int)) (D * 6) (cvIp μ) [.ref (gb g + r0), .int v1, .int v2, .int v3] μ (t_X2_loot F D r0 v1 v2 v3 μ) := by
  intro D
  induction D with
  | zero =>
    intro r0 v1 v2 v3 hr0 μ r hr
    cases hr
  | succ D ih =>
    intro r0 v1 v2 v3 hr0 μ
    rw [t_X2_loot_s, show (D + 1) * 6 = D * 6 + 6 by omega]
    exact ok_X2_loot g (D * 6 + 2) F (f_X2_lootBehindStep F (t_X2_loot F D)) r0 v1 v2 v3 hr0 (fun r0 v1 v2 v3 hr0 μ => ok_X2_lootBehindStep g (D * 6) F (t_X2_loot F D) r0 v1 v2 v3 hr0 (fun r0 v1 v2 v3 hr0 μ => ih r0 v1 v2 v3 hr0 μ) μ) μ
theorem okt_X2_lootBehindStep (g : GG) (F : Nat) (D : Nat) (r0 : Nat) (v1 : Int32) (v2 : Int32) (v3 : Int32) (hr0 : Bk r0) (μ : Mm) : Ct g yX2_lootBehindStep cX2_lootBehindStep 7 (some (.int)) (D * 6 + 2) (cvIp μ) [.ref (gb g + r0), .int v1, .int v2, .int v3] μ (t_X2_lootBehindStep F D r0 v1 v2 v3 μ) :=
  ok_X2_lootBehindStep g (D * 6) F (t_X2_loot F D) r0 v1 v2 v3 hr0 (fun r0 v1 v2 v3 hr0 μ => okt_X2_loot g F D r0 v1 v2 v3 hr0 μ) μ
set_option maxHeartbeats 4000000 in
set_option maxRecDepth 100000 in
theorem okL_X2_firstTheft_13 (g : GG) (F : Nat) (r0 : Nat) (v1 : Int32) (v2 : Int32) (k : Option (Int32)) (μ : Mm) (hr0 : Bk r0) (hk : Go g RX2 cX2_firstTheft 4 .ireturn 57 (cvIp μ) 67 [] [] μ k) : ∀ (n : Nat) (v3 : Int32), Go g RX2 cX2_firstTheft 4 .ireturn 57 (cvIp μ) 13 [(0, .ref (gb g + r0)), (1, .int v1), (2, .int v2), (3, .int v3)] [] μ (L_X2_firstTheft_13 F r0 v1 v2 k μ n v3) := by
  intro n
  induction n with
  | zero =>
    intro v3
    exact g_none
  | succ n ih =>
    intro v3
    rw [L_X2_firstTheft_13_s]
    refine g_iload_n dX2_firstTheft_13 3 rfl ?_
    refine g_aload_n dX2_firstTheft_14 0 rfl ?_
    refine g_vIp [] [.int v3] mw_X2_25 (ok_X0_cells g r0 hr0 μ) (by omega) (bk_0 hr0) (by decide) rfl rfl (Nat.le_of_ble_eq_true rfl) dX2_firstTheft_15 (fun x2 _ => ?_)
    refine g_icmp_ge (tgt := 67) dX2_firstTheft_18 (by decide) (fun _ => ?_) (fun _ => ?_)
    · refine g_lv [] rfl ?_
      exact hk 
    · refine g_aload_n dX2_firstTheft_21 0 rfl ?_
      refine g_iload_n dX2_firstTheft_22 3 rfl ?_
      refine g_aload_n dX2_firstTheft_23 0 rfl ?_
      refine g_getI fl_X2_47 (bk_0 hr0) (by decide) rfl dX2_firstTheft_24 ?_
      refine g_iconst dX2_firstTheft_27 (v := 0) (by decide) ?_
      refine g_sZp [.ref (gb g + r0), .int v3, .int (mI μ r0 4), .int 0] [] mw_X2_29 (ok_X2_canSteal g r0 v3 (mI μ r0 4) 0 hr0 μ) (by omega) rfl rfl (Nat.le_of_ble_eq_true rfl) dX2_firstTheft_28 (fun x3 _ => ?_)
      refine g_ifeqB (tgt := 61) dX2_firstTheft_31 (by decide) (fun _ => ?_) (fun _ => ?_)
      · refine g_iinc dX2_firstTheft_61 3 rfl (v := (v3 + 1)) rfl (by decide) (lv' := [(3, .int (v3 + 1)), (0, .ref (gb g + r0)), (1, .int v1), (2, .int v2)]) rfl ?_
        refine g_goto (tgt := 13) dX2_firstTheft_64 (by decide) ?_
        refine g_lv [1, 2, 3, 0] rfl ?_
        exact ih (v3 + 1)
      · refine g_aload_n dX2_firstTheft_34 0 rfl ?_
        refine g_getR (b := (r0 + 8)) fl_X2_9 (bk_0 hr0) (by decide) rfl rfl dX2_firstTheft_35 ?_
        refine g_iload_n dX2_firstTheft_38 3 rfl ?_
        refine g_iaload (bk_8 hr0) dX2_firstTheft_39 (fun x4 => ?_)
        refine g_aload_n dX2_firstTheft_40 0 rfl ?_
        refine g_iload_n dX2_firstTheft_41 1 rfl ?_
        refine g_iconst dX2_firstTheft_42 (v := 1) (by decide) ?_
        refine g_isub dX2_firstTheft_43 ?_
        refine g_aload_n dX2_firstTheft_44 0 rfl ?_
        refine g_getI fl_X2_47 (bk_0 hr0) (by decide) rfl dX2_firstTheft_45 ?_
        refine g_iconst dX2_firstTheft_48 (v := 1) (by decide) ?_
        refine g_iload_n dX2_firstTheft_49 3 rfl ?_
        refine g_ishl dX2_firstTheft_50 ?_
        refine g_sIp [.ref (gb g + r0), .int (v1 - (1 : Int32)), .int (mI μ r0 4), .int ((1 : Int32) <<< (v3 &&& 31))] [.int x4] mw_X2_19 (okt_X2_lootBehindStep g F 9 r0 (v1 - (1 : Int32)) (mI μ r0 4) ((1 : Int32) <<< (v3 &&& 31)) hr0 μ) (by omega) rfl rfl (Nat.le_of_ble_eq_true rfl) dX2_firstTheft_51 (fun x5 _ => ?_)
        refine g_iadd dX2_firstTheft_54 ?_
        refine g_iload_n dX2_firstTheft_55 2 rfl ?_
        refine g_icmp_ne (tgt := 61) dX2_firstTheft_56 (by decide) (fun _ => ?_) (fun _ => ?_)
        · refine g_iinc dX2_firstTheft_61 3 rfl (v := (v3 + 1)) rfl (by decide) (lv' := [(3, .int (v3 + 1)), (0, .ref (gb g + r0)), (1, .int v1), (2, .int v2)]) rfl ?_
          refine g_goto (tgt := 13) dX2_firstTheft_64 (by decide) ?_
          refine g_lv [1, 2, 3, 0] rfl ?_
          exact ih (v3 + 1)
        · refine g_iload_n dX2_firstTheft_59 3 rfl ?_
          exact g_ret dX2_firstTheft_60 rfl rfl
set_option maxHeartbeats 4000000 in
set_option maxRecDepth 100000 in
theorem ok_X2_firstTheft (g : GG) (F : Nat) (r0 : Nat) (v1 : Int32) (hr0 : Bk r0) (μ : Mm) : Ct g yX2_firstTheft cX2_firstTheft 4 (some (.int)) 57 (cvIp μ) [.ref (gb g + r0), .int v1] μ (f_X2_firstTheft F r0 v1 μ) := by
  refine ct_Ip (by decide +kernel) (Nat.le_of_ble_eq_true rfl) (show Go g RX2 cX2_firstTheft 4 .ireturn 57 (cvIp μ) 0 [(0, .ref (gb g + r0)), (1, .int v1)] [] μ (f_X2_firstTheft F r0 v1 μ) from ?_)
  unfold f_X2_firstTheft
  refine g_aload_n dX2_firstTheft_0 0 rfl ?_
  refine g_iload_n dX2_firstTheft_1 1 rfl ?_
  refine g_aload_n dX2_firstTheft_2 0 rfl ?_
  refine g_getI fl_X2_47 (bk_0 hr0) (by decide) rfl dX2_firstTheft_3 ?_
  refine g_iconst dX2_firstTheft_6 (v := 0) (by decide) ?_
  refine g_sIp [.ref (gb g + r0), .int v1, .int (mI μ r0 4), .int 0] [] mw_X2_38 (okt_X2_loot g F 9 r0 v1 (mI μ r0 4) 0 hr0 μ) (by omega) rfl rfl (Nat.le_of_ble_eq_true rfl) dX2_firstTheft_7 (fun x1 _ => ?_)
  refine g_istore_n dX2_firstTheft_10 rfl (by decide) (lv' := [(2, .int x1), (0, .ref (gb g + r0)), (1, .int v1)]) rfl ?_
  refine g_iconst dX2_firstTheft_11 (v := 0) (by decide) ?_
  refine g_istore_n dX2_firstTheft_12 rfl (by decide) (lv' := [(3, .int 0), (2, .int x1), (0, .ref (gb g + r0)), (1, .int v1)]) rfl ?_
  refine g_lv [2, 3, 1, 0] rfl ?_
  refine okL_X2_firstTheft_13 g F r0 v1 x1 _ μ hr0 ?_ F 0
  refine g_iconst dX2_firstTheft_67 (v := (-1)) (by decide) ?_
  exact g_ret dX2_firstTheft_68 rfl rfl
set_option maxHeartbeats 4000000 in
set_option maxRecDepth 100000 in
theorem ok_X3_has (g : GG) (r0 : Nat) (v1 : Int32) (hr0 : Lw r0) (μ : Mm) : Ct g yX3_has cX3_has 2 (some (.boolean)) 2 (cvZp μ) [.ref (gb g + r0), .int v1] μ (f_X3_has r0 v1 μ) := by
  refine ct_Zp (by decide +kernel) (Nat.le_of_ble_eq_true rfl) (show Go g RX3 cX3_has 2 .ireturn 2 (cvZp μ) 0 [(0, .ref (gb g + r0)), (1, .int v1)] [] μ (f_X3_has r0 v1 μ) from ?_)
  unfold f_X3_has
  refine g_iload_n dX3_has_0 1 rfl ?_
  refine g_iconst dX3_has_1 (v := 0) (by decide) ?_
  refine g_aload_n dX3_has_2 0 rfl ?_
  refine g_getI fl_X3_24 (lw_0 hr0) (by decide) rfl dX3_has_3 ?_
  refine g_iconst dX3_has_6 (v := 1) (by decide) ?_
  refine g_isub dX3_has_7 ?_
  refine g_sZp [.int v1, .int 0, .int ((mI μ r0 0) - (1 : Int32))] [] mw_X3_34 (ok_X11_within g v1 0 ((mI μ r0 0) - (1 : Int32)) μ) (by omega) rfl rfl (Nat.le_of_ble_eq_true rfl) dX3_has_8 (fun x1 _ => ?_)
  exact g_ret dX3_has_11 rfl rfl
set_option maxHeartbeats 4000000 in
set_option maxRecDepth 100000 in
theorem okL_X3_strike_21 (g : GG) (F : Nat) (r0 : Nat) (k : Mm → Option (Mm)) (hr0 : Lw r0) (hk : ∀ (μ : Mm), Go g RX3 cX3_strike 3 .return_ 3 cvV 91 [] [] μ (k μ)) : ∀ (n : Nat) (v2 : Int32) (μ : Mm), Go g RX3 cX3_strike 3 .return_ 3 cvV 21 [(0, .ref (gb g + r0)), (2, .int v2)] [] μ (L_X3_strike_21 F r0 k n v2 μ) := by
  intro n
  induction n with
  | zero =>
    intro v2 μ
    exact g_none
  | succ n ih =>
    intro v2 μ
    rw [L_X3_strike_21_s]
    refine g_iload_n dX3_strike_21 1 rfl ?_
    refine g_aload_n dX3_strike_22 0 rfl ?_
    refine g_getI fl_X3_24 (lw_0 hr0) (by decide) rfl dX3_strike_23 ?_
    refine g_icmp_ge (tgt := 91) dX3_strike_26 (by decide) (fun _ => ?_) (fun _ => ?_)
    · refine g_lv [] rfl ?_
      exact hk μ
    · refine g_aload_n dX3_strike_29 0 rfl ?_
      refine g_getR (b := (r0 + 1)) fl_X3_9 (lw_0 hr0) (by decide) rfl rfl dX3_strike_30 ?_
      refine g_iload_n dX3_strike_33 1 rfl ?_
      refine g_aload_n dX3_strike_34 0 rfl ?_
      refine g_getR (b := (r0 + 1)) fl_X3_9 (lw_0 hr0) (by decide) rfl rfl dX3_strike_35 ?_
      refine g_iload_n dX3_strike_38 1 rfl ?_
      refine g_iconst dX3_strike_39 (v := 1) (by decide) ?_
      refine g_iadd dX3_strike_40 ?_
      refine g_iaload (lw_1 hr0) dX3_strike_41 (fun x2 => ?_)
      refine g_iastore (lw_1 hr0) dX3_strike_42 (fun μ3 => ?_)
      refine g_aload_n dX3_strike_43 0 rfl ?_
      refine g_getR (b := (r0 + 2)) fl_X3_15 (lw_0 hr0) (by decide) rfl rfl dX3_strike_44 ?_
      refine g_iload_n dX3_strike_47 1 rfl ?_
      refine g_aload_n dX3_strike_48 0 rfl ?_
      refine g_getR (b := (r0 + 2)) fl_X3_15 (lw_0 hr0) (by decide) rfl rfl dX3_strike_49 ?_
      refine g_iload_n dX3_strike_52 1 rfl ?_
      refine g_iconst dX3_strike_53 (v := 1) (by decide) ?_
      refine g_iadd dX3_strike_54 ?_
      refine g_iaload (lw_2 hr0) dX3_strike_55 (fun x4 => ?_)
      refine g_iastore (lw_2 hr0) dX3_strike_56 (fun μ5 => ?_)
      refine g_aload_n dX3_strike_57 0 rfl ?_
      refine g_getR (b := (r0 + 3)) fl_X3_18 (lw_0 hr0) (by decide) rfl rfl dX3_strike_58 ?_
      refine g_iload_n dX3_strike_61 1 rfl ?_
      refine g_aload_n dX3_strike_62 0 rfl ?_
      refine g_getR (b := (r0 + 3)) fl_X3_18 (lw_0 hr0) (by decide) rfl rfl dX3_strike_63 ?_
      refine g_iload_n dX3_strike_66 1 rfl ?_
      refine g_iconst dX3_strike_67 (v := 1) (by decide) ?_
      refine g_iadd dX3_strike_68 ?_
      refine g_iaload (lw_3 hr0) dX3_strike_69 (fun x6 => ?_)
      refine g_iastore (lw_3 hr0) dX3_strike_70 (fun μ7 => ?_)
      refine g_aload_n dX3_strike_71 0 rfl ?_
      refine g_getR (b := (r0 + 4)) fl_X3_21 (lw_0 hr0) (by decide) rfl rfl dX3_strike_72 ?_
      refine g_iload_n dX3_strike_75 1 rfl ?_
      refine g_aload_n dX3_strike_76 0 rfl ?_
      refine g_getR (b := (r0 + 4)) fl_X3_21 (lw_0 hr0) (by decide) rfl rfl dX3_strike_77 ?_
      refine g_iload_n dX3_strike_80 1 rfl ?_
      refine g_iconst dX3_strike_81 (v := 1) (by decide) ?_
      refine g_iadd dX3_strike_82 ?_
      refine g_iaload (lw_4 hr0) dX3_strike_83 (fun x8 => ?_)
      refine g_iastore (lw_4 hr0) dX3_strike_84 (fun μ9 => ?_)
      refine g_iinc dX3_strike_85 1 rfl (v := (v2 + 1)) rfl (by decide) (lv' := [(2, .int (v2 + 1)), (0, .ref (gb g + r0))]) rfl ?_
      refine g_goto (tgt := 21) dX3_strike_88 (by decide) ?_
      refine g_lv [1, 0] rfl ?_
      exact ih (v2 + 1) μ9
set_option maxHeartbeats 4000000 in
set_option maxRecDepth 100000 in
theorem ok_X3_strike (g : GG) (F : Nat) (r0 : Nat) (v1 : Int32) (hr0 : Lw r0) (μ : Mm) : Ct g yX3_strike cX3_strike 3 none 3 cvV [.ref (gb g + r0), .int v1] μ (f_X3_strike F r0 v1 μ) := by
  refine ct_V (by decide +kernel) (Nat.le_of_ble_eq_true rfl) (show Go g RX3 cX3_strike 3 .return_ 3 cvV 0 [(0, .ref (gb g + r0)), (1, .int v1)] [] μ (f_X3_strike F r0 v1 μ) from ?_)
  unfold f_X3_strike
  refine g_aload_n dX3_strike_0 0 rfl ?_
  refine g_iload_n dX3_strike_1 1 rfl ?_
  refine g_vZp [.int v1] [] mw_X3_38 (ok_X3_has g r0 v1 hr0 μ) (by omega) (lw_0 hr0) (by decide) rfl rfl (Nat.le_of_ble_eq_true rfl) dX3_strike_2 (fun x1 _ => ?_)
  refine g_ifneB (tgt := 9) dX3_strike_5 (by decide) (fun _ => ?_) (fun _ => ?_)
  · refine g_aload_n dX3_strike_9 0 rfl ?_
    refine g_dup dX3_strike_10 rfl ?_
    refine g_getI fl_X3_24 (lw_0 hr0) (by decide) rfl dX3_strike_11 ?_
    refine g_iconst dX3_strike_14 (v := 1) (by decide) ?_
    refine g_isub dX3_strike_15 ?_
    refine g_putI fl_X3_24 (lw_0 hr0) (by decide) rfl dX3_strike_16 ?_
    refine g_iload_n dX3_strike_19 1 rfl ?_
    refine g_istore_n dX3_strike_20 rfl (by decide) (lv' := [(2, .int v1), (0, .ref (gb g + r0)), (1, .int v1)]) rfl ?_
    refine g_lv [1, 0] rfl ?_
    refine okL_X3_strike_21 g F r0 _ hr0 (fun μ10 => ?_) F v1 (sI μ r0 0 ((mI μ r0 0) - (1 : Int32)))
    exact g_ret dX3_strike_91 rfl rfl
  · exact g_ret dX3_strike_8 rfl rfl
set_option maxHeartbeats 4000000 in
set_option maxRecDepth 100000 in
theorem okL_X3_reach_15 (g : GG) (F : Nat) (r0 : Nat) (v3 : Int32) (k : Int32 → Option (Int32)) (μ : Mm) (hr0 : Lw r0) (hk : ∀ (v2 : Int32), Go g RX3 cX3_reach 5 .ireturn 1 (cvIp μ) 56 [(0, .ref (gb g + r0)), (2, .int v2), (3, .int v3)] [] μ (k v2)) : ∀ (n : Nat) (v2 : Int32) (v4 : Int32), Go g RX3 cX3_reach 5 .ireturn 1 (cvIp μ) 15 [(0, .ref (gb g + r0)), (2, .int v2), (3, .int v3), (4, .int v4)] [] μ (L_X3_reach_15 F r0 v3 k μ n v2 v4) := by
  intro n
  induction n with
  | zero =>
    intro v2 v4
    exact g_none
  | succ n ih =>
    intro v2 v4
    rw [L_X3_reach_15_s]
    refine g_iload dX3_reach_15 3 rfl ?_
    refine g_aload_n dX3_reach_17 0 rfl ?_
    refine g_getI fl_X3_24 (lw_0 hr0) (by decide) rfl dX3_reach_18 ?_
    refine g_icmp_ge (tgt := 56) dX3_reach_21 (by decide) (fun _ => ?_) (fun _ => ?_)
    · refine g_lv [0, 1, 2] rfl ?_
      exact hk v2
    · refine g_iload_n dX3_reach_24 1 rfl ?_
      refine g_aload_n dX3_reach_25 0 rfl ?_
      refine g_getR (b := (r0 + 1)) fl_X3_9 (lw_0 hr0) (by decide) rfl rfl dX3_reach_26 ?_
      refine g_iload dX3_reach_29 3 rfl ?_
      refine g_iaload (lw_1 hr0) dX3_reach_31 (fun x1 => ?_)
      refine g_ishr dX3_reach_32 ?_
      refine g_iconst dX3_reach_33 (v := 1) (by decide) ?_
      refine g_iand dX3_reach_34 ?_
      refine g_if_eq (tgt := 50) dX3_reach_35 (by decide) (fun _ => ?_) (fun _ => ?_)
      · refine g_iinc dX3_reach_50 3 rfl (v := (v4 + 1)) rfl (by decide) (lv' := [(4, .int (v4 + 1)), (0, .ref (gb g + r0)), (2, .int v2), (3, .int v3)]) rfl ?_
        refine g_goto (tgt := 15) dX3_reach_53 (by decide) ?_
        refine g_lv [1, 2, 3, 0] rfl ?_
        exact ih v2 (v4 + 1)
      · refine g_iload_n dX3_reach_38 1 rfl ?_
        refine g_iconst dX3_reach_39 (v := 1) (by decide) ?_
        refine g_aload_n dX3_reach_40 0 rfl ?_
        refine g_getR (b := (r0 + 2)) fl_X3_15 (lw_0 hr0) (by decide) rfl rfl dX3_reach_41 ?_
        refine g_iload dX3_reach_44 3 rfl ?_
        refine g_iaload (lw_2 hr0) dX3_reach_46 (fun x3 => ?_)
        refine g_ishl dX3_reach_47 ?_
        refine g_ior dX3_reach_48 ?_
        refine g_istore_n dX3_reach_49 rfl (by decide) (lv' := [(2, .int (v2 ||| ((1 : Int32) <<< (x3 &&& 31)))), (0, .ref (gb g + r0)), (3, .int v3), (4, .int v4)]) rfl ?_
        refine g_iinc dX3_reach_50 3 rfl (v := (v4 + 1)) rfl (by decide) (lv' := [(4, .int (v4 + 1)), (2, .int (v2 ||| ((1 : Int32) <<< (x3 &&& 31)))), (0, .ref (gb g + r0)), (3, .int v3)]) rfl ?_
        refine g_goto (tgt := 15) dX3_reach_53 (by decide) ?_
        refine g_lv [2, 1, 3, 0] rfl ?_
        exact ih (v2 ||| ((1 : Int32) <<< (x3 &&& 31))) (v4 + 1)
set_option maxHeartbeats 4000000 in
set_option maxRecDepth 100000 in
theorem okL_X3_reach_6 (g : GG) (F : Nat) (r0 : Nat) (k : Int32 → Option (Int32)) (μ : Mm) (hr0 : Lw r0) (hk : ∀ (v2 : Int32), Go g RX3 cX3_reach 5 .ireturn 1 (cvIp μ) 62 [(2, .int v2)] [] μ (k v2)) : ∀ (n : Nat) (v2 : Int32) (v3 : Int32), Go g RX3 cX3_reach 5 .ireturn 1 (cvIp μ) 6 [(0, .ref (gb g + r0)), (2, .int v2), (3, .int v3)] [] μ (L_X3_reach_6 F r0 k μ n v2 v3) := by
  intro n
  induction n with
  | zero =>
    intro v2 v3
    exact g_none
  | succ n ih =>
    intro v2 v3
    rw [L_X3_reach_6_s]
    refine g_iload_n dX3_reach_6 2 rfl ?_
    refine g_bipush dX3_reach_7 (v := 10) (by decide) ?_
    refine g_icmp_ge (tgt := 62) dX3_reach_9 (by decide) (fun _ => ?_) (fun _ => ?_)
    · refine g_lv [1] rfl ?_
      exact hk v2
    · refine g_iconst dX3_reach_12 (v := 0) (by decide) ?_
      refine g_istore dX3_reach_13 (by decide) (lv' := [(4, .int 0), (0, .ref (gb g + r0)), (2, .int v2), (3, .int v3)]) rfl ?_
      refine g_lv [1, 2, 3, 0] rfl ?_
      refine okL_X3_reach_15 g F r0 v3 _ μ hr0 (fun u4 => ?_) F v2 0
      refine g_iinc dX3_reach_56 2 rfl (v := (v3 + 1)) rfl (by decide) (lv' := [(3, .int (v3 + 1)), (0, .ref (gb g + r0)), (2, .int u4)]) rfl ?_
      refine g_goto (tgt := 6) dX3_reach_59 (by decide) ?_
      refine g_lv [1, 2, 0] rfl ?_
      exact ih u4 (v3 + 1)
set_option maxHeartbeats 4000000 in
set_option maxRecDepth 100000 in
theorem ok_X3_reach (g : GG) (F : Nat) (r0 : Nat) (v1 : Int32) (hr0 : Lw r0) (μ : Mm) : Ct g yX3_reach cX3_reach 5 (some (.int)) 1 (cvIp μ) [.ref (gb g + r0), .int v1] μ (f_X3_reach F r0 v1 μ) := by
  refine ct_Ip (by decide +kernel) (Nat.le_of_ble_eq_true rfl) (show Go g RX3 cX3_reach 5 .ireturn 1 (cvIp μ) 0 [(0, .ref (gb g + r0)), (1, .int v1)] [] μ (f_X3_reach F r0 v1 μ) from ?_)
  unfold f_X3_reach
  refine g_iconst dX3_reach_0 (v := 1) (by decide) ?_
  refine g_iload_n dX3_reach_1 1 rfl ?_
  refine g_ishl dX3_reach_2 ?_
  refine g_istore_n dX3_reach_3 rfl (by decide) (lv' := [(2, .int ((1 : Int32) <<< (v1 &&& 31))), (0, .ref (gb g + r0)), (1, .int v1)]) rfl ?_
  refine g_iconst dX3_reach_4 (v := 0) (by decide) ?_
  refine g_istore_n dX3_reach_5 rfl (by decide) (lv' := [(3, .int 0), (2, .int ((1 : Int32) <<< (v1 &&& 31))), (0, .ref (gb g + r0)), (1, .int v1)]) rfl ?_
  refine g_lv [2, 1, 0] rfl ?_
  refine okL_X3_reach_6 g F r0 _ μ hr0 (fun u5 => ?_) F ((1 : Int32) <<< (v1 &&& 31)) 0
  refine g_iload_n dX3_reach_62 0 rfl ?_
  exact g_ret dX3_reach_63 rfl rfl
set_option maxHeartbeats 4000000 in
set_option maxRecDepth 100000 in
theorem ok_X4_behindEnd (g : GG) (r0 : Nat) (r1 : Nat) (v2 : Int32) (hr0 : Li r0) (hr1 : Nt r1) (μ : Mm) : Ct g yX4_behindEnd cX4_behindEnd 4 (some (.int)) 1 cvI [.ref (gb g + r0), .ref (gb g + r1), .int v2] μ (f_X4_behindEnd r0 r1 v2 μ) := by
  refine ct_I (by decide +kernel) (Nat.le_of_ble_eq_true rfl) (show Go g RX4 cX4_behindEnd 4 .ireturn 1 cvI 0 [(0, .ref (gb g + r0)), (1, .ref (gb g + r1)), (2, .int v2)] [] μ (f_X4_behindEnd r0 r1 v2 μ) from ?_)
  unfold f_X4_behindEnd
  refine g_aload_n dX4_behindEnd_0 1 rfl ?_
  refine g_getR (b := (r1 + 5)) fl_X4_62 (nt_0 hr1) (by decide) rfl rfl dX4_behindEnd_1 ?_
  refine g_iload_n dX4_behindEnd_4 2 rfl ?_
  refine g_iaload (nt_5 hr1) dX4_behindEnd_5 (fun x1 => ?_)
  refine g_istore_n dX4_behindEnd_6 rfl (by decide) (lv' := [(3, .int x1), (0, .ref (gb g + r0)), (1, .ref (gb g + r1)), (2, .int v2)]) rfl ?_
  refine g_aload_n dX4_behindEnd_7 2 rfl ?_
  refine g_getR (b := (r1 + 1)) fl_X4_51 (nt_0 hr1) (by decide) rfl rfl dX4_behindEnd_8 ?_
  refine g_iload_n dX4_behindEnd_11 0 rfl ?_
  refine g_iaload (nt_1 hr1) dX4_behindEnd_12 (fun x2 => ?_)
  refine g_bipush dX4_behindEnd_13 (v := 25) (by decide) ?_
  refine g_icmp_eq (tgt := 22) dX4_behindEnd_15 (by decide) (fun _ => ?_) (fun _ => ?_)
  · refine g_aload_n dX4_behindEnd_22 1 rfl ?_
    refine g_getR (b := (r0 + 1)) fl_X4_11 (li_0 hr0) (by decide) rfl rfl dX4_behindEnd_23 ?_
    refine g_iload_n dX4_behindEnd_26 0 rfl ?_
    refine g_dup2 dX4_behindEnd_27 rfl rfl ?_
    refine g_iaload (li_1 hr0) dX4_behindEnd_28 (fun x3 => ?_)
    refine g_iconst dX4_behindEnd_29 (v := 1) (by decide) ?_
    refine g_isub dX4_behindEnd_30 ?_
    refine g_iastore (li_1 hr0) dX4_behindEnd_31 (fun μ4 => ?_)
    refine g_aload_n dX4_behindEnd_32 1 rfl ?_
    refine g_getR (b := (r0 + 1)) fl_X4_11 (li_0 hr0) (by decide) rfl rfl dX4_behindEnd_33 ?_
    refine g_iload_n dX4_behindEnd_36 0 rfl ?_
    refine g_iaload (li_1 hr0) dX4_behindEnd_37 (fun x5 => ?_)
    have hJ8 : ∀ (w7 : Int32), w7 = (if x5 ≤ 0 then (v2 + (1 : Int32)) else (x1 + (1 : Int32))) → Go g RX4 cX4_behindEnd 4 .ireturn 1 cvI 50 [] [.int w7] μ4 (some ((if x5 ≤ 0 then (v2 + (1 : Int32)) else (x1 + (1 : Int32))), μ4)) := by
      intro w7 ew7
      subst ew7
      exact g_ret dX4_behindEnd_50 rfl rfl
    refine g_same (g_if_le (tgt := 47) dX4_behindEnd_38 (by decide) (fun c6 => ?_) (fun c6 => ?_))
    · refine g_iload_n dX4_behindEnd_47 3 rfl ?_
      refine g_iconst dX4_behindEnd_48 (v := 1) (by decide) ?_
      refine g_iadd dX4_behindEnd_49 ?_
      refine g_lv [] rfl ?_
      exact hJ8 _ (by rw [if_pos c6])
    · refine g_iload_n dX4_behindEnd_41 0 rfl ?_
      refine g_iconst dX4_behindEnd_42 (v := 1) (by decide) ?_
      refine g_iadd dX4_behindEnd_43 ?_
      refine g_goto (tgt := 50) dX4_behindEnd_44 (by decide) ?_
      refine g_lv [] rfl ?_
      exact hJ8 _ (by rw [if_neg c6])
  · refine g_iload_n dX4_behindEnd_18 3 rfl ?_
    refine g_iconst dX4_behindEnd_19 (v := 1) (by decide) ?_
    refine g_iadd dX4_behindEnd_20 ?_
    exact g_ret dX4_behindEnd_21 rfl rfl
set_option maxHeartbeats 4000000 in
set_option maxRecDepth 100000 in
theorem ok_X4_goOneWay (g : GG) (F : Nat) (r0 : Nat) (r1 : Nat) (v2 : Int32) (hr0 : Li r0) (hr1 : Bk r1) (μ : Mm) : Ct g yX4_goOneWay cX4_goOneWay 4 none 5 cvV [.ref (gb g + r0), .ref (gb g + r1), .int v2] μ (f_X4_goOneWay F r0 r1 v2 μ) := by
  refine ct_V (by decide +kernel) (Nat.le_of_ble_eq_true rfl) (show Go g RX4 cX4_goOneWay 4 .return_ 5 cvV 0 [(0, .ref (gb g + r0)), (1, .ref (gb g + r1)), (2, .int v2)] [] μ (f_X4_goOneWay F r0 r1 v2 μ) from ?_)
  unfold f_X4_goOneWay
  refine g_aload_n dX4_goOneWay_0 1 rfl ?_
  refine g_aload_n dX4_goOneWay_1 1 rfl ?_
  refine g_getI fl_X4_100 (bk_0 hr1) (by decide) rfl dX4_goOneWay_2 ?_
  refine g_iload_n dX4_goOneWay_5 2 rfl ?_
  refine g_vIp [.int (mI μ r1 4), .int v2] [] mw_X4_103 (ok_X0_gone g r1 (mI μ r1 4) v2 hr1 μ) (by omega) (bk_0 hr1) (by decide) rfl rfl (Nat.le_of_ble_eq_true rfl) dX4_goOneWay_6 (fun x1 _ => ?_)
  refine g_istore_n dX4_goOneWay_9 rfl (by decide) (lv' := [(3, .int x1), (0, .ref (gb g + r0)), (1, .ref (gb g + r1)), (2, .int v2)]) rfl ?_
  refine g_iload_n dX4_goOneWay_10 0 rfl ?_
  refine g_iconst dX4_goOneWay_11 (v := (-1)) (by decide) ?_
  refine g_icmp_eq (tgt := 25) dX4_goOneWay_12 (by decide) (fun _ => ?_) (fun _ => ?_)
  · refine g_aload_n dX4_goOneWay_25 1 rfl ?_
    refine g_dup dX4_goOneWay_26 rfl ?_
    refine g_getI fl_X4_25 (li_0 hr0) (by decide) rfl dX4_goOneWay_27 ?_
    refine g_iconst dX4_goOneWay_30 (v := 1) (by decide) ?_
    refine g_iadd dX4_goOneWay_31 ?_
    refine g_putI fl_X4_25 (li_0 hr0) (by decide) rfl dX4_goOneWay_32 ?_
    exact g_ret dX4_goOneWay_35 rfl rfl
  · refine g_aload_n dX4_goOneWay_15 2 rfl ?_
    refine g_getI fl_X4_107 (bk_0 hr1) (by decide) rfl dX4_goOneWay_16 ?_
    refine g_sipush dX4_goOneWay_19 (v := 9999) (by decide) ?_
    refine g_icmp_lt (tgt := 36) dX4_goOneWay_22 (by decide) (fun _ => ?_) (fun _ => ?_)
    · refine g_aload_n dX4_goOneWay_36 2 rfl ?_
      refine g_iload_n dX4_goOneWay_37 0 rfl ?_
      refine g_vV [.int x1] [] mw_X4_110 (ok_X0_standAndTap g r1 x1 hr1 μ) (by omega) (bk_0 hr1) (by decide) rfl rfl (Nat.le_of_ble_eq_true rfl) dX4_goOneWay_38 (fun μ3 _ => ?_)
      refine g_aload_n dX4_goOneWay_41 2 rfl ?_
      refine g_iconst dX4_goOneWay_42 (v := 1) (by decide) ?_
      refine g_vZ [.int 1] [] mw_X4_114 (ok_X0_passHours g F r1 1 hr1 μ3) (by omega) (bk_0 hr1) (by decide) rfl rfl (Nat.le_of_ble_eq_true rfl) dX4_goOneWay_43 (fun x4 μ5 _ => ?_)
      refine g_pop dX4_goOneWay_46 rfl ?_
      refine g_aload_n dX4_goOneWay_47 1 rfl ?_
      refine g_dup dX4_goOneWay_48 rfl ?_
      refine g_getI fl_X4_28 (li_0 hr0) (by decide) rfl dX4_goOneWay_49 ?_
      refine g_iconst dX4_goOneWay_52 (v := 1) (by decide) ?_
      refine g_iadd dX4_goOneWay_53 ?_
      refine g_putI fl_X4_28 (li_0 hr0) (by decide) rfl dX4_goOneWay_54 ?_
      refine g_aload_n dX4_goOneWay_57 1 rfl ?_
      refine g_dup dX4_goOneWay_58 rfl ?_
      refine g_getI fl_X4_31 (li_0 hr0) (by decide) rfl dX4_goOneWay_59 ?_
      refine g_iconst dX4_goOneWay_62 (v := 1) (by decide) ?_
      refine g_iadd dX4_goOneWay_63 ?_
      refine g_putI fl_X4_31 (li_0 hr0) (by decide) rfl dX4_goOneWay_64 ?_
      exact g_ret dX4_goOneWay_67 rfl rfl
    · refine g_aload_n dX4_goOneWay_25 1 rfl ?_
      refine g_dup dX4_goOneWay_26 rfl ?_
      refine g_getI fl_X4_25 (li_0 hr0) (by decide) rfl dX4_goOneWay_27 ?_
      refine g_iconst dX4_goOneWay_30 (v := 1) (by decide) ?_
      refine g_iadd dX4_goOneWay_31 ?_
      refine g_putI fl_X4_25 (li_0 hr0) (by decide) rfl dX4_goOneWay_32 ?_
      exact g_ret dX4_goOneWay_35 rfl rfl
set_option maxHeartbeats 4000000 in
set_option maxRecDepth 100000 in
theorem ok_X4_sleepFor (g : GG) (F : Nat) (r0 : Nat) (r1 : Nat) (v2 : Int32) (hr0 : Li r0) (hr1 : Bk r1) (μ : Mm) : Ct g yX4_sleepFor cX4_sleepFor 3 none 5 cvV [.ref (gb g + r0), .ref (gb g + r1), .int v2] μ (f_X4_sleepFor F r0 r1 v2 μ) := by
  refine ct_V (by decide +kernel) (Nat.le_of_ble_eq_true rfl) (show Go g RX4 cX4_sleepFor 3 .return_ 5 cvV 0 [(0, .ref (gb g + r0)), (1, .ref (gb g + r1)), (2, .int v2)] [] μ (f_X4_sleepFor F r0 r1 v2 μ) from ?_)
  unfold f_X4_sleepFor
  refine g_aload_n dX4_sleepFor_0 1 rfl ?_
  refine g_getI fl_X4_107 (bk_0 hr1) (by decide) rfl dX4_sleepFor_1 ?_
  refine g_iload_n dX4_sleepFor_4 2 rfl ?_
  refine g_iadd dX4_sleepFor_5 ?_
  refine g_sipush dX4_sleepFor_6 (v := 9999) (by decide) ?_
  refine g_icmp_le (tgt := 23) dX4_sleepFor_9 (by decide) (fun _ => ?_) (fun _ => ?_)
  · refine g_aload_n dX4_sleepFor_23 1 rfl ?_
    refine g_iload_n dX4_sleepFor_24 2 rfl ?_
    refine g_vZ [.int v2] [] mw_X4_114 (ok_X0_passHours g F r1 v2 hr1 μ) (by omega) (bk_0 hr1) (by decide) rfl rfl (Nat.le_of_ble_eq_true rfl) dX4_sleepFor_25 (fun x1 μ2 _ => ?_)
    refine g_pop dX4_sleepFor_28 rfl ?_
    refine g_aload_n dX4_sleepFor_29 0 rfl ?_
    refine g_dup dX4_sleepFor_30 rfl ?_
    refine g_getI fl_X4_28 (li_0 hr0) (by decide) rfl dX4_sleepFor_31 ?_
    refine g_iload_n dX4_sleepFor_34 2 rfl ?_
    refine g_iadd dX4_sleepFor_35 ?_
    refine g_putI fl_X4_28 (li_0 hr0) (by decide) rfl dX4_sleepFor_36 ?_
    exact g_ret dX4_sleepFor_39 rfl rfl
  · refine g_aload_n dX4_sleepFor_12 0 rfl ?_
    refine g_dup dX4_sleepFor_13 rfl ?_
    refine g_getI fl_X4_25 (li_0 hr0) (by decide) rfl dX4_sleepFor_14 ?_
    refine g_iconst dX4_sleepFor_17 (v := 1) (by decide) ?_
    refine g_iadd dX4_sleepFor_18 ?_
    refine g_putI fl_X4_25 (li_0 hr0) (by decide) rfl dX4_sleepFor_19 ?_
    exact g_ret dX4_sleepFor_22 rfl rfl
set_option maxHeartbeats 4000000 in
set_option maxRecDepth 100000 in
theorem ok_X4_mendCell (g : GG) (r0 : Nat) (r1 : Nat) (v2 : Int32) (hr0 : Li r0) (hr1 : Bk r1) (μ : Mm) : Ct g yX4_mendCell cX4_mendCell 3 none 3 cvV [.ref (gb g + r0), .ref (gb g + r1), .int v2] μ (f_X4_mendCell r0 r1 v2 μ) := by
  refine ct_V (by decide +kernel) (Nat.le_of_ble_eq_true rfl) (show Go g RX4 cX4_mendCell 3 .return_ 3 cvV 0 [(0, .ref (gb g + r0)), (1, .ref (gb g + r1)), (2, .int v2)] [] μ (f_X4_mendCell r0 r1 v2 μ) from ?_)
  unfold f_X4_mendCell
  refine g_aload_n dX4_mendCell_0 1 rfl ?_
  refine g_iload_n dX4_mendCell_1 2 rfl ?_
  refine g_vZp [.int v2] [] mw_X4_118 (ok_X0_hasCell g r1 v2 hr1 μ) (by omega) (bk_0 hr1) (by decide) rfl rfl (Nat.le_of_ble_eq_true rfl) dX4_mendCell_2 (fun x1 _ => ?_)
  refine g_ifeqB (tgt := 16) dX4_mendCell_5 (by decide) (fun _ => ?_) (fun _ => ?_)
  · refine g_aload_n dX4_mendCell_16 0 rfl ?_
    refine g_dup dX4_mendCell_17 rfl ?_
    refine g_getI fl_X4_25 (li_0 hr0) (by decide) rfl dX4_mendCell_18 ?_
    refine g_iconst dX4_mendCell_21 (v := 1) (by decide) ?_
    refine g_iadd dX4_mendCell_22 ?_
    refine g_putI fl_X4_25 (li_0 hr0) (by decide) rfl dX4_mendCell_23 ?_
    exact g_ret dX4_mendCell_26 rfl rfl
  · refine g_aload_n dX4_mendCell_8 1 rfl ?_
    refine g_iload_n dX4_mendCell_9 2 rfl ?_
    refine g_vZp [.int v2] [] mw_X4_121 (ok_X0_isWrong g r1 v2 hr1 μ) (by omega) (bk_0 hr1) (by decide) rfl rfl (Nat.le_of_ble_eq_true rfl) dX4_mendCell_10 (fun x2 _ => ?_)
    refine g_ifneB (tgt := 27) dX4_mendCell_13 (by decide) (fun _ => ?_) (fun _ => ?_)
    · refine g_aload_n dX4_mendCell_27 1 rfl ?_
      refine g_iload_n dX4_mendCell_28 2 rfl ?_
      refine g_aload_n dX4_mendCell_29 1 rfl ?_
      refine g_getR (b := (r1 + 9)) fl_X4_124 (bk_0 hr1) (by decide) rfl rfl dX4_mendCell_30 ?_
      refine g_iload_n dX4_mendCell_33 2 rfl ?_
      refine g_iaload (bk_9 hr1) dX4_mendCell_34 (fun x3 => ?_)
      refine g_vI [.int v2, .int x3] [] mw_X4_127 (ok_X0_putDigit g r1 v2 x3 hr1 μ) (by omega) (bk_0 hr1) (by decide) rfl rfl (Nat.le_of_ble_eq_true rfl) dX4_mendCell_35 (fun x4 μ5 _ => ?_)
      refine g_pop dX4_mendCell_38 rfl ?_
      exact g_ret dX4_mendCell_39 rfl rfl
    · refine g_aload_n dX4_mendCell_16 0 rfl ?_
      refine g_dup dX4_mendCell_17 rfl ?_
      refine g_getI fl_X4_25 (li_0 hr0) (by decide) rfl dX4_mendCell_18 ?_
      refine g_iconst dX4_mendCell_21 (v := 1) (by decide) ?_
      refine g_iadd dX4_mendCell_22 ?_
      refine g_putI fl_X4_25 (li_0 hr0) (by decide) rfl dX4_mendCell_23 ?_
      exact g_ret dX4_mendCell_26 rfl rfl
set_option maxHeartbeats 4000000 in
set_option maxRecDepth 100000 in
theorem ok_X4_stealFrom (g : GG) (r0 : Nat) (r1 : Nat) (v2 : Int32) (hr0 : Li r0) (hr1 : Bk r1) (μ : Mm) : Ct g yX4_stealFrom cX4_stealFrom 3 none 3 cvV [.ref (gb g + r0), .ref (gb g + r1), .int v2] μ (f_X4_stealFrom r0 r1 v2 μ) := by
  refine ct_V (by decide +kernel) (Nat.le_of_ble_eq_true rfl) (show Go g RX4 cX4_stealFrom 3 .return_ 3 cvV 0 [(0, .ref (gb g + r0)), (1, .ref (gb g + r1)), (2, .int v2)] [] μ (f_X4_stealFrom r0 r1 v2 μ) from ?_)
  unfold f_X4_stealFrom
  refine g_aload_n dX4_stealFrom_0 1 rfl ?_
  refine g_iload_n dX4_stealFrom_1 2 rfl ?_
  refine g_vZp [.int v2] [] mw_X4_118 (ok_X0_hasCell g r1 v2 hr1 μ) (by omega) (bk_0 hr1) (by decide) rfl rfl (Nat.le_of_ble_eq_true rfl) dX4_stealFrom_2 (fun x1 _ => ?_)
  refine g_ifeqB (tgt := 17) dX4_stealFrom_5 (by decide) (fun _ => ?_) (fun _ => ?_)
  · refine g_aload_n dX4_stealFrom_17 0 rfl ?_
    refine g_dup dX4_stealFrom_18 rfl ?_
    refine g_getI fl_X4_25 (li_0 hr0) (by decide) rfl dX4_stealFrom_19 ?_
    refine g_iconst dX4_stealFrom_22 (v := 1) (by decide) ?_
    refine g_iadd dX4_stealFrom_23 ?_
    refine g_putI fl_X4_25 (li_0 hr0) (by decide) rfl dX4_stealFrom_24 ?_
    exact g_ret dX4_stealFrom_27 rfl rfl
  · refine g_aload_n dX4_stealFrom_8 1 rfl ?_
    refine g_getR (b := (r1 + 8)) fl_X4_130 (bk_0 hr1) (by decide) rfl rfl dX4_stealFrom_9 ?_
    refine g_iload_n dX4_stealFrom_12 2 rfl ?_
    refine g_iaload (bk_8 hr1) dX4_stealFrom_13 (fun x2 => ?_)
    refine g_if_ne (tgt := 28) dX4_stealFrom_14 (by decide) (fun _ => ?_) (fun _ => ?_)
    · refine g_aload_n dX4_stealFrom_28 0 rfl ?_
      refine g_dup dX4_stealFrom_29 rfl ?_
      refine g_getI fl_X4_34 (li_0 hr0) (by decide) rfl dX4_stealFrom_30 ?_
      refine g_aload_n dX4_stealFrom_33 1 rfl ?_
      refine g_iload_n dX4_stealFrom_34 2 rfl ?_
      refine g_vI [.int v2] [.int (mI μ r0 5), .ref (gb g + r0)] mw_X4_133 (ok_X0_takeAway g r1 v2 hr1 μ) (by omega) (bk_0 hr1) (by decide) rfl rfl (Nat.le_of_ble_eq_true rfl) dX4_stealFrom_35 (fun x3 μ4 _ => ?_)
      refine g_iadd dX4_stealFrom_38 ?_
      refine g_putI fl_X4_34 (li_0 hr0) (by decide) rfl dX4_stealFrom_39 ?_
      exact g_ret dX4_stealFrom_42 rfl rfl
    · refine g_aload_n dX4_stealFrom_17 0 rfl ?_
      refine g_dup dX4_stealFrom_18 rfl ?_
      refine g_getI fl_X4_25 (li_0 hr0) (by decide) rfl dX4_stealFrom_19 ?_
      refine g_iconst dX4_stealFrom_22 (v := 1) (by decide) ?_
      refine g_iadd dX4_stealFrom_23 ?_
      refine g_putI fl_X4_25 (li_0 hr0) (by decide) rfl dX4_stealFrom_24 ?_
      exact g_ret dX4_stealFrom_27 rfl rfl
set_option maxHeartbeats 4000000 in
set_option maxRecDepth 100000 in
theorem ok_X4_drawBy (g : GG) (r0 : Nat) (v1 : Int32) (hr0 : Li r0) (μ : Mm) : Ct g yX4_drawBy cX4_drawBy 2 (some (.int)) 1 cvI [.ref (gb g + r0), .int v1] μ (f_X4_drawBy r0 v1 μ) := by
  refine ct_I (by decide +kernel) (Nat.le_of_ble_eq_true rfl) (show Go g RX4 cX4_drawBy 2 .ireturn 1 cvI 0 [(0, .ref (gb g + r0)), (1, .int v1)] [] μ (f_X4_drawBy r0 v1 μ) from ?_)
  unfold f_X4_drawBy
  refine g_aload_n dX4_drawBy_0 0 rfl ?_
  refine g_aload_n dX4_drawBy_1 0 rfl ?_
  refine g_getI fl_X4_40 (li_0 hr0) (by decide) rfl dX4_drawBy_2 ?_
  refine g_sipush dX4_drawBy_5 (v := 2971) (by decide) ?_
  refine g_imul dX4_drawBy_8 ?_
  refine g_sipush dX4_drawBy_9 (v := 10853) (by decide) ?_
  refine g_iadd dX4_drawBy_12 ?_
  refine g_ldc kl_X4_136 dX4_drawBy_13 ?_
  refine g_irem dX4_drawBy_15 ?_
  refine g_putI fl_X4_40 (li_0 hr0) (by decide) rfl dX4_drawBy_16 ?_
  refine g_iload_n dX4_drawBy_19 1 rfl ?_
  refine g_if_le (tgt := 35) dX4_drawBy_20 (by decide) (fun _ => ?_) (fun _ => ?_)
  · refine g_iconst dX4_drawBy_35 (v := 0) (by decide) ?_
    exact g_ret dX4_drawBy_36 rfl rfl
  · refine g_aload_n dX4_drawBy_23 0 rfl ?_
    refine g_getI fl_X4_40 (li_0 hr0) (by decide) rfl dX4_drawBy_24 ?_
    refine g_bipush dX4_drawBy_27 (v := 8) (by decide) ?_
    refine g_idiv dX4_drawBy_29 ?_
    refine g_iload_n dX4_drawBy_30 1 rfl ?_
    refine g_irem dX4_drawBy_31 ?_
    refine g_goto (tgt := 36) dX4_drawBy_32 (by decide) ?_
    exact g_ret dX4_drawBy_36 rfl rfl
set_option maxHeartbeats 4000000 in
set_option maxRecDepth 100000 in
theorem ok_X4_compare (g : GG) (v0 : Int32) (v1 : Int32) (v2 : Int32)  (μ : Mm) : Ct g yX4_compare cX4_compare 3 (some (.boolean)) 1 (cvZp μ) [.int v0, .int v1, .int v2] μ (f_X4_compare v0 v1 v2 μ) := by
  refine ct_Zp (by decide +kernel) (Nat.le_of_ble_eq_true rfl) (show Go g RX4 cX4_compare 3 .ireturn 1 (cvZp μ) 0 [(0, .int v0), (1, .int v1), (2, .int v2)] [] μ (f_X4_compare v0 v1 v2 μ) from ?_)
  unfold f_X4_compare
  refine g_iload_n dX4_compare_0 1 rfl ?_
  refine g_bipush dX4_compare_1 (v := 60) (by decide) ?_
  refine g_icmp_ne (tgt := 17) dX4_compare_3 (by decide) (fun _ => ?_) (fun _ => ?_)
  · refine g_iload_n dX4_compare_17 1 rfl ?_
    refine g_bipush dX4_compare_18 (v := 62) (by decide) ?_
    refine g_icmp_ne (tgt := 36) dX4_compare_20 (by decide) (fun _ => ?_) (fun _ => ?_)
    · refine g_iload_n dX4_compare_36 0 rfl ?_
      refine g_iload_n dX4_compare_37 2 rfl ?_
      refine g_icmp_ne (tgt := 45) dX4_compare_38 (by decide) (fun _ => ?_) (fun _ => ?_)
      · refine g_iconst dX4_compare_45 (v := 0) (by decide) ?_
        exact g_ret dX4_compare_46 rfl rfl
      · refine g_iconst dX4_compare_41 (v := 1) (by decide) ?_
        refine g_goto (tgt := 46) dX4_compare_42 (by decide) ?_
        exact g_ret dX4_compare_46 rfl rfl
    · refine g_iload_n dX4_compare_23 0 rfl ?_
      refine g_iload_n dX4_compare_24 2 rfl ?_
      refine g_icmp_le (tgt := 32) dX4_compare_25 (by decide) (fun _ => ?_) (fun _ => ?_)
      · refine g_iconst dX4_compare_32 (v := 0) (by decide) ?_
        refine g_goto (tgt := 46) dX4_compare_33 (by decide) ?_
        exact g_ret dX4_compare_46 rfl rfl
      · refine g_iconst dX4_compare_28 (v := 1) (by decide) ?_
        refine g_goto (tgt := 46) dX4_compare_29 (by decide) ?_
        exact g_ret dX4_compare_46 rfl rfl
  · refine g_iload_n dX4_compare_6 0 rfl ?_
    refine g_iload_n dX4_compare_7 2 rfl ?_
    refine g_icmp_ge (tgt := 15) dX4_compare_8 (by decide) (fun _ => ?_) (fun _ => ?_)
    · refine g_iconst dX4_compare_15 (v := 0) (by decide) ?_
      exact g_ret dX4_compare_16 rfl rfl
    · refine g_iconst dX4_compare_11 (v := 1) (by decide) ?_
      refine g_goto (tgt := 16) dX4_compare_12 (by decide) ?_
      exact g_ret dX4_compare_16 rfl rfl
set_option maxHeartbeats 4000000 in
set_option maxRecDepth 100000 in
theorem ok_X4_testHolds (g : GG) (F : Nat) (r0 : Nat) (r1 : Nat) (v2 : Int32) (hr0 : Bk r0) (hr1 : Nt r1) (μ : Mm) : Ct g yX4_testHolds cX4_testHolds 3 (some (.boolean)) 3 (cvZp μ) [.ref (gb g + r0), .ref (gb g + r1), .int v2] μ (f_X4_testHolds F r0 r1 v2 μ) := by
  refine ct_Zp (by decide +kernel) (Nat.le_of_ble_eq_true rfl) (show Go g RX4 cX4_testHolds 3 .ireturn 3 (cvZp μ) 0 [(0, .ref (gb g + r0)), (1, .ref (gb g + r1)), (2, .int v2)] [] μ (f_X4_testHolds F r0 r1 v2 μ) from ?_)
  unfold f_X4_testHolds
  refine g_aload_n dX4_testHolds_0 1 rfl ?_
  refine g_getR (b := (r1 + 1)) fl_X4_51 (nt_0 hr1) (by decide) rfl rfl dX4_testHolds_1 ?_
  refine g_iload_n dX4_testHolds_4 2 rfl ?_
  refine g_iaload (nt_1 hr1) dX4_testHolds_5 (fun x1 => ?_)
  refine g_if (fun hs22 => ?_) (fun hs22 => ?_)
  · refine g_lookup (tgt := 32) (off := 26) dX4_testHolds_6 (by decide) (by rw [hs22]; decide) (by decide) ?_
    refine g_aload_n dX4_testHolds_32 0 rfl ?_
    refine g_vIp [] [] mw_X4_137 (ok_X0_wrongs g F r0 hr0 μ) (by omega) (bk_0 hr0) (by decide) rfl rfl (Nat.le_of_ble_eq_true rfl) dX4_testHolds_33 (fun x2 _ => ?_)
    refine g_aload_n dX4_testHolds_36 1 rfl ?_
    refine g_getR (b := (r1 + 4)) fl_X4_141 (nt_0 hr1) (by decide) rfl rfl dX4_testHolds_37 ?_
    refine g_iload_n dX4_testHolds_40 2 rfl ?_
    refine g_iaload (nt_4 hr1) dX4_testHolds_41 (fun x3 => ?_)
    refine g_aload_n dX4_testHolds_42 1 rfl ?_
    refine g_getR (b := (r1 + 2)) fl_X4_65 (nt_0 hr1) (by decide) rfl rfl dX4_testHolds_43 ?_
    refine g_iload_n dX4_testHolds_46 2 rfl ?_
    refine g_iaload (nt_2 hr1) dX4_testHolds_47 (fun x4 => ?_)
    refine g_sZp [.int x2, .int x3, .int x4] [] mw_X4_144 (ok_X4_compare g x2 x3 x4 μ) (by omega) rfl rfl (Nat.le_of_ble_eq_true rfl) dX4_testHolds_48 (fun x5 _ => ?_)
    exact g_ret dX4_testHolds_51 rfl rfl
  · refine g_if (fun hs23 => ?_) (fun hs23 => ?_)
    · refine g_lookup (tgt := 52) (off := 46) dX4_testHolds_6 (by decide) (by rw [hs23]; decide) (by decide) ?_
      refine g_aload_n dX4_testHolds_52 0 rfl ?_
      refine g_getR (b := (r0 + 8)) fl_X4_130 (bk_0 hr0) (by decide) rfl rfl dX4_testHolds_53 ?_
      refine g_aload_n dX4_testHolds_56 1 rfl ?_
      refine g_getR (b := (r1 + 3)) fl_X4_75 (nt_0 hr1) (by decide) rfl rfl dX4_testHolds_57 ?_
      refine g_iload_n dX4_testHolds_60 2 rfl ?_
      refine g_iaload (nt_3 hr1) dX4_testHolds_61 (fun x6 => ?_)
      refine g_iaload (bk_8 hr0) dX4_testHolds_62 (fun x7 => ?_)
      refine g_aload_n dX4_testHolds_63 1 rfl ?_
      refine g_getR (b := (r1 + 4)) fl_X4_141 (nt_0 hr1) (by decide) rfl rfl dX4_testHolds_64 ?_
      refine g_iload_n dX4_testHolds_67 2 rfl ?_
      refine g_iaload (nt_4 hr1) dX4_testHolds_68 (fun x8 => ?_)
      refine g_aload_n dX4_testHolds_69 1 rfl ?_
      refine g_getR (b := (r1 + 2)) fl_X4_65 (nt_0 hr1) (by decide) rfl rfl dX4_testHolds_70 ?_
      refine g_iload_n dX4_testHolds_73 2 rfl ?_
      refine g_iaload (nt_2 hr1) dX4_testHolds_74 (fun x9 => ?_)
      refine g_sZp [.int x7, .int x8, .int x9] [] mw_X4_144 (ok_X4_compare g x7 x8 x9 μ) (by omega) rfl rfl (Nat.le_of_ble_eq_true rfl) dX4_testHolds_75 (fun x10 _ => ?_)
      exact g_ret dX4_testHolds_78 rfl rfl
    · refine g_lookup (tgt := 79) (off := 73) dX4_testHolds_6 (by decide) (by show Op.lookupswitch.offset [(22, 26), (23, 46)] 73 _ = _; rw [lv_osw hs22 (by decide)]; rw [lv_osw hs23 (by decide)]; rfl) (by decide) ?_
      refine g_aload_n dX4_testHolds_79 0 rfl ?_
      refine g_vIp [] [] mw_X4_147 (ok_X0_surplus g F r0 hr0 μ) (by omega) (bk_0 hr0) (by decide) rfl rfl (Nat.le_of_ble_eq_true rfl) dX4_testHolds_80 (fun x11 _ => ?_)
      refine g_if_ne (tgt := 90) dX4_testHolds_83 (by decide) (fun _ => ?_) (fun _ => ?_)
      · refine g_iconst dX4_testHolds_90 (v := 0) (by decide) ?_
        exact g_ret dX4_testHolds_91 rfl rfl
      · refine g_iconst dX4_testHolds_86 (v := 1) (by decide) ?_
        refine g_goto (tgt := 91) dX4_testHolds_87 (by decide) ?_
        exact g_ret dX4_testHolds_91 rfl rfl
set_option maxHeartbeats 4000000 in
set_option maxRecDepth 100000 in
theorem ok_X4_behindOrder (g : GG) (F : Nat) (r0 : Nat) (r1 : Nat) (r2 : Nat) (v3 : Int32) (hr0 : Li r0) (hr1 : Bk r1) (hr2 : Nt r2) (μ : Mm) : Ct g yX4_behindOrder cX4_behindOrder 5 (some (.int)) 6 cvI [.ref (gb g + r0), .ref (gb g + r1), .ref (gb g + r2), .int v3] μ (f_X4_behindOrder F r0 r1 r2 v3 μ) := by
  refine ct_I (by decide +kernel) (Nat.le_of_ble_eq_true rfl) (show Go g RX4 cX4_behindOrder 5 .ireturn 6 cvI 0 [(0, .ref (gb g + r0)), (1, .ref (gb g + r1)), (2, .ref (gb g + r2)), (3, .int v3)] [] μ (f_X4_behindOrder F r0 r1 r2 v3 μ) from ?_)
  unfold f_X4_behindOrder
  refine g_aload_n dX4_behindOrder_0 2 rfl ?_
  refine g_getR (b := (r2 + 2)) fl_X4_65 (nt_0 hr2) (by decide) rfl rfl dX4_behindOrder_1 ?_
  refine g_iload_n dX4_behindOrder_4 3 rfl ?_
  refine g_iaload (nt_2 hr2) dX4_behindOrder_5 (fun x1 => ?_)
  refine g_istore dX4_behindOrder_6 (by decide) (lv' := [(4, .int x1), (0, .ref (gb g + r0)), (1, .ref (gb g + r1)), (2, .ref (gb g + r2)), (3, .int v3)]) rfl ?_
  refine g_aload_n dX4_behindOrder_8 3 rfl ?_
  refine g_getR (b := (r2 + 1)) fl_X4_51 (nt_0 hr2) (by decide) rfl rfl dX4_behindOrder_9 ?_
  refine g_iload_n dX4_behindOrder_12 4 rfl ?_
  refine g_iaload (nt_1 hr2) dX4_behindOrder_13 (fun x2 => ?_)
  refine g_if (fun hs13 => ?_) (fun hs13 => ?_)
  · refine g_tswIn 13 (tgt := 88) (off := 74) dX4_behindOrder_14 hs13 (by decide) (by decide) (by decide) (by decide) ?_
    refine g_aload_n dX4_behindOrder_88 1 rfl ?_
    refine g_aload_n dX4_behindOrder_89 2 rfl ?_
    refine g_iload dX4_behindOrder_90 0 rfl ?_
    refine g_vV [.ref (gb g + r1), .int x1] [] mw_X4_68 (ok_X4_goOneWay g F r0 r1 x1 hr0 hr1 μ) (by omega) (li_0 hr0) (by decide) rfl rfl (Nat.le_of_ble_eq_true rfl) dX4_behindOrder_92 (fun μ4 _ => ?_)
    refine g_iload_n dX4_behindOrder_95 4 rfl ?_
    refine g_iconst dX4_behindOrder_96 (v := 1) (by decide) ?_
    refine g_iadd dX4_behindOrder_97 ?_
    exact g_ret dX4_behindOrder_98 rfl rfl
  · refine g_if (fun hs17 => ?_) (fun hs17 => ?_)
    · refine g_tswIn 17 (tgt := 99) (off := 85) dX4_behindOrder_14 hs17 (by decide) (by decide) (by decide) (by decide) ?_
      refine g_aload_n dX4_behindOrder_99 1 rfl ?_
      refine g_aload_n dX4_behindOrder_100 2 rfl ?_
      refine g_iload dX4_behindOrder_101 0 rfl ?_
      refine g_vV [.ref (gb g + r1), .int x1] [] mw_X4_72 (ok_X4_sleepFor g F r0 r1 x1 hr0 hr1 μ) (by omega) (li_0 hr0) (by decide) rfl rfl (Nat.le_of_ble_eq_true rfl) dX4_behindOrder_103 (fun μ6 _ => ?_)
      refine g_iload_n dX4_behindOrder_106 4 rfl ?_
      refine g_iconst dX4_behindOrder_107 (v := 1) (by decide) ?_
      refine g_iadd dX4_behindOrder_108 ?_
      exact g_ret dX4_behindOrder_109 rfl rfl
    · refine g_if (fun hs18 => ?_) (fun hs18 => ?_)
      · refine g_tswIn 18 (tgt := 110) (off := 96) dX4_behindOrder_14 hs18 (by decide) (by decide) (by decide) (by decide) ?_
        refine g_aload_n dX4_behindOrder_110 1 rfl ?_
        refine g_aload_n dX4_behindOrder_111 2 rfl ?_
        refine g_aload_n dX4_behindOrder_112 3 rfl ?_
        refine g_getR (b := (r2 + 3)) fl_X4_75 (nt_0 hr2) (by decide) rfl rfl dX4_behindOrder_113 ?_
        refine g_iload_n dX4_behindOrder_116 4 rfl ?_
        refine g_iaload (nt_3 hr2) dX4_behindOrder_117 (fun x7 => ?_)
        refine g_vV [.ref (gb g + r1), .int x7] [] mw_X4_78 (ok_X4_mendCell g r0 r1 x7 hr0 hr1 μ) (by omega) (li_0 hr0) (by decide) rfl rfl (Nat.le_of_ble_eq_true rfl) dX4_behindOrder_118 (fun μ9 _ => ?_)
        refine g_iload_n dX4_behindOrder_121 4 rfl ?_
        refine g_iconst dX4_behindOrder_122 (v := 1) (by decide) ?_
        refine g_iadd dX4_behindOrder_123 ?_
        exact g_ret dX4_behindOrder_124 rfl rfl
      · refine g_if (fun hs19 => ?_) (fun hs19 => ?_)
        · refine g_tswIn 19 (tgt := 125) (off := 111) dX4_behindOrder_14 hs19 (by decide) (by decide) (by decide) (by decide) ?_
          refine g_aload_n dX4_behindOrder_125 1 rfl ?_
          refine g_aload_n dX4_behindOrder_126 2 rfl ?_
          refine g_aload_n dX4_behindOrder_127 3 rfl ?_
          refine g_getR (b := (r2 + 3)) fl_X4_75 (nt_0 hr2) (by decide) rfl rfl dX4_behindOrder_128 ?_
          refine g_iload_n dX4_behindOrder_131 4 rfl ?_
          refine g_iaload (nt_3 hr2) dX4_behindOrder_132 (fun x10 => ?_)
          refine g_vV [.ref (gb g + r1), .int x10] [] mw_X4_81 (ok_X4_stealFrom g r0 r1 x10 hr0 hr1 μ) (by omega) (li_0 hr0) (by decide) rfl rfl (Nat.le_of_ble_eq_true rfl) dX4_behindOrder_133 (fun μ12 _ => ?_)
          refine g_iload_n dX4_behindOrder_136 4 rfl ?_
          refine g_iconst dX4_behindOrder_137 (v := 1) (by decide) ?_
          refine g_iadd dX4_behindOrder_138 ?_
          exact g_ret dX4_behindOrder_139 rfl rfl
        · refine g_if (fun hs20 => ?_) (fun hs20 => ?_)
          · refine g_tswIn 20 (tgt := 140) (off := 126) dX4_behindOrder_14 hs20 (by decide) (by decide) (by decide) (by decide) ?_
            refine g_aload_n dX4_behindOrder_140 2 rfl ?_
            refine g_getI fl_X4_84 (bk_0 hr1) (by decide) rfl dX4_behindOrder_141 ?_
            refine g_if_ne (tgt := 160) dX4_behindOrder_144 (by decide) (fun _ => ?_) (fun _ => ?_)
            · refine g_aload_n dX4_behindOrder_160 1 rfl ?_
              refine g_bipush dX4_behindOrder_161 (v := 16) (by decide) ?_
              refine g_vI [.int 16] [] mw_X4_89 (ok_X4_drawBy g r0 16 hr0 μ) (by omega) (li_0 hr0) (by decide) rfl rfl (Nat.le_of_ble_eq_true rfl) dX4_behindOrder_163 (fun x14 μ15 _ => ?_)
              refine g_aload_n dX4_behindOrder_166 2 rfl ?_
              refine g_getI fl_X4_93 (bk_0 hr1) (by decide) rfl dX4_behindOrder_167 ?_
              refine g_icmp_ge (tgt := 182) dX4_behindOrder_170 (by decide) (fun _ => ?_) (fun _ => ?_)
              · refine g_aload_n dX4_behindOrder_182 1 rfl ?_
                refine g_aload_n dX4_behindOrder_183 2 rfl ?_
                refine g_aload_n dX4_behindOrder_184 1 rfl ?_
                refine g_iconst dX4_behindOrder_185 (v := 5) (by decide) ?_
                refine g_vI [.int 5] [.ref (gb g + r1), .ref (gb g + r0)] mw_X4_89 (ok_X4_drawBy g r0 5 hr0 μ15) (by omega) (li_0 hr0) (by decide) rfl rfl (Nat.le_of_ble_eq_true rfl) dX4_behindOrder_186 (fun x17 μ18 _ => ?_)
                refine g_vV [.ref (gb g + r1), .int x17] [] mw_X4_68 (ok_X4_goOneWay g F r0 r1 x17 hr0 hr1 μ18) (by omega) (li_0 hr0) (by decide) rfl rfl (Nat.le_of_ble_eq_true rfl) dX4_behindOrder_189 (fun μ20 _ => ?_)
                refine g_iload_n dX4_behindOrder_192 4 rfl ?_
                refine g_iconst dX4_behindOrder_193 (v := 1) (by decide) ?_
                refine g_iadd dX4_behindOrder_194 ?_
                exact g_ret dX4_behindOrder_195 rfl rfl
              · refine g_aload_n dX4_behindOrder_173 1 rfl ?_
                refine g_aload_n dX4_behindOrder_174 2 rfl ?_
                refine g_iconst dX4_behindOrder_175 (v := 1) (by decide) ?_
                refine g_vV [.ref (gb g + r1), .int 1] [] mw_X4_72 (ok_X4_sleepFor g F r0 r1 1 hr0 hr1 μ15) (by omega) (li_0 hr0) (by decide) rfl rfl (Nat.le_of_ble_eq_true rfl) dX4_behindOrder_176 (fun μ22 _ => ?_)
                refine g_goto (tgt := 192) dX4_behindOrder_179 (by decide) ?_
                refine g_iload_n dX4_behindOrder_192 4 rfl ?_
                refine g_iconst dX4_behindOrder_193 (v := 1) (by decide) ?_
                refine g_iadd dX4_behindOrder_194 ?_
                exact g_ret dX4_behindOrder_195 rfl rfl
            · refine g_aload_n dX4_behindOrder_147 1 rfl ?_
              refine g_dup dX4_behindOrder_148 rfl ?_
              refine g_getI fl_X4_25 (li_0 hr0) (by decide) rfl dX4_behindOrder_149 ?_
              refine g_iconst dX4_behindOrder_152 (v := 1) (by decide) ?_
              refine g_iadd dX4_behindOrder_153 ?_
              refine g_putI fl_X4_25 (li_0 hr0) (by decide) rfl dX4_behindOrder_154 ?_
              refine g_goto (tgt := 192) dX4_behindOrder_157 (by decide) ?_
              refine g_iload_n dX4_behindOrder_192 4 rfl ?_
              refine g_iconst dX4_behindOrder_193 (v := 1) (by decide) ?_
              refine g_iadd dX4_behindOrder_194 ?_
              exact g_ret dX4_behindOrder_195 rfl rfl
          · refine g_if (fun hs25 => ?_) (fun hs25 => ?_)
            · refine g_tswIn 25 (tgt := 196) (off := 182) dX4_behindOrder_14 hs25 (by decide) (by decide) (by decide) (by decide) ?_
              refine g_aload_n dX4_behindOrder_196 1 rfl ?_
              refine g_getR (b := (r0 + 1)) fl_X4_11 (li_0 hr0) (by decide) rfl rfl dX4_behindOrder_197 ?_
              refine g_iload_n dX4_behindOrder_200 4 rfl ?_
              refine g_iload dX4_behindOrder_201 0 rfl ?_
              refine g_iastore (li_1 hr0) dX4_behindOrder_203 (fun μ23 => ?_)
              refine g_iload_n dX4_behindOrder_204 4 rfl ?_
              refine g_iconst dX4_behindOrder_205 (v := 1) (by decide) ?_
              refine g_iadd dX4_behindOrder_206 ?_
              exact g_ret dX4_behindOrder_207 rfl rfl
            · refine g_if (fun hs27 => ?_) (fun hs27 => ?_)
              · refine g_tswIn 27 (tgt := 208) (off := 194) dX4_behindOrder_14 hs27 (by decide) (by decide) (by decide) (by decide) ?_
                refine g_aload_n dX4_behindOrder_208 3 rfl ?_
                refine g_getI fl_X4_44 (nt_0 hr2) (by decide) rfl dX4_behindOrder_209 ?_
                exact g_ret dX4_behindOrder_212 rfl rfl
              · refine g_tswDef (tgt := 213) dX4_behindOrder_14 (by decide) (fun z hz0 hz1 hz2 => ?_) ?_
                · have n13 := lv_neT (a := 13) hs13 (by decide)
                  have n17 := lv_neT (a := 17) hs17 (by decide)
                  have n18 := lv_neT (a := 18) hs18 (by decide)
                  have n19 := lv_neT (a := 19) hs19 (by decide)
                  have n20 := lv_neT (a := 20) hs20 (by decide)
                  have n25 := lv_neT (a := 25) hs25 (by decide)
                  have n27 := lv_neT (a := 27) hs27 (by decide)
                  have hz : z = 14 ∨ z = 15 ∨ z = 16 ∨ z = 21 ∨ z = 22 ∨ z = 23 ∨ z = 24 ∨ z = 26 := by omega
                  rcases hz with rfl | rfl | rfl | rfl | rfl | rfl | rfl | rfl <;> rfl
                refine g_aload_n dX4_behindOrder_213 2 rfl ?_
                refine g_aload_n dX4_behindOrder_214 3 rfl ?_
                refine g_iload_n dX4_behindOrder_215 4 rfl ?_
                refine g_sZp [.ref (gb g + r1), .ref (gb g + r2), .int v3] [] mw_X4_96 (ok_X4_testHolds g F r1 r2 v3 hr1 hr2 μ) (by omega) rfl rfl (Nat.le_of_ble_eq_true rfl) dX4_behindOrder_216 (fun x24 _ => ?_)
                refine g_ifeqB (tgt := 228) dX4_behindOrder_219 (by decide) (fun _ => ?_) (fun _ => ?_)
                · refine g_aload_n dX4_behindOrder_228 3 rfl ?_
                  refine g_getR (b := (r2 + 5)) fl_X4_62 (nt_0 hr2) (by decide) rfl rfl dX4_behindOrder_229 ?_
                  refine g_iload_n dX4_behindOrder_232 4 rfl ?_
                  refine g_iaload (nt_5 hr2) dX4_behindOrder_233 (fun x26 => ?_)
                  refine g_iconst dX4_behindOrder_234 (v := 1) (by decide) ?_
                  refine g_iadd dX4_behindOrder_235 ?_
                  exact g_ret dX4_behindOrder_236 rfl rfl
                · refine g_iload_n dX4_behindOrder_222 4 rfl ?_
                  refine g_iconst dX4_behindOrder_223 (v := 1) (by decide) ?_
                  refine g_iadd dX4_behindOrder_224 ?_
                  refine g_goto (tgt := 236) dX4_behindOrder_225 (by decide) ?_
                  exact g_ret dX4_behindOrder_236 rfl rfl
set_option maxHeartbeats 4000000 in
set_option maxRecDepth 100000 in
theorem okL_X4_goThrough_46 (g : GG) (F : Nat) (r0 : Nat) (r1 : Nat) (r2 : Nat) (k : Mm → Option (Mm)) (hr0 : Li r0) (hr1 : Bk r1) (hr2 : Nt r2) (hk : ∀ (μ : Mm), Go g RX4 cX4_goThrough 6 .return_ 7 cvV 134 [] [] μ (k μ)) : ∀ (n : Nat) (v4 : Int32) (v5 : Int32) (μ : Mm), Go g RX4 cX4_goThrough 6 .return_ 7 cvV 46 [(0, .ref (gb g + r0)), (1, .ref (gb g + r1)), (2, .ref (gb g + r2)), (4, .int v4), (5, .int v5)] [] μ (L_X4_goThrough_46 F r0 r1 r2 k n v4 v5 μ) := by
  intro n
  induction n with
  | zero =>
    intro v4 v5 μ
    exact g_none
  | succ n ih =>
    intro v4 v5 μ
    rw [L_X4_goThrough_46_s]
    refine g_iload dX4_goThrough_46 4 rfl ?_
    refine g_ldc kl_X4_43 dX4_goThrough_48 ?_
    refine g_icmp_ge (tgt := 134) dX4_goThrough_50 (by decide) (fun _ => ?_) (fun _ => ?_)
    · refine g_lv [] rfl ?_
      exact hk μ
    · refine g_iload dX4_goThrough_53 3 rfl ?_
      refine g_iconst dX4_goThrough_55 (v := 0) (by decide) ?_
      refine g_aload_n dX4_goThrough_56 2 rfl ?_
      refine g_getI fl_X4_44 (nt_0 hr2) (by decide) rfl dX4_goThrough_57 ?_
      refine g_iconst dX4_goThrough_60 (v := 1) (by decide) ?_
      refine g_isub dX4_goThrough_61 ?_
      refine g_sZp [.int v4, .int 0, .int ((mI μ r2 2) - (1 : Int32))] [] mw_X4_47 (ok_X11_within g v4 0 ((mI μ r2 2) - (1 : Int32)) μ) (by omega) rfl rfl (Nat.le_of_ble_eq_true rfl) dX4_goThrough_62 (fun x1 _ => ?_)
      refine g_ifeqB (tgt := 134) dX4_goThrough_65 (by decide) (fun _ => ?_) (fun _ => ?_)
      · refine g_lv [] rfl ?_
        exact hk μ
      · refine g_aload_n dX4_goThrough_68 2 rfl ?_
        refine g_getR (b := (r2 + 1)) fl_X4_51 (nt_0 hr2) (by decide) rfl rfl dX4_goThrough_69 ?_
        refine g_iload dX4_goThrough_72 3 rfl ?_
        refine g_iaload (nt_1 hr2) dX4_goThrough_74 (fun x2 => ?_)
        refine g_bipush dX4_goThrough_75 (v := 26) (by decide) ?_
        refine g_icmp_ne (tgt := 92) dX4_goThrough_77 (by decide) (fun _ => ?_) (fun _ => ?_)
        · refine g_aload_n dX4_goThrough_92 0 rfl ?_
          refine g_getI fl_X4_21 (li_0 hr0) (by decide) rfl dX4_goThrough_93 ?_
          refine g_sipush dX4_goThrough_96 (v := 300) (by decide) ?_
          refine g_icmp_lt (tgt := 108) dX4_goThrough_99 (by decide) (fun _ => ?_) (fun _ => ?_)
          · refine g_aload_n dX4_goThrough_108 0 rfl ?_
            refine g_dup dX4_goThrough_109 rfl ?_
            refine g_getI fl_X4_21 (li_0 hr0) (by decide) rfl dX4_goThrough_110 ?_
            refine g_iconst dX4_goThrough_113 (v := 1) (by decide) ?_
            refine g_iadd dX4_goThrough_114 ?_
            refine g_putI fl_X4_21 (li_0 hr0) (by decide) rfl dX4_goThrough_115 ?_
            refine g_aload_n dX4_goThrough_118 0 rfl ?_
            refine g_aload_n dX4_goThrough_119 1 rfl ?_
            refine g_aload_n dX4_goThrough_120 2 rfl ?_
            refine g_iload dX4_goThrough_121 3 rfl ?_
            refine g_vI [.ref (gb g + r1), .ref (gb g + r2), .int v4] [] mw_X4_58 (ok_X4_behindOrder g F r0 r1 r2 v4 hr0 hr1 hr2 (sI μ r0 1 ((mI μ r0 1) + (1 : Int32)))) (by omega) (li_0 hr0) (by decide) rfl rfl (Nat.le_of_ble_eq_true rfl) dX4_goThrough_123 (fun x3 μ4 _ => ?_)
            refine g_istore dX4_goThrough_126 (by decide) (lv' := [(4, .int x3), (0, .ref (gb g + r0)), (1, .ref (gb g + r1)), (2, .ref (gb g + r2)), (5, .int v5)]) rfl ?_
            refine g_iinc dX4_goThrough_128 4 rfl (v := (v5 + 1)) rfl (by decide) (lv' := [(5, .int (v5 + 1)), (4, .int x3), (0, .ref (gb g + r0)), (1, .ref (gb g + r1)), (2, .ref (gb g + r2))]) rfl ?_
            refine g_goto (tgt := 46) dX4_goThrough_131 (by decide) ?_
            refine g_lv [2, 3, 4, 1, 0] rfl ?_
            exact ih x3 (v5 + 1) μ4
          · refine g_aload_n dX4_goThrough_102 0 rfl ?_
            refine g_iconst dX4_goThrough_103 (v := 1) (by decide) ?_
            refine g_putI fl_X4_37 (li_0 hr0) (by decide) rfl dX4_goThrough_104 ?_
            exact g_ret dX4_goThrough_107 rfl rfl
        · refine g_aload_n dX4_goThrough_80 0 rfl ?_
          refine g_aload_n dX4_goThrough_81 2 rfl ?_
          refine g_iload dX4_goThrough_82 3 rfl ?_
          refine g_vI [.ref (gb g + r2), .int v4] [] mw_X4_54 (ok_X4_behindEnd g r0 r2 v4 hr0 hr2 μ) (by omega) (li_0 hr0) (by decide) rfl rfl (Nat.le_of_ble_eq_true rfl) dX4_goThrough_84 (fun x5 μ6 _ => ?_)
          refine g_istore dX4_goThrough_87 (by decide) (lv' := [(4, .int x5), (0, .ref (gb g + r0)), (1, .ref (gb g + r1)), (2, .ref (gb g + r2)), (5, .int v5)]) rfl ?_
          refine g_goto (tgt := 128) dX4_goThrough_89 (by decide) ?_
          refine g_iinc dX4_goThrough_128 4 rfl (v := (v5 + 1)) rfl (by decide) (lv' := [(5, .int (v5 + 1)), (4, .int x5), (0, .ref (gb g + r0)), (1, .ref (gb g + r1)), (2, .ref (gb g + r2))]) rfl ?_
          refine g_goto (tgt := 46) dX4_goThrough_131 (by decide) ?_
          refine g_lv [2, 3, 4, 1, 0] rfl ?_
          exact ih x5 (v5 + 1) μ6
set_option maxHeartbeats 4000000 in
set_option maxRecDepth 100000 in
theorem ok_X4_goThrough (g : GG) (F : Nat) (r0 : Nat) (r1 : Nat) (r2 : Nat) (v3 : Int32) (hr0 : Li r0) (hr1 : Bk r1) (hr2 : Nt r2) (μ : Mm) : Ct g yX4_goThrough cX4_goThrough 6 none 7 cvV [.ref (gb g + r0), .ref (gb g + r1), .ref (gb g + r2), .int v3] μ (f_X4_goThrough F r0 r1 r2 v3 μ) := by
  refine ct_V (by decide +kernel) (Nat.le_of_ble_eq_true rfl) (show Go g RX4 cX4_goThrough 6 .return_ 7 cvV 0 [(0, .ref (gb g + r0)), (1, .ref (gb g + r1)), (2, .ref (gb g + r2)), (3, .int v3)] [] μ (f_X4_goThrough F r0 r1 r2 v3 μ) from ?_)
  unfold f_X4_goThrough
  refine g_aload_n dX4_goThrough_0 0 rfl ?_
  refine g_iconst dX4_goThrough_1 (v := 1) (by decide) ?_
  refine g_putZ fl_X4_17 (li_0 hr0) (by decide) rfl dX4_goThrough_2 ?_
  refine g_aload_n dX4_goThrough_5 0 rfl ?_
  refine g_iconst dX4_goThrough_6 (v := 0) (by decide) ?_
  refine g_putI fl_X4_21 (li_0 hr0) (by decide) rfl dX4_goThrough_7 ?_
  refine g_aload_n dX4_goThrough_10 0 rfl ?_
  refine g_iconst dX4_goThrough_11 (v := 0) (by decide) ?_
  refine g_putI fl_X4_25 (li_0 hr0) (by decide) rfl dX4_goThrough_12 ?_
  refine g_aload_n dX4_goThrough_15 0 rfl ?_
  refine g_iconst dX4_goThrough_16 (v := 0) (by decide) ?_
  refine g_putI fl_X4_28 (li_0 hr0) (by decide) rfl dX4_goThrough_17 ?_
  refine g_aload_n dX4_goThrough_20 0 rfl ?_
  refine g_iconst dX4_goThrough_21 (v := 0) (by decide) ?_
  refine g_putI fl_X4_31 (li_0 hr0) (by decide) rfl dX4_goThrough_22 ?_
  refine g_aload_n dX4_goThrough_25 0 rfl ?_
  refine g_iconst dX4_goThrough_26 (v := 0) (by decide) ?_
  refine g_putI fl_X4_34 (li_0 hr0) (by decide) rfl dX4_goThrough_27 ?_
  refine g_aload_n dX4_goThrough_30 0 rfl ?_
  refine g_iconst dX4_goThrough_31 (v := 0) (by decide) ?_
  refine g_putI fl_X4_37 (li_0 hr0) (by decide) rfl dX4_goThrough_32 ?_
  refine g_aload_n dX4_goThrough_35 0 rfl ?_
  refine g_iload_n dX4_goThrough_36 3 rfl ?_
  refine g_putI fl_X4_40 (li_0 hr0) (by decide) rfl dX4_goThrough_37 ?_
  refine g_iconst dX4_goThrough_40 (v := 0) (by decide) ?_
  refine g_istore dX4_goThrough_41 (by decide) (lv' := [(4, .int 0), (0, .ref (gb g + r0)), (1, .ref (gb g + r1)), (2, .ref (gb g + r2)), (3, .int v3)]) rfl ?_
  refine g_iconst dX4_goThrough_43 (v := 0) (by decide) ?_
  refine g_istore dX4_goThrough_44 (by decide) (lv' := [(5, .int 0), (4, .int 0), (0, .ref (gb g + r0)), (1, .ref (gb g + r1)), (2, .ref (gb g + r2)), (3, .int v3)]) rfl ?_
  refine g_lv [2, 3, 4, 1, 0] rfl ?_
  refine okL_X4_goThrough_46 g F r0 r1 r2 _ hr0 hr1 hr2 (fun μ7 => ?_) F 0 0 (sI (sI (sI (sI (sI (sI (sI (sI μ r0 0 1) r0 1 0) r0 2 0) r0 3 0) r0 4 0) r0 5 0) r0 6 0) r0 7 v3)
  exact g_ret dX4_goThrough_134 rfl rfl
set_option maxHeartbeats 4000000 in
set_option maxRecDepth 100000 in
theorem ok_X5_empty (g : GG) (r0 : Nat) (hr0 : Nt r0) (μ : Mm) : Ct g yX5_empty cX5_empty 1 none 1 cvV [.ref (gb g + r0)] μ (f_X5_empty r0 μ) := by
  refine ct_V (by decide +kernel) (Nat.le_of_ble_eq_true rfl) (show Go g RX5 cX5_empty 1 .return_ 1 cvV 0 [(0, .ref (gb g + r0))] [] μ (f_X5_empty r0 μ) from ?_)
  unfold f_X5_empty
  refine g_aload_n dX5_empty_0 0 rfl ?_
  refine g_iconst dX5_empty_1 (v := 0) (by decide) ?_
  refine g_putZ fl_X5_25 (nt_0 hr0) (by decide) rfl dX5_empty_2 ?_
  refine g_aload_n dX5_empty_5 0 rfl ?_
  refine g_iconst dX5_empty_6 (v := 0) (by decide) ?_
  refine g_putI fl_X5_29 (nt_0 hr0) (by decide) rfl dX5_empty_7 ?_
  refine g_aload_n dX5_empty_10 0 rfl ?_
  refine g_iconst dX5_empty_11 (v := 0) (by decide) ?_
  refine g_putI fl_X5_33 (nt_0 hr0) (by decide) rfl dX5_empty_12 ?_
  exact g_ret dX5_empty_15 rfl rfl
set_option maxHeartbeats 4000000 in
set_option maxRecDepth 100000 in
theorem ok_X5_takeFrom (g : GG) (r0 : Nat) (r1 : Nat) (hr0 : Nt r0) (hr1 : Nt r1) (μ : Mm) : Ct g yX5_takeFrom cX5_takeFrom 2 none 1 cvV [.ref (gb g + r0), .ref (gb g + r1)] μ (f_X5_takeFrom r0 r1 μ) := by
  refine ct_V (by decide +kernel) (Nat.le_of_ble_eq_true rfl) (show Go g RX5 cX5_takeFrom 2 .return_ 1 cvV 0 [(0, .ref (gb g + r0)), (1, .ref (gb g + r1))] [] μ (f_X5_takeFrom r0 r1 μ) from ?_)
  unfold f_X5_takeFrom
  refine g_aload_n dX5_takeFrom_0 0 rfl ?_
  refine g_aload_n dX5_takeFrom_1 1 rfl ?_
  refine g_getI fl_X5_25 (nt_0 hr1) (by decide) rfl dX5_takeFrom_2 ?_
  refine g_putZ fl_X5_25 (nt_0 hr0) (by decide) rfl dX5_takeFrom_5 ?_
  refine g_aload_n dX5_takeFrom_8 0 rfl ?_
  refine g_aload_n dX5_takeFrom_9 1 rfl ?_
  refine g_getI fl_X5_29 (nt_0 hr1) (by decide) rfl dX5_takeFrom_10 ?_
  refine g_putI fl_X5_29 (nt_0 hr0) (by decide) rfl dX5_takeFrom_13 ?_
  refine g_aload_n dX5_takeFrom_16 0 rfl ?_
  refine g_aload_n dX5_takeFrom_17 1 rfl ?_
  refine g_getI fl_X5_33 (nt_0 hr1) (by decide) rfl dX5_takeFrom_18 ?_
  refine g_putI fl_X5_33 (nt_0 hr0) (by decide) rfl dX5_takeFrom_21 ?_
  refine g_aload_n dX5_takeFrom_24 1 rfl ?_
  refine g_getR (b := (r1 + 1)) fl_X5_9 (nt_0 hr1) (by decide) rfl rfl dX5_takeFrom_25 ?_
  refine g_iconst dX5_takeFrom_28 (v := 0) (by decide) ?_
  refine g_aload_n dX5_takeFrom_29 0 rfl ?_
  refine g_getR (b := (r0 + 1)) fl_X5_9 (nt_0 hr0) (by decide) rfl rfl dX5_takeFrom_30 ?_
  refine g_iconst dX5_takeFrom_33 (v := 0) (by decide) ?_
  refine g_bipush dX5_takeFrom_34 (v := 60) (by decide) ?_
  refine g_copyA mw_X5_36 (by omega) (nt_1 hr1) (nt_1 hr0) dX5_takeFrom_36 (fun μ1 => ?_)
  refine g_aload_n dX5_takeFrom_39 1 rfl ?_
  refine g_getR (b := (r1 + 2)) fl_X5_13 (nt_0 hr1) (by decide) rfl rfl dX5_takeFrom_40 ?_
  refine g_iconst dX5_takeFrom_43 (v := 0) (by decide) ?_
  refine g_aload_n dX5_takeFrom_44 0 rfl ?_
  refine g_getR (b := (r0 + 2)) fl_X5_13 (nt_0 hr0) (by decide) rfl rfl dX5_takeFrom_45 ?_
  refine g_iconst dX5_takeFrom_48 (v := 0) (by decide) ?_
  refine g_bipush dX5_takeFrom_49 (v := 60) (by decide) ?_
  refine g_copyA mw_X5_36 (by omega) (nt_2 hr1) (nt_2 hr0) dX5_takeFrom_51 (fun μ2 => ?_)
  refine g_aload_n dX5_takeFrom_54 1 rfl ?_
  refine g_getR (b := (r1 + 3)) fl_X5_16 (nt_0 hr1) (by decide) rfl rfl dX5_takeFrom_55 ?_
  refine g_iconst dX5_takeFrom_58 (v := 0) (by decide) ?_
  refine g_aload_n dX5_takeFrom_59 0 rfl ?_
  refine g_getR (b := (r0 + 3)) fl_X5_16 (nt_0 hr0) (by decide) rfl rfl dX5_takeFrom_60 ?_
  refine g_iconst dX5_takeFrom_63 (v := 0) (by decide) ?_
  refine g_bipush dX5_takeFrom_64 (v := 60) (by decide) ?_
  refine g_copyA mw_X5_36 (by omega) (nt_3 hr1) (nt_3 hr0) dX5_takeFrom_66 (fun μ3 => ?_)
  refine g_aload_n dX5_takeFrom_69 1 rfl ?_
  refine g_getR (b := (r1 + 4)) fl_X5_19 (nt_0 hr1) (by decide) rfl rfl dX5_takeFrom_70 ?_
  refine g_iconst dX5_takeFrom_73 (v := 0) (by decide) ?_
  refine g_aload_n dX5_takeFrom_74 0 rfl ?_
  refine g_getR (b := (r0 + 4)) fl_X5_19 (nt_0 hr0) (by decide) rfl rfl dX5_takeFrom_75 ?_
  refine g_iconst dX5_takeFrom_78 (v := 0) (by decide) ?_
  refine g_bipush dX5_takeFrom_79 (v := 60) (by decide) ?_
  refine g_copyA mw_X5_36 (by omega) (nt_4 hr1) (nt_4 hr0) dX5_takeFrom_81 (fun μ4 => ?_)
  refine g_aload_n dX5_takeFrom_84 1 rfl ?_
  refine g_getR (b := (r1 + 5)) fl_X5_22 (nt_0 hr1) (by decide) rfl rfl dX5_takeFrom_85 ?_
  refine g_iconst dX5_takeFrom_88 (v := 0) (by decide) ?_
  refine g_aload_n dX5_takeFrom_89 0 rfl ?_
  refine g_getR (b := (r0 + 5)) fl_X5_22 (nt_0 hr0) (by decide) rfl rfl dX5_takeFrom_90 ?_
  refine g_iconst dX5_takeFrom_93 (v := 0) (by decide) ?_
  refine g_bipush dX5_takeFrom_94 (v := 60) (by decide) ?_
  refine g_copyA mw_X5_36 (by omega) (nt_5 hr1) (nt_5 hr0) dX5_takeFrom_96 (fun μ5 => ?_)
  exact g_ret dX5_takeFrom_99 rfl rfl
set_option maxHeartbeats 4000000 in
set_option maxRecDepth 100000 in
theorem ok_X5_addItem (g : GG) (r0 : Nat) (v1 : Int32) (hr0 : Nt r0) (μ : Mm) : Ct g yX5_addItem cX5_addItem 3 (some (.int)) 1 cvI [.ref (gb g + r0), .int v1] μ (f_X5_addItem r0 v1 μ) := by
  refine ct_I (by decide +kernel) (Nat.le_of_ble_eq_true rfl) (show Go g RX5 cX5_addItem 3 .ireturn 1 cvI 0 [(0, .ref (gb g + r0)), (1, .int v1)] [] μ (f_X5_addItem r0 v1 μ) from ?_)
  unfold f_X5_addItem
  refine g_aload_n dX5_addItem_0 0 rfl ?_
  refine g_getI fl_X5_33 (nt_0 hr0) (by decide) rfl dX5_addItem_1 ?_
  refine g_bipush dX5_addItem_4 (v := 60) (by decide) ?_
  refine g_icmp_lt (tgt := 12) dX5_addItem_6 (by decide) (fun _ => ?_) (fun _ => ?_)
  · refine g_aload_n dX5_addItem_12 0 rfl ?_
    refine g_getI fl_X5_33 (nt_0 hr0) (by decide) rfl dX5_addItem_13 ?_
    refine g_istore_n dX5_addItem_16 rfl (by decide) (lv' := [(2, .int (mI μ r0 2)), (0, .ref (gb g + r0)), (1, .int v1)]) rfl ?_
    refine g_aload_n dX5_addItem_17 1 rfl ?_
    refine g_getR (b := (r0 + 1)) fl_X5_9 (nt_0 hr0) (by decide) rfl rfl dX5_addItem_18 ?_
    refine g_iload_n dX5_addItem_21 0 rfl ?_
    refine g_iload_n dX5_addItem_22 2 rfl ?_
    refine g_iastore (nt_1 hr0) dX5_addItem_23 (fun μ1 => ?_)
    refine g_aload_n dX5_addItem_24 1 rfl ?_
    refine g_getR (b := (r0 + 2)) fl_X5_13 (nt_0 hr0) (by decide) rfl rfl dX5_addItem_25 ?_
    refine g_iload_n dX5_addItem_28 0 rfl ?_
    refine g_iconst dX5_addItem_29 (v := 0) (by decide) ?_
    refine g_iastore (nt_2 hr0) dX5_addItem_30 (fun μ2 => ?_)
    refine g_aload_n dX5_addItem_31 1 rfl ?_
    refine g_getR (b := (r0 + 3)) fl_X5_16 (nt_0 hr0) (by decide) rfl rfl dX5_addItem_32 ?_
    refine g_iload_n dX5_addItem_35 0 rfl ?_
    refine g_iconst dX5_addItem_36 (v := 0) (by decide) ?_
    refine g_iastore (nt_3 hr0) dX5_addItem_37 (fun μ3 => ?_)
    refine g_aload_n dX5_addItem_38 1 rfl ?_
    refine g_getR (b := (r0 + 4)) fl_X5_19 (nt_0 hr0) (by decide) rfl rfl dX5_addItem_39 ?_
    refine g_iload_n dX5_addItem_42 0 rfl ?_
    refine g_iconst dX5_addItem_43 (v := 0) (by decide) ?_
    refine g_iastore (nt_4 hr0) dX5_addItem_44 (fun μ4 => ?_)
    refine g_aload_n dX5_addItem_45 1 rfl ?_
    refine g_getR (b := (r0 + 5)) fl_X5_22 (nt_0 hr0) (by decide) rfl rfl dX5_addItem_46 ?_
    refine g_iload_n dX5_addItem_49 0 rfl ?_
    refine g_iload_n dX5_addItem_50 0 rfl ?_
    refine g_iastore (nt_5 hr0) dX5_addItem_51 (fun μ5 => ?_)
    refine g_aload_n dX5_addItem_52 1 rfl ?_
    refine g_dup dX5_addItem_53 rfl ?_
    refine g_getI fl_X5_33 (nt_0 hr0) (by decide) rfl dX5_addItem_54 ?_
    refine g_iconst dX5_addItem_57 (v := 1) (by decide) ?_
    refine g_iadd dX5_addItem_58 ?_
    refine g_putI fl_X5_33 (nt_0 hr0) (by decide) rfl dX5_addItem_59 ?_
    refine g_iload_n dX5_addItem_62 0 rfl ?_
    exact g_ret dX5_addItem_63 rfl rfl
  · refine g_bipush dX5_addItem_9 (v := 59) (by decide) ?_
    exact g_ret dX5_addItem_11 rfl rfl
set_option maxHeartbeats 4000000 in
set_option maxRecDepth 100000 in
theorem ok_X6_takeEnd (g : GG) (F : Nat) (r1 : Nat) (hr1 : Nt r1) (μ : Mm) : Ct g yX6_takeEnd cX6_takeEnd 3 (some (.boolean)) 4 cvZ [.ref (gb g + 13), .ref (gb g + r1)] μ (f_X6_takeEnd F r1 μ) := by
  refine ct_Z (by decide +kernel) (Nat.le_of_ble_eq_true rfl) (show Go g RX6 cX6_takeEnd 3 .ireturn 4 cvZ 0 [(0, .ref (gb g + 13)), (1, .ref (gb g + r1))] [] μ (f_X6_takeEnd F r1 μ) from ?_)
  unfold f_X6_takeEnd
  refine g_aload_n dX6_takeEnd_0 0 rfl ?_
  refine g_getI fl_X6_19 sh_13 (by decide) rfl dX6_takeEnd_1 ?_
  refine g_if_gt (tgt := 15) dX6_takeEnd_4 (by decide) (fun _ => ?_) (fun _ => ?_)
  · refine g_aload_n dX6_takeEnd_15 0 rfl ?_
    refine g_getR (b := 9) fl_X6_15 sh_13 (by decide) rfl rfl dX6_takeEnd_16 ?_
    refine g_vV [] [] mw_X6_56 (ok_X9_advance g F μ) (by omega) sh_9 (by decide) rfl rfl (Nat.le_of_ble_eq_true rfl) dX6_takeEnd_19 (fun μ2 _ => ?_)
    refine g_aload_n dX6_takeEnd_22 0 rfl ?_
    refine g_dup dX6_takeEnd_23 rfl ?_
    refine g_getI fl_X6_19 sh_13 (by decide) rfl dX6_takeEnd_24 ?_
    refine g_iconst dX6_takeEnd_27 (v := 1) (by decide) ?_
    refine g_isub dX6_takeEnd_28 ?_
    refine g_putI fl_X6_19 sh_13 (by decide) rfl dX6_takeEnd_29 ?_
    refine g_aload_n dX6_takeEnd_32 1 rfl ?_
    refine g_bipush dX6_takeEnd_33 (v := 26) (by decide) ?_
    refine g_vI [.int 26] [] mw_X6_59 (ok_X5_addItem g r1 26 hr1 (sI μ2 13 2 ((mI μ2 13 2) - (1 : Int32)))) (by omega) (nt_0 hr1) (by decide) rfl rfl (Nat.le_of_ble_eq_true rfl) dX6_takeEnd_35 (fun x3 μ4 _ => ?_)
    refine g_istore_n dX6_takeEnd_38 rfl (by decide) (lv' := [(2, .int x3), (0, .ref (gb g + 13)), (1, .ref (gb g + r1))]) rfl ?_
    refine g_aload_n dX6_takeEnd_39 2 rfl ?_
    refine g_getR (b := (r1 + 5)) fl_X6_63 (nt_0 hr1) (by decide) rfl rfl dX6_takeEnd_40 ?_
    refine g_iload_n dX6_takeEnd_43 0 rfl ?_
    refine g_aload_n dX6_takeEnd_44 1 rfl ?_
    refine g_getR (b := 14) fl_X6_11 sh_13 (by decide) rfl rfl dX6_takeEnd_45 ?_
    refine g_aload_n dX6_takeEnd_48 1 rfl ?_
    refine g_getI fl_X6_19 sh_13 (by decide) rfl dX6_takeEnd_49 ?_
    refine g_iaload sh_14 dX6_takeEnd_52 (fun x5 => ?_)
    refine g_iastore (nt_5 hr1) dX6_takeEnd_53 (fun μ6 => ?_)
    refine g_aload_n dX6_takeEnd_54 2 rfl ?_
    refine g_getR (b := (r1 + 5)) fl_X6_63 (nt_0 hr1) (by decide) rfl rfl dX6_takeEnd_55 ?_
    refine g_aload_n dX6_takeEnd_58 1 rfl ?_
    refine g_getR (b := 14) fl_X6_11 sh_13 (by decide) rfl rfl dX6_takeEnd_59 ?_
    refine g_aload_n dX6_takeEnd_62 1 rfl ?_
    refine g_getI fl_X6_19 sh_13 (by decide) rfl dX6_takeEnd_63 ?_
    refine g_iaload sh_14 dX6_takeEnd_66 (fun x7 => ?_)
    refine g_iload_n dX6_takeEnd_67 0 rfl ?_
    refine g_iastore (nt_5 hr1) dX6_takeEnd_68 (fun μ8 => ?_)
    refine g_aload_n dX6_takeEnd_69 1 rfl ?_
    refine g_getR (b := 9) fl_X6_15 sh_13 (by decide) rfl rfl dX6_takeEnd_70 ?_
    refine g_vZ [] [] mw_X6_66 (ok_X9_takeEndOfPart g F μ8) (by omega) sh_9 (by decide) rfl rfl (Nat.le_of_ble_eq_true rfl) dX6_takeEnd_73 (fun x9 μ10 _ => ?_)
    exact g_ret dX6_takeEnd_76 rfl rfl
  · refine g_aload_n dX6_takeEnd_7 0 rfl ?_
    refine g_getR (b := 9) fl_X6_15 sh_13 (by decide) rfl rfl dX6_takeEnd_8 ?_
    refine g_vZ [] [] mw_X6_48 (ok_X9_refuseUnfit g μ) (by omega) sh_9 (by decide) rfl rfl (Nat.le_of_ble_eq_true rfl) dX6_takeEnd_11 (fun x11 μ12 _ => ?_)
    exact g_ret dX6_takeEnd_14 rfl rfl
set_option maxHeartbeats 4000000 in
set_option maxRecDepth 100000 in
theorem ok_X6_beginsOrder (g : GG) (v0 : Int32)  (μ : Mm) : Ct g yX6_beginsOrder cX6_beginsOrder 1 (some (.boolean)) 2 (cvZp μ) [.int v0] μ (f_X6_beginsOrder v0 μ) := by
  refine ct_Zp (by decide +kernel) (Nat.le_of_ble_eq_true rfl) (show Go g RX6 cX6_beginsOrder 1 .ireturn 2 (cvZp μ) 0 [(0, .int v0)] [] μ (f_X6_beginsOrder v0 μ) from ?_)
  unfold f_X6_beginsOrder
  refine g_iload_n dX6_beginsOrder_0 0 rfl ?_
  refine g_bipush dX6_beginsOrder_1 (v := 13) (by decide) ?_
  refine g_icmp_eq (tgt := 29) dX6_beginsOrder_3 (by decide) (fun _ => ?_) (fun _ => ?_)
  · refine g_iconst dX6_beginsOrder_29 (v := 1) (by decide) ?_
    refine g_goto (tgt := 34) dX6_beginsOrder_30 (by decide) ?_
    exact g_ret dX6_beginsOrder_34 rfl rfl
  · refine g_iload_n dX6_beginsOrder_6 0 rfl ?_
    refine g_bipush dX6_beginsOrder_7 (v := 17) (by decide) ?_
    refine g_bipush dX6_beginsOrder_9 (v := 21) (by decide) ?_
    refine g_sZp [.int v0, .int 17, .int 21] [] mw_X6_69 (ok_X11_within g v0 17 21 μ) (by omega) rfl rfl (Nat.le_of_ble_eq_true rfl) dX6_beginsOrder_11 (fun x1 _ => ?_)
    refine g_ifneB (tgt := 29) dX6_beginsOrder_14 (by decide) (fun _ => ?_) (fun _ => ?_)
    · refine g_iconst dX6_beginsOrder_29 (v := 1) (by decide) ?_
      refine g_goto (tgt := 34) dX6_beginsOrder_30 (by decide) ?_
      exact g_ret dX6_beginsOrder_34 rfl rfl
    · refine g_iload_n dX6_beginsOrder_17 0 rfl ?_
      refine g_bipush dX6_beginsOrder_18 (v := 25) (by decide) ?_
      refine g_icmp_eq (tgt := 29) dX6_beginsOrder_20 (by decide) (fun _ => ?_) (fun _ => ?_)
      · refine g_iconst dX6_beginsOrder_29 (v := 1) (by decide) ?_
        refine g_goto (tgt := 34) dX6_beginsOrder_30 (by decide) ?_
        exact g_ret dX6_beginsOrder_34 rfl rfl
      · refine g_iload_n dX6_beginsOrder_23 0 rfl ?_
        refine g_bipush dX6_beginsOrder_24 (v := 27) (by decide) ?_
        refine g_icmp_ne (tgt := 33) dX6_beginsOrder_26 (by decide) (fun _ => ?_) (fun _ => ?_)
        · refine g_iconst dX6_beginsOrder_33 (v := 0) (by decide) ?_
          exact g_ret dX6_beginsOrder_34 rfl rfl
        · refine g_iconst dX6_beginsOrder_29 (v := 1) (by decide) ?_
          refine g_goto (tgt := 34) dX6_beginsOrder_30 (by decide) ?_
          exact g_ret dX6_beginsOrder_34 rfl rfl
set_option maxHeartbeats 4000000 in
set_option maxRecDepth 100000 in
theorem ok_X6_takeCellInto (g : GG) (F : Nat) (r1 : Nat) (r2 : Nat) (v3 : Int32) (hr1 : Nt r1) (hr2 : Bk r2) (μ : Mm) : Ct g yX6_takeCellInto cX6_takeCellInto 5 (some (.boolean)) 4 cvZ [.ref (gb g + 13), .ref (gb g + r1), .ref (gb g + r2), .int v3] μ (f_X6_takeCellInto F r1 r2 v3 μ) := by
  refine ct_Z (by decide +kernel) (Nat.le_of_ble_eq_true rfl) (show Go g RX6 cX6_takeCellInto 5 .ireturn 4 cvZ 0 [(0, .ref (gb g + 13)), (1, .ref (gb g + r1)), (2, .ref (gb g + r2)), (3, .int v3)] [] μ (f_X6_takeCellInto F r1 r2 v3 μ) from ?_)
  unfold f_X6_takeCellInto
  refine g_aload_n dX6_takeCellInto_0 0 rfl ?_
  refine g_getR (b := 9) fl_X6_15 sh_13 (by decide) rfl rfl dX6_takeCellInto_1 ?_
  refine g_aload_n dX6_takeCellInto_4 2 rfl ?_
  refine g_vZ [.ref (gb g + r2)] [] mw_X6_114 (ok_X9_takeName g F r2 hr2 μ) (by omega) sh_9 (by decide) rfl rfl (Nat.le_of_ble_eq_true rfl) dX6_takeCellInto_5 (fun x1 μ2 _ => ?_)
  refine g_ifneB (tgt := 13) dX6_takeCellInto_8 (by decide) (fun _ => ?_) (fun _ => ?_)
  · refine g_aload_n dX6_takeCellInto_13 0 rfl ?_
    refine g_getR (b := 9) fl_X6_15 sh_13 (by decide) rfl rfl dX6_takeCellInto_14 ?_
    refine g_getI fl_X6_111 sh_9 (by decide) rfl dX6_takeCellInto_17 ?_
    refine g_istore dX6_takeCellInto_20 (by decide) (lv' := [(4, .int (mI μ2 9 7)), (0, .ref (gb g + 13)), (1, .ref (gb g + r1)), (2, .ref (gb g + r2)), (3, .int v3)]) rfl ?_
    refine g_aload_n dX6_takeCellInto_22 1 rfl ?_
    refine g_getR (b := 9) fl_X6_15 sh_13 (by decide) rfl rfl dX6_takeCellInto_23 ?_
    refine g_iconst dX6_takeCellInto_26 (v := 0) (by decide) ?_
    refine g_aload_n dX6_takeCellInto_27 3 rfl ?_
    refine g_getI fl_X6_118 (bk_0 hr2) (by decide) rfl dX6_takeCellInto_28 ?_
    refine g_iconst dX6_takeCellInto_31 (v := 1) (by decide) ?_
    refine g_isub dX6_takeCellInto_32 ?_
    refine g_vZ [.int 0, .int ((mI μ2 r2 0) - (1 : Int32))] [] mw_X6_104 (ok_X9_takeNumber g F 0 ((mI μ2 r2 0) - (1 : Int32)) μ2) (by omega) sh_9 (by decide) rfl rfl (Nat.le_of_ble_eq_true rfl) dX6_takeCellInto_33 (fun x3 μ4 _ => ?_)
    refine g_ifneB (tgt := 41) dX6_takeCellInto_36 (by decide) (fun _ => ?_) (fun _ => ?_)
    · refine g_aload_n dX6_takeCellInto_41 2 rfl ?_
      refine g_getR (b := (r1 + 3)) fl_X6_123 (nt_0 hr1) (by decide) rfl rfl dX6_takeCellInto_42 ?_
      refine g_iload_n dX6_takeCellInto_45 4 rfl ?_
      refine g_iload dX6_takeCellInto_46 0 rfl ?_
      refine g_aload_n dX6_takeCellInto_48 1 rfl ?_
      refine g_getR (b := 9) fl_X6_15 sh_13 (by decide) rfl rfl dX6_takeCellInto_49 ?_
      refine g_getI fl_X6_111 sh_9 (by decide) rfl dX6_takeCellInto_52 ?_
      refine g_iadd dX6_takeCellInto_55 ?_
      refine g_iastore (nt_3 hr1) dX6_takeCellInto_56 (fun μ5 => ?_)
      refine g_iconst dX6_takeCellInto_57 (v := 1) (by decide) ?_
      exact g_ret dX6_takeCellInto_58 rfl rfl
    · refine g_iconst dX6_takeCellInto_39 (v := 0) (by decide) ?_
      exact g_ret dX6_takeCellInto_40 rfl rfl
  · refine g_iconst dX6_takeCellInto_11 (v := 0) (by decide) ?_
    exact g_ret dX6_takeCellInto_12 rfl rfl
set_option maxHeartbeats 4000000 in
set_option maxRecDepth 100000 in
theorem ok_X6_takeCompares (g : GG) (F : Nat) (r1 : Nat) (v2 : Int32) (hr1 : Nt r1) (μ : Mm) : Ct g yX6_takeCompares cX6_takeCompares 3 (some (.boolean)) 3 cvZ [.ref (gb g + 13), .ref (gb g + r1), .int v2] μ (f_X6_takeCompares F r1 v2 μ) := by
  refine ct_Z (by decide +kernel) (Nat.le_of_ble_eq_true rfl) (show Go g RX6 cX6_takeCompares 3 .ireturn 3 cvZ 0 [(0, .ref (gb g + 13)), (1, .ref (gb g + r1)), (2, .int v2)] [] μ (f_X6_takeCompares F r1 v2 μ) from ?_)
  unfold f_X6_takeCompares
  refine g_aload_n dX6_takeCompares_0 0 rfl ?_
  refine g_getR (b := 9) fl_X6_15 sh_13 (by decide) rfl rfl dX6_takeCompares_1 ?_
  refine g_getI fl_X6_33 sh_9 (by decide) rfl dX6_takeCompares_4 ?_
  refine g_iconst dX6_takeCompares_7 (v := 3) (by decide) ?_
  refine g_icmp_ne (tgt := 23) dX6_takeCompares_8 (by decide) (fun _ => ?_) (fun _ => ?_)
  · refine g_aload_n dX6_takeCompares_23 0 rfl ?_
    refine g_getR (b := 9) fl_X6_15 sh_13 (by decide) rfl rfl dX6_takeCompares_24 ?_
    refine g_vZ [] [] mw_X6_48 (ok_X9_refuseUnfit g μ) (by omega) sh_9 (by decide) rfl rfl (Nat.le_of_ble_eq_true rfl) dX6_takeCompares_27 (fun x1 μ2 _ => ?_)
    exact g_ret dX6_takeCompares_30 rfl rfl
  · refine g_aload_n dX6_takeCompares_11 0 rfl ?_
    refine g_getR (b := 9) fl_X6_15 sh_13 (by decide) rfl rfl dX6_takeCompares_12 ?_
    refine g_getI fl_X6_132 sh_9 (by decide) rfl dX6_takeCompares_15 ?_
    refine g_bipush dX6_takeCompares_18 (v := 59) (by decide) ?_
    refine g_icmp_ne (tgt := 31) dX6_takeCompares_20 (by decide) (fun _ => ?_) (fun _ => ?_)
    · refine g_aload_n dX6_takeCompares_31 1 rfl ?_
      refine g_getR (b := (r1 + 4)) fl_X6_135 (nt_0 hr1) (by decide) rfl rfl dX6_takeCompares_32 ?_
      refine g_iload_n dX6_takeCompares_35 2 rfl ?_
      refine g_aload_n dX6_takeCompares_36 0 rfl ?_
      refine g_getR (b := 9) fl_X6_15 sh_13 (by decide) rfl rfl dX6_takeCompares_37 ?_
      refine g_getI fl_X6_132 sh_9 (by decide) rfl dX6_takeCompares_40 ?_
      refine g_iastore (nt_4 hr1) dX6_takeCompares_43 (fun μ3 => ?_)
      refine g_aload_n dX6_takeCompares_44 0 rfl ?_
      refine g_getR (b := 9) fl_X6_15 sh_13 (by decide) rfl rfl dX6_takeCompares_45 ?_
      refine g_vV [] [] mw_X6_56 (ok_X9_advance g F μ3) (by omega) sh_9 (by decide) rfl rfl (Nat.le_of_ble_eq_true rfl) dX6_takeCompares_48 (fun μ5 _ => ?_)
      refine g_iconst dX6_takeCompares_51 (v := 1) (by decide) ?_
      exact g_ret dX6_takeCompares_52 rfl rfl
    · refine g_aload_n dX6_takeCompares_23 0 rfl ?_
      refine g_getR (b := 9) fl_X6_15 sh_13 (by decide) rfl rfl dX6_takeCompares_24 ?_
      refine g_vZ [] [] mw_X6_48 (ok_X9_refuseUnfit g μ) (by omega) sh_9 (by decide) rfl rfl (Nat.le_of_ble_eq_true rfl) dX6_takeCompares_27 (fun x6 μ7 _ => ?_)
      exact g_ret dX6_takeCompares_30 rfl rfl
set_option maxHeartbeats 4000000 in
set_option maxRecDepth 100000 in
theorem ok_X6_takeNumberInto (g : GG) (F : Nat) (r1 : Nat) (v2 : Int32) (v3 : Int32) (v4 : Int32) (hr1 : Nt r1) (μ : Mm) : Ct g yX6_takeNumberInto cX6_takeNumberInto 5 (some (.boolean)) 4 cvZ [.ref (gb g + 13), .ref (gb g + r1), .int v2, .int v3, .int v4] μ (f_X6_takeNumberInto F r1 v2 v3 v4 μ) := by
  refine ct_Z (by decide +kernel) (Nat.le_of_ble_eq_true rfl) (show Go g RX6 cX6_takeNumberInto 5 .ireturn 4 cvZ 0 [(0, .ref (gb g + 13)), (1, .ref (gb g + r1)), (2, .int v2), (3, .int v3), (4, .int v4)] [] μ (f_X6_takeNumberInto F r1 v2 v3 v4 μ) from ?_)
  unfold f_X6_takeNumberInto
  refine g_aload_n dX6_takeNumberInto_0 0 rfl ?_
  refine g_getR (b := 9) fl_X6_15 sh_13 (by decide) rfl rfl dX6_takeNumberInto_1 ?_
  refine g_iload_n dX6_takeNumberInto_4 3 rfl ?_
  refine g_iload dX6_takeNumberInto_5 4 rfl ?_
  refine g_vZ [.int v3, .int v4] [] mw_X6_104 (ok_X9_takeNumber g F v3 v4 μ) (by omega) sh_9 (by decide) rfl rfl (Nat.le_of_ble_eq_true rfl) dX6_takeNumberInto_7 (fun x1 μ2 _ => ?_)
  refine g_ifneB (tgt := 15) dX6_takeNumberInto_10 (by decide) (fun _ => ?_) (fun _ => ?_)
  · refine g_aload_n dX6_takeNumberInto_15 1 rfl ?_
    refine g_getR (b := (r1 + 2)) fl_X6_108 (nt_0 hr1) (by decide) rfl rfl dX6_takeNumberInto_16 ?_
    refine g_iload_n dX6_takeNumberInto_19 2 rfl ?_
    refine g_aload_n dX6_takeNumberInto_20 0 rfl ?_
    refine g_getR (b := 9) fl_X6_15 sh_13 (by decide) rfl rfl dX6_takeNumberInto_21 ?_
    refine g_getI fl_X6_111 sh_9 (by decide) rfl dX6_takeNumberInto_24 ?_
    refine g_iastore (nt_2 hr1) dX6_takeNumberInto_27 (fun μ3 => ?_)
    refine g_iconst dX6_takeNumberInto_28 (v := 1) (by decide) ?_
    exact g_ret dX6_takeNumberInto_29 rfl rfl
  · refine g_iconst dX6_takeNumberInto_13 (v := 0) (by decide) ?_
    exact g_ret dX6_takeNumberInto_14 rfl rfl
set_option maxHeartbeats 4000000 in
set_option maxRecDepth 100000 in
theorem ok_X6_takeTest (g : GG) (F : Nat) (r1 : Nat) (r2 : Nat) (v3 : Int32) (hr1 : Nt r1) (hr2 : Bk r2) (μ : Mm) : Ct g yX6_takeTest cX6_takeTest 5 (some (.boolean)) 5 cvZ [.ref (gb g + 13), .ref (gb g + r1), .ref (gb g + r2), .int v3] μ (f_X6_takeTest F r1 r2 v3 μ) := by
  refine ct_Z (by decide +kernel) (Nat.le_of_ble_eq_true rfl) (show Go g RX6 cX6_takeTest 5 .ireturn 5 cvZ 0 [(0, .ref (gb g + 13)), (1, .ref (gb g + r1)), (2, .ref (gb g + r2)), (3, .int v3)] [] μ (f_X6_takeTest F r1 r2 v3 μ) from ?_)
  unfold f_X6_takeTest
  refine g_aload_n dX6_takeTest_0 0 rfl ?_
  refine g_getR (b := 9) fl_X6_15 sh_13 (by decide) rfl rfl dX6_takeTest_1 ?_
  refine g_vIp [] [] mw_X6_36 (ok_X9_setWord g μ) (by omega) sh_9 (by decide) rfl rfl (Nat.le_of_ble_eq_true rfl) dX6_takeTest_4 (fun x1 _ => ?_)
  refine g_istore dX6_takeTest_7 (by decide) (lv' := [(4, .int x1), (0, .ref (gb g + 13)), (1, .ref (gb g + r1)), (2, .ref (gb g + r2)), (3, .int v3)]) rfl ?_
  refine g_iload dX6_takeTest_9 0 rfl ?_
  refine g_bipush dX6_takeTest_11 (v := 22) (by decide) ?_
  refine g_bipush dX6_takeTest_13 (v := 24) (by decide) ?_
  refine g_sZp [.int x1, .int 22, .int 24] [] mw_X6_69 (ok_X11_within g x1 22 24 μ) (by omega) rfl rfl (Nat.le_of_ble_eq_true rfl) dX6_takeTest_15 (fun x2 _ => ?_)
  refine g_ifneB (tgt := 29) dX6_takeTest_18 (by decide) (fun _ => ?_) (fun _ => ?_)
  · refine g_aload_n dX6_takeTest_29 2 rfl ?_
    refine g_getR (b := (r1 + 1)) fl_X6_90 (nt_0 hr1) (by decide) rfl rfl dX6_takeTest_30 ?_
    refine g_iload_n dX6_takeTest_33 4 rfl ?_
    refine g_iload dX6_takeTest_34 0 rfl ?_
    refine g_iastore (nt_1 hr1) dX6_takeTest_36 (fun μ3 => ?_)
    refine g_aload_n dX6_takeTest_37 1 rfl ?_
    refine g_getR (b := 9) fl_X6_15 sh_13 (by decide) rfl rfl dX6_takeTest_38 ?_
    refine g_vV [] [] mw_X6_56 (ok_X9_advance g F μ3) (by omega) sh_9 (by decide) rfl rfl (Nat.le_of_ble_eq_true rfl) dX6_takeTest_41 (fun μ5 _ => ?_)
    refine g_iload dX6_takeTest_44 0 rfl ?_
    refine g_bipush dX6_takeTest_46 (v := 24) (by decide) ?_
    refine g_icmp_ne (tgt := 53) dX6_takeTest_48 (by decide) (fun _ => ?_) (fun _ => ?_)
    · refine g_iload dX6_takeTest_53 0 rfl ?_
      refine g_bipush dX6_takeTest_55 (v := 23) (by decide) ?_
      refine g_icmp_ne (tgt := 72) dX6_takeTest_57 (by decide) (fun _ => ?_) (fun _ => ?_)
      · refine g_aload_n dX6_takeTest_72 1 rfl ?_
        refine g_aload_n dX6_takeTest_73 2 rfl ?_
        refine g_iload_n dX6_takeTest_74 4 rfl ?_
        refine g_vZ [.ref (gb g + r1), .int v3] [] mw_X6_129 (ok_X6_takeCompares g F r1 v3 hr1 μ5) (by omega) sh_13 (by decide) rfl rfl (Nat.le_of_ble_eq_true rfl) dX6_takeTest_75 (fun x6 μ7 _ => ?_)
        refine g_ifeqB (tgt := 109) dX6_takeTest_78 (by decide) (fun _ => ?_) (fun _ => ?_)
        · refine g_iconst dX6_takeTest_109 (v := 0) (by decide) ?_
          exact g_ret dX6_takeTest_110 rfl rfl
        · refine g_aload_n dX6_takeTest_81 1 rfl ?_
          refine g_aload_n dX6_takeTest_82 2 rfl ?_
          refine g_iload_n dX6_takeTest_83 4 rfl ?_
          refine g_iconst dX6_takeTest_84 (v := 0) (by decide) ?_
          refine g_iload dX6_takeTest_85 0 rfl ?_
          refine g_bipush dX6_takeTest_87 (v := 23) (by decide) ?_
          have hJ12 : ∀ (w9 : Int32), w9 = (if x1 = 23 then (9 : Int32) else 99) → Go g RX6 cX6_takeTest 5 .ireturn 5 cvZ 99 [] [.int w9, .int 0, .int v3, .ref (gb g + r1), .ref (gb g + 13)] μ7 (bd (f_X6_takeNumberInto F r1 v3 0 (if x1 = 23 then (9 : Int32) else 99) μ7) fun x10 μ11 => (if x10 = true then some (true, μ11) else some (false, μ11))) := by
            intro w9 ew9
            subst ew9
            refine g_vZ [.ref (gb g + r1), .int v3, .int 0, .int (if x1 = 23 then (9 : Int32) else 99)] [] mw_X6_97 (ok_X6_takeNumberInto g F r1 v3 0 (if x1 = 23 then (9 : Int32) else 99) hr1 μ7) (by omega) sh_13 (by decide) rfl rfl (Nat.le_of_ble_eq_true rfl) dX6_takeTest_99 (fun x10 μ11 _ => ?_)
            refine g_ifeqB (tgt := 109) dX6_takeTest_102 (by decide) (fun _ => ?_) (fun _ => ?_)
            · refine g_iconst dX6_takeTest_109 (v := 0) (by decide) ?_
              exact g_ret dX6_takeTest_110 rfl rfl
            · refine g_iconst dX6_takeTest_105 (v := 1) (by decide) ?_
              refine g_goto (tgt := 110) dX6_takeTest_106 (by decide) ?_
              exact g_ret dX6_takeTest_110 rfl rfl
          refine g_same (g_icmp_ne (tgt := 97) dX6_takeTest_89 (by decide) (fun c8 => ?_) (fun c8 => ?_))
          · refine g_bipush dX6_takeTest_97 (v := 99) (by decide) ?_
            refine g_lv [] rfl ?_
            exact hJ12 _ (by rw [if_neg c8])
          · refine g_bipush dX6_takeTest_92 (v := 9) (by decide) ?_
            refine g_goto (tgt := 99) dX6_takeTest_94 (by decide) ?_
            refine g_lv [] rfl ?_
            exact hJ12 _ (by rw [if_pos c8])
      · refine g_aload_n dX6_takeTest_60 1 rfl ?_
        refine g_aload_n dX6_takeTest_61 2 rfl ?_
        refine g_aload_n dX6_takeTest_62 3 rfl ?_
        refine g_iload_n dX6_takeTest_63 4 rfl ?_
        refine g_vZ [.ref (gb g + r1), .ref (gb g + r2), .int v3] [] mw_X6_101 (ok_X6_takeCellInto g F r1 r2 v3 hr1 hr2 μ5) (by omega) sh_13 (by decide) rfl rfl (Nat.le_of_ble_eq_true rfl) dX6_takeTest_64 (fun x13 μ14 _ => ?_)
        refine g_ifneB (tgt := 72) dX6_takeTest_67 (by decide) (fun _ => ?_) (fun _ => ?_)
        · refine g_aload_n dX6_takeTest_72 1 rfl ?_
          refine g_aload_n dX6_takeTest_73 2 rfl ?_
          refine g_iload_n dX6_takeTest_74 4 rfl ?_
          refine g_vZ [.ref (gb g + r1), .int v3] [] mw_X6_129 (ok_X6_takeCompares g F r1 v3 hr1 μ14) (by omega) sh_13 (by decide) rfl rfl (Nat.le_of_ble_eq_true rfl) dX6_takeTest_75 (fun x15 μ16 _ => ?_)
          refine g_ifeqB (tgt := 109) dX6_takeTest_78 (by decide) (fun _ => ?_) (fun _ => ?_)
          · refine g_iconst dX6_takeTest_109 (v := 0) (by decide) ?_
            exact g_ret dX6_takeTest_110 rfl rfl
          · refine g_aload_n dX6_takeTest_81 1 rfl ?_
            refine g_aload_n dX6_takeTest_82 2 rfl ?_
            refine g_iload_n dX6_takeTest_83 4 rfl ?_
            refine g_iconst dX6_takeTest_84 (v := 0) (by decide) ?_
            refine g_iload dX6_takeTest_85 0 rfl ?_
            refine g_bipush dX6_takeTest_87 (v := 23) (by decide) ?_
            have hJ21 : ∀ (w18 : Int32), w18 = (if x1 = 23 then (9 : Int32) else 99) → Go g RX6 cX6_takeTest 5 .ireturn 5 cvZ 99 [] [.int w18, .int 0, .int v3, .ref (gb g + r1), .ref (gb g + 13)] μ16 (bd (f_X6_takeNumberInto F r1 v3 0 (if x1 = 23 then (9 : Int32) else 99) μ16) fun x19 μ20 => (if x19 = true then some (true, μ20) else some (false, μ20))) := by
              intro w18 ew18
              subst ew18
              refine g_vZ [.ref (gb g + r1), .int v3, .int 0, .int (if x1 = 23 then (9 : Int32) else 99)] [] mw_X6_97 (ok_X6_takeNumberInto g F r1 v3 0 (if x1 = 23 then (9 : Int32) else 99) hr1 μ16) (by omega) sh_13 (by decide) rfl rfl (Nat.le_of_ble_eq_true rfl) dX6_takeTest_99 (fun x19 μ20 _ => ?_)
              refine g_ifeqB (tgt := 109) dX6_takeTest_102 (by decide) (fun _ => ?_) (fun _ => ?_)
              · refine g_iconst dX6_takeTest_109 (v := 0) (by decide) ?_
                exact g_ret dX6_takeTest_110 rfl rfl
              · refine g_iconst dX6_takeTest_105 (v := 1) (by decide) ?_
                refine g_goto (tgt := 110) dX6_takeTest_106 (by decide) ?_
                exact g_ret dX6_takeTest_110 rfl rfl
            refine g_same (g_icmp_ne (tgt := 97) dX6_takeTest_89 (by decide) (fun c17 => ?_) (fun c17 => ?_))
            · refine g_bipush dX6_takeTest_97 (v := 99) (by decide) ?_
              refine g_lv [] rfl ?_
              exact hJ21 _ (by rw [if_neg c17])
            · refine g_bipush dX6_takeTest_92 (v := 9) (by decide) ?_
              refine g_goto (tgt := 99) dX6_takeTest_94 (by decide) ?_
              refine g_lv [] rfl ?_
              exact hJ21 _ (by rw [if_pos c17])
        · refine g_iconst dX6_takeTest_70 (v := 0) (by decide) ?_
          exact g_ret dX6_takeTest_71 rfl rfl
    · refine g_iconst dX6_takeTest_51 (v := 1) (by decide) ?_
      exact g_ret dX6_takeTest_52 rfl rfl
  · refine g_aload_n dX6_takeTest_21 1 rfl ?_
    refine g_getR (b := 9) fl_X6_15 sh_13 (by decide) rfl rfl dX6_takeTest_22 ?_
    refine g_vZ [] [] mw_X6_48 (ok_X9_refuseUnfit g μ) (by omega) sh_9 (by decide) rfl rfl (Nat.le_of_ble_eq_true rfl) dX6_takeTest_25 (fun x22 μ23 _ => ?_)
    exact g_ret dX6_takeTest_28 rfl rfl
set_option maxHeartbeats 4000000 in
set_option maxRecDepth 100000 in
theorem ok_X6_wayNamed (g : GG) (v0 : Int32)  (μ : Mm) : Ct g yX6_wayNamed cX6_wayNamed 1 (some (.int)) 1 (cvIp μ) [.int v0] μ (f_X6_wayNamed v0 μ) := by
  refine ct_Ip (by decide +kernel) (Nat.le_of_ble_eq_true rfl) (show Go g RX6 cX6_wayNamed 1 .ireturn 1 (cvIp μ) 0 [(0, .int v0)] [] μ (f_X6_wayNamed v0 μ) from ?_)
  unfold f_X6_wayNamed
  refine g_iload_n dX6_wayNamed_0 0 rfl ?_
  refine g_if (fun hs8 => ?_) (fun hs8 => ?_)
  · refine g_tswIn 8 (tgt := 56) (off := 55) dX6_wayNamed_1 hs8 (by decide) (by decide) (by decide) (by decide) ?_
    refine g_iconst dX6_wayNamed_56 (v := 2) (by decide) ?_
    exact g_ret dX6_wayNamed_57 rfl rfl
  · refine g_if (fun hs9 => ?_) (fun hs9 => ?_)
    · refine g_tswIn 9 (tgt := 58) (off := 57) dX6_wayNamed_1 hs9 (by decide) (by decide) (by decide) (by decide) ?_
      refine g_iconst dX6_wayNamed_58 (v := 3) (by decide) ?_
      exact g_ret dX6_wayNamed_59 rfl rfl
    · refine g_if (fun hs14 => ?_) (fun hs14 => ?_)
      · refine g_tswIn 14 (tgt := 52) (off := 51) dX6_wayNamed_1 hs14 (by decide) (by decide) (by decide) (by decide) ?_
        refine g_iconst dX6_wayNamed_52 (v := 0) (by decide) ?_
        exact g_ret dX6_wayNamed_53 rfl rfl
      · refine g_if (fun hs15 => ?_) (fun hs15 => ?_)
        · refine g_tswIn 15 (tgt := 54) (off := 53) dX6_wayNamed_1 hs15 (by decide) (by decide) (by decide) (by decide) ?_
          refine g_iconst dX6_wayNamed_54 (v := 1) (by decide) ?_
          exact g_ret dX6_wayNamed_55 rfl rfl
        · refine g_if (fun hs16 => ?_) (fun hs16 => ?_)
          · refine g_tswIn 16 (tgt := 60) (off := 59) dX6_wayNamed_1 hs16 (by decide) (by decide) (by decide) (by decide) ?_
            refine g_iconst dX6_wayNamed_60 (v := 4) (by decide) ?_
            exact g_ret dX6_wayNamed_61 rfl rfl
          · refine g_tswDef (tgt := 62) dX6_wayNamed_1 (by decide) (fun z hz0 hz1 hz2 => ?_) ?_
            · have n8 := lv_neT (a := 8) hs8 (by decide)
              have n9 := lv_neT (a := 9) hs9 (by decide)
              have n14 := lv_neT (a := 14) hs14 (by decide)
              have n15 := lv_neT (a := 15) hs15 (by decide)
              have n16 := lv_neT (a := 16) hs16 (by decide)
              have hz : z = 10 ∨ z = 11 ∨ z = 12 ∨ z = 13 := by omega
              rcases hz with rfl | rfl | rfl | rfl <;> rfl
            refine g_iconst dX6_wayNamed_62 (v := (-1)) (by decide) ?_
            exact g_ret dX6_wayNamed_63 rfl rfl
set_option maxHeartbeats 4000000 in
set_option maxRecDepth 100000 in
theorem ok_X6_takeWay (g : GG) (F : Nat) (r1 : Nat) (v2 : Int32) (hr1 : Nt r1) (μ : Mm) : Ct g yX6_takeWay cX6_takeWay 4 (some (.boolean)) 3 cvZ [.ref (gb g + 13), .ref (gb g + r1), .int v2] μ (f_X6_takeWay F r1 v2 μ) := by
  refine ct_Z (by decide +kernel) (Nat.le_of_ble_eq_true rfl) (show Go g RX6 cX6_takeWay 4 .ireturn 3 cvZ 0 [(0, .ref (gb g + 13)), (1, .ref (gb g + r1)), (2, .int v2)] [] μ (f_X6_takeWay F r1 v2 μ) from ?_)
  unfold f_X6_takeWay
  refine g_aload_n dX6_takeWay_0 0 rfl ?_
  refine g_getR (b := 9) fl_X6_15 sh_13 (by decide) rfl rfl dX6_takeWay_1 ?_
  refine g_vIp [] [] mw_X6_36 (ok_X9_setWord g μ) (by omega) sh_9 (by decide) rfl rfl (Nat.le_of_ble_eq_true rfl) dX6_takeWay_4 (fun x1 _ => ?_)
  refine g_sIp [.int x1] [] mw_X6_126 (ok_X6_wayNamed g x1 μ) (by omega) rfl rfl (Nat.le_of_ble_eq_true rfl) dX6_takeWay_7 (fun x2 _ => ?_)
  refine g_istore_n dX6_takeWay_10 rfl (by decide) (lv' := [(3, .int x2), (0, .ref (gb g + 13)), (1, .ref (gb g + r1)), (2, .int v2)]) rfl ?_
  refine g_iload_n dX6_takeWay_11 0 rfl ?_
  refine g_iconst dX6_takeWay_12 (v := (-1)) (by decide) ?_
  refine g_icmp_ne (tgt := 24) dX6_takeWay_13 (by decide) (fun _ => ?_) (fun _ => ?_)
  · refine g_aload_n dX6_takeWay_24 2 rfl ?_
    refine g_getR (b := (r1 + 2)) fl_X6_108 (nt_0 hr1) (by decide) rfl rfl dX6_takeWay_25 ?_
    refine g_iload_n dX6_takeWay_28 3 rfl ?_
    refine g_iload_n dX6_takeWay_29 0 rfl ?_
    refine g_iastore (nt_2 hr1) dX6_takeWay_30 (fun μ3 => ?_)
    refine g_aload_n dX6_takeWay_31 1 rfl ?_
    refine g_getR (b := 9) fl_X6_15 sh_13 (by decide) rfl rfl dX6_takeWay_32 ?_
    refine g_vV [] [] mw_X6_56 (ok_X9_advance g F μ3) (by omega) sh_9 (by decide) rfl rfl (Nat.le_of_ble_eq_true rfl) dX6_takeWay_35 (fun μ5 _ => ?_)
    refine g_iconst dX6_takeWay_38 (v := 1) (by decide) ?_
    exact g_ret dX6_takeWay_39 rfl rfl
  · refine g_aload_n dX6_takeWay_16 1 rfl ?_
    refine g_getR (b := 9) fl_X6_15 sh_13 (by decide) rfl rfl dX6_takeWay_17 ?_
    refine g_vZ [] [] mw_X6_48 (ok_X9_refuseUnfit g μ) (by omega) sh_9 (by decide) rfl rfl (Nat.le_of_ble_eq_true rfl) dX6_takeWay_20 (fun x6 μ7 _ => ?_)
    exact g_ret dX6_takeWay_23 rfl rfl
set_option maxHeartbeats 4000000 in
set_option maxRecDepth 100000 in
theorem ok_X6_takeRest (g : GG) (F : Nat) (r1 : Nat) (r2 : Nat) (v3 : Int32) (hr1 : Nt r1) (hr2 : Bk r2) (μ : Mm) : Ct g yX6_takeRest cX6_takeRest 4 (some (.boolean)) 5 cvZ [.ref (gb g + 13), .ref (gb g + r1), .ref (gb g + r2), .int v3] μ (f_X6_takeRest F r1 r2 v3 μ) := by
  refine ct_Z (by decide +kernel) (Nat.le_of_ble_eq_true rfl) (show Go g RX6 cX6_takeRest 4 .ireturn 5 cvZ 0 [(0, .ref (gb g + 13)), (1, .ref (gb g + r1)), (2, .ref (gb g + r2)), (3, .int v3)] [] μ (f_X6_takeRest F r1 r2 v3 μ) from ?_)
  unfold f_X6_takeRest
  refine g_aload_n dX6_takeRest_0 1 rfl ?_
  refine g_getR (b := (r1 + 1)) fl_X6_90 (nt_0 hr1) (by decide) rfl rfl dX6_takeRest_1 ?_
  refine g_iload_n dX6_takeRest_4 3 rfl ?_
  refine g_iaload (nt_1 hr1) dX6_takeRest_5 (fun x1 => ?_)
  refine g_if (fun hs13 => ?_) (fun hs13 => ?_)
  · refine g_tswIn 13 (tgt := 72) (off := 66) dX6_takeRest_6 hs13 (by decide) (by decide) (by decide) (by decide) ?_
    refine g_aload_n dX6_takeRest_72 0 rfl ?_
    refine g_aload_n dX6_takeRest_73 1 rfl ?_
    refine g_iload_n dX6_takeRest_74 3 rfl ?_
    refine g_vZ [.ref (gb g + r1), .int v3] [] mw_X6_93 (ok_X6_takeWay g F r1 v3 hr1 μ) (by omega) sh_13 (by decide) rfl rfl (Nat.le_of_ble_eq_true rfl) dX6_takeRest_75 (fun x2 μ3 _ => ?_)
    exact g_ret dX6_takeRest_78 rfl rfl
  · refine g_if (fun hs17 => ?_) (fun hs17 => ?_)
    · refine g_tswIn 17 (tgt := 79) (off := 73) dX6_takeRest_6 hs17 (by decide) (by decide) (by decide) (by decide) ?_
      refine g_aload_n dX6_takeRest_79 0 rfl ?_
      refine g_aload_n dX6_takeRest_80 1 rfl ?_
      refine g_iload_n dX6_takeRest_81 3 rfl ?_
      refine g_iconst dX6_takeRest_82 (v := 1) (by decide) ?_
      refine g_bipush dX6_takeRest_83 (v := 24) (by decide) ?_
      refine g_vZ [.ref (gb g + r1), .int v3, .int 1, .int 24] [] mw_X6_97 (ok_X6_takeNumberInto g F r1 v3 1 24 hr1 μ) (by omega) sh_13 (by decide) rfl rfl (Nat.le_of_ble_eq_true rfl) dX6_takeRest_85 (fun x4 μ5 _ => ?_)
      exact g_ret dX6_takeRest_88 rfl rfl
    · refine g_if (fun hs18 => ?_) (fun hs18 => ?_)
      · refine g_tswIn 18 (tgt := 99) (off := 93) dX6_takeRest_6 hs18 (by decide) (by decide) (by decide) (by decide) ?_
        refine g_aload_n dX6_takeRest_99 0 rfl ?_
        refine g_aload_n dX6_takeRest_100 1 rfl ?_
        refine g_aload_n dX6_takeRest_101 2 rfl ?_
        refine g_iload_n dX6_takeRest_102 3 rfl ?_
        refine g_vZ [.ref (gb g + r1), .ref (gb g + r2), .int v3] [] mw_X6_101 (ok_X6_takeCellInto g F r1 r2 v3 hr1 hr2 μ) (by omega) sh_13 (by decide) rfl rfl (Nat.le_of_ble_eq_true rfl) dX6_takeRest_103 (fun x6 μ7 _ => ?_)
        exact g_ret dX6_takeRest_106 rfl rfl
      · refine g_if (fun hs19 => ?_) (fun hs19 => ?_)
        · refine g_tswIn 19 (tgt := 99) (off := 93) dX6_takeRest_6 hs19 (by decide) (by decide) (by decide) (by decide) ?_
          refine g_aload_n dX6_takeRest_99 0 rfl ?_
          refine g_aload_n dX6_takeRest_100 1 rfl ?_
          refine g_aload_n dX6_takeRest_101 2 rfl ?_
          refine g_iload_n dX6_takeRest_102 3 rfl ?_
          refine g_vZ [.ref (gb g + r1), .ref (gb g + r2), .int v3] [] mw_X6_101 (ok_X6_takeCellInto g F r1 r2 v3 hr1 hr2 μ) (by omega) sh_13 (by decide) rfl rfl (Nat.le_of_ble_eq_true rfl) dX6_takeRest_103 (fun x8 μ9 _ => ?_)
          exact g_ret dX6_takeRest_106 rfl rfl
        · refine g_if (fun hs25 => ?_) (fun hs25 => ?_)
          · refine g_tswIn 25 (tgt := 89) (off := 83) dX6_takeRest_6 hs25 (by decide) (by decide) (by decide) (by decide) ?_
            refine g_aload_n dX6_takeRest_89 0 rfl ?_
            refine g_aload_n dX6_takeRest_90 1 rfl ?_
            refine g_iload_n dX6_takeRest_91 3 rfl ?_
            refine g_iconst dX6_takeRest_92 (v := 1) (by decide) ?_
            refine g_bipush dX6_takeRest_93 (v := 99) (by decide) ?_
            refine g_vZ [.ref (gb g + r1), .int v3, .int 1, .int 99] [] mw_X6_97 (ok_X6_takeNumberInto g F r1 v3 1 99 hr1 μ) (by omega) sh_13 (by decide) rfl rfl (Nat.le_of_ble_eq_true rfl) dX6_takeRest_95 (fun x10 μ11 _ => ?_)
            exact g_ret dX6_takeRest_98 rfl rfl
          · refine g_tswDef (tgt := 107) dX6_takeRest_6 (by decide) (fun z hz0 hz1 hz2 => ?_) ?_
            · have n13 := lv_neT (a := 13) hs13 (by decide)
              have n17 := lv_neT (a := 17) hs17 (by decide)
              have n18 := lv_neT (a := 18) hs18 (by decide)
              have n19 := lv_neT (a := 19) hs19 (by decide)
              have n25 := lv_neT (a := 25) hs25 (by decide)
              have hz : z = 14 ∨ z = 15 ∨ z = 16 ∨ z = 20 ∨ z = 21 ∨ z = 22 ∨ z = 23 ∨ z = 24 := by omega
              rcases hz with rfl | rfl | rfl | rfl | rfl | rfl | rfl | rfl <;> rfl
            refine g_iconst dX6_takeRest_107 (v := 1) (by decide) ?_
            exact g_ret dX6_takeRest_108 rfl rfl
