/-! ===== trays; the text; the tape; the reference ===== -/
def q_fill (g : GG) (ib : Nat) : List va_E := [.inr (9, [.ref (gb g + (ib + 1)), .ref (gb g + (ib + 6)), .ref (gb g + (ib + 7))]),
  .inl (gc g 6, 4, .inr (.inr (.inr (.inr (fun q => if q < 4 then some (gb g + (ib + 1) + 1 + q) else none))))),
  .inl (gc g 1, 60, .inr (.inl (fun _ => 0))),
  .inl (gc g 1, 60, .inr (.inl (fun _ => 0))),
  .inl (gc g 1, 60, .inr (.inl (fun _ => 0))),
  .inl (gc g 1, 60, .inr (.inl (fun _ => 0))),
  .inl (gc g 0, 4, .inl (fun _ => 0)),
  .inl (gc g 0, 4, .inl (fun _ => 0))]
def r_fill (g : GG) (ib : Nat) : List va_E := [.inr (9, [.ref (gb g + (ib + 1)), .ref (gb g + (ib + 6)), .ref (gb g + (ib + 7))]),
  .inl (gc g 6, 4, .inr (.inr (.inr (.inr (fun q => if q < 4 then some (gb g + (ib + 1) + 1 + q) else none))))),
  .inl (gc g 1, 60, .inr (.inl (fun _ => 0))),
  .inl (gc g 1, 60, .inr (.inl (fun _ => 0))),
  .inl (gc g 1, 60, .inr (.inl (fun _ => 0))),
  .inl (gc g 1, 60, .inr (.inl (fun _ => 0))),
  .inl (gc g 0, 4, .inl (upd (upd (upd (upd (fun _ => 0) 0 (-1)) 1 (-1)) 2 (-1)) 3 (-1))),
  .inl (gc g 0, 4, .inl (fun _ => 0))]
set_option maxRecDepth 100000 in
set_option maxHeartbeats 4000000 in
theorem cn_fill (g : GG) (zs : Nat × Nat) (ib : Nat) : Cn g zs yJ7_fill_53178 cJ7_fill_53178 4 none 0 ib 0 0 [.ref (gb g + (ib + 6)), .int (-1)] (q_fill g ib) (r_fill g ib) none := by
  refine cn_V (pcF := 20) (lvF := []) (by decide +kernel) (Nat.le_of_ble_eq_true rfl) dJ7_fill_53178_20 (show Gn g zs RJ7 "fill" cJ7_fill_53178 4 0 ib 0 0 0 [(0, .ref (gb g + (ib + 6))), (1, .int (-1))] [] (q_fill g ib) (20, [], [], r_fill g ib) from ?_)
  refine n_iconst (v := 0) dJ7_fill_53178_0 rfl ?_
  refine n_istore_n (i := 2) dJ7_fill_53178_1 rfl (by decide) rfl ?_
  refine n_aload_n dJ7_fill_53178_2 1 rfl ?_
  refine n_alen (q := 6) (j := ib + 6) (t0 := 0) (v := 4) rfl rfl rfl rfl dJ7_fill_53178_3 ?_
  refine n_istore_n (i := 3) dJ7_fill_53178_4 rfl (by decide) rfl ?_
  refine n_iload_n dJ7_fill_53178_5 1 rfl ?_
  refine n_iload_n dJ7_fill_53178_6 0 rfl ?_
  refine n_icmp_ge_f (tgt := 20) dJ7_fill_53178_7 rfl (by decide) ?_
  refine n_aload_n dJ7_fill_53178_10 2 rfl ?_
  refine n_iload_n dJ7_fill_53178_11 1 rfl ?_
  refine n_iload_n dJ7_fill_53178_12 3 rfl ?_
  refine n_iast (q := 6) (j := ib + 6) rfl rfl (by unfold vp_in; decide) dJ7_fill_53178_13 ?_
  refine n_iinc (v := 1) dJ7_fill_53178_14 1 rfl rfl (by decide) rfl ?_
  refine n_goto (tgt := 5) dJ7_fill_53178_17 rfl ?_
  refine n_iload_n dJ7_fill_53178_5 0 rfl ?_
  refine n_iload_n dJ7_fill_53178_6 1 rfl ?_
  refine n_icmp_ge_f (tgt := 20) dJ7_fill_53178_7 rfl (by decide) ?_
  refine n_aload_n dJ7_fill_53178_10 2 rfl ?_
  refine n_iload_n dJ7_fill_53178_11 0 rfl ?_
  refine n_iload_n dJ7_fill_53178_12 3 rfl ?_
  refine n_iast (q := 6) (j := ib + 6) rfl rfl (by unfold vp_in; decide) dJ7_fill_53178_13 ?_
  refine n_iinc (v := 2) dJ7_fill_53178_14 0 rfl rfl (by decide) rfl ?_
  refine n_goto (tgt := 5) dJ7_fill_53178_17 rfl ?_
  refine n_iload_n dJ7_fill_53178_5 0 rfl ?_
  refine n_iload_n dJ7_fill_53178_6 1 rfl ?_
  refine n_icmp_ge_f (tgt := 20) dJ7_fill_53178_7 rfl (by decide) ?_
  refine n_aload_n dJ7_fill_53178_10 2 rfl ?_
  refine n_iload_n dJ7_fill_53178_11 0 rfl ?_
  refine n_iload_n dJ7_fill_53178_12 3 rfl ?_
  refine n_iast (q := 6) (j := ib + 6) rfl rfl (by unfold vp_in; decide) dJ7_fill_53178_13 ?_
  refine n_iinc (v := 3) dJ7_fill_53178_14 0 rfl rfl (by decide) rfl ?_
  refine n_goto (tgt := 5) dJ7_fill_53178_17 rfl ?_
  refine n_iload_n dJ7_fill_53178_5 0 rfl ?_
  refine n_iload_n dJ7_fill_53178_6 1 rfl ?_
  refine n_icmp_ge_f (tgt := 20) dJ7_fill_53178_7 rfl (by decide) ?_
  refine n_aload_n dJ7_fill_53178_10 2 rfl ?_
  refine n_iload_n dJ7_fill_53178_11 0 rfl ?_
  refine n_iload_n dJ7_fill_53178_12 3 rfl ?_
  refine n_iast (q := 6) (j := ib + 6) rfl rfl (by unfold vp_in; decide) dJ7_fill_53178_13 ?_
  refine n_iinc (v := 4) dJ7_fill_53178_14 0 rfl rfl (by decide) rfl ?_
  refine n_goto (tgt := 5) dJ7_fill_53178_17 rfl ?_
  refine n_iload_n dJ7_fill_53178_5 0 rfl ?_
  refine n_iload_n dJ7_fill_53178_6 1 rfl ?_
  refine n_icmp_ge_t (tgt := 20) dJ7_fill_53178_7 rfl (by decide) ?_
  refine n_lv [] rfl ?_
  exact n_end rfl
def r_X10_init (g : GG) (ib : Nat) : List va_E := [.inr (9, [.ref (gb g + (ib + 1)), .ref (gb g + (ib + 6)), .ref (gb g + (ib + 7))]),
  .inl (gc g 6, 4, .inr (.inr (.inr (.inr (fun q => if q < 4 then some (gb g + (ib + 1) + 1 + q) else none))))),
  .inl (gc g 1, 60, .inr (.inl (fun _ => 0))),
  .inl (gc g 1, 60, .inr (.inl (fun _ => 0))),
  .inl (gc g 1, 60, .inr (.inl (fun _ => 0))),
  .inl (gc g 1, 60, .inr (.inl (fun _ => 0))),
  .inl (gc g 0, 4, .inl (upd (upd (upd (upd (fun _ => 0) 0 (-1)) 1 (-1)) 2 (-1)) 3 (-1))),
  .inl (gc g 0, 4, .inl (fun _ => 0))]
set_option maxRecDepth 100000 in
set_option maxHeartbeats 4000000 in
theorem cn_X10 (g : GG) (zs : Nat × Nat) (ib : Nat) : Cn g zs yX10_init cX10_init 1 none 1 ib 7 252 [.ref (gb g + ib)] [.inr (9, [.null, .null, .null])] (r_X10_init g ib) none := by
  refine cn_V (pcF := 37) (lvF := []) (by decide +kernel) (Nat.le_of_ble_eq_true rfl) dX10_init_37 (show Gn g zs RX10 "<init>" cX10_init 1 1 ib 7 252 0 [(0, .ref (gb g + ib))] [] [.inr (9, [.null, .null, .null])] (37, [], [], r_X10_init g ib) from ?_)
  refine n_aload_n dX10_init_0 0 rfl ?_
  refine n_obj ob_X10 (by decide) (Nat.le_of_ble_eq_true rfl) dX10_init_1 ?_
  refine n_aload_n dX10_init_4 0 rfl ?_
  refine n_iconst (v := 4) dX10_init_5 rfl ?_
  refine n_bipush (v := 60) dX10_init_6 rfl ?_
  refine n_mna (ty := .long) (tA := 6) (tB := 1) (N := 4) (K := 60) (j := ib + 1) (a0 := (60, .inr (.inl (fun _ => 0)))) (kc := 2) (ks := 8) cl_X10_11 (fun _ h => h.2) ac_long rfl rfl (fun _ _ h => h) (fun _ => rfl) (by decide) (by decide) (by decide) (by decide) (by decide) (by decide) (by decide) (by decide) rfl rfl dX10_init_8 ?_
  refine n_putF (q := 0) (j := ib) fl_X10_13 fd_X10_0 rfl rfl rfl rfl rfl (Nat.le_of_ble_eq_true rfl) dX10_init_12 ?_
  refine n_aload_n dX10_init_15 0 rfl ?_
  refine n_iconst (v := 4) dX10_init_16 rfl ?_
  refine n_newI (N := 4) (j := ib + 6) (kc := 1) (ks := 4) (by decide) (by decide) (by decide) rfl ac_int dX10_init_17 ?_
  refine n_putF (q := 0) (j := ib) fl_X10_16 fd_X10_1 rfl rfl rfl rfl rfl (Nat.le_of_ble_eq_true rfl) dX10_init_19 ?_
  refine n_aload_n dX10_init_22 0 rfl ?_
  refine n_iconst (v := 4) dX10_init_23 rfl ?_
  refine n_newI (N := 4) (j := ib + 7) (kc := 0) (ks := 0) (by decide) (by decide) (by decide) rfl ac_int dX10_init_24 ?_
  refine n_putF (q := 0) (j := ib) fl_X10_20 fd_X10_2 rfl rfl rfl rfl rfl (Nat.le_of_ble_eq_true rfl) dX10_init_26 ?_
  refine n_aload_n dX10_init_29 0 rfl ?_
  refine n_get (q := 0) (j := ib) fl_X10_16 rfl rfl rfl dX10_init_30 ?_
  refine n_iconst (v := -1) dX10_init_33 rfl ?_
  refine n_callS [.ref (gb g + (ib + 6)), .int (-1)] [] (in_good (tb1 38 rfl) rfl) my_J7_fill_53178 (cn_fill g zs ib) (by decide) rfl rfl (Nat.le_of_ble_eq_true rfl) dX10_init_34 ?_
  refine n_lv [] rfl ?_
  exact n_end rfl
theorem lk_X9_28 : Cond.methodLink RX9 28 yJ0_length_8abf5 ∈ lw_good := in_good (tb1 62 rfl) rfl
theorem lk_X9_34 : Cond.methodLink RX9 34 yJ0_charAt_5068e ∈ lw_good := in_good (tb1 72 rfl) rfl
theorem lk_J0_335 : Cond.methodLink RJ0 335 yJ0_coder_7d493 ∈ lw_good := in_good (tb1 66 rfl) rfl
theorem lk_J0_492 : Cond.methodLink RJ0 492 yJ0_isLatin1_aae02 ∈ lw_good := in_good (tb1 76 rfl) rfl
theorem lk_J0_495 : Cond.methodLink RJ0 495 yJ1_charAt_3b067 ∈ lw_good := in_good (tb1 80 rfl) rfl
theorem lk_J1_9 : Cond.methodLink RJ1 9 yJ0_checkIndex_df160 ∈ lw_good := in_good (tb1 83 rfl) rfl
theorem lk_J0_1059 : Cond.methodLink RJ0 1059 yJ3_checkIndex_8e157 ∈ lw_good := in_good (tb1 88 rfl) rfl
theorem mt_J0_length_8abf5 : MyT yJ0_length_8abf5 cJ0_length_8abf5 1 (some (.int)) 0 := ⟨in_good (tb1 63 rfl) rfl, in_good (tb1 64 rfl) rfl, in_good (tb1 5 rfl) rfl, in_good (tb1 65 rfl) rfl, ⟨by decide +kernel, by decide +kernel, by decide +kernel⟩, by decide⟩
theorem mt_J0_charAt_5068e : MyT yJ0_charAt_5068e cJ0_charAt_5068e 2 (some (.char)) 1 := ⟨in_good (tb1 73 rfl) rfl, in_good (tb1 74 rfl) rfl, in_good (tb1 5 rfl) rfl, in_good (tb1 75 rfl) rfl, ⟨by decide +kernel, by decide +kernel, by decide +kernel⟩, by decide⟩
theorem mt_J0_coder_7d493 : MyT yJ0_coder_7d493 cJ0_coder_7d493 1 (some (.byte)) 0 := ⟨in_good (tb1 67 rfl) rfl, in_good (tb1 68 rfl) rfl, in_good (tb1 5 rfl) rfl, in_good (tb1 69 rfl) rfl, ⟨by decide +kernel, by decide +kernel, by decide +kernel⟩, by decide⟩
theorem mt_J0_isLatin1_aae02 : MyT yJ0_isLatin1_aae02 cJ0_isLatin1_aae02 1 (some (.boolean)) 0 := ⟨in_good (tb1 77 rfl) rfl, in_good (tb1 78 rfl) rfl, in_good (tb1 5 rfl) rfl, in_good (tb1 79 rfl) rfl, ⟨by decide +kernel, by decide +kernel, by decide +kernel⟩, by decide⟩
theorem lf_J0_38 : Cond.fieldLink RJ0 38 "java/lang/String" "COMPACT_STRINGS" "Z" ∈ lw_good := in_good (tb1 70 rfl) rfl
theorem lf_J0_15 : Cond.fieldLink RJ0 15 "java/lang/String" "coder" "B" ∈ lw_good := in_good (tb9 162 rfl) rfl
theorem lf_J0_9 : Cond.fieldLink RJ0 9 "java/lang/String" "value" "[B" ∈ lw_good := in_good (tb9 161 rfl) rfl
theorem lf_J0_1053 : Cond.fieldLink RJ0 1053 "jdk/internal/util/Preconditions" "SIOOBE_FORMATTER" "Ljava/util/function/BiFunction;" ∈ lw_good := in_good (tb1 86 rfl) rfl
/-! ===== the methods of the text ===== -/
section TXM
variable (g : GG) (zs : Nat × Nat) (ib : Nat) (cs : List va_E)
theorem tx_fact : ∀ k, k < 149 → ((TXB k &&& 255).toUInt32 % 65536).toInt32 = TXB k ∧ narrow .char (.int (TXB k)) = .int (TXB k) := by decide +kernel
theorem cn_coder : Cn g zs yJ0_coder_7d493 cJ0_coder_7d493 1 (some .byte) 0 ib 0 0 [.ref zs.1] cs cs (some (.int 0)) := by
  refine cn_Z (pcF := 14) (lvF := []) rfl (by decide +kernel) (Nat.le_of_ble_eq_true rfl) dJ0_coder_7d493_14 (show Gn g zs RJ0 "coder" cJ0_coder_7d493 1 0 ib 0 0 0 [(0, .ref zs.1)] [] cs (14, [], [.int 0], cs) from ?_)
  refine n_gcomp lf_J0_38 dJ0_coder_7d493_0 ?_
  refine n_if_eq_f (tgt := 13) dJ0_coder_7d493_3 rfl (by decide) ?_
  refine n_aload_n dJ0_coder_7d493_6 0 rfl ?_
  refine n_gcoder lf_J0_15 dJ0_coder_7d493_7 ?_
  refine n_goto (tgt := 14) dJ0_coder_7d493_10 rfl ?_
  refine n_lv [] rfl ?_
  exact n_end rfl
theorem cn_isLatin1 : Cn g zs yJ0_isLatin1_aae02 cJ0_isLatin1_aae02 1 (some .boolean) 0 ib 0 0 [.ref zs.1] cs cs (some (.int 1)) := by
  refine cn_Z (pcF := 18) (lvF := []) rfl (by decide +kernel) (Nat.le_of_ble_eq_true rfl) dJ0_isLatin1_aae02_18 (show Gn g zs RJ0 "isLatin1" cJ0_isLatin1_aae02 1 0 ib 0 0 0 [(0, .ref zs.1)] [] cs (18, [], [.int 1], cs) from ?_)
  refine n_gcomp lf_J0_38 dJ0_isLatin1_aae02_0 ?_
  refine n_if_eq_f (tgt := 17) dJ0_isLatin1_aae02_3 rfl (by decide) ?_
  refine n_aload_n dJ0_isLatin1_aae02_6 0 rfl ?_
  refine n_gcoder lf_J0_15 dJ0_isLatin1_aae02_7 ?_
  refine n_if_ne_f (tgt := 17) dJ0_isLatin1_aae02_10 rfl rfl ?_
  refine n_iconst (v := 1) dJ0_isLatin1_aae02_13 rfl ?_
  refine n_goto (tgt := 18) dJ0_isLatin1_aae02_14 rfl ?_
  refine n_lv [] rfl ?_
  exact n_end rfl
theorem cn_length : Cn g zs yJ0_length_8abf5 cJ0_length_8abf5 1 (some .int) 1 ib 0 0 [.ref zs.1] cs cs (some (.int (nI 149))) := by
  refine cn_I (pcF := 10) (lvF := []) (by decide +kernel) (Nat.le_of_ble_eq_true rfl) dJ0_length_8abf5_10 (show Gn g zs RJ0 "length" cJ0_length_8abf5 1 1 ib 0 0 0 [(0, .ref zs.1)] [] cs (10, [], [.int (nI 149)], cs) from ?_)
  refine n_aload_n dJ0_length_8abf5_0 0 rfl ?_
  refine n_gvalue lf_J0_9 dJ0_length_8abf5_1 ?_
  refine n_tlen dJ0_length_8abf5_4 ?_
  refine n_aload_n dJ0_length_8abf5_5 0 rfl ?_
  refine n_callT [] [.int (nI 149)] lk_J0_335 mt_J0_coder_7d493 (cn_coder g zs ib cs) (by decide) rfl rfl (Nat.le_of_ble_eq_true rfl) dJ0_length_8abf5_6 ?_
  refine n_ishr dJ0_length_8abf5_9 ?_
  rw [show nI 149 >>> ((0 : Int32) &&& 31) = nI 149 by decide]
  refine n_lv [] rfl ?_
  exact n_end rfl
theorem cn_J3check {k : Nat} (hk : k < 149) (v : Value) (hv : v = .null ∨ ∃ t, v = .ref t) : Cn g zs yJ3_checkIndex_8e157 cJ3_checkIndex_8e157 3 (some .int) 0 ib 0 0 [.int (nI k), .int (nI 149), v] cs cs (some (.int (nI k))) := by
  have key : ∀ lv : List (Nat × Value), lv[0]? = some (0, .int (nI k)) → lv[1]? = some (1, .int (nI 149)) → Gn g zs RJ3 "checkIndex" cJ3_checkIndex_8e157 3 0 ib 0 0 0 lv [] cs (17, [], [.int (nI k)], cs) := by
    intro lv h0 h1
    refine n_iload_n dJ3_checkIndex_8e157_0 0 h0 ?_
    refine n_if_lt_f (tgt := 9) dJ3_checkIndex_8e157_1 rfl (nI_pos (by omega)) ?_
    refine n_iload_n dJ3_checkIndex_8e157_4 0 h0 ?_
    refine n_iload_n dJ3_checkIndex_8e157_5 1 h1 ?_
    refine n_icmp_lt_t (tgt := 16) dJ3_checkIndex_8e157_6 rfl (nI_lt hk (by omega)) ?_
    refine n_iload_n dJ3_checkIndex_8e157_16 0 h0 ?_
    refine n_lv [] rfl ?_
    exact n_end rfl
  rcases hv with rfl | ⟨t, rfl⟩
  · exact cn_I (pcF := 17) (lvF := []) (by decide +kernel) (Nat.le_of_ble_eq_true rfl) dJ3_checkIndex_8e157_17 (key _ rfl rfl)
  · exact cn_I (pcF := 17) (lvF := []) (by decide +kernel) (Nat.le_of_ble_eq_true rfl) dJ3_checkIndex_8e157_17 (key _ rfl rfl)
theorem cn_J0check {k : Nat} (hk : k < 149) : Cn g zs yJ0_checkIndex_df160 cJ0_checkIndex_df160 2 none 1 ib 0 0 [.int (nI k), .int (nI 149)] cs cs none := by
  refine cn_V (pcF := 9) (lvF := []) (by decide +kernel) (Nat.le_of_ble_eq_true rfl) dJ0_checkIndex_df160_9 (show Gn g zs RJ0 "checkIndex" cJ0_checkIndex_df160 2 1 ib 0 0 0 [(0, .int (nI k)), (1, .int (nI 149))] [] cs (9, [], [], cs) from ?_)
  refine n_iload_n dJ0_checkIndex_df160_0 0 rfl ?_
  refine n_iload_n dJ0_checkIndex_df160_1 1 rfl ?_
  refine n_gform lf_J0_1053 dJ0_checkIndex_df160_2 (fun v hv => ?_)
  refine n_callS [.int (nI k), .int (nI 149), v] [] lk_J0_1059 my_J3_checkIndex_8e157 (cn_J3check g zs ib cs hk v hv) (by decide) rfl rfl (Nat.le_of_ble_eq_true rfl) dJ0_checkIndex_df160_5 ?_
  refine n_pop dJ0_checkIndex_df160_8 rfl ?_
  refine n_lv [] rfl ?_
  exact n_end rfl
theorem cn_J1charAt {k : Nat} (hk : k < 149) : Cn g zs yJ1_charAt_3b067 cJ1_charAt_3b067 2 (some .char) 2 ib 0 0 [.ref zs.2, .int (nI k)] cs cs (some (.int (TXB k))) := by
  refine cn_Z (pcF := 14) (lvF := []) (tx_fact k hk).2 (by decide +kernel) (Nat.le_of_ble_eq_true rfl) dJ1_charAt_3b067_14 (show Gn g zs RJ1 "charAt" cJ1_charAt_3b067 2 2 ib 0 0 0 [(0, .ref zs.2), (1, .int (nI k))] [] cs (14, [], [.int (TXB k)], cs) from ?_)
  refine n_iload_n dJ1_charAt_3b067_0 1 rfl ?_
  refine n_aload_n dJ1_charAt_3b067_1 0 rfl ?_
  refine n_tlen dJ1_charAt_3b067_2 ?_
  refine n_callS [.int (nI k), .int (nI 149)] [] lk_J1_9 my_J0_checkIndex_df160 (cn_J0check g zs ib cs hk) (by decide) rfl rfl (Nat.le_of_ble_eq_true rfl) dJ1_charAt_3b067_3 ?_
  refine n_aload_n dJ1_charAt_3b067_6 0 rfl ?_
  refine n_iload_n dJ1_charAt_3b067_7 1 rfl ?_
  refine n_tb (vp_in_nI hk (by omega)) dJ1_charAt_3b067_8 ?_
  rw [nI_clamp (by omega)]
  refine n_sipush (v := 255) dJ1_charAt_3b067_9 rfl ?_
  refine n_iand dJ1_charAt_3b067_12 ?_
  refine n_i2c dJ1_charAt_3b067_13 ?_
  rw [(tx_fact k hk).1]
  refine n_lv [] rfl ?_
  exact n_end rfl
theorem cn_charAt {k : Nat} (hk : k < 149) : Cn g zs yJ0_charAt_5068e cJ0_charAt_5068e 2 (some .char) 3 ib 0 0 [.ref zs.1, .int (nI k)] cs cs (some (.int (TXB k))) := by
  refine cn_Z (pcF := 15) (lvF := []) (tx_fact k hk).2 (by decide +kernel) (Nat.le_of_ble_eq_true rfl) dJ0_charAt_5068e_15 (show Gn g zs RJ0 "charAt" cJ0_charAt_5068e 2 3 ib 0 0 0 [(0, .ref zs.1), (1, .int (nI k))] [] cs (15, [], [.int (TXB k)], cs) from ?_)
  refine n_aload_n dJ0_charAt_5068e_0 0 rfl ?_
  refine n_callT [] [] lk_J0_492 mt_J0_isLatin1_aae02 (cn_isLatin1 g zs ib cs) (by decide) rfl rfl (Nat.le_of_ble_eq_true rfl) dJ0_charAt_5068e_1 ?_
  refine n_if_eq_f (tgt := 16) dJ0_charAt_5068e_4 rfl (by decide) ?_
  refine n_aload_n dJ0_charAt_5068e_7 0 rfl ?_
  refine n_gvalue lf_J0_9 dJ0_charAt_5068e_8 ?_
  refine n_iload_n dJ0_charAt_5068e_11 1 rfl ?_
  refine n_callS [.ref zs.2, .int (nI k)] [] lk_J0_495 my_J1_charAt_3b067 (cn_J1charAt g zs ib cs hk) (by decide) rfl rfl (Nat.le_of_ble_eq_true rfl) dJ0_charAt_5068e_12 ?_
  refine n_lv [] rfl ?_
  exact n_end rfl
end TXM
