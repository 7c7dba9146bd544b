def q_tape (g : GG) (ib : Nat) (f : Nat → Int64) : List va_E := [.inr (8, [.ref (gb g + (ib + 1)), .int 0, .int (-1), .int (-1), .int 0, .int 0, .long 0, .int 0, .ref (gb g + (ib + 2)), .int 0, .int 0, .int 0]),
  .inl (gc g 2, 900, .inl (fun _ => 0)),
  .inl (gc g 1, 28, .inr (.inl f))]
/-- what is laid of the text from place k on -/
def TF : Nat → Nat → Nat → (Nat → Int64) → (Nat → Int64)
  | 0, _, _, f => f
  | m + 1, k, w, f => if TXB k = 32 then TF m (k + 1) (w + 1) f else if w < 28 then TF m (k + 1) w (vp_updL f w (f w * 32 + (TXB k).toInt64 - 96)) else TF m (k + 1) w f
def TF0 : Nat → Int64 := TF 149 0 0 (fun _ => 0)
section TPL
variable (g : GG) (zs : Nat × Nat) (ib : Nat)
set_option maxRecDepth 100000 in
set_option maxHeartbeats 4000000 in
theorem tape_loop : ∀ (m k w : Nat) (f : Nat → Int64), k + m = 149 → w ≤ k → Gn g zs RX9 "<init>" cX9_init 4 4 ib 0 0 35 [(2, .int (nI k)), (1, .int (nI w)), (0, .ref (gb g + ib))] [] (q_tape g ib f) (98, [], [], q_tape g ib (TF m k w f)) := by
  intro m
  induction m with
  | zero =>
    intro k w f hk hw
    have e : k = 149 := by omega
    subst e
    refine n_iload_n dX9_init_35 0 rfl ?_
    refine n_ldcS rfl dX9_init_36 ?_
    refine n_callT [] [.int (nI 149)] lk_X9_28 mt_J0_length_8abf5 (cn_length g zs ib _) (by decide) rfl rfl (Nat.le_of_ble_eq_true rfl) dX9_init_38 ?_
    refine n_icmp_ge_t (tgt := 98) dX9_init_41 rfl (nI_le (by omega) (by omega)) ?_
    refine n_lv [] rfl ?_
    exact n_end rfl
  | succ m ih =>
    intro k w f hk hw
    have back : ∀ (w2 : Nat) (f2 : Nat → Int64) (lv : List (Nat × Value)) (is : List Nat) (q : Nat), w2 ≤ k + 1 → lv[q]? = some (2, .int (nI k)) → lv_pick ((2, Value.int (nI (k + 1))) :: lv.filter (fun q => !(q.1 == 2) && !(q.1 + 1 == 2 && q.2.category == 2))) is = [(2, .int (nI (k + 1))), (1, .int (nI w2)), (0, .ref (gb g + ib))] → Gn g zs RX9 "<init>" cX9_init 4 4 ib 0 0 92 lv [] (q_tape g ib f2) (98, [], [], q_tape g ib (TF m (k + 1) w2 f2)) := by
      intro w2 f2 lv is q hw2 hq hp
      refine n_iinc (v := nI (k + 1)) dX9_init_92 q hq (by rw [nI_succ]; rfl) (by decide) rfl ?_
      refine n_goto (tgt := 35) dX9_init_95 rfl ?_
      refine n_lv is hp ?_
      exact ih (k + 1) w2 f2 (by omega) hw2
    refine n_iload_n dX9_init_35 0 rfl ?_
    refine n_ldcS rfl dX9_init_36 ?_
    refine n_callT [] [.int (nI k)] lk_X9_28 mt_J0_length_8abf5 (cn_length g zs ib _) (by decide) rfl rfl (Nat.le_of_ble_eq_true rfl) dX9_init_38 ?_
    refine n_icmp_ge_f (tgt := 98) dX9_init_41 rfl (nI_ge (by omega) (by omega)) ?_
    refine n_ldcS rfl dX9_init_44 ?_
    refine n_iload_n dX9_init_46 0 rfl ?_
    refine n_callT [.int (nI k)] [] lk_X9_34 mt_J0_charAt_5068e (cn_charAt g zs ib _ (by omega)) (by decide) rfl rfl (Nat.le_of_ble_eq_true rfl) dX9_init_47 ?_
    refine n_istore_n (i := 3) (lv' := [(3, .int (TXB k)), (2, .int (nI k)), (1, .int (nI w)), (0, .ref (gb g + ib))]) dX9_init_50 rfl (by decide) rfl ?_
    refine n_iload_n dX9_init_51 0 rfl ?_
    refine n_bipush (v := 32) dX9_init_52 rfl ?_
    by_cases h32 : TXB k = 32
    · rw [show TF (m + 1) k w f = TF m (k + 1) (w + 1) f by rw [TF, if_pos h32]]
      refine n_icmp_ne_f (tgt := 63) dX9_init_54 rfl h32 ?_
      refine n_iinc (v := nI (w + 1)) (lv' := [(1, .int (nI (w + 1))), (3, .int (TXB k)), (2, .int (nI k)), (0, .ref (gb g + ib))]) dX9_init_57 2 rfl (by rw [nI_succ]; rfl) (by decide) rfl ?_
      refine n_goto (tgt := 92) dX9_init_60 rfl ?_
      exact back (w + 1) f _ [0, 1, 3] 2 (by omega) rfl rfl
    · refine n_icmp_ne_t (tgt := 63) dX9_init_54 rfl h32 ?_
      refine n_iload_n dX9_init_63 2 rfl ?_
      refine n_bipush (v := 28) dX9_init_64 rfl ?_
      by_cases h28 : w < 28
      · rw [show TF (m + 1) k w f = TF m (k + 1) w (vp_updL f w (f w * 32 + (TXB k).toInt64 - 96)) by rw [TF, if_neg h32, if_pos h28]]
        refine n_icmp_ge_f (tgt := 92) dX9_init_66 rfl (nI_ge (b := 28) h28 (by omega)) ?_
        refine n_aload_n dX9_init_69 3 rfl ?_
        refine n_get (q := 0) (j := ib) fl_X9_22 rfl rfl rfl dX9_init_70 ?_
        refine n_iload_n dX9_init_73 2 rfl ?_
        refine n_aload_n dX9_init_74 3 rfl ?_
        refine n_get (q := 0) (j := ib) fl_X9_22 rfl rfl rfl dX9_init_75 ?_
        refine n_iload_n dX9_init_78 2 rfl ?_
        refine n_lald (q := 2) (j := ib + 2) rfl rfl (vp_in_nI h28 (by omega)) dX9_init_79 ?_
        rw [nI_clamp (by omega)]
        refine n_ldc2 kl_X9_38 dX9_init_80 ?_
        refine n_lmul dX9_init_83 ?_
        refine n_iload_n dX9_init_84 0 rfl ?_
        refine n_i2l dX9_init_85 ?_
        refine n_ladd dX9_init_86 ?_
        refine n_ldc2 kl_X9_40 dX9_init_87 ?_
        refine n_lsub dX9_init_90 ?_
        refine n_last (q := 2) (j := ib + 2) rfl rfl (vp_in_nI h28 (by omega)) dX9_init_91 ?_
        rw [nI_clamp (by omega)]
        exact back w _ _ [0, 2, 3] 1 (by omega) rfl rfl
      · rw [show TF (m + 1) k w f = TF m (k + 1) w f by rw [TF, if_neg h32, if_neg h28]]
        refine n_icmp_ge_t (tgt := 92) dX9_init_66 rfl (nI_le (a := 28) (by omega) (by omega)) ?_
        exact back w f _ [0, 2, 3] 1 (by omega) rfl rfl
end TPL
set_option maxRecDepth 100000 in
set_option maxHeartbeats 4000000 in
theorem cn_X9 (g : GG) (zs : Nat × Nat) (ib : Nat) : Cn g zs yX9_init cX9_init 4 none 4 ib 2 928 [.ref (gb g + ib)] [.inr (8, [.null, .int 0, .int 0, .int 0, .int 0, .int 0, .long 0, .int 0, .null, .int 0, .int 0, .int 0])] (q_tape g ib TF0) none := by
  refine cn_V (pcF := 98) (lvF := []) (by decide +kernel) (Nat.le_of_ble_eq_true rfl) dX9_init_98 (show Gn g zs RX9 "<init>" cX9_init 4 4 ib 2 928 0 [(0, .ref (gb g + ib))] [] [.inr (8, [.null, .int 0, .int 0, .int 0, .int 0, .int 0, .long 0, .int 0, .null, .int 0, .int 0, .int 0])] (98, [], [], q_tape g ib TF0) from ?_)
  refine n_aload_n dX9_init_0 0 rfl ?_
  refine n_obj ob_X9 (by decide) (Nat.le_of_ble_eq_true rfl) dX9_init_1 ?_
  refine n_aload_n dX9_init_4 0 rfl ?_
  refine n_sipush (v := 900) dX9_init_5 rfl ?_
  refine n_newB (N := 900) (j := ib + 1) (kc := 1) (ks := 28) (by decide) (by decide) (by decide) rfl ac_byte dX9_init_8 ?_
  refine n_putF (q := 0) (j := ib) fl_X9_11 fd_X9_0 rfl rfl rfl rfl rfl (Nat.le_of_ble_eq_true rfl) dX9_init_10 ?_
  refine n_aload_n dX9_init_13 0 rfl ?_
  refine n_iconst (v := -1) dX9_init_14 rfl ?_
  refine n_put (q := 0) (j := ib) fl_X9_15 rfl rfl rfl rfl (Nat.le_of_ble_eq_true rfl) dX9_init_15 ?_
  refine n_aload_n dX9_init_18 0 rfl ?_
  refine n_iconst (v := -1) dX9_init_19 rfl ?_
  refine n_put (q := 0) (j := ib) fl_X9_19 rfl rfl rfl rfl (Nat.le_of_ble_eq_true rfl) dX9_init_20 ?_
  refine n_aload_n dX9_init_23 0 rfl ?_
  refine n_bipush (v := 28) dX9_init_24 rfl ?_
  refine n_newL (N := 28) (j := ib + 2) (kc := 0) (ks := 0) (by decide) (by decide) (by decide) rfl ac_long dX9_init_26 ?_
  refine n_putF (q := 0) (j := ib) fl_X9_22 fd_X9_8 rfl rfl rfl rfl rfl (Nat.le_of_ble_eq_true rfl) dX9_init_28 ?_
  refine n_iconst (v := 0) dX9_init_31 rfl ?_
  refine n_istore_n (i := 1) dX9_init_32 rfl (by decide) rfl ?_
  refine n_iconst (v := 0) dX9_init_33 rfl ?_
  refine n_istore_n (i := 2) dX9_init_34 rfl (by decide) rfl ?_
  exact tape_loop g zs ib 149 0 0 (fun _ => 0) rfl (Nat.le_refl _)
theorem TF0_sw : ∀ i, i < 28 → TF0 i = swT i := by decide +kernel
