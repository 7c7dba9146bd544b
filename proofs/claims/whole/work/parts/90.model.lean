def q_em (g : GG) : List va_E := [.inr (11, [.int 0, .int 0, .long 0, .long 1, .ref (gb g + 142), .ref (gb g + 143), .ref (gb g + 144), .ref (gb g + 145), .int 0, .int 0, .int (-1), .int (-1), .int 0, .int 0, .int 0, .int 0, .int 0, .int 0, .int 0, .long 0, .ref (gb g + 146), .ref (gb g + 147), .ref (gb g + 148), .ref (gb g + 149), .int 0, .int 0, .int 0, .ref (gb g + 150), .ref (gb g + 151), .ref (gb g + 152), .ref (gb g + 153), .int 0, .int 0, .ref (gb g + 154), .int 0, .int 0, .int 0, .int 0, .ref (gb g + 155), .ref (gb g + 156), .int 0, .int 0, .int 0, .int 0, .int 0, .int 0, .int 0, .int 0, .int 0]),
  .inl (gc g 0, 4, .inl (fun _ => 0)),
  .inl (gc g 0, 4, .inl (upd (upd (upd (upd (fun _ => 0) 0 (-1)) 1 (-1)) 2 (-1)) 3 (-1))),
  .inl (gc g 1, 240, .inr (.inl (fun _ => 0))),
  .inl (gc g 2, 900, .inl (fun _ => 0)),
  .inl (gc g 0, 2000, .inl (fun _ => 0)),
  .inl (gc g 0, 128, .inl (fun _ => 0)),
  .inl (gc g 0, 128, .inl (fun _ => 0)),
  .inl (gc g 1, 25, .inr (.inl (fun _ => 0))),
  .inl (gc g 0, 25, .inl (fun _ => 0)),
  .inl (gc g 0, 768, .inl (fun _ => 0)),
  .inl (gc g 0, 5, .inl (fun _ => 0)),
  .inl (gc g 0, 5, .inl (fun _ => 0)),
  .inl (gc g 0, 5, .inl (fun _ => 0)),
  .inl (gc g 1, 13, .inr (.inl (fun _ => 0))),
  .inl (gc g 0, 5, .inl (fun _ => 0))]
def r_em (g : GG) : List va_E := [.inr (11, [.int 0, .int 0, .long 0, .long 1, .ref (gb g + 142), .ref (gb g + 143), .ref (gb g + 144), .ref (gb g + 145), .int 0, .int 0, .int (-1), .int (-1), .int 0, .int 0, .int 0, .int 0, .int 0, .int 0, .int 0, .long 0, .ref (gb g + 146), .ref (gb g + 147), .ref (gb g + 148), .ref (gb g + 149), .int 0, .int 0, .int 0, .ref (gb g + 150), .ref (gb g + 151), .ref (gb g + 152), .ref (gb g + 153), .int 0, .int 0, .ref (gb g + 154), .int 0, .int 0, .int 0, .int 0, .ref (gb g + 155), .ref (gb g + 156), .int 0, .int 0, .int 0, .int 0, .int 0, .int 0, .int 0, .int 0, .int 0]),
  .inl (gc g 0, 4, .inl (fun _ => 0)),
  .inl (gc g 0, 4, .inl (upd (upd (upd (upd (fun _ => 0) 0 (-1)) 1 (-1)) 2 (-1)) 3 (-1))),
  .inl (gc g 1, 240, .inr (.inl (fun _ => 0))),
  .inl (gc g 2, 900, .inl (fun _ => 0)),
  .inl (gc g 0, 2000, .inl (upd (upd (upd (fun _ => 0) 2 3) 3 2) 4 2)),
  .inl (gc g 0, 128, .inl (fun _ => 0)),
  .inl (gc g 0, 128, .inl (fun _ => 0)),
  .inl (gc g 1, 25, .inr (.inl (fun _ => 0))),
  .inl (gc g 0, 25, .inl (fun _ => 0)),
  .inl (gc g 0, 768, .inl (fun _ => 0)),
  .inl (gc g 0, 5, .inl (fun _ => 0)),
  .inl (gc g 0, 5, .inl (fun _ => 0)),
  .inl (gc g 0, 5, .inl (fun _ => 0)),
  .inl (gc g 1, 13, .inr (.inl (fun _ => 0))),
  .inl (gc g 0, 5, .inl (fun _ => 0))]
section EML
variable (g : GG) (zs : Nat × Nat)
theorem upd_0 (k : Nat) : upd (fun _ => (0 : Int32)) k 0 = fun _ => 0 := by
  funext j
  unfold upd
  by_cases h : j = k
  · rw [if_pos h]
  · rw [if_neg h]
set_option maxRecDepth 100000 in
set_option maxHeartbeats 4000000 in
theorem em_loop : ∀ m k : Nat, k + m = 400 → Gn g zs RX12 "empties" cX12_empties 4 0 141 0 0 8 [(3, .int (nI k)), (2, .int 0), (0, .ref (gb g + 141)), (1, .int 0)] [] (q_em g) (57, [], [], r_em g) := by
  intro m
  induction m with
  | zero =>
    intro k hk
    have e : k = 400 := by omega
    subst e
    refine n_iload_n dX12_empties_8 0 rfl ?_
    refine n_sipush (v := nI 400) dX12_empties_9 rfl ?_
    refine n_icmp_ge_t (tgt := 30) dX12_empties_12 rfl (nI_le (by omega) (by omega)) ?_
    refine n_aload_n dX12_empties_30 2 rfl ?_
    refine n_get (q := 0) (j := 141) fl_X12_35 rfl rfl rfl dX12_empties_31 ?_
    refine n_iload_n dX12_empties_34 1 rfl ?_
    refine n_iconst (v := 2) dX12_empties_35 rfl ?_
    refine n_iadd dX12_empties_36 ?_
    refine n_iconst (v := 3) dX12_empties_37 rfl ?_
    refine n_iast (q := 5) (j := 146) rfl rfl (by unfold vp_in; decide) dX12_empties_38 ?_
    refine n_aload_n dX12_empties_39 2 rfl ?_
    refine n_get (q := 0) (j := 141) fl_X12_35 rfl rfl rfl dX12_empties_40 ?_
    refine n_iload_n dX12_empties_43 1 rfl ?_
    refine n_iconst (v := 3) dX12_empties_44 rfl ?_
    refine n_iadd dX12_empties_45 ?_
    refine n_iconst (v := 2) dX12_empties_46 rfl ?_
    refine n_iast (q := 5) (j := 146) rfl rfl (by unfold vp_in; decide) dX12_empties_47 ?_
    refine n_aload_n dX12_empties_48 2 rfl ?_
    refine n_get (q := 0) (j := 141) fl_X12_35 rfl rfl rfl dX12_empties_49 ?_
    refine n_iload_n dX12_empties_52 1 rfl ?_
    refine n_iconst (v := 4) dX12_empties_53 rfl ?_
    refine n_iadd dX12_empties_54 ?_
    refine n_iconst (v := 2) dX12_empties_55 rfl ?_
    refine n_iast (q := 5) (j := 146) rfl rfl (by unfold vp_in; decide) dX12_empties_56 ?_
    refine n_lv [] rfl ?_
    exact n_end rfl
  | succ m ih =>
    intro k hk
    refine n_iload_n dX12_empties_8 0 rfl ?_
    refine n_sipush (v := nI 400) dX12_empties_9 rfl ?_
    refine n_icmp_ge_f (tgt := 30) dX12_empties_12 rfl (nI_ge (by omega) (by omega)) ?_
    refine n_aload_n dX12_empties_15 2 rfl ?_
    refine n_get (q := 0) (j := 141) fl_X12_35 rfl rfl rfl dX12_empties_16 ?_
    refine n_iload_n dX12_empties_19 1 rfl ?_
    refine n_iload_n dX12_empties_20 0 rfl ?_
    refine n_iadd dX12_empties_21 ?_
    rw [Int32.zero_add]
    refine n_iconst (v := 0) dX12_empties_22 rfl ?_
    refine n_iast (q := 5) (j := 146) (N := 2000) (f := fun _ => 0) rfl rfl (vp_in_nI (by omega) (by omega)) dX12_empties_23 ?_
    rw [upd_0]
    refine n_iinc (v := nI (k + 1)) (lv' := [(3, .int (nI (k + 1))), (2, .int 0), (0, .ref (gb g + 141)), (1, .int 0)]) dX12_empties_24 0 rfl (by rw [nI_succ]; rfl) (by decide) rfl ?_
    refine n_goto (tgt := 8) dX12_empties_27 rfl ?_
    exact ih (k + 1) (by omega)
set_option maxRecDepth 100000 in
set_option maxHeartbeats 4000000 in
theorem cn_empties : Cn g zs yX12_empties cX12_empties 4 none 0 141 0 0 [.ref (gb g + 141), .int 0] (q_em g) (r_em g) none := by
  refine cn_V (pcF := 57) (lvF := []) (by decide +kernel) (Nat.le_of_ble_eq_true rfl) dX12_empties_57 (show Gn g zs RX12 "empties" cX12_empties 4 0 141 0 0 0 [(0, .ref (gb g + 141)), (1, .int 0)] [] (q_em g) (57, [], [], r_em g) from ?_)
  refine n_sipush (v := 400) dX12_empties_0 rfl ?_
  refine n_iload_n dX12_empties_3 1 rfl ?_
  refine n_imul dX12_empties_4 ?_
  rw [show (400 : Int32) * 0 = 0 by decide]
  refine n_istore_n (i := 2) dX12_empties_5 rfl (by decide) rfl ?_
  refine n_iconst (v := 0) dX12_empties_6 rfl ?_
  refine n_istore_n (i := 3) dX12_empties_7 rfl (by decide) rfl ?_
  exact em_loop g zs 400 0 rfl
end EML
def r_X12_init (g : GG) : List va_E := [.inr (11, [.int 0, .int 0, .long 0, .long 1, .ref (gb g + 142), .ref (gb g + 143), .ref (gb g + 144), .ref (gb g + 145), .int 0, .int 0, .int (-1), .int (-1), .int 0, .int 0, .int 0, .int 0, .int 0, .int 0, .int 0, .long 0, .ref (gb g + 146), .ref (gb g + 147), .ref (gb g + 148), .ref (gb g + 149), .int 0, .int 0, .int 0, .ref (gb g + 150), .ref (gb g + 151), .ref (gb g + 152), .ref (gb g + 153), .int 0, .int 0, .ref (gb g + 154), .int 0, .int 0, .int 0, .int 0, .ref (gb g + 155), .ref (gb g + 156), .int 0, .int 0, .int 0, .int 0, .int 0, .int 0, .int 0, .int 0, .int 0]),
  .inl (gc g 0, 4, .inl (fun _ => 0)),
  .inl (gc g 0, 4, .inl (upd (upd (upd (upd (fun _ => 0) 0 (-1)) 1 (-1)) 2 (-1)) 3 (-1))),
  .inl (gc g 1, 240, .inr (.inl (fun _ => 0))),
  .inl (gc g 2, 900, .inl (fun _ => 0)),
  .inl (gc g 0, 2000, .inl (upd (upd (upd (fun _ => 0) 2 3) 3 2) 4 2)),
  .inl (gc g 0, 128, .inl (fun _ => 0)),
  .inl (gc g 0, 128, .inl (fun _ => 0)),
  .inl (gc g 1, 25, .inr (.inl (fun _ => 0))),
  .inl (gc g 0, 25, .inl (fun _ => 0)),
  .inl (gc g 0, 768, .inl (fun _ => 0)),
  .inl (gc g 0, 5, .inl (fun _ => 0)),
  .inl (gc g 0, 5, .inl (fun _ => 0)),
  .inl (gc g 0, 5, .inl (fun _ => 0)),
  .inl (gc g 1, 13, .inr (.inl (fun _ => 0))),
  .inl (gc g 0, 5, .inl (fun _ => 0))]
set_option maxRecDepth 100000 in
set_option maxHeartbeats 4000000 in
theorem cn_X12 (g : GG) (zs : Nat × Nat) : Cn g zs yX12_init cX12_init 2 none 1 141 15 4255 [.ref (gb g + 141)] [.inr (11, [.int 0, .int 0, .long 0, .long 0, .null, .null, .null, .null, .int 0, .int 0, .int 0, .int 0, .int 0, .int 0, .int 0, .int 0, .int 0, .int 0, .int 0, .long 0, .null, .null, .null, .null, .int 0, .int 0, .int 0, .null, .null, .null, .null, .int 0, .int 0, .null, .int 0, .int 0, .int 0, .int 0, .null, .null, .int 0, .int 0, .int 0, .int 0, .int 0, .int 0, .int 0, .int 0, .int 0])] (r_X12_init g) none := by
  refine cn_V (pcF := 164) (lvF := []) (by decide +kernel) (Nat.le_of_ble_eq_true rfl) dX12_init_164 (show Gn g zs RX12 "<init>" cX12_init 2 1 141 15 4255 0 [(0, .ref (gb g + 141))] [] [.inr (11, [.int 0, .int 0, .long 0, .long 0, .null, .null, .null, .null, .int 0, .int 0, .int 0, .int 0, .int 0, .int 0, .int 0, .int 0, .int 0, .int 0, .int 0, .long 0, .null, .null, .null, .null, .int 0, .int 0, .int 0, .null, .null, .null, .null, .int 0, .int 0, .null, .int 0, .int 0, .int 0, .int 0, .null, .null, .int 0, .int 0, .int 0, .int 0, .int 0, .int 0, .int 0, .int 0, .int 0])] (164, [], [], r_X12_init g) from ?_)
  refine n_aload_n dX12_init_0 0 rfl ?_
  refine n_obj ob_X12 (by decide) (Nat.le_of_ble_eq_true rfl) dX12_init_1 ?_
  refine n_aload_n dX12_init_4 0 rfl ?_
  refine n_lconst (v := 1) dX12_init_5 rfl ?_
  refine n_put (q := 0) (j := 141) fl_X12_7 rfl rfl rfl rfl (Nat.le_of_ble_eq_true rfl) dX12_init_6 ?_
  refine n_cs (cs' := [.inr (11, [.int 0, .int 0, .long 0, .long 1, .null, .null, .null, .null, .int 0, .int 0, .int 0, .int 0, .int 0, .int 0, .int 0, .int 0, .int 0, .int 0, .int 0, .long 0, .null, .null, .null, .null, .int 0, .int 0, .int 0, .null, .null, .null, .null, .int 0, .int 0, .null, .int 0, .int 0, .int 0, .int 0, .null, .null, .int 0, .int 0, .int 0, .int 0, .int 0, .int 0, .int 0, .int 0, .int 0])]) rfl ?_
  refine n_aload_n dX12_init_9 0 rfl ?_
  refine n_iconst (v := 4) dX12_init_10 rfl ?_
  refine n_newI (N := 4) (j := 142) (kc := 14) (ks := 4251) (by decide) (by decide) (by decide) rfl ac_int dX12_init_11 ?_
  refine n_cs (cs' := [.inr (11, [.int 0, .int 0, .long 0, .long 1, .null, .null, .null, .null, .int 0, .int 0, .int 0, .int 0, .int 0, .int 0, .int 0, .int 0, .int 0, .int 0, .int 0, .long 0, .null, .null, .null, .null, .int 0, .int 0, .int 0, .null, .null, .null, .null, .int 0, .int 0, .null, .int 0, .int 0, .int 0, .int 0, .null, .null, .int 0, .int 0, .int 0, .int 0, .int 0, .int 0, .int 0, .int 0, .int 0]),
  .inl (gc g 0, 4, .inl (fun _ => 0))]) rfl ?_
  refine n_putF (q := 0) (j := 141) fl_X12_13 fd_X12_4 rfl rfl rfl rfl rfl (Nat.le_of_ble_eq_true rfl) dX12_init_13 ?_
  refine n_cs (cs' := [.inr (11, [.int 0, .int 0, .long 0, .long 1, .ref (gb g + 142), .null, .null, .null, .int 0, .int 0, .int 0, .int 0, .int 0, .int 0, .int 0, .int 0, .int 0, .int 0, .int 0, .long 0, .null, .null, .null, .null, .int 0, .int 0, .int 0, .null, .null, .null, .null, .int 0, .int 0, .null, .int 0, .int 0, .int 0, .int 0, .null, .null, .int 0, .int 0, .int 0, .int 0, .int 0, .int 0, .int 0, .int 0, .int 0]),
  .inl (gc g 0, 4, .inl (fun _ => 0))]) rfl ?_
  refine n_aload_n dX12_init_16 0 rfl ?_
  refine n_iconst (v := 4) dX12_init_17 rfl ?_
  refine n_newI (N := 4) (j := 143) (kc := 13) (ks := 4247) (by decide) (by decide) (by decide) rfl ac_int dX12_init_18 ?_
  refine n_cs (cs' := [.inr (11, [.int 0, .int 0, .long 0, .long 1, .ref (gb g + 142), .null, .null, .null, .int 0, .int 0, .int 0, .int 0, .int 0, .int 0, .int 0, .int 0, .int 0, .int 0, .int 0, .long 0, .null, .null, .null, .null, .int 0, .int 0, .int 0, .null, .null, .null, .null, .int 0, .int 0, .null, .int 0, .int 0, .int 0, .int 0, .null, .null, .int 0, .int 0, .int 0, .int 0, .int 0, .int 0, .int 0, .int 0, .int 0]),
  .inl (gc g 0, 4, .inl (fun _ => 0)),
  .inl (gc g 0, 4, .inl (fun _ => 0))]) rfl ?_
  refine n_putF (q := 0) (j := 141) fl_X12_17 fd_X12_5 rfl rfl rfl rfl rfl (Nat.le_of_ble_eq_true rfl) dX12_init_20 ?_
  refine n_cs (cs' := [.inr (11, [.int 0, .int 0, .long 0, .long 1, .ref (gb g + 142), .ref (gb g + 143), .null, .null, .int 0, .int 0, .int 0, .int 0, .int 0, .int 0, .int 0, .int 0, .int 0, .int 0, .int 0, .long 0, .null, .null, .null, .null, .int 0, .int 0, .int 0, .null, .null, .null, .null, .int 0, .int 0, .null, .int 0, .int 0, .int 0, .int 0, .null, .null, .int 0, .int 0, .int 0, .int 0, .int 0, .int 0, .int 0, .int 0, .int 0]),
  .inl (gc g 0, 4, .inl (fun _ => 0)),
  .inl (gc g 0, 4, .inl (fun _ => 0))]) rfl ?_
  refine n_aload_n dX12_init_23 0 rfl ?_
  refine n_sipush (v := 240) dX12_init_24 rfl ?_
  refine n_newL (N := 240) (j := 144) (kc := 12) (ks := 4007) (by decide) (by decide) (by decide) rfl ac_long dX12_init_27 ?_
  refine n_cs (cs' := [.inr (11, [.int 0, .int 0, .long 0, .long 1, .ref (gb g + 142), .ref (gb g + 143), .null, .null, .int 0, .int 0, .int 0, .int 0, .int 0, .int 0, .int 0, .int 0, .int 0, .int 0, .int 0, .long 0, .null, .null, .null, .null, .int 0, .int 0, .int 0, .null, .null, .null, .null, .int 0, .int 0, .null, .int 0, .int 0, .int 0, .int 0, .null, .null, .int 0, .int 0, .int 0, .int 0, .int 0, .int 0, .int 0, .int 0, .int 0]),
  .inl (gc g 0, 4, .inl (fun _ => 0)),
  .inl (gc g 0, 4, .inl (fun _ => 0)),
  .inl (gc g 1, 240, .inr (.inl (fun _ => 0)))]) rfl ?_
  refine n_putF (q := 0) (j := 141) fl_X12_20 fd_X12_6 rfl rfl rfl rfl rfl (Nat.le_of_ble_eq_true rfl) dX12_init_29 ?_
  refine n_cs (cs' := [.inr (11, [.int 0, .int 0, .long 0, .long 1, .ref (gb g + 142), .ref (gb g + 143), .ref (gb g + 144), .null, .int 0, .int 0, .int 0, .int 0, .int 0, .int 0, .int 0, .int 0, .int 0, .int 0, .int 0, .long 0, .null, .null, .null, .null, .int 0, .int 0, .int 0, .null, .null, .null, .null, .int 0, .int 0, .null, .int 0, .int 0, .int 0, .int 0, .null, .null, .int 0, .int 0, .int 0, .int 0, .int 0, .int 0, .int 0, .int 0, .int 0]),
  .inl (gc g 0, 4, .inl (fun _ => 0)),
  .inl (gc g 0, 4, .inl (fun _ => 0)),
  .inl (gc g 1, 240, .inr (.inl (fun _ => 0)))]) rfl ?_
  refine n_aload_n dX12_init_32 0 rfl ?_
  refine n_sipush (v := 900) dX12_init_33 rfl ?_
  refine n_newB (N := 900) (j := 145) (kc := 11) (ks := 3107) (by decide) (by decide) (by decide) rfl ac_byte dX12_init_36 ?_
  refine n_cs (cs' := [.inr (11, [.int 0, .int 0, .long 0, .long 1, .ref (gb g + 142), .ref (gb g + 143), .ref (gb g + 144), .null, .int 0, .int 0, .int 0, .int 0, .int 0, .int 0, .int 0, .int 0, .int 0, .int 0, .int 0, .long 0, .null, .null, .null, .null, .int 0, .int 0, .int 0, .null, .null, .null, .null, .int 0, .int 0, .null, .int 0, .int 0, .int 0, .int 0, .null, .null, .int 0, .int 0, .int 0, .int 0, .int 0, .int 0, .int 0, .int 0, .int 0]),
  .inl (gc g 0, 4, .inl (fun _ => 0)),
  .inl (gc g 0, 4, .inl (fun _ => 0)),
  .inl (gc g 1, 240, .inr (.inl (fun _ => 0))),
  .inl (gc g 2, 900, .inl (fun _ => 0))]) rfl ?_
  refine n_putF (q := 0) (j := 141) fl_X12_24 fd_X12_7 rfl rfl rfl rfl rfl (Nat.le_of_ble_eq_true rfl) dX12_init_38 ?_
  refine n_cs (cs' := [.inr (11, [.int 0, .int 0, .long 0, .long 1, .ref (gb g + 142), .ref (gb g + 143), .ref (gb g + 144), .ref (gb g + 145), .int 0, .int 0, .int 0, .int 0, .int 0, .int 0, .int 0, .int 0, .int 0, .int 0, .int 0, .long 0, .null, .null, .null, .null, .int 0, .int 0, .int 0, .null, .null, .null, .null, .int 0, .int 0, .null, .int 0, .int 0, .int 0, .int 0, .null, .null, .int 0, .int 0, .int 0, .int 0, .int 0, .int 0, .int 0, .int 0, .int 0]),
  .inl (gc g 0, 4, .inl (fun _ => 0)),
  .inl (gc g 0, 4, .inl (fun _ => 0)),
  .inl (gc g 1, 240, .inr (.inl (fun _ => 0))),
  .inl (gc g 2, 900, .inl (fun _ => 0))]) rfl ?_
  refine n_aload_n dX12_init_41 0 rfl ?_
  refine n_iconst (v := -1) dX12_init_42 rfl ?_
  refine n_put (q := 0) (j := 141) fl_X12_28 rfl rfl rfl rfl (Nat.le_of_ble_eq_true rfl) dX12_init_43 ?_
  refine n_cs (cs' := [.inr (11, [.int 0, .int 0, .long 0, .long 1, .ref (gb g + 142), .ref (gb g + 143), .ref (gb g + 144), .ref (gb g + 145), .int 0, .int 0, .int (-1), .int 0, .int 0, .int 0, .int 0, .int 0, .int 0, .int 0, .int 0, .long 0, .null, .null, .null, .null, .int 0, .int 0, .int 0, .null, .null, .null, .null, .int 0, .int 0, .null, .int 0, .int 0, .int 0, .int 0, .null, .null, .int 0, .int 0, .int 0, .int 0, .int 0, .int 0, .int 0, .int 0, .int 0]),
  .inl (gc g 0, 4, .inl (fun _ => 0)),
  .inl (gc g 0, 4, .inl (fun _ => 0)),
  .inl (gc g 1, 240, .inr (.inl (fun _ => 0))),
  .inl (gc g 2, 900, .inl (fun _ => 0))]) rfl ?_
  refine n_aload_n dX12_init_46 0 rfl ?_
  refine n_iconst (v := -1) dX12_init_47 rfl ?_
  refine n_put (q := 0) (j := 141) fl_X12_32 rfl rfl rfl rfl (Nat.le_of_ble_eq_true rfl) dX12_init_48 ?_
  refine n_cs (cs' := [.inr (11, [.int 0, .int 0, .long 0, .long 1, .ref (gb g + 142), .ref (gb g + 143), .ref (gb g + 144), .ref (gb g + 145), .int 0, .int 0, .int (-1), .int (-1), .int 0, .int 0, .int 0, .int 0, .int 0, .int 0, .int 0, .long 0, .null, .null, .null, .null, .int 0, .int 0, .int 0, .null, .null, .null, .null, .int 0, .int 0, .null, .int 0, .int 0, .int 0, .int 0, .null, .null, .int 0, .int 0, .int 0, .int 0, .int 0, .int 0, .int 0, .int 0, .int 0]),
  .inl (gc g 0, 4, .inl (fun _ => 0)),
  .inl (gc g 0, 4, .inl (fun _ => 0)),
  .inl (gc g 1, 240, .inr (.inl (fun _ => 0))),
  .inl (gc g 2, 900, .inl (fun _ => 0))]) rfl ?_
  refine n_aload_n dX12_init_51 0 rfl ?_
  refine n_sipush (v := 2000) dX12_init_52 rfl ?_
  refine n_newI (N := 2000) (j := 146) (kc := 10) (ks := 1107) (by decide) (by decide) (by decide) rfl ac_int dX12_init_55 ?_
  refine n_cs (cs' := [.inr (11, [.int 0, .int 0, .long 0, .long 1, .ref (gb g + 142), .ref (gb g + 143), .ref (gb g + 144), .ref (gb g + 145), .int 0, .int 0, .int (-1), .int (-1), .int 0, .int 0, .int 0, .int 0, .int 0, .int 0, .int 0, .long 0, .null, .null, .null, .null, .int 0, .int 0, .int 0, .null, .null, .null, .null, .int 0, .int 0, .null, .int 0, .int 0, .int 0, .int 0, .null, .null, .int 0, .int 0, .int 0, .int 0, .int 0, .int 0, .int 0, .int 0, .int 0]),
  .inl (gc g 0, 4, .inl (fun _ => 0)),
  .inl (gc g 0, 4, .inl (fun _ => 0)),
  .inl (gc g 1, 240, .inr (.inl (fun _ => 0))),
  .inl (gc g 2, 900, .inl (fun _ => 0)),
  .inl (gc g 0, 2000, .inl (fun _ => 0))]) rfl ?_
  refine n_putF (q := 0) (j := 141) fl_X12_35 fd_X12_20 rfl rfl rfl rfl rfl (Nat.le_of_ble_eq_true rfl) dX12_init_57 ?_
  refine n_cs (cs' := [.inr (11, [.int 0, .int 0, .long 0, .long 1, .ref (gb g + 142), .ref (gb g + 143), .ref (gb g + 144), .ref (gb g + 145), .int 0, .int 0, .int (-1), .int (-1), .int 0, .int 0, .int 0, .int 0, .int 0, .int 0, .int 0, .long 0, .ref (gb g + 146), .null, .null, .null, .int 0, .int 0, .int 0, .null, .null, .null, .null, .int 0, .int 0, .null, .int 0, .int 0, .int 0, .int 0, .null, .null, .int 0, .int 0, .int 0, .int 0, .int 0, .int 0, .int 0, .int 0, .int 0]),
  .inl (gc g 0, 4, .inl (fun _ => 0)),
  .inl (gc g 0, 4, .inl (fun _ => 0)),
  .inl (gc g 1, 240, .inr (.inl (fun _ => 0))),
  .inl (gc g 2, 900, .inl (fun _ => 0)),
  .inl (gc g 0, 2000, .inl (fun _ => 0))]) rfl ?_
  refine n_aload_n dX12_init_60 0 rfl ?_
  refine n_sipush (v := 128) dX12_init_61 rfl ?_
  refine n_newI (N := 128) (j := 147) (kc := 9) (ks := 979) (by decide) (by decide) (by decide) rfl ac_int dX12_init_64 ?_
  refine n_cs (cs' := [.inr (11, [.int 0, .int 0, .long 0, .long 1, .ref (gb g + 142), .ref (gb g + 143), .ref (gb g + 144), .ref (gb g + 145), .int 0, .int 0, .int (-1), .int (-1), .int 0, .int 0, .int 0, .int 0, .int 0, .int 0, .int 0, .long 0, .ref (gb g + 146), .null, .null, .null, .int 0, .int 0, .int 0, .null, .null, .null, .null, .int 0, .int 0, .null, .int 0, .int 0, .int 0, .int 0, .null, .null, .int 0, .int 0, .int 0, .int 0, .int 0, .int 0, .int 0, .int 0, .int 0]),
  .inl (gc g 0, 4, .inl (fun _ => 0)),
  .inl (gc g 0, 4, .inl (fun _ => 0)),
  .inl (gc g 1, 240, .inr (.inl (fun _ => 0))),
  .inl (gc g 2, 900, .inl (fun _ => 0)),
  .inl (gc g 0, 2000, .inl (fun _ => 0)),
  .inl (gc g 0, 128, .inl (fun _ => 0))]) rfl ?_
  refine n_putF (q := 0) (j := 141) fl_X12_38 fd_X12_21 rfl rfl rfl rfl rfl (Nat.le_of_ble_eq_true rfl) dX12_init_66 ?_
  refine n_cs (cs' := [.inr (11, [.int 0, .int 0, .long 0, .long 1, .ref (gb g + 142), .ref (gb g + 143), .ref (gb g + 144), .ref (gb g + 145), .int 0, .int 0, .int (-1), .int (-1), .int 0, .int 0, .int 0, .int 0, .int 0, .int 0, .int 0, .long 0, .ref (gb g + 146), .ref (gb g + 147), .null, .null, .int 0, .int 0, .int 0, .null, .null, .null, .null, .int 0, .int 0, .null, .int 0, .int 0, .int 0, .int 0, .null, .null, .int 0, .int 0, .int 0, .int 0, .int 0, .int 0, .int 0, .int 0, .int 0]),
  .inl (gc g 0, 4, .inl (fun _ => 0)),
  .inl (gc g 0, 4, .inl (fun _ => 0)),
  .inl (gc g 1, 240, .inr (.inl (fun _ => 0))),
  .inl (gc g 2, 900, .inl (fun _ => 0)),
  .inl (gc g 0, 2000, .inl (fun _ => 0)),
  .inl (gc g 0, 128, .inl (fun _ => 0))]) rfl ?_
  refine n_aload_n dX12_init_69 0 rfl ?_
  refine n_sipush (v := 128) dX12_init_70 rfl ?_
  refine n_newI (N := 128) (j := 148) (kc := 8) (ks := 851) (by decide) (by decide) (by decide) rfl ac_int dX12_init_73 ?_
  refine n_cs (cs' := [.inr (11, [.int 0, .int 0, .long 0, .long 1, .ref (gb g + 142), .ref (gb g + 143), .ref (gb g + 144), .ref (gb g + 145), .int 0, .int 0, .int (-1), .int (-1), .int 0, .int 0, .int 0, .int 0, .int 0, .int 0, .int 0, .long 0, .ref (gb g + 146), .ref (gb g + 147), .null, .null, .int 0, .int 0, .int 0, .null, .null, .null, .null, .int 0, .int 0, .null, .int 0, .int 0, .int 0, .int 0, .null, .null, .int 0, .int 0, .int 0, .int 0, .int 0, .int 0, .int 0, .int 0, .int 0]),
  .inl (gc g 0, 4, .inl (fun _ => 0)),
  .inl (gc g 0, 4, .inl (fun _ => 0)),
  .inl (gc g 1, 240, .inr (.inl (fun _ => 0))),
  .inl (gc g 2, 900, .inl (fun _ => 0)),
  .inl (gc g 0, 2000, .inl (fun _ => 0)),
  .inl (gc g 0, 128, .inl (fun _ => 0)),
  .inl (gc g 0, 128, .inl (fun _ => 0))]) rfl ?_
  refine n_putF (q := 0) (j := 141) fl_X12_41 fd_X12_22 rfl rfl rfl rfl rfl (Nat.le_of_ble_eq_true rfl) dX12_init_75 ?_
  refine n_cs (cs' := [.inr (11, [.int 0, .int 0, .long 0, .long 1, .ref (gb g + 142), .ref (gb g + 143), .ref (gb g + 144), .ref (gb g + 145), .int 0, .int 0, .int (-1), .int (-1), .int 0, .int 0, .int 0, .int 0, .int 0, .int 0, .int 0, .long 0, .ref (gb g + 146), .ref (gb g + 147), .ref (gb g + 148), .null, .int 0, .int 0, .int 0, .null, .null, .null, .null, .int 0, .int 0, .null, .int 0, .int 0, .int 0, .int 0, .null, .null, .int 0, .int 0, .int 0, .int 0, .int 0, .int 0, .int 0, .int 0, .int 0]),
  .inl (gc g 0, 4, .inl (fun _ => 0)),
  .inl (gc g 0, 4, .inl (fun _ => 0)),
  .inl (gc g 1, 240, .inr (.inl (fun _ => 0))),
  .inl (gc g 2, 900, .inl (fun _ => 0)),
  .inl (gc g 0, 2000, .inl (fun _ => 0)),
  .inl (gc g 0, 128, .inl (fun _ => 0)),
  .inl (gc g 0, 128, .inl (fun _ => 0))]) rfl ?_
  refine n_aload_n dX12_init_78 0 rfl ?_
  refine n_bipush (v := 25) dX12_init_79 rfl ?_
  refine n_newL (N := 25) (j := 149) (kc := 7) (ks := 826) (by decide) (by decide) (by decide) rfl ac_long dX12_init_81 ?_
  refine n_cs (cs' := [.inr (11, [.int 0, .int 0, .long 0, .long 1, .ref (gb g + 142), .ref (gb g + 143), .ref (gb g + 144), .ref (gb g + 145), .int 0, .int 0, .int (-1), .int (-1), .int 0, .int 0, .int 0, .int 0, .int 0, .int 0, .int 0, .long 0, .ref (gb g + 146), .ref (gb g + 147), .ref (gb g + 148), .null, .int 0, .int 0, .int 0, .null, .null, .null, .null, .int 0, .int 0, .null, .int 0, .int 0, .int 0, .int 0, .null, .null, .int 0, .int 0, .int 0, .int 0, .int 0, .int 0, .int 0, .int 0, .int 0]),
  .inl (gc g 0, 4, .inl (fun _ => 0)),
  .inl (gc g 0, 4, .inl (fun _ => 0)),
  .inl (gc g 1, 240, .inr (.inl (fun _ => 0))),
  .inl (gc g 2, 900, .inl (fun _ => 0)),
  .inl (gc g 0, 2000, .inl (fun _ => 0)),
  .inl (gc g 0, 128, .inl (fun _ => 0)),
  .inl (gc g 0, 128, .inl (fun _ => 0)),
  .inl (gc g 1, 25, .inr (.inl (fun _ => 0)))]) rfl ?_
  refine n_putF (q := 0) (j := 141) fl_X12_44 fd_X12_23 rfl rfl rfl rfl rfl (Nat.le_of_ble_eq_true rfl) dX12_init_83 ?_
  refine n_cs (cs' := [.inr (11, [.int 0, .int 0, .long 0, .long 1, .ref (gb g + 142), .ref (gb g + 143), .ref (gb g + 144), .ref (gb g + 145), .int 0, .int 0, .int (-1), .int (-1), .int 0, .int 0, .int 0, .int 0, .int 0, .int 0, .int 0, .long 0, .ref (gb g + 146), .ref (gb g + 147), .ref (gb g + 148), .ref (gb g + 149), .int 0, .int 0, .int 0, .null, .null, .null, .null, .int 0, .int 0, .null, .int 0, .int 0, .int 0, .int 0, .null, .null, .int 0, .int 0, .int 0, .int 0, .int 0, .int 0, .int 0, .int 0, .int 0]),
  .inl (gc g 0, 4, .inl (fun _ => 0)),
  .inl (gc g 0, 4, .inl (fun _ => 0)),
  .inl (gc g 1, 240, .inr (.inl (fun _ => 0))),
  .inl (gc g 2, 900, .inl (fun _ => 0)),
  .inl (gc g 0, 2000, .inl (fun _ => 0)),
  .inl (gc g 0, 128, .inl (fun _ => 0)),
  .inl (gc g 0, 128, .inl (fun _ => 0)),
  .inl (gc g 1, 25, .inr (.inl (fun _ => 0)))]) rfl ?_
  refine n_aload_n dX12_init_86 0 rfl ?_
  refine n_bipush (v := 25) dX12_init_87 rfl ?_
  refine n_newI (N := 25) (j := 150) (kc := 6) (ks := 801) (by decide) (by decide) (by decide) rfl ac_int dX12_init_89 ?_
  refine n_cs (cs' := [.inr (11, [.int 0, .int 0, .long 0, .long 1, .ref (gb g + 142), .ref (gb g + 143), .ref (gb g + 144), .ref (gb g + 145), .int 0, .int 0, .int (-1), .int (-1), .int 0, .int 0, .int 0, .int 0, .int 0, .int 0, .int 0, .long 0, .ref (gb g + 146), .ref (gb g + 147), .ref (gb g + 148), .ref (gb g + 149), .int 0, .int 0, .int 0, .null, .null, .null, .null, .int 0, .int 0, .null, .int 0, .int 0, .int 0, .int 0, .null, .null, .int 0, .int 0, .int 0, .int 0, .int 0, .int 0, .int 0, .int 0, .int 0]),
  .inl (gc g 0, 4, .inl (fun _ => 0)),
  .inl (gc g 0, 4, .inl (fun _ => 0)),
  .inl (gc g 1, 240, .inr (.inl (fun _ => 0))),
  .inl (gc g 2, 900, .inl (fun _ => 0)),
  .inl (gc g 0, 2000, .inl (fun _ => 0)),
  .inl (gc g 0, 128, .inl (fun _ => 0)),
  .inl (gc g 0, 128, .inl (fun _ => 0)),
  .inl (gc g 1, 25, .inr (.inl (fun _ => 0))),
  .inl (gc g 0, 25, .inl (fun _ => 0))]) rfl ?_
  refine n_putF (q := 0) (j := 141) fl_X12_47 fd_X12_27 rfl rfl rfl rfl rfl (Nat.le_of_ble_eq_true rfl) dX12_init_91 ?_
  refine n_cs (cs' := [.inr (11, [.int 0, .int 0, .long 0, .long 1, .ref (gb g + 142), .ref (gb g + 143), .ref (gb g + 144), .ref (gb g + 145), .int 0, .int 0, .int (-1), .int (-1), .int 0, .int 0, .int 0, .int 0, .int 0, .int 0, .int 0, .long 0, .ref (gb g + 146), .ref (gb g + 147), .ref (gb g + 148), .ref (gb g + 149), .int 0, .int 0, .int 0, .ref (gb g + 150), .null, .null, .null, .int 0, .int 0, .null, .int 0, .int 0, .int 0, .int 0, .null, .null, .int 0, .int 0, .int 0, .int 0, .int 0, .int 0, .int 0, .int 0, .int 0]),
  .inl (gc g 0, 4, .inl (fun _ => 0)),
  .inl (gc g 0, 4, .inl (fun _ => 0)),
  .inl (gc g 1, 240, .inr (.inl (fun _ => 0))),
  .inl (gc g 2, 900, .inl (fun _ => 0)),
  .inl (gc g 0, 2000, .inl (fun _ => 0)),
  .inl (gc g 0, 128, .inl (fun _ => 0)),
  .inl (gc g 0, 128, .inl (fun _ => 0)),
  .inl (gc g 1, 25, .inr (.inl (fun _ => 0))),
  .inl (gc g 0, 25, .inl (fun _ => 0))]) rfl ?_
  refine n_aload_n dX12_init_94 0 rfl ?_
  refine n_sipush (v := 768) dX12_init_95 rfl ?_
  refine n_newI (N := 768) (j := 151) (kc := 5) (ks := 33) (by decide) (by decide) (by decide) rfl ac_int dX12_init_98 ?_
  refine n_cs (cs' := [.inr (11, [.int 0, .int 0, .long 0, .long 1, .ref (gb g + 142), .ref (gb g + 143), .ref (gb g + 144), .ref (gb g + 145), .int 0, .int 0, .int (-1), .int (-1), .int 0, .int 0, .int 0, .int 0, .int 0, .int 0, .int 0, .long 0, .ref (gb g + 146), .ref (gb g + 147), .ref (gb g + 148), .ref (gb g + 149), .int 0, .int 0, .int 0, .ref (gb g + 150), .null, .null, .null, .int 0, .int 0, .null, .int 0, .int 0, .int 0, .int 0, .null, .null, .int 0, .int 0, .int 0, .int 0, .int 0, .int 0, .int 0, .int 0, .int 0]),
  .inl (gc g 0, 4, .inl (fun _ => 0)),
  .inl (gc g 0, 4, .inl (fun _ => 0)),
  .inl (gc g 1, 240, .inr (.inl (fun _ => 0))),
  .inl (gc g 2, 900, .inl (fun _ => 0)),
  .inl (gc g 0, 2000, .inl (fun _ => 0)),
  .inl (gc g 0, 128, .inl (fun _ => 0)),
  .inl (gc g 0, 128, .inl (fun _ => 0)),
  .inl (gc g 1, 25, .inr (.inl (fun _ => 0))),
  .inl (gc g 0, 25, .inl (fun _ => 0)),
  .inl (gc g 0, 768, .inl (fun _ => 0))]) rfl ?_
  refine n_putF (q := 0) (j := 141) fl_X12_50 fd_X12_28 rfl rfl rfl rfl rfl (Nat.le_of_ble_eq_true rfl) dX12_init_100 ?_
  refine n_cs (cs' := [.inr (11, [.int 0, .int 0, .long 0, .long 1, .ref (gb g + 142), .ref (gb g + 143), .ref (gb g + 144), .ref (gb g + 145), .int 0, .int 0, .int (-1), .int (-1), .int 0, .int 0, .int 0, .int 0, .int 0, .int 0, .int 0, .long 0, .ref (gb g + 146), .ref (gb g + 147), .ref (gb g + 148), .ref (gb g + 149), .int 0, .int 0, .int 0, .ref (gb g + 150), .ref (gb g + 151), .null, .null, .int 0, .int 0, .null, .int 0, .int 0, .int 0, .int 0, .null, .null, .int 0, .int 0, .int 0, .int 0, .int 0, .int 0, .int 0, .int 0, .int 0]),
  .inl (gc g 0, 4, .inl (fun _ => 0)),
  .inl (gc g 0, 4, .inl (fun _ => 0)),
  .inl (gc g 1, 240, .inr (.inl (fun _ => 0))),
  .inl (gc g 2, 900, .inl (fun _ => 0)),
  .inl (gc g 0, 2000, .inl (fun _ => 0)),
  .inl (gc g 0, 128, .inl (fun _ => 0)),
  .inl (gc g 0, 128, .inl (fun _ => 0)),
  .inl (gc g 1, 25, .inr (.inl (fun _ => 0))),
  .inl (gc g 0, 25, .inl (fun _ => 0)),
  .inl (gc g 0, 768, .inl (fun _ => 0))]) rfl ?_
  refine n_aload_n dX12_init_103 0 rfl ?_
  refine n_iconst (v := 5) dX12_init_104 rfl ?_
  refine n_newI (N := 5) (j := 152) (kc := 4) (ks := 28) (by decide) (by decide) (by decide) rfl ac_int dX12_init_105 ?_
  refine n_cs (cs' := [.inr (11, [.int 0, .int 0, .long 0, .long 1, .ref (gb g + 142), .ref (gb g + 143), .ref (gb g + 144), .ref (gb g + 145), .int 0, .int 0, .int (-1), .int (-1), .int 0, .int 0, .int 0, .int 0, .int 0, .int 0, .int 0, .long 0, .ref (gb g + 146), .ref (gb g + 147), .ref (gb g + 148), .ref (gb g + 149), .int 0, .int 0, .int 0, .ref (gb g + 150), .ref (gb g + 151), .null, .null, .int 0, .int 0, .null, .int 0, .int 0, .int 0, .int 0, .null, .null, .int 0, .int 0, .int 0, .int 0, .int 0, .int 0, .int 0, .int 0, .int 0]),
  .inl (gc g 0, 4, .inl (fun _ => 0)),
  .inl (gc g 0, 4, .inl (fun _ => 0)),
  .inl (gc g 1, 240, .inr (.inl (fun _ => 0))),
  .inl (gc g 2, 900, .inl (fun _ => 0)),
  .inl (gc g 0, 2000, .inl (fun _ => 0)),
  .inl (gc g 0, 128, .inl (fun _ => 0)),
  .inl (gc g 0, 128, .inl (fun _ => 0)),
  .inl (gc g 1, 25, .inr (.inl (fun _ => 0))),
  .inl (gc g 0, 25, .inl (fun _ => 0)),
  .inl (gc g 0, 768, .inl (fun _ => 0)),
  .inl (gc g 0, 5, .inl (fun _ => 0))]) rfl ?_
  refine n_putF (q := 0) (j := 141) fl_X12_53 fd_X12_29 rfl rfl rfl rfl rfl (Nat.le_of_ble_eq_true rfl) dX12_init_107 ?_
  refine n_cs (cs' := [.inr (11, [.int 0, .int 0, .long 0, .long 1, .ref (gb g + 142), .ref (gb g + 143), .ref (gb g + 144), .ref (gb g + 145), .int 0, .int 0, .int (-1), .int (-1), .int 0, .int 0, .int 0, .int 0, .int 0, .int 0, .int 0, .long 0, .ref (gb g + 146), .ref (gb g + 147), .ref (gb g + 148), .ref (gb g + 149), .int 0, .int 0, .int 0, .ref (gb g + 150), .ref (gb g + 151), .ref (gb g + 152), .null, .int 0, .int 0, .null, .int 0, .int 0, .int 0, .int 0, .null, .null, .int 0, .int 0, .int 0, .int 0, .int 0, .int 0, .int 0, .int 0, .int 0]),
  .inl (gc g 0, 4, .inl (fun _ => 0)),
  .inl (gc g 0, 4, .inl (fun _ => 0)),
  .inl (gc g 1, 240, .inr (.inl (fun _ => 0))),
  .inl (gc g 2, 900, .inl (fun _ => 0)),
  .inl (gc g 0, 2000, .inl (fun _ => 0)),
  .inl (gc g 0, 128, .inl (fun _ => 0)),
  .inl (gc g 0, 128, .inl (fun _ => 0)),
  .inl (gc g 1, 25, .inr (.inl (fun _ => 0))),
  .inl (gc g 0, 25, .inl (fun _ => 0)),
  .inl (gc g 0, 768, .inl (fun _ => 0)),
  .inl (gc g 0, 5, .inl (fun _ => 0))]) rfl ?_
  refine n_aload_n dX12_init_110 0 rfl ?_
  refine n_iconst (v := 5) dX12_init_111 rfl ?_
  refine n_newI (N := 5) (j := 153) (kc := 3) (ks := 23) (by decide) (by decide) (by decide) rfl ac_int dX12_init_112 ?_
  refine n_cs (cs' := [.inr (11, [.int 0, .int 0, .long 0, .long 1, .ref (gb g + 142), .ref (gb g + 143), .ref (gb g + 144), .ref (gb g + 145), .int 0, .int 0, .int (-1), .int (-1), .int 0, .int 0, .int 0, .int 0, .int 0, .int 0, .int 0, .long 0, .ref (gb g + 146), .ref (gb g + 147), .ref (gb g + 148), .ref (gb g + 149), .int 0, .int 0, .int 0, .ref (gb g + 150), .ref (gb g + 151), .ref (gb g + 152), .null, .int 0, .int 0, .null, .int 0, .int 0, .int 0, .int 0, .null, .null, .int 0, .int 0, .int 0, .int 0, .int 0, .int 0, .int 0, .int 0, .int 0]),
  .inl (gc g 0, 4, .inl (fun _ => 0)),
  .inl (gc g 0, 4, .inl (fun _ => 0)),
  .inl (gc g 1, 240, .inr (.inl (fun _ => 0))),
  .inl (gc g 2, 900, .inl (fun _ => 0)),
  .inl (gc g 0, 2000, .inl (fun _ => 0)),
  .inl (gc g 0, 128, .inl (fun _ => 0)),
  .inl (gc g 0, 128, .inl (fun _ => 0)),
  .inl (gc g 1, 25, .inr (.inl (fun _ => 0))),
  .inl (gc g 0, 25, .inl (fun _ => 0)),
  .inl (gc g 0, 768, .inl (fun _ => 0)),
  .inl (gc g 0, 5, .inl (fun _ => 0)),
  .inl (gc g 0, 5, .inl (fun _ => 0))]) rfl ?_
  refine n_putF (q := 0) (j := 141) fl_X12_56 fd_X12_30 rfl rfl rfl rfl rfl (Nat.le_of_ble_eq_true rfl) dX12_init_114 ?_
  refine n_cs (cs' := [.inr (11, [.int 0, .int 0, .long 0, .long 1, .ref (gb g + 142), .ref (gb g + 143), .ref (gb g + 144), .ref (gb g + 145), .int 0, .int 0, .int (-1), .int (-1), .int 0, .int 0, .int 0, .int 0, .int 0, .int 0, .int 0, .long 0, .ref (gb g + 146), .ref (gb g + 147), .ref (gb g + 148), .ref (gb g + 149), .int 0, .int 0, .int 0, .ref (gb g + 150), .ref (gb g + 151), .ref (gb g + 152), .ref (gb g + 153), .int 0, .int 0, .null, .int 0, .int 0, .int 0, .int 0, .null, .null, .int 0, .int 0, .int 0, .int 0, .int 0, .int 0, .int 0, .int 0, .int 0]),
  .inl (gc g 0, 4, .inl (fun _ => 0)),
  .inl (gc g 0, 4, .inl (fun _ => 0)),
  .inl (gc g 1, 240, .inr (.inl (fun _ => 0))),
  .inl (gc g 2, 900, .inl (fun _ => 0)),
  .inl (gc g 0, 2000, .inl (fun _ => 0)),
  .inl (gc g 0, 128, .inl (fun _ => 0)),
  .inl (gc g 0, 128, .inl (fun _ => 0)),
  .inl (gc g 1, 25, .inr (.inl (fun _ => 0))),
  .inl (gc g 0, 25, .inl (fun _ => 0)),
  .inl (gc g 0, 768, .inl (fun _ => 0)),
  .inl (gc g 0, 5, .inl (fun _ => 0)),
  .inl (gc g 0, 5, .inl (fun _ => 0))]) rfl ?_
  refine n_aload_n dX12_init_117 0 rfl ?_
  refine n_iconst (v := 5) dX12_init_118 rfl ?_
  refine n_newI (N := 5) (j := 154) (kc := 2) (ks := 18) (by decide) (by decide) (by decide) rfl ac_int dX12_init_119 ?_
  refine n_cs (cs' := [.inr (11, [.int 0, .int 0, .long 0, .long 1, .ref (gb g + 142), .ref (gb g + 143), .ref (gb g + 144), .ref (gb g + 145), .int 0, .int 0, .int (-1), .int (-1), .int 0, .int 0, .int 0, .int 0, .int 0, .int 0, .int 0, .long 0, .ref (gb g + 146), .ref (gb g + 147), .ref (gb g + 148), .ref (gb g + 149), .int 0, .int 0, .int 0, .ref (gb g + 150), .ref (gb g + 151), .ref (gb g + 152), .ref (gb g + 153), .int 0, .int 0, .null, .int 0, .int 0, .int 0, .int 0, .null, .null, .int 0, .int 0, .int 0, .int 0, .int 0, .int 0, .int 0, .int 0, .int 0]),
  .inl (gc g 0, 4, .inl (fun _ => 0)),
  .inl (gc g 0, 4, .inl (fun _ => 0)),
  .inl (gc g 1, 240, .inr (.inl (fun _ => 0))),
  .inl (gc g 2, 900, .inl (fun _ => 0)),
  .inl (gc g 0, 2000, .inl (fun _ => 0)),
  .inl (gc g 0, 128, .inl (fun _ => 0)),
  .inl (gc g 0, 128, .inl (fun _ => 0)),
  .inl (gc g 1, 25, .inr (.inl (fun _ => 0))),
  .inl (gc g 0, 25, .inl (fun _ => 0)),
  .inl (gc g 0, 768, .inl (fun _ => 0)),
  .inl (gc g 0, 5, .inl (fun _ => 0)),
  .inl (gc g 0, 5, .inl (fun _ => 0)),
  .inl (gc g 0, 5, .inl (fun _ => 0))]) rfl ?_
  refine n_putF (q := 0) (j := 141) fl_X12_59 fd_X12_33 rfl rfl rfl rfl rfl (Nat.le_of_ble_eq_true rfl) dX12_init_121 ?_
  refine n_cs (cs' := [.inr (11, [.int 0, .int 0, .long 0, .long 1, .ref (gb g + 142), .ref (gb g + 143), .ref (gb g + 144), .ref (gb g + 145), .int 0, .int 0, .int (-1), .int (-1), .int 0, .int 0, .int 0, .int 0, .int 0, .int 0, .int 0, .long 0, .ref (gb g + 146), .ref (gb g + 147), .ref (gb g + 148), .ref (gb g + 149), .int 0, .int 0, .int 0, .ref (gb g + 150), .ref (gb g + 151), .ref (gb g + 152), .ref (gb g + 153), .int 0, .int 0, .ref (gb g + 154), .int 0, .int 0, .int 0, .int 0, .null, .null, .int 0, .int 0, .int 0, .int 0, .int 0, .int 0, .int 0, .int 0, .int 0]),
  .inl (gc g 0, 4, .inl (fun _ => 0)),
  .inl (gc g 0, 4, .inl (fun _ => 0)),
  .inl (gc g 1, 240, .inr (.inl (fun _ => 0))),
  .inl (gc g 2, 900, .inl (fun _ => 0)),
  .inl (gc g 0, 2000, .inl (fun _ => 0)),
  .inl (gc g 0, 128, .inl (fun _ => 0)),
  .inl (gc g 0, 128, .inl (fun _ => 0)),
  .inl (gc g 1, 25, .inr (.inl (fun _ => 0))),
  .inl (gc g 0, 25, .inl (fun _ => 0)),
  .inl (gc g 0, 768, .inl (fun _ => 0)),
  .inl (gc g 0, 5, .inl (fun _ => 0)),
  .inl (gc g 0, 5, .inl (fun _ => 0)),
  .inl (gc g 0, 5, .inl (fun _ => 0))]) rfl ?_
  refine n_aload_n dX12_init_124 0 rfl ?_
  refine n_bipush (v := 13) dX12_init_125 rfl ?_
  refine n_newL (N := 13) (j := 155) (kc := 1) (ks := 5) (by decide) (by decide) (by decide) rfl ac_long dX12_init_127 ?_
  refine n_cs (cs' := [.inr (11, [.int 0, .int 0, .long 0, .long 1, .ref (gb g + 142), .ref (gb g + 143), .ref (gb g + 144), .ref (gb g + 145), .int 0, .int 0, .int (-1), .int (-1), .int 0, .int 0, .int 0, .int 0, .int 0, .int 0, .int 0, .long 0, .ref (gb g + 146), .ref (gb g + 147), .ref (gb g + 148), .ref (gb g + 149), .int 0, .int 0, .int 0, .ref (gb g + 150), .ref (gb g + 151), .ref (gb g + 152), .ref (gb g + 153), .int 0, .int 0, .ref (gb g + 154), .int 0, .int 0, .int 0, .int 0, .null, .null, .int 0, .int 0, .int 0, .int 0, .int 0, .int 0, .int 0, .int 0, .int 0]),
  .inl (gc g 0, 4, .inl (fun _ => 0)),
  .inl (gc g 0, 4, .inl (fun _ => 0)),
  .inl (gc g 1, 240, .inr (.inl (fun _ => 0))),
  .inl (gc g 2, 900, .inl (fun _ => 0)),
  .inl (gc g 0, 2000, .inl (fun _ => 0)),
  .inl (gc g 0, 128, .inl (fun _ => 0)),
  .inl (gc g 0, 128, .inl (fun _ => 0)),
  .inl (gc g 1, 25, .inr (.inl (fun _ => 0))),
  .inl (gc g 0, 25, .inl (fun _ => 0)),
  .inl (gc g 0, 768, .inl (fun _ => 0)),
  .inl (gc g 0, 5, .inl (fun _ => 0)),
  .inl (gc g 0, 5, .inl (fun _ => 0)),
  .inl (gc g 0, 5, .inl (fun _ => 0)),
  .inl (gc g 1, 13, .inr (.inl (fun _ => 0)))]) rfl ?_
  refine n_putF (q := 0) (j := 141) fl_X12_62 fd_X12_38 rfl rfl rfl rfl rfl (Nat.le_of_ble_eq_true rfl) dX12_init_129 ?_
  refine n_cs (cs' := [.inr (11, [.int 0, .int 0, .long 0, .long 1, .ref (gb g + 142), .ref (gb g + 143), .ref (gb g + 144), .ref (gb g + 145), .int 0, .int 0, .int (-1), .int (-1), .int 0, .int 0, .int 0, .int 0, .int 0, .int 0, .int 0, .long 0, .ref (gb g + 146), .ref (gb g + 147), .ref (gb g + 148), .ref (gb g + 149), .int 0, .int 0, .int 0, .ref (gb g + 150), .ref (gb g + 151), .ref (gb g + 152), .ref (gb g + 153), .int 0, .int 0, .ref (gb g + 154), .int 0, .int 0, .int 0, .int 0, .ref (gb g + 155), .null, .int 0, .int 0, .int 0, .int 0, .int 0, .int 0, .int 0, .int 0, .int 0]),
  .inl (gc g 0, 4, .inl (fun _ => 0)),
  .inl (gc g 0, 4, .inl (fun _ => 0)),
  .inl (gc g 1, 240, .inr (.inl (fun _ => 0))),
  .inl (gc g 2, 900, .inl (fun _ => 0)),
  .inl (gc g 0, 2000, .inl (fun _ => 0)),
  .inl (gc g 0, 128, .inl (fun _ => 0)),
  .inl (gc g 0, 128, .inl (fun _ => 0)),
  .inl (gc g 1, 25, .inr (.inl (fun _ => 0))),
  .inl (gc g 0, 25, .inl (fun _ => 0)),
  .inl (gc g 0, 768, .inl (fun _ => 0)),
  .inl (gc g 0, 5, .inl (fun _ => 0)),
  .inl (gc g 0, 5, .inl (fun _ => 0)),
  .inl (gc g 0, 5, .inl (fun _ => 0)),
  .inl (gc g 1, 13, .inr (.inl (fun _ => 0)))]) rfl ?_
  refine n_aload_n dX12_init_132 0 rfl ?_
  refine n_iconst (v := 5) dX12_init_133 rfl ?_
  refine n_newI (N := 5) (j := 156) (kc := 0) (ks := 0) (by decide) (by decide) (by decide) rfl ac_int dX12_init_134 ?_
  refine n_cs (cs' := [.inr (11, [.int 0, .int 0, .long 0, .long 1, .ref (gb g + 142), .ref (gb g + 143), .ref (gb g + 144), .ref (gb g + 145), .int 0, .int 0, .int (-1), .int (-1), .int 0, .int 0, .int 0, .int 0, .int 0, .int 0, .int 0, .long 0, .ref (gb g + 146), .ref (gb g + 147), .ref (gb g + 148), .ref (gb g + 149), .int 0, .int 0, .int 0, .ref (gb g + 150), .ref (gb g + 151), .ref (gb g + 152), .ref (gb g + 153), .int 0, .int 0, .ref (gb g + 154), .int 0, .int 0, .int 0, .int 0, .ref (gb g + 155), .null, .int 0, .int 0, .int 0, .int 0, .int 0, .int 0, .int 0, .int 0, .int 0]),
  .inl (gc g 0, 4, .inl (fun _ => 0)),
  .inl (gc g 0, 4, .inl (fun _ => 0)),
  .inl (gc g 1, 240, .inr (.inl (fun _ => 0))),
  .inl (gc g 2, 900, .inl (fun _ => 0)),
  .inl (gc g 0, 2000, .inl (fun _ => 0)),
  .inl (gc g 0, 128, .inl (fun _ => 0)),
  .inl (gc g 0, 128, .inl (fun _ => 0)),
  .inl (gc g 1, 25, .inr (.inl (fun _ => 0))),
  .inl (gc g 0, 25, .inl (fun _ => 0)),
  .inl (gc g 0, 768, .inl (fun _ => 0)),
  .inl (gc g 0, 5, .inl (fun _ => 0)),
  .inl (gc g 0, 5, .inl (fun _ => 0)),
  .inl (gc g 0, 5, .inl (fun _ => 0)),
  .inl (gc g 1, 13, .inr (.inl (fun _ => 0))),
  .inl (gc g 0, 5, .inl (fun _ => 0))]) rfl ?_
  refine n_putF (q := 0) (j := 141) fl_X12_65 fd_X12_39 rfl rfl rfl rfl rfl (Nat.le_of_ble_eq_true rfl) dX12_init_136 ?_
  refine n_cs (cs' := [.inr (11, [.int 0, .int 0, .long 0, .long 1, .ref (gb g + 142), .ref (gb g + 143), .ref (gb g + 144), .ref (gb g + 145), .int 0, .int 0, .int (-1), .int (-1), .int 0, .int 0, .int 0, .int 0, .int 0, .int 0, .int 0, .long 0, .ref (gb g + 146), .ref (gb g + 147), .ref (gb g + 148), .ref (gb g + 149), .int 0, .int 0, .int 0, .ref (gb g + 150), .ref (gb g + 151), .ref (gb g + 152), .ref (gb g + 153), .int 0, .int 0, .ref (gb g + 154), .int 0, .int 0, .int 0, .int 0, .ref (gb g + 155), .ref (gb g + 156), .int 0, .int 0, .int 0, .int 0, .int 0, .int 0, .int 0, .int 0, .int 0]),
  .inl (gc g 0, 4, .inl (fun _ => 0)),
  .inl (gc g 0, 4, .inl (fun _ => 0)),
  .inl (gc g 1, 240, .inr (.inl (fun _ => 0))),
  .inl (gc g 2, 900, .inl (fun _ => 0)),
  .inl (gc g 0, 2000, .inl (fun _ => 0)),
  .inl (gc g 0, 128, .inl (fun _ => 0)),
  .inl (gc g 0, 128, .inl (fun _ => 0)),
  .inl (gc g 1, 25, .inr (.inl (fun _ => 0))),
  .inl (gc g 0, 25, .inl (fun _ => 0)),
  .inl (gc g 0, 768, .inl (fun _ => 0)),
  .inl (gc g 0, 5, .inl (fun _ => 0)),
  .inl (gc g 0, 5, .inl (fun _ => 0)),
  .inl (gc g 0, 5, .inl (fun _ => 0)),
  .inl (gc g 1, 13, .inr (.inl (fun _ => 0))),
  .inl (gc g 0, 5, .inl (fun _ => 0))]) rfl ?_
  refine n_iconst (v := 0) dX12_init_139 rfl ?_
  refine n_istore_n (i := 1) dX12_init_140 rfl (by decide) rfl ?_
  refine n_iload_n dX12_init_141 0 rfl ?_
  refine n_iconst (v := 4) dX12_init_142 rfl ?_
  refine n_icmp_ge_f (tgt := 159) dX12_init_143 rfl (by decide) ?_
  refine n_aload_n dX12_init_146 1 rfl ?_
  refine n_get (q := 0) (j := 141) fl_X12_17 rfl rfl rfl dX12_init_147 ?_
  refine n_iload_n dX12_init_150 0 rfl ?_
  refine n_iconst (v := -1) dX12_init_151 rfl ?_
  refine n_iast (q := 2) (j := 143) rfl rfl (by unfold vp_in; decide) dX12_init_152 ?_
  refine n_cs (cs' := [.inr (11, [.int 0, .int 0, .long 0, .long 1, .ref (gb g + 142), .ref (gb g + 143), .ref (gb g + 144), .ref (gb g + 145), .int 0, .int 0, .int (-1), .int (-1), .int 0, .int 0, .int 0, .int 0, .int 0, .int 0, .int 0, .long 0, .ref (gb g + 146), .ref (gb g + 147), .ref (gb g + 148), .ref (gb g + 149), .int 0, .int 0, .int 0, .ref (gb g + 150), .ref (gb g + 151), .ref (gb g + 152), .ref (gb g + 153), .int 0, .int 0, .ref (gb g + 154), .int 0, .int 0, .int 0, .int 0, .ref (gb g + 155), .ref (gb g + 156), .int 0, .int 0, .int 0, .int 0, .int 0, .int 0, .int 0, .int 0, .int 0]),
  .inl (gc g 0, 4, .inl (fun _ => 0)),
  .inl (gc g 0, 4, .inl (upd (fun _ => 0) 0 (-1))),
  .inl (gc g 1, 240, .inr (.inl (fun _ => 0))),
  .inl (gc g 2, 900, .inl (fun _ => 0)),
  .inl (gc g 0, 2000, .inl (fun _ => 0)),
  .inl (gc g 0, 128, .inl (fun _ => 0)),
  .inl (gc g 0, 128, .inl (fun _ => 0)),
  .inl (gc g 1, 25, .inr (.inl (fun _ => 0))),
  .inl (gc g 0, 25, .inl (fun _ => 0)),
  .inl (gc g 0, 768, .inl (fun _ => 0)),
  .inl (gc g 0, 5, .inl (fun _ => 0)),
  .inl (gc g 0, 5, .inl (fun _ => 0)),
  .inl (gc g 0, 5, .inl (fun _ => 0)),
  .inl (gc g 1, 13, .inr (.inl (fun _ => 0))),
  .inl (gc g 0, 5, .inl (fun _ => 0))]) rfl ?_
  refine n_iinc (v := 1) dX12_init_153 0 rfl rfl (by decide) rfl ?_
  refine n_goto (tgt := 141) dX12_init_156 rfl ?_
  refine n_iload_n dX12_init_141 0 rfl ?_
  refine n_iconst (v := 4) dX12_init_142 rfl ?_
  refine n_icmp_ge_f (tgt := 159) dX12_init_143 rfl (by decide) ?_
  refine n_aload_n dX12_init_146 1 rfl ?_
  refine n_get (q := 0) (j := 141) fl_X12_17 rfl rfl rfl dX12_init_147 ?_
  refine n_iload_n dX12_init_150 0 rfl ?_
  refine n_iconst (v := -1) dX12_init_151 rfl ?_
  refine n_iast (q := 2) (j := 143) rfl rfl (by unfold vp_in; decide) dX12_init_152 ?_
  refine n_cs (cs' := [.inr (11, [.int 0, .int 0, .long 0, .long 1, .ref (gb g + 142), .ref (gb g + 143), .ref (gb g + 144), .ref (gb g + 145), .int 0, .int 0, .int (-1), .int (-1), .int 0, .int 0, .int 0, .int 0, .int 0, .int 0, .int 0, .long 0, .ref (gb g + 146), .ref (gb g + 147), .ref (gb g + 148), .ref (gb g + 149), .int 0, .int 0, .int 0, .ref (gb g + 150), .ref (gb g + 151), .ref (gb g + 152), .ref (gb g + 153), .int 0, .int 0, .ref (gb g + 154), .int 0, .int 0, .int 0, .int 0, .ref (gb g + 155), .ref (gb g + 156), .int 0, .int 0, .int 0, .int 0, .int 0, .int 0, .int 0, .int 0, .int 0]),
  .inl (gc g 0, 4, .inl (fun _ => 0)),
  .inl (gc g 0, 4, .inl (upd (upd (fun _ => 0) 0 (-1)) 1 (-1))),
  .inl (gc g 1, 240, .inr (.inl (fun _ => 0))),
  .inl (gc g 2, 900, .inl (fun _ => 0)),
  .inl (gc g 0, 2000, .inl (fun _ => 0)),
  .inl (gc g 0, 128, .inl (fun _ => 0)),
  .inl (gc g 0, 128, .inl (fun _ => 0)),
  .inl (gc g 1, 25, .inr (.inl (fun _ => 0))),
  .inl (gc g 0, 25, .inl (fun _ => 0)),
  .inl (gc g 0, 768, .inl (fun _ => 0)),
  .inl (gc g 0, 5, .inl (fun _ => 0)),
  .inl (gc g 0, 5, .inl (fun _ => 0)),
  .inl (gc g 0, 5, .inl (fun _ => 0)),
  .inl (gc g 1, 13, .inr (.inl (fun _ => 0))),
  .inl (gc g 0, 5, .inl (fun _ => 0))]) rfl ?_
  refine n_iinc (v := 2) dX12_init_153 0 rfl rfl (by decide) rfl ?_
  refine n_goto (tgt := 141) dX12_init_156 rfl ?_
  refine n_iload_n dX12_init_141 0 rfl ?_
  refine n_iconst (v := 4) dX12_init_142 rfl ?_
  refine n_icmp_ge_f (tgt := 159) dX12_init_143 rfl (by decide) ?_
  refine n_aload_n dX12_init_146 1 rfl ?_
  refine n_get (q := 0) (j := 141) fl_X12_17 rfl rfl rfl dX12_init_147 ?_
  refine n_iload_n dX12_init_150 0 rfl ?_
  refine n_iconst (v := -1) dX12_init_151 rfl ?_
  refine n_iast (q := 2) (j := 143) rfl rfl (by unfold vp_in; decide) dX12_init_152 ?_
  refine n_cs (cs' := [.inr (11, [.int 0, .int 0, .long 0, .long 1, .ref (gb g + 142), .ref (gb g + 143), .ref (gb g + 144), .ref (gb g + 145), .int 0, .int 0, .int (-1), .int (-1), .int 0, .int 0, .int 0, .int 0, .int 0, .int 0, .int 0, .long 0, .ref (gb g + 146), .ref (gb g + 147), .ref (gb g + 148), .ref (gb g + 149), .int 0, .int 0, .int 0, .ref (gb g + 150), .ref (gb g + 151), .ref (gb g + 152), .ref (gb g + 153), .int 0, .int 0, .ref (gb g + 154), .int 0, .int 0, .int 0, .int 0, .ref (gb g + 155), .ref (gb g + 156), .int 0, .int 0, .int 0, .int 0, .int 0, .int 0, .int 0, .int 0, .int 0]),
  .inl (gc g 0, 4, .inl (fun _ => 0)),
  .inl (gc g 0, 4, .inl (upd (upd (upd (fun _ => 0) 0 (-1)) 1 (-1)) 2 (-1))),
  .inl (gc g 1, 240, .inr (.inl (fun _ => 0))),
  .inl (gc g 2, 900, .inl (fun _ => 0)),
  .inl (gc g 0, 2000, .inl (fun _ => 0)),
  .inl (gc g 0, 128, .inl (fun _ => 0)),
  .inl (gc g 0, 128, .inl (fun _ => 0)),
  .inl (gc g 1, 25, .inr (.inl (fun _ => 0))),
  .inl (gc g 0, 25, .inl (fun _ => 0)),
  .inl (gc g 0, 768, .inl (fun _ => 0)),
  .inl (gc g 0, 5, .inl (fun _ => 0)),
  .inl (gc g 0, 5, .inl (fun _ => 0)),
  .inl (gc g 0, 5, .inl (fun _ => 0)),
  .inl (gc g 1, 13, .inr (.inl (fun _ => 0))),
  .inl (gc g 0, 5, .inl (fun _ => 0))]) rfl ?_
  refine n_iinc (v := 3) dX12_init_153 0 rfl rfl (by decide) rfl ?_
  refine n_goto (tgt := 141) dX12_init_156 rfl ?_
  refine n_iload_n dX12_init_141 0 rfl ?_
  refine n_iconst (v := 4) dX12_init_142 rfl ?_
  refine n_icmp_ge_f (tgt := 159) dX12_init_143 rfl (by decide) ?_
  refine n_aload_n dX12_init_146 1 rfl ?_
  refine n_get (q := 0) (j := 141) fl_X12_17 rfl rfl rfl dX12_init_147 ?_
  refine n_iload_n dX12_init_150 0 rfl ?_
  refine n_iconst (v := -1) dX12_init_151 rfl ?_
  refine n_iast (q := 2) (j := 143) rfl rfl (by unfold vp_in; decide) dX12_init_152 ?_
  refine n_cs (cs' := [.inr (11, [.int 0, .int 0, .long 0, .long 1, .ref (gb g + 142), .ref (gb g + 143), .ref (gb g + 144), .ref (gb g + 145), .int 0, .int 0, .int (-1), .int (-1), .int 0, .int 0, .int 0, .int 0, .int 0, .int 0, .int 0, .long 0, .ref (gb g + 146), .ref (gb g + 147), .ref (gb g + 148), .ref (gb g + 149), .int 0, .int 0, .int 0, .ref (gb g + 150), .ref (gb g + 151), .ref (gb g + 152), .ref (gb g + 153), .int 0, .int 0, .ref (gb g + 154), .int 0, .int 0, .int 0, .int 0, .ref (gb g + 155), .ref (gb g + 156), .int 0, .int 0, .int 0, .int 0, .int 0, .int 0, .int 0, .int 0, .int 0]),
  .inl (gc g 0, 4, .inl (fun _ => 0)),
  .inl (gc g 0, 4, .inl (upd (upd (upd (upd (fun _ => 0) 0 (-1)) 1 (-1)) 2 (-1)) 3 (-1))),
  .inl (gc g 1, 240, .inr (.inl (fun _ => 0))),
  .inl (gc g 2, 900, .inl (fun _ => 0)),
  .inl (gc g 0, 2000, .inl (fun _ => 0)),
  .inl (gc g 0, 128, .inl (fun _ => 0)),
  .inl (gc g 0, 128, .inl (fun _ => 0)),
  .inl (gc g 1, 25, .inr (.inl (fun _ => 0))),
  .inl (gc g 0, 25, .inl (fun _ => 0)),
  .inl (gc g 0, 768, .inl (fun _ => 0)),
  .inl (gc g 0, 5, .inl (fun _ => 0)),
  .inl (gc g 0, 5, .inl (fun _ => 0)),
  .inl (gc g 0, 5, .inl (fun _ => 0)),
  .inl (gc g 1, 13, .inr (.inl (fun _ => 0))),
  .inl (gc g 0, 5, .inl (fun _ => 0))]) rfl ?_
  refine n_iinc (v := 4) dX12_init_153 0 rfl rfl (by decide) rfl ?_
  refine n_goto (tgt := 141) dX12_init_156 rfl ?_
  refine n_iload_n dX12_init_141 0 rfl ?_
  refine n_iconst (v := 4) dX12_init_142 rfl ?_
  refine n_icmp_ge_t (tgt := 159) dX12_init_143 rfl (by decide) ?_
  refine n_aload_n dX12_init_159 1 rfl ?_
  refine n_iconst (v := 0) dX12_init_160 rfl ?_
  refine n_callV (q := 0) (j := 141) [.int 0] [] mw_X12_68 rfl rfl (cn_empties g zs) (by decide) rfl rfl (Nat.le_of_ble_eq_true rfl) dX12_init_161 ?_
  refine n_lv [] rfl ?_
  exact n_end rfl
