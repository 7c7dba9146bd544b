/-! ===== the law from its entry ===== -/
def cdW (j : Nat) : Cond := .eq (.elem (.static "SumsNightwatch" "WAY_TO_PLACE" "[I") (.int (Int32.ofNat j))) (.int (xW j))
def cdT (j : Nat) : Cond := .eq (.elem (.static "SumsNightwatch" "TENS" "[I") (.int (Int32.ofNat j))) (.int (xT j))
def cdS (j : Nat) : Cond := .eq (.elem (.field (.string "SumsNightwatch$Tape" 26) "java/lang/String" "value" "[B") (.int (Int32.ofNat j))) (.int (([TXL].getD 0 []).getD j 0))
def flN : List Cond := flatC (Jvm.Cond.and given_1 narrow_1)
theorem fl_W : ∀ j, j < 5 → cdW j ∈ flN := by decide +kernel
theorem fl_T : ∀ j, j < 6 → cdT j ∈ flN := by decide +kernel
theorem fl_Si : ∀ j, j < 149 → flN[54 + j]? = some (cdS j) := by decide +kernel
theorem fl_S : ∀ j, j < 149 → cdS j ∈ flN := fun j hj => List.mem_of_getElem? (fl_Si j hj)
theorem ln_X11 (g : GG) : (r_X11_init g).length = 141 := by
  unfold r_X11_init
  simp only [List.length_cons, List.length_nil, List.length_append, ln_X10, ln_T, ln_X1, ln_X6, ln_X0, ln_X5, ln_X8, ln_X7, ln_X4]
theorem fl_1 : (Cond.arrayOf (.static "SumsNightwatch" "WAY_TO_PLACE" "[I") .int) ∈ flN := by decide +kernel
theorem fl_2 : (Cond.eq (.length (.static "SumsNightwatch" "WAY_TO_PLACE" "[I")) (.int (Int32.ofNat 5))) ∈ flN := by decide +kernel
theorem fl_3 : (Cond.arrayOf (.static "SumsNightwatch" "TENS" "[I") .int) ∈ flN := by decide +kernel
theorem fl_4 : (Cond.eq (.length (.static "SumsNightwatch" "TENS" "[I")) (.int (Int32.ofNat 6))) ∈ flN := by decide +kernel
theorem fl_5 : (Cond.exactly (.string "SumsNightwatch$Tape" 26) "java/lang/String") ∈ flN := by decide +kernel
theorem fl_6 : (Cond.eq (.field (.string "SumsNightwatch$Tape" 26) "java/lang/String" "coder" "B") (.int 0)) ∈ flN := by decide +kernel
theorem fl_7 : (Cond.arrayOf (.field (.string "SumsNightwatch$Tape" 26) "java/lang/String" "value" "[B") .byte) ∈ flN := by decide +kernel
theorem fl_8 : (Cond.eq (.length (.field (.string "SumsNightwatch$Tape" 26) "java/lang/String" "value" "[B")) (.int (Int32.ofNat 149))) ∈ flN := by decide +kernel
theorem fl_9 : (Cond.eq (.static "java/lang/String" "COMPACT_STRINGS" "Z") (.int 1)) ∈ flN := by decide +kernel
theorem fl_10 : (Cond.isRef (.static "jdk/internal/util/Preconditions" "SIOOBE_FORMATTER" "Ljava/util/function/BiFunction;")) ∈ flN := by decide +kernel
theorem start_SK {s : State} {b : Nat} {g : GG} (hg : gb g = s.heap.size) (hts : ∀ w ∈ lw_tbl, w.before #[Value.ref b] s = true) (hs : ∀ w ∈ flN, w.before #[Value.ref b] s = true) : ∃ zs : Nat × Nat, SK g zs s s.heap := by
  have hA : ∀ a : Nat, a < s.heap.size → ¬ gA g a := fun a h z => by have z2 : gb g ≤ a := z; omega
  obtain ⟨adK, adV, ⟨h1, -⟩, h2⟩ := vk_Sof (args := #[Value.ref b]) (s := s) (N := 1) (tm := fun _ => .string "SumsNightwatch$Tape" 26) (len := [149]) (byt := [TXL]) (A := gA g) (fun i hi => by
      have e : i = 0 := by omega
      subst e
      decide) (fun i _ => hs _ fl_5) (fun i _ => hs _ fl_6) (fun i _ => hs _ fl_7) (fun i hi => by
      have e : i = 0 := by omega
      subst e
      exact hs _ fl_8) (fun i hi j hj => by
      have e : i = 0 := by omega
      subst e
      exact hs _ (fl_S j hj)) (fun i j hi hj hij => absurd hij (by omega)) hA
  obtain ⟨q1, q2, q3, q4⟩ := h1 0 (by omega)
  refine ⟨(adK 0, adV 0), ⟨va_AO.of (hts _ (tb2 120 rfl)), va_AO.of (hts _ (tb2 121 rfl)), hts _ (tb2 129 rfl), hts _ (tb1 37 rfl)⟩, vk_R.of (hts _ (tb1 61 rfl)) (h2 0 (by omega)), ⟨q1, q2, q3, q4⟩, ?_, ?_⟩
  · exact va_Zof (hts _ (tb1 71 rfl)) (hts _ (tb1 5 rfl)) (va_eqt (hs _ fl_9)) hA
  · exact va_Zqof (hts _ (tb1 87 rfl)) (hts _ (tb1 7 rfl)) (hs _ fl_10) hA
theorem isN_tab {w : Cond} (h : lw_isN w = true) : w.onTables = true := by
  cases w <;> first | rfl | (cases h; done)
theorem start_ZK {s : State} {b : Nat} (l : Launch) (D : va_G) (gcf : Nat → ClassId) (hts : ∀ w ∈ lw_tbl, w.before #[Value.ref b] s = true) (hs : ∀ w ∈ flN, w.before #[Value.ref b] s = true) : ∃ tW tT : Nat, ZK (l, D, gcf, s.heap.size, tW, tT) s s.heap := by
  obtain ⟨tW, e1, x1, l1⟩ := va_Xof (N := 5) (f := xW) (by decide) (hs _ fl_1) (va_eqt (hs _ fl_2)) (fun j hj => va_eqt (hs _ (fl_W j hj)))
  obtain ⟨tT, e2, x2, l2⟩ := va_Xof (N := 6) (f := xT) (by decide) (hs _ fl_3) (va_eqt (hs _ fl_4)) (fun j hj => va_eqt (hs _ (fl_T j hj)))
  refine ⟨tW, tT, ⟨?_, ?_⟩, ⟨x1, x2⟩, ⟨l1, l2, Nat.le_refl _⟩, fun w hw hn => va_Nw.of (isN_tab hn) (hts w hw)⟩
  · exact va_Zref (hts _ (tb4 192 rfl)) (hts _ (tb1 1 rfl)) e1 (fun a h z => by have z2 : s.heap.size ≤ a := z; omega)
  · exact va_Zref (hts _ (tb5 141 rfl)) (hts _ (tb1 1 rfl)) e2 (fun a h z => by have z2 : s.heap.size ≤ a := z; omega)
set_option maxRecDepth 100000 in
set_option maxHeartbeats 4000000 in
theorem law_begin (g : GG) (zs : Nat × Nat) (nm : String) (b : Nat) : Gn g zs RL nm cL_law 4 120 0 157 9013 0 [(0, .ref b)] [] [] (18, lvL b g 0, [], allc g) := by
  refine n_new (j := 0) (kc := 156) (ks := 8995) nw_L_7 rfl dL_law_0 ?_
  refine n_dup dL_law_3 rfl ?_
  refine n_init (kc := 16) (ks := 4304) [] [.ref (gb g + 0)] mi_L_9 (cn_X11 g zs) (by decide) rfl rfl rfl (Nat.le_of_ble_eq_true rfl) dL_law_4 ?_
  refine n_cs (cs' := r_X11_init g) (List.nil_append _) ?_
  refine n_astore_n (i := 1) (lv' := [(1, .ref (gb g + 0)), (0, .ref b)]) dL_law_7 rfl (by decide) rfl ?_
  refine n_new (j := 141) (kc := 15) (ks := 4255) nw_L_10 (by rw [ln_X11]) dL_law_8 ?_
  refine n_dup dL_law_11 rfl ?_
  refine n_init (kc := 0) (ks := 0) [] [.ref (gb g + 141)] mi_L_12 (cn_X12 g zs) (by decide) (by rw [ln_X11]) rfl rfl (Nat.le_of_ble_eq_true rfl) dL_law_12 ?_
  refine n_astore_n (i := 2) (lv' := [(2, .ref (gb g + 141)), (1, .ref (gb g + 0)), (0, .ref b)]) dL_law_15 rfl (by decide) rfl ?_
  refine n_iconst (v := nI 0) dL_law_16 rfl ?_
  refine n_istore_n (i := 3) (lv' := [(3, .int (nI 0)), (2, .ref (gb g + 141)), (1, .ref (gb g + 0)), (0, .ref b)]) dL_law_17 rfl (by decide) rfl ?_
  refine n_lv [0, 3, 2, 1] (lv' := lvL b g 0) rfl ?_
  exact n_end rfl
/-- from the entry, for every script of at most 3072 ints, the law comes to its end with true -/
theorem whole_start {p : Program} {e : Env} {s : State} {m : MethodId} {below : List Frame} {meth : Method} {c : Code} (l : Launch) {b L : Nat} {xs : Nat → Int32} (hL : L ≤ 3072) (C0 : lw_At p s m meth c b L xs) : W p l e room_1 s m #[Value.ref b] below meth c s.heap [] 0 0 (lw_Z below #[Value.ref b] s) (entryFrame m ([Value.ref b] : List Value).toArray 4) := by
  obtain ⟨hx, hb, hr, hml, hown, hts, hX, hbl, hlocks, hgv⟩ := id C0
  have hs : ∀ w ∈ flN, w.before #[Value.ref b] s = true := flat_of_before _ hgv
  have hg : ∀ w ∈ lw_good, w.before #[Value.ref b] s = true := fun w hw => hts w (List.mem_filter.mp hw).1
  obtain ⟨D, gcf, hK⟩ := va_K_start hg ⟨va_AO.of (hts _ (tb2 120 rfl)), va_AO.of (hts _ (tb2 121 rfl)), hts _ (tb2 129 rfl), hts _ (tb1 37 rfl)⟩
  obtain ⟨tW, tT, hZ⟩ := start_ZK l D gcf hts hs
  obtain ⟨g, hgd⟩ : ∃ g : GG, g = (l, D, gcf, s.heap.size, tW, tT) := ⟨_, rfl⟩
  have g1 : g.1 = l := by rw [hgd]
  have hgb : gb g = s.heap.size := by rw [hgd]; rfl
  rw [← hgd] at hZ
  have hKg : va_K (gD g) vwCl (gty g) s := by rw [hgd]; exact hK
  obtain ⟨zs, hSk⟩ := start_SK hgb hts hs
  have hC : Cx g RL cL_law 4 p s m #[Value.ref b] c := ⟨hx, hb, hml, hown, hg, hKg, hZ⟩
  have hl := lv_entry ([.ref b]) (n := 4) (Nat.le_of_ble_eq_true rfl)
  rw [lg_entry_eq]
  have hP0 : GP g 0 [] s.heap := ⟨fun k q h => by simp [LB] at h, by rw [hgb]; rfl⟩
  have hgo := law_begin g zs meth.name b p e s m #[Value.ref b] below meth c s.heap [] _ room_1 0 0 (lw_Z below #[Value.ref b] s) ⟨hC, hSk, rfl, by omega⟩ ⟨by decide, by decide, by decide, by decide⟩ hP0 va_S.rf hl
  rw [g1] at hgo
  refine hgo (fun H' locs' ls' hP' hS' hl' => ?_)
  obtain ⟨r, hloop⟩ := law_loop (sb := b) (sL := L) (sx := xs) (g := g) (F := 2000000) (Nat.le_refl _) (by omega) L 0 mu0 (by omega) (by omega) R_mu0
  have hS2 : va_S (gA g) s.heap H' locs' := vS_wk hS' gI_A
  have hq := hloop r rfl p e s m #[Value.ref b] below meth c H' locs' ls' room_1 (0 + 157) (0 + 9013) (lw_Z below #[Value.ref b] s) hC ⟨hX, by rw [hgb]; exact hbl⟩ ⟨by decide, by decide, by decide, by decide⟩ (HP_first hP') hS2 hl'
  rw [g1] at hq
  refine hq (fun H2 locs2 pc2 ls2 _ hS3 hd2 => ?_)
  refine va_forget (fun q hq => by have := hS3.2.2 q hq; rw [← hgb]; exact this) ?_
  refine W.widen (k := 600000) (n := 7302249) (by decide) (by decide) ?_
  exact lw_ret hx hb hr hlocks hd2
