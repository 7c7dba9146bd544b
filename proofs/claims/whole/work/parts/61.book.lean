/-! ===== book ===== -/
abbrev PF (a k : Nat) : Prop := (a = 141 ∧ (k ≤ 1 ∨ (8 ≤ k ∧ k ≤ 19) ∨ k = 25)) ∨ (a = 146 ∧ 1600 ≤ k) ∨ (a = 149 ∧ 20 ≤ k)
section BOOK
variable {μ : Mm} {F : Nat}
theorem bk0_PI {n : Nat} : PI n ((0, bk0, fun _ => 0, fun _ => false) : BS) := by
  have z : ∀ j, 5 ≤ j → bk0 j = 0 := fun j hj => by unfold bk0; rw [if_neg (by omega), if_neg (by omega), if_neg (by omega)]
  refine ⟨by show 0 ≤ n; omega, ?_, rfl, rfl, fun k hk => z _ (by omega), fun k hk => z _ (by omega)⟩
  refine ⟨⟨by decide, by decide, by decide, by decide, by decide, by decide, by decide, by decide, Or.inr ⟨rfl, rfl⟩⟩, fun a ha => ?_, fun k hk => ⟨?_, ?_, ?_⟩, fun l hl => ⟨?_, ?_, ?_, ?_⟩⟩
  · show bk0 (8 + a) ≤ 1; rw [z _ (by omega)]; omega
  · show bk0 (13 + k) ≤ 9; rw [z _ (by omega)]; omega
  · show bk0 (38 + k) ≤ 9; rw [z _ (by omega)]; omega
  · show bk0 (63 + k) ≤ 9; rw [z _ (by omega)]; omega
  · show bk0 (88 + l) ≤ 9; rw [z _ (by omega)]; omega
  · show bk0 (98 + l) ≤ 9; rw [z _ (by omega)]; omega
  · show bk0 (108 + l) ≤ 4; rw [z _ (by omega)]; omega
  · show bk0 (118 + l) ≤ 9; rw [z _ (by omega)]; omega
theorem M_empties4 (hF : 2000000 ≤ F) : ∃ ν, f_X12_empties F 4 μ = some ν ∧ CN ν bk0 ∧ Ag (fun a i => a = 146 ∧ 1600 ≤ i) μ ν := by
  unfold f_X12_empties
  have lp : ∀ KK : Mm → Option Mm, L_X12_empties_8 F ((400 : Int32) * 4) KK F 0 μ = KK (putA μ 146 (fun _ => 0) 1600 400) := by
    intro KK
    rw [show (400 : Int32) * 4 = nI 1600 by decide]
    refine iter2 (L := L_X12_empties_8 F (nI 1600) KK) (fun i => nI i) (fun i => putA μ 146 (fun _ => 0) 1600 i) (N := 400) (by omega) (fun i hi n => ?_) (fun n => ?_)
    · rw [L_X12_empties_8_s, putA_n]
      simp (disch := omega) only [Option.bind_some, bd_some, eqL, leL, ltL, Lle, Llt, addL, Ladd, Lmul, mulL, nIle, nIlt, nIeq, nI_add, pk_mul, wrA_n]
      rw [if_neg (by omega)]
    · rw [L_X12_empties_8_s]
      simp (disch := omega) only [Option.bind_some, bd_some, eqL, leL, ltL, Lle, Llt, addL, Ladd, Lmul, mulL, nIle, nIlt, nIeq, nI_add, pk_mul]
      rw [if_pos (by omega)]
  have A0 : Ag (fun a i => a = 146 ∧ 1600 ≤ i) μ (putA μ 146 (fun _ => 0) 1600 400) := putA_ag (fun k h1 h2 => ⟨rfl, h1⟩)
  have C0 : CN (putA μ 146 (fun _ => 0) 1600 400) (fun _ => 0) := fun k hk => by rw [putA_mA, if_pos (by omega)]; rfl
  obtain ⟨ν1, a1, a2, a3⟩ := CN_wr C0 (k := 2) (by omega) (v := (400 : Int32) * 4 + 2) (w := 3) (x := 3) (by decide) rfl
  obtain ⟨ν2, b1, b2, b3⟩ := CN_wr a2 (k := 3) (by omega) (v := (400 : Int32) * 4 + 3) (w := 2) (x := 2) (by decide) rfl
  obtain ⟨ν3, c1, c2, c3⟩ := CN_wr b2 (k := 4) (by omega) (v := (400 : Int32) * 4 + 4) (w := 2) (x := 2) (by decide) rfl
  refine ⟨ν3, ?_, ?_, ((A0.tr a3).tr b3).tr c3⟩
  · rw [lp, a1, Option.bind_some, b1, Option.bind_some, c1]
    rfl
  · intro k hk
    rw [c2 k hk]
    congr 1
    unfold updN bk0
    by_cases z4 : k = 4
    · subst z4; rfl
    · rw [if_neg z4]
      by_cases z3 : k = 3
      · subst z3; rfl
      · rw [if_neg z3]
        by_cases z2 : k = 2
        · subst z2; rfl
        · rw [if_neg z2, if_neg z2, if_neg z3, if_neg z4]
theorem M_truths {β : Nat → Nat} (C : CN μ β) (hF : 2000000 ≤ F) (KK : Mm → Option (Int32 × Mm)) : ∃ ν, L_X12_book_75 F KK F 0 μ = KK ν ∧ CN ν (trB β) ∧ Ag (fun a i => a = 146 ∧ 1600 ≤ i) μ ν := by
  let md : Nat → Nat → Nat := fun i j => if 38 ≤ j ∧ j < 38 + i then β (j - 25) else β j
  have step : ∀ i v ν, i < 25 → (v = nI i ∧ CN ν (md i) ∧ Ag (fun a i => a = 146 ∧ 1600 ≤ i) μ ν) → ∃ v' ν', (v' = nI (i + 1) ∧ CN ν' (md (i + 1)) ∧ Ag (fun a i => a = 146 ∧ 1600 ≤ i) μ ν') ∧ ∀ n, L_X12_book_75 F KK (n + 1) v ν = L_X12_book_75 F KK n v' ν' := by
    rintro i v ν hi ⟨rfl, c1, a1⟩
    have h13 : md i (13 + i) = β (13 + i) := if_neg (by omega)
    have r1 : rdA ν 146 2000 ((1613 : Int32) + nI i) = some (nI (β (13 + i))) := by
      rw [← h13]
      exact CN_rd c1 (by omega) (by rw [Ladd]; show nI (1613 + i) = _; congr 1; omega)
    obtain ⟨ν2, x1, x2, x3⟩ := CN_wr c1 (k := 38 + i) (by omega) (v := (1638 : Int32) + nI i) (w := nI (β (13 + i))) (x := β (13 + i)) (by rw [Ladd]; show nI (1638 + i) = _; congr 1; omega) rfl
    refine ⟨nI (i + 1), ν2, ⟨rfl, fun k hk => ?_, a1.tr x3⟩, fun n => ?_⟩
    · rw [x2 k hk]
      congr 1
      show (if k = 38 + i then β (13 + i) else (if 38 ≤ k ∧ k < 38 + i then β (k - 25) else β k)) = (if 38 ≤ k ∧ k < 38 + (i + 1) then β (k - 25) else β k)
      by_cases z : k = 38 + i
      · rw [if_pos z, if_pos (by omega), z, show 38 + i - 25 = 13 + i by omega]
      · rw [if_neg z]
        by_cases y : 38 ≤ k ∧ k < 38 + i
        · rw [if_pos y, if_pos (by omega)]
        · rw [if_neg y, if_neg (by omega)]
    · rw [L_X12_book_75_s, if_neg (fun z => by have z2 : 25 ≤ i := (Lle (n := 25) (by omega) (by decide)).mp z; omega), r1, Option.bind_some, x1, Option.bind_some, nI_1]
  obtain ⟨v, ν, n, ⟨y1, y2, y3⟩, ee⟩ := iterI2 (L := L_X12_book_75 F KK) (F := F) (N := 25) _ (by omega) step (a := 0) (b := μ) ⟨rfl, fun k hk => by rw [C k hk]; congr 1; exact (if_neg (by omega)).symm, Ag.rf⟩
  refine ⟨ν, ?_, fun k hk => ?_, y3⟩
  · rw [ee, L_X12_book_75_s, y1, if_pos (by decide)]
  · rw [y2 k hk]
    rfl
theorem trB_wf {β : Nat → Nat} (w : WF β) : WF (trB β) := by
  have lo : ∀ j, j < 38 → trB β j = β j := fun j hj => by unfold trB; rw [if_neg (by omega)]
  have hi : ∀ j, 63 ≤ j → trB β j = β j := fun j hj => by unfold trB; rw [if_neg (by omega)]
  have hcl : cl (trB β) = cl β := by unfold cl; rw [lo 0 (by omega), lo 2 (by omega)]
  obtain ⟨⟨w0, w1, w2, w3, w4, w5, w6, w7, w8⟩, wk, wd, wl⟩ := id w
  refine ⟨⟨by rw [lo 0 (by omega)]; exact w0, by rw [lo 2 (by omega)]; exact w1, by rw [lo 2 (by omega)]; exact w2, by rw [lo 1 (by omega)]; exact w3, by rw [lo 3 (by omega)]; exact w4, by rw [lo 3 (by omega)]; exact w5, by rw [lo 4 (by omega)]; exact w6, by rw [lo 5 (by omega)]; exact w7, by rw [hcl, lo 7 (by omega), lo 0 (by omega)]; exact w8⟩, ?_, ?_, ?_⟩
  · intro a ha; rw [lo _ (by omega)]; exact wk a ha
  · intro k hk
    obtain ⟨d1, d2, d3⟩ := wd k hk
    refine ⟨by rw [lo _ (by omega)]; exact d1, ?_, by rw [hi _ (by omega)]; exact d3⟩
    unfold trB
    rw [if_pos (by omega), show 38 + k - 25 = 13 + k by omega]
    exact d1
  · intro l hl; rw [hi _ (by omega), hi _ (by omega), hi _ (by omega), hi _ (by omega)]; exact wl l hl
theorem M_book (hF : 2000000 ≤ F) {m n : Nat} (hm : m ≤ 900) (hn : n ≤ m) (h8 : mI μ 141 8 = nI m) {U : Nat → Nat} (hU : ∀ k, k < n → mB μ 145 k &&& 255 = nI (U k) ∧ U k < 256) : ∃ ζ, mI ζ 141 8 = nI 0 ∧ ((∃ f, bkS U n (n + 1) (0, bk0, fun _ => 0, fun _ => false) = .inl f ∧ f_X12_book F (nI n) μ = some (-1, ζ) ∧ mI ζ 141 0 = 10 ∧ mI ζ 141 10 = nI f.1 ∧ mI ζ 141 11 = nI f.2 ∧ Ag PF μ ζ) ∨ (∃ s, bkS U n (n + 1) (0, bk0, fun _ => 0, fun _ => false) = .inr s ∧ f_X12_book F (nI n) μ = some (nI (s.2.1 0), ζ) ∧ mI ζ 141 0 = 0 ∧ mI ζ 141 10 = 0 ∧ mI ζ 141 11 = -1 ∧ (∀ k, k < 400 → mA ζ 146 k = nI (trB s.2.1 k)) ∧ (∀ a, a < s.2.1 0 → mL ζ 149 a = s.2.2.1 a) ∧ Ag (fun a k => PF a k ∨ (a = 146 ∧ k < 400) ∨ (a = 149 ∧ k < 5)) μ ζ)) := by
  obtain ⟨μ1, hμ1⟩ : ∃ μ1, μ1 = sI (sI (sI (sI (sI (sI μ 141 1 0) 141 0 0) 141 9 (nI n)) 141 8 0) 141 16 0) 141 12 0 := ⟨_, rfl⟩
  have A1 : Ag PF μ μ1 := by
    rw [hμ1]
    exact (((((Ag.sI (by omega)).tr (Ag.sI (by omega))).tr (Ag.sI (by omega))).tr (Ag.sI (by omega))).tr (Ag.sI (by omega))).tr (Ag.sI (by omega))
  have T0 : TkM0 μ1 U n := ⟨by omega, by rw [hμ1]; rfl, fun k hk => by rw [A1.b (by omega)]; exact hU k hk⟩
  obtain ⟨ν1, x1, x2, x3⟩ := M_advance (p := 0) T0 hF (by omega) (by rw [hμ1]; rfl)
  have st : f_X12_starts F (nI n) 900 (sI (sI μ 141 1 0) 141 0 0) = some (true, ν1) := by
    have m8 : mI (sI (sI μ 141 1 0) 141 0 0) 141 8 = nI m := h8
    unfold f_X12_starts
    rw [if_neg (nI_n0 (by omega)), m8, if_neg (fun z => by have := (nIlt (by omega) (by omega)).mp z; omega), if_pos ((leL (n := 900) (by omega) (by decide)).mpr (by show n ≤ 900; omega)), ← hμ1, x1]
    rfl
  obtain ⟨ν2, y1, y2, y3⟩ := M_empties4 (μ := ν1) hF
  obtain ⟨ν3, hν3⟩ : ∃ ν3, ν3 = sI ν2 141 25 0 := ⟨_, rfl⟩
  have A3 : Ag (fun a k => a = 141 ∧ k = 25) ν2 ν3 := by rw [hν3]; exact Ag.sI ⟨rfl, rfl⟩
  have T01 := TkM0_ag (TkM0_ag T0 x3 (by omega) (fun k => by omega)) y3 (by omega) (fun k => by omega)
  have g : GM U n (0, bk0, fun _ => 0, fun _ => false) ν3 := by
    refine ⟨TkM0_ag T01 A3 (by omega) (fun k => by omega), TkM_ag (TkM_ag x2 y3 (fun k h1 h2 => by omega)) A3 (fun k h1 h2 => by omega), CN_ag y2 A3 (fun k hk => by omega), fun a ha => by have : a < 0 := ha; omega, ?_⟩
    have : mI ν3 141 25 = 0 := by rw [hν3]; rfl
    rw [this]
    exact ⟨bit_z (by omega), bit_z (by omega), bit_z (by omega), bit_z (by omega)⟩
  have b3 : mI ν3 141 12 = 0 := by rw [A3.i (by omega), y3.i (by omega), x3.i (by omega), hμ1]; rfl
  have A13 : Ag PF μ ν3 := ((A1.tr (x3.mono (fun a k q => by omega))).tr (y3.mono (fun a k q => by omega))).tr (A3.mono (fun a k q => by omega))
  obtain ⟨ν4, z1, z2, z3⟩ := M_bookL (F := F) (U := U) (e := n) hF (K := fun μ10 => bd (f_X12_isWell μ10) fun x11 μ12 => (if x11 = true then L_X12_book_75 F (fun μ15 => (f_X12_copy F 4 0 μ15).bind fun μ17 => (rdA μ17 146 2000 0).bind fun x18 => some (x18, μ17)) F 0 μ12 else some ((-1), μ12))) (n + 1) F (0, bk0, fun _ => 0, fun _ => false) ν3 (by show n - 0 < n + 1; omega) (by omega) g b3 bk0_PI
  have A4 : Ag PF μ ν4 := A13.tr (z3.mono (fun a k q => by omega))
  have pre : f_X12_book F (nI n) μ = bd (f_X12_isWell ν4) fun x11 μ12 => (if x11 = true then L_X12_book_75 F (fun μ15 => (f_X12_copy F 4 0 μ15).bind fun μ17 => (rdA μ17 146 2000 0).bind fun x18 => some (x18, μ17)) F 0 μ12 else some ((-1), μ12)) := by
    unfold f_X12_book
    rw [st, bd_some, if_pos rfl, y1, Option.bind_some, ← hν3, z1]
  have s8 : mI ν4 141 8 = nI 0 := by rw [z3.i (by omega), A3.i (by omega), y3.i (by omega), x3.i (by omega), hμ1]; rfl
  have s0 : mI ν4 141 0 = 0 := by rw [z3.i (by omega), A3.i (by omega), y3.i (by omega), x3.i (by omega), hμ1]; rfl
  cases hB : bkS U n (n + 1) (0, bk0, fun _ => 0, fun _ => false) with
  | inl f =>
    rw [hB] at z2
    have hb := MO_bad z2
    have iw : f_X12_isWell ν4 = some (false, sI (sI (sI ν4 141 10 (nI f.1)) 141 11 (nI f.2)) 141 0 10) := by
      unfold f_X12_isWell
      have e12 : mI (sI ν4 141 10 (mI ν4 141 12)) 141 12 = mI ν4 141 12 := rfl
      have e13 : mI (sI ν4 141 10 (mI ν4 141 12)) 141 13 = nI f.2 := z2.2.1
      rw [e12, if_neg hb.1, e13]
      have e12b : mI (sI (sI ν4 141 10 (mI ν4 141 12)) 141 11 (nI f.2)) 141 12 = mI ν4 141 12 := rfl
      rw [e12b, if_neg hb.1, z2.1]
      rfl
    refine ⟨sI (sI (sI ν4 141 10 (nI f.1)) 141 11 (nI f.2)) 141 0 10, s8, Or.inl ⟨f, rfl, ?_, rfl, rfl, rfl, ((A4.tr (Ag.sI (by omega))).tr (Ag.sI (by omega))).tr (Ag.sI (by omega))⟩⟩
    rw [pre, iw, bd_some, if_neg (by decide)]
  | inr s =>
    rw [hB] at z2
    obtain ⟨b4, g4, p4⟩ := z2
    have iw : f_X12_isWell ν4 = some (true, sI (sI ν4 141 10 0) 141 11 (-1)) := by
      unfold f_X12_isWell
      have e12 : mI (sI ν4 141 10 (mI ν4 141 12)) 141 12 = 0 := b4
      rw [e12, if_pos rfl, b4]
      have e12b : mI (sI (sI ν4 141 10 0) 141 11 (-1)) 141 12 = 0 := b4
      rw [e12b, if_pos rfl]
    obtain ⟨ν5, hν5⟩ : ∃ ν5, ν5 = sI (sI ν4 141 10 0) 141 11 (-1) := ⟨_, rfl⟩
    have A5 : Ag (fun a k => a = 141 ∧ (k = 10 ∨ k = 11)) ν4 ν5 := by rw [hν5]; exact (Ag.sI ⟨rfl, Or.inl rfl⟩).tr (Ag.sI ⟨rfl, Or.inr rfl⟩)
    obtain ⟨ν6, w1, w2, w3⟩ := M_truths (CN_ag g4.2.2.1 A5 (fun k hk => by omega)) hF (fun μ15 => (f_X12_copy F 4 0 μ15).bind fun μ17 => (rdA μ17 146 2000 0).bind fun x18 => some (x18, μ17))
    have mc := M_copy (F := F) (μ := ν6) (m := 4) (m' := 0) (by omega) (by omega) (by omega) hF
    obtain ⟨ζ, hζ⟩ : ∃ ζ, ζ = putL (putA ν6 146 (cpyA ν6 4 0) (400 * 0) 400) 149 (cpyL ν6 4 0) (5 * 0) 5 := ⟨_, rfl⟩
    rw [← hζ] at mc
    have A7 : Ag (fun a k => (a = 146 ∧ k < 400) ∨ (a = 149 ∧ k < 5)) ν6 ζ := by rw [hζ]; exact cp_ag.mono (fun a k q => by omega)
    have cA : ∀ k, k < 400 → mA ζ 146 k = nI (trB s.2.1 k) := fun k hk => by
      have := cp_A (μ := ν6) (m := 4) (m' := 0) hk
      rw [← hζ, show 400 * 0 + k = k by omega] at this
      rw [this]
      exact w2 k hk
    have r0 : rdA ζ 146 2000 0 = some (nI (s.2.1 0)) := by
      have : rdA ζ 146 2000 (nI 0) = some (mA ζ 146 0) := rdA_n (by omega) (by omega)
      rw [cA 0 (by omega)] at this
      exact this
    have w0 := p4.2.1.1.1
    refine ⟨ζ, ?_, Or.inr ⟨s, rfl, ?_, ?_, ?_, ?_, cA, fun a ha => ?_, ?_⟩⟩
    · rw [A7.i (by omega), w3.i (by omega), A5.i (by omega)]; exact s8
    · rw [pre, iw, bd_some, if_pos rfl, ← hν5, w1, show f_X12_copy F 4 0 ν6 = some ζ from mc, Option.bind_some, r0]
      rfl
    · rw [A7.i (by omega), w3.i (by omega), A5.i (by omega)]; exact s0
    · rw [A7.i (by omega), w3.i (by omega), hν5]; rfl
    · rw [A7.i (by omega), w3.i (by omega), hν5]; rfl
    · have := cp_L (μ := ν6) (m := 4) (m' := 0) (k := a) (by omega)
      rw [← hζ, show 5 * 0 + a = a by omega] at this
      rw [this, w3.l (by omega), A5.l (by omega)]
      exact g4.2.2.2.1 a ha
    · exact (((A4.mono (fun a k q => Or.inl q)).tr (A5.mono (fun a k q => by omega))).tr (w3.mono (fun a k q => by omega))).tr (A7.mono (fun a k q => Or.inr q))
set_option maxHeartbeats 4000000 in
theorem op_book (h : R μ) (hF : 2000000 ≤ F) (v : Int32) : Sm (f_X11_book F v) (f_X12_book F v) μ := by
  obtain ⟨m, tm1, tm2, tm3, tm4⟩ := h.tp
  have hrp := h.rp
  have hrn := h.rn
  unfold RefP at hrp
  unfold RefN at hrn
  by_cases v0 : v < 0
  · refine h.q 5 (-1) (by unfold f_X11_book; rw [if_pos v0]; rfl) ?_
    unfold f_X12_book f_X12_starts
    rw [if_pos v0]
    exact QM_r
  · obtain ⟨n, hn0, rfl⟩ := nI_of v0
    by_cases hn : n ≤ m
    · -- the text is read
      obtain ⟨ν, A, many0, res⟩ := X_fill (μ := μ) (F := F) (b := mR μ 1) (m := m) (n := n) (by omega) hF tm1 hn tm2 (fun k hk => (tm4 k hk).2) h.sw
      have g1 := h.gb1
      have pre : f_X11_book F (nI n) μ = bd (f_X1_fill F (mR μ 1) (nI n) μ) fun x5 μ6 => (if x5 = true then (gBk (mR μ6 0)).bind fun b7 => (gBk (mR μ6 1)).bind fun b9 => (gNt (mR (sR (sR μ6 0 b9) 1 b7) 2)).bind fun b11 => (f_X5_empty b11 (sR (sR μ6 0 b9) 1 b7)).bind fun μ14 => (gBk (mR μ14 0)).bind fun b15 => bd (f_X11_answer (mI μ14 b15 3) μ14) fun x17 μ18 => some (x17, μ18) else bd (f_X11_refuse 10 μ6) fun x19 μ20 => some (x19, μ20)) := by
        unfold f_X11_book
        rw [if_neg v0, tm2, if_pos ((nIle (by omega) (by omega)).mpr hn), g1, Option.bind_some]
      have hU : ∀ ξ : Mm, (∀ k, mB ξ 145 k = mB μ 145 k) → ∀ k, k < n → mB ξ 145 k &&& 255 = nI (uB (mB μ 10 k)) ∧ uB (mB μ 10 k) < 256 := fun ξ hξ k hk => by
        have hb := by_of (tm4 k (by omega)).2
        rw [hξ k, ← (tm4 k (by omega)).1]
        exact ⟨hb.2.1, hb.1⟩
      rcases res with ⟨f, r1, r2, r3, r4⟩ | ⟨s, r1, r2, r3, r4, r5, r6, r7⟩
      · -- a fault
        have A1 : Ag (fun a k => (a = 9 ∧ 1 ≤ k) ∨ (a = 12 ∧ k = 1) ∨ (mR μ 1 ≤ a ∧ a < mR μ 1 + 11) ∨ (a = 0 ∧ k = 0)) μ (sI ν 0 0 10) := (A.mono (fun a k q => by
          rcases q with q | q | q
          · exact Or.inl q
          · exact Or.inr (Or.inl q)
          · exact Or.inr (Or.inr (Or.inl q)))).tr (Ag.sI (Or.inr (Or.inr (Or.inr ⟨rfl, rfl⟩))))
        obtain ⟨ζ, z8, z⟩ := M_book (μ := sI ν 0 0 10) (F := F) hF tm1 hn (by rw [A1.i (by omega)]; exact tm3) (U := fun k => uB (mB μ 10 k)) (hU _ (fun k => A1.b (by omega)))
        rcases z with ⟨f', q1, q2, q3, q4, q5, q6⟩ | ⟨s, q1, -⟩
        · rw [r1] at q1
          cases q1
          have A0 : Ag (fun a k => ((a = 9 ∧ 1 ≤ k) ∨ (a = 12 ∧ k = 1) ∨ (mR μ 1 ≤ a ∧ a < mR μ 1 + 11) ∨ (a = 0 ∧ k = 0)) ∨ PF a k) μ ζ := (A1.mono (fun a k q => Or.inl q)).tr (q6.mono (fun a k q => Or.inr q))
          refine ⟨-1, _, ζ, by rw [pre, r2, bd_some, if_neg (by decide)]; rfl, q2, ?_⟩
          have e0 : mI ζ 0 0 = 10 := by rw [q6.i (by omega)]; rfl
          refine ⟨rp_ag h.rp A0, rn_ag h.rn A0, rt_ag h.rt A0, by rw [e0, q3], eq_agJ h.top A0 (by omega) (by omega), eq_agJ h.bot A0 (by omega) (by omega), tr_ag h.tr A0 (fun a k q => by omega), ⟨0, by omega, ?_, z8, fun k hk => by omega⟩, ?_, ?_, sw_ag h.sw A0 (fun k => by omega), pg_ag h.pg A0 (fun i hi k => by omega) (fun k hk => by omega) (fun j hj k => by omega) (fun a ha => by omega), mk_ag h.mk A0 (by omega) (by omega) (fun a k h1 h2 => by omega) (fun k h1 h2 => by omega) (fun k h1 h2 => by omega), lv_ag h.lv A0 (fun k h1 h2 => by omega) (by omega) (fun k => by omega)⟩
          · rw [q6.i (by omega)]; exact many0
          · rw [q4, q6.i (by omega)]; exact r3
          · rw [q5, q6.i (by omega)]; exact r4
        · rw [r1] at q1; cases q1
      · -- a book
        obtain ⟨ν2, hν2⟩ : ∃ ν2, ν2 = sI (sI (sI (sI (sR (sR ν 0 (mR μ 1)) 1 (mR μ 0)) (mR μ 2) 0 0) (mR μ 2) 1 0) (mR μ 2) 2 0) 0 0 0 := ⟨_, rfl⟩
        have gn := h.gn
        have w := r5.2.1
        have w0 := w.1.1
        have gb := h.gb
        have hX : f_X11_book F (nI n) μ = some (nI (s.2.1 0), ν2) := by
          rw [pre, r2, bd_some, if_pos rfl, A.2, gb, Option.bind_some, g1, Option.bind_some]
          have m2 : mR (sR (sR ν 0 (mR μ 1)) 1 (mR μ 0)) 2 = mR μ 2 := by
            show mR ν 2 = _
            rw [A.2]
          rw [m2, gn, Option.bind_some]
          unfold f_X5_empty
          rw [if_pos (Or.inl rfl), Option.bind_some]
          have m0 : mR (sI (sI (sI (sR (sR ν 0 (mR μ 1)) 1 (mR μ 0)) (mR μ 2) 0 0) (mR μ 2) 1 0) (mR μ 2) 2 0) 0 = mR μ 1 := rfl
          rw [m0, g1, Option.bind_some]
          have a3 : mI (sI (sI (sI (sR (sR ν 0 (mR μ 1)) 1 (mR μ 0)) (mR μ 2) 0 0) (mR μ 2) 1 0) (mR μ 2) 2 0) (mR μ 1) 3 = nI (s.2.1 0) := by
            rw [mI_ne (by omega), mI_ne (by omega), mI_ne (by omega)]
            have := r6.acc
            unfold trB at this
            exact this
          rw [a3, hν2]
          rfl
        have An : Ag (fun a k => (a = 9 ∧ 1 ≤ k) ∨ (a = 12 ∧ k = 1) ∨ (mR μ 1 ≤ a ∧ a < mR μ 1 + 11) ∨ (a = 0 ∧ k = 0) ∨ (a = mR μ 2 ∧ k < 3)) μ (wR ν2 (mR μ)) := by
          have q1 : Ag (fun a k => (a = 9 ∧ 1 ≤ k) ∨ (a = 12 ∧ k = 1) ∨ (mR μ 1 ≤ a ∧ a < mR μ 1 + 11) ∨ (a = 0 ∧ k = 0) ∨ (a = mR μ 2 ∧ k < 3)) ν (sI (sI (sI (sI ν (mR μ 2) 0 0) (mR μ 2) 1 0) (mR μ 2) 2 0) 0 0 0) := (((Ag.sI (Or.inr (Or.inr (Or.inr (Or.inr ⟨rfl, by omega⟩))))).tr (Ag.sI (Or.inr (Or.inr (Or.inr (Or.inr ⟨rfl, by omega⟩)))))).tr (Ag.sI (Or.inr (Or.inr (Or.inr (Or.inr ⟨rfl, by omega⟩)))))).tr (Ag.sI (Or.inr (Or.inr (Or.inr (Or.inl ⟨rfl, rfl⟩)))))
          have q2 := (A.mono (Q := fun a k => (a = 9 ∧ 1 ≤ k) ∨ (a = 12 ∧ k = 1) ∨ (mR μ 1 ≤ a ∧ a < mR μ 1 + 11) ∨ (a = 0 ∧ k = 0) ∨ (a = mR μ 2 ∧ k < 3)) (fun a k q => by
            rcases q with q | q | q
            · exact Or.inl q
            · exact Or.inr (Or.inl q)
            · exact Or.inr (Or.inr (Or.inl q)))).tr q1
          rw [hν2]
          exact ⟨q2.1, rfl⟩
        have b145 : ∀ k, mB ν2 145 k = mB μ 145 k := fun k => An.b (by omega)
        have i8 : mI ν2 141 8 = nI m := by rw [show mI ν2 141 8 = mI μ 141 8 from An.i (by omega)]; exact tm3
        obtain ⟨ζ, z8, z⟩ := M_book (μ := ν2) (F := F) hF tm1 hn i8 (U := fun k => uB (mB μ 10 k)) (hU _ b145)
        rcases z with ⟨f', q1, -⟩ | ⟨s', q1, q2, q3, q4, q5, q6, q7, q8⟩
        · rw [r1] at q1; cases q1
        · rw [r1] at q1
          cases q1
          refine ⟨nI (s.2.1 0), ν2, ζ, hX, q2, ?_⟩
          have A0 : Ag (fun a k => ((a = 9 ∧ 1 ≤ k) ∨ (a = 12 ∧ k = 1) ∨ (mR μ 1 ≤ a ∧ a < mR μ 1 + 11) ∨ (a = 0 ∧ k = 0) ∨ (a = mR μ 2 ∧ k < 3)) ∨ (PF a k ∨ (a = 146 ∧ k < 400) ∨ (a = 149 ∧ k < 5))) μ (wR ζ (mR μ)) := (An.mono (fun a k q => Or.inl q)).tr (ξ := wR ζ (mR μ)) ⟨(q8.mono (Q := fun a k => ((a = 9 ∧ 1 ≤ k) ∨ (a = 12 ∧ k = 1) ∨ (mR μ 1 ≤ a ∧ a < mR μ 1 + 11) ∨ (a = 0 ∧ k = 0) ∨ (a = mR μ 2 ∧ k < 3)) ∨ (PF a k ∨ (a = 146 ∧ k < 400) ∨ (a = 149 ∧ k < 5))) (fun a k q => Or.inr q)).1, rfl⟩
          have rz : ∀ i, mR ζ i = if i = 0 then mR μ 1 else if i = 1 then mR μ 0 else mR μ i := fun i => by
            rw [q8.2, hν2]
            show (if i = 1 then mR μ 0 else if i = 0 then mR μ 1 else mR ν i) = _
            rw [A.2]
            by_cases z0 : i = 0
            · subst z0; rfl
            · by_cases z1 : i = 1
              · subst z1; rfl
              · rw [if_neg z1, if_neg z0, if_neg z0, if_neg z1]
          have z00 : mR ζ 0 = mR μ 1 := by rw [rz]; rfl
          have z01 : mR ζ 1 = mR μ 0 := by rw [rz]; rfl
          have zi : ∀ i, 2 ≤ i → mR ζ i = mR μ i := fun i hi => by rw [rz, if_neg (by omega), if_neg (by omega)]
          have e0 : mI ζ 0 0 = 0 := by rw [q8.i (by omega), hν2]; rfl
          have lo : ∀ j, j < 38 → trB s.2.1 j = s.2.1 j := fun j hj => by unfold trB; rw [if_neg (by omega)]
          have hi : ∀ j, 63 ≤ j → trB s.2.1 j = s.2.1 j := fun j hj => by unfold trB; rw [if_neg (by omega)]
          have cl' : ∀ k, k < 400 → mA ζ 146 k = nI (trB s.2.1 k) := q6
          have bxζ : BX ζ (mR μ 1) (trB s.2.1) := by
            have b1 : BX ν2 (mR μ 1) (trB s.2.1) := by
              rw [hν2]
              exact r6.ag (ν := sI (sI (sI (sI ν (mR μ 2) 0 0) (mR μ 2) 1 0) (mR μ 2) 2 0) 0 0 0) (P := fun a k => (a = 0 ∧ k = 0) ∨ (a = mR μ 2 ∧ k < 3)) ((((Ag.sI (by omega)).tr (Ag.sI (by omega))).tr (Ag.sI (by omega))).tr (Ag.sI (by omega))) (fun i hi k => by omega)
            exact b1.ag q8 (fun i hi k => by omega)
          refine ⟨?_, ?_, ?_, by rw [e0, q3], eq_agJ (ν := wR ζ (mR μ)) h.top A0 (by omega) (by omega), eq_agJ (ν := wR ζ (mR μ)) h.bot A0 (by omega) (by omega), tr_ag (ν := wR ζ (mR μ)) h.tr A0 (fun a k q => by omega), ⟨0, by omega, ?_, z8, fun k hk => by omega⟩, ?_, ?_, sw_ag (ν := wR ζ (mR μ)) h.sw A0 (fun k => by omega), ?_, mk_ag (ν := wR ζ (mR μ)) h.mk A0 (by omega) (by omega) (fun a k h1 h2 => by omega) (fun k h1 h2 => by omega) (fun k h1 h2 => by omega), lv_ag (ν := wR ζ (mR μ)) h.lv A0 (fun k h1 h2 => by omega) (by omega) (fun k => by omega)⟩
          · unfold RefP; rw [z00, z01]; omega
          · unfold RefN; rw [zi 2 (by omega), zi 3 (by omega)]; exact h.rn
          · refine ⟨fun i h1 h2 => ?_, fun i j h1 h2 h3 => ?_⟩
            · rw [zi i (by omega)]; exact h.rt.1 i h1 h2
            · rw [zi i (by omega), zi j (by omega)]; exact h.rt.2 i j h1 h2 h3
          · have : mI ζ 9 1 = mI ν 9 1 := by
              rw [q8.i (by omega), hν2, mI_ne (by omega), mI_ne (by omega), mI_ne (by omega), mI_ne (by omega)]
              rfl
            rw [this]; exact many0
          · have : mI ζ 9 2 = mI ν 9 2 := by
              rw [q8.i (by omega), hν2, mI_ne (by omega), mI_ne (by omega), mI_ne (by omega), mI_ne (by omega)]
              rfl
            rw [this, q4]; exact r3
          · have : mI ζ 9 3 = mI ν 9 3 := by
              rw [q8.i (by omega), hν2, mI_ne (by omega), mI_ne (by omega), mI_ne (by omega), mI_ne (by omega)]
              rfl
            rw [this, q5]; exact r4
          · rw [z00, zi 2 (by omega)]
            refine ⟨trB s.2.1, s.2.2.1, fun j k => if j = 0 then 0 else mA ζ (mR μ 2 + j) k, fun k => mA ζ 146 (128 + k), bxζ, fun k hk => by rw [show 400 * 0 + k = k by omega]; exact cl' k (by omega), trB_wf w, ?_, fun a ha => ?_, fun a ha => ?_, fun k hk => ?_, fun j h1 h2 k hk => ?_, fun k hk => ?_, Or.inl ⟨rfl, ?_⟩⟩
            · rw [lo 5 (by omega), r5.2.2.1]; omega
            · rw [lo 0 (by omega)] at ha
              have : mL ζ (mR μ 1 + 7) a = mL ν (mR μ 1 + 7) a := by
                rw [q8.l (by omega), hν2]
                rfl
              rw [this]
              exact r7 a ha
            · rw [lo 0 (by omega)] at ha
              rw [show 5 * 0 + a = a by omega]
              exact q7 a ha
            · show mI ζ (mR μ 2) k = 0
              rw [q8.i (by omega), hν2, mI_ne (by omega)]
              have h3 : k = 0 ∨ k = 1 ∨ k = 2 := by omega
              rcases h3 with rfl | rfl | rfl <;> simp [mI_sI]
            · show mA ζ (mR μ 2 + j) k = if j = 0 then 0 else mA ζ (mR μ 2 + j) k
              rw [if_neg (by omega)]
            · rw [show 400 * 0 + (128 + k) = 128 + k by omega]
            · show mA ζ 146 (128 + 0) = 0
              rw [cl' 128 (by omega), hi 128 (by omega), r5.2.2.2.2.2 128 (by omega)]
              rfl
    · refine h.q 5 (-1) ?_ ?_
      · unfold f_X11_book
        rw [if_neg v0, tm2, if_neg (fun z => hn ((nIle (by omega) (by omega)).mp z))]
        rfl
      · have m8 : mI (sI (sI (sI μ 0 0 5) 141 1 0) 141 0 0) 141 8 = nI m := tm3
        unfold f_X12_book f_X12_starts
        rw [if_neg v0, m8, if_pos ((nIlt (by omega) (by omega)).mpr (by omega))]
        exact QM_r
end BOOK
