/-! ===== repeal, mark, back ===== -/
def rpB (γ : Nat → Nat) (l i j : Nat) : Nat := if (88 + l ≤ j ∧ j < 88 + i) ∨ (98 + l ≤ j ∧ j < 98 + i) ∨ (108 + l ≤ j ∧ j < 108 + i) ∨ (118 + l ≤ j ∧ j < 118 + i) then γ (j + 1) else γ j
def R4 (μ : Mm) (b n : Nat) (γ : Nat → Nat) : Prop := ∀ j, j < n → mA μ (b + 2) j = nI (γ (88 + j)) ∧ mA μ (b + 3) j = nI (γ (98 + j)) ∧ mA μ (b + 4) j = nI (γ (108 + j)) ∧ mA μ (b + 5) j = nI (γ (118 + j))
section REP
variable {μ : Mm} {b : Nat} {β γ : Nat → Nat} {F : Nat}
theorem rpB_lo {l i j : Nat} (h : j < 88) : rpB γ l i j = γ j := by unfold rpB; rw [if_neg (by omega)]
theorem rpB_0 {l : Nat} : rpB γ l l = γ := by funext j; unfold rpB; rw [if_neg (by omega)]
theorem rpB_nx {l i s : Nat} (hi : i < 9) (hs : s = 88 ∨ s = 98 ∨ s = 108 ∨ s = 118) : rpB γ l i (s + i + 1) = γ (s + i + 1) := by unfold rpB; rw [if_neg (by omega)]
theorem rpB_s {l i : Nat} (hl : l ≤ i) (hi : i < 9) : updN (updN (updN (updN (rpB γ l i) (88 + i) (γ (88 + i + 1))) (98 + i) (γ (98 + i + 1))) (108 + i) (γ (108 + i + 1))) (118 + i) (γ (118 + i + 1)) = rpB γ l (i + 1) := by
  funext j
  unfold updN rpB
  by_cases e1 : j = 118 + i
  · rw [if_pos e1, if_pos (by omega), e1]
  · rw [if_neg e1]
    by_cases e2 : j = 108 + i
    · rw [if_pos e2, if_pos (by omega), e2]
    · rw [if_neg e2]
      by_cases e3 : j = 98 + i
      · rw [if_pos e3, if_pos (by omega), e3]
      · rw [if_neg e3]
        by_cases e4 : j = 88 + i
        · rw [if_pos e4, if_pos (by omega), e4]
        · rw [if_neg e4]
          by_cases z : (88 + l ≤ j ∧ j < 88 + i) ∨ (98 + l ≤ j ∧ j < 98 + i) ∨ (108 + l ≤ j ∧ j < 108 + i) ∨ (118 + l ≤ j ∧ j < 118 + i)
          · rw [if_pos z, if_pos (by omega)]
          · rw [if_neg z, if_neg (by omega)]
theorem rpB_wf (w : WF γ) {l i : Nat} (hi : i < 10) : WF (rpB γ l i) := by
  obtain ⟨⟨w0, w1, w2, w3, w4, w5, w6, w7, w8⟩, wk, wd, wl⟩ := id w
  have hc : cl (rpB γ l i) = cl γ := by unfold cl; rw [rpB_lo (by omega), rpB_lo (by omega)]
  refine ⟨⟨by rw [rpB_lo (by omega)]; exact w0, by rw [rpB_lo (by omega)]; exact w1, by rw [rpB_lo (by omega)]; exact w2, by rw [rpB_lo (by omega)]; exact w3, by rw [rpB_lo (by omega)]; exact w4, by rw [rpB_lo (by omega)]; exact w5, by rw [rpB_lo (by omega)]; exact w6, by rw [rpB_lo (by omega)]; exact w7, by rw [hc, rpB_lo (by omega), rpB_lo (by omega)]; exact w8⟩, ?_, ?_, ?_⟩
  · intro a ha; rw [rpB_lo (by omega)]; exact wk a ha
  · intro k hk; rw [rpB_lo (by omega), rpB_lo (by omega), rpB_lo (by omega)]; exact wd k hk
  · intro k hk
    by_cases z : l ≤ k ∧ k < i
    · have := wl (k + 1) (by omega)
      unfold rpB
      rw [if_pos (by omega), if_pos (by omega), if_pos (by omega), if_pos (by omega)]
      exact this
    · have := wl k hk
      unfold rpB
      rw [if_neg (by omega), if_neg (by omega), if_neg (by omega), if_neg (by omega)]
      exact this
theorem M_repealL (h : CB μ γ) (hF : 2000000 ≤ F) {l : Nat} (hl : l ≤ γ 1) (hn : γ 1 ≤ 9) {kk : Mm → Option (Int32 × Mm)} : ∃ ν, L_X12_repeal_36 F kk F (nI l) μ = kk ν ∧ CB ν (rpB γ l (γ 1)) ∧ Ag (fun a k => a = 146 ∧ k < 128) μ ν := by
  have step : ∀ i v ν, i < γ 1 - l → (v = nI (l + i) ∧ CB ν (rpB γ l (l + i)) ∧ Ag (fun a k => a = 146 ∧ k < 128) μ ν) → ∃ v' ν', (v' = nI (l + (i + 1)) ∧ CB ν' (rpB γ l (l + (i + 1))) ∧ Ag (fun a k => a = 146 ∧ k < 128) μ ν') ∧ ∀ n, L_X12_repeal_36 F kk (n + 1) v ν = L_X12_repeal_36 F kk n v' ν' := by
    rintro i v ν hi ⟨rfl, h2, h3⟩
    have r1 : rdA ν 146 2000 1 = some (nI (γ 1)) := by rw [h2.rl 1 (by omega), rpB_lo (by omega)]
    have a1 := h2.rd (k := 88 + (l + i) + 1) (by omega)
    rw [rpB_nx (by omega) (by omega)] at a1
    have c1 := h2.wr (k := 88 + (l + i)) (by omega) (γ (88 + (l + i) + 1))
    have a2 := c1.rd (k := 98 + (l + i) + 1) (by omega)
    rw [updN_ne (by omega), rpB_nx (by omega) (by omega)] at a2
    have c2 := c1.wr (k := 98 + (l + i)) (by omega) (γ (98 + (l + i) + 1))
    have a3 := c2.rd (k := 108 + (l + i) + 1) (by omega)
    rw [updN_ne (by omega), updN_ne (by omega), rpB_nx (by omega) (by omega)] at a3
    have c3 := c2.wr (k := 108 + (l + i)) (by omega) (γ (108 + (l + i) + 1))
    have a4 := c3.rd (k := 118 + (l + i) + 1) (by omega)
    rw [updN_ne (by omega), updN_ne (by omega), updN_ne (by omega), rpB_nx (by omega) (by omega)] at a4
    have c4 := c3.wr (k := 118 + (l + i)) (by omega) (γ (118 + (l + i) + 1))
    rw [rpB_s (by omega) (by omega)] at c4
    refine ⟨_, _, ⟨rfl, c4, (((h3.tr (Ag.sA ⟨rfl, by omega⟩)).tr (Ag.sA ⟨rfl, by omega⟩)).tr (Ag.sA ⟨rfl, by omega⟩)).tr (Ag.sA ⟨rfl, by omega⟩)⟩, fun n => ?_⟩
    rw [L_X12_repeal_36_s, r1]
    simp (disch := omega) only [Option.bind_some, bd_some, eqL, leL, ltL, Lle, Llt, addL, Ladd, Lmul, mulL, nIle, nIlt, nIeq, nI_add, pk_mul, a1, a2, a3, a4, wrA_n]
    rw [if_neg (by omega)]
    rfl
  obtain ⟨v, ν, n, ⟨h1, h2, h3⟩, e⟩ := iterI2 (L := L_X12_repeal_36 F kk) (F := F) (N := γ 1 - l) _ (by omega) step (a := nI l) (b := μ) ⟨rfl, by rw [Nat.add_zero, rpB_0]; exact h, Ag.rf⟩
  rw [show l + (γ 1 - l) = γ 1 by omega] at h1 h2
  refine ⟨ν, ?_, h2, h3⟩
  rw [e, L_X12_repeal_36_s, h2.rl 1 (by omega), rpB_lo (by omega), h1, Option.bind_some, if_pos ((nIle (by omega) (by omega)).mpr (by omega))]
theorem X_strikeL {n : Nat} (h : R4 μ b n γ) (hc : mI μ (b + 1) 0 = nI (γ 1)) (hF : 2000000 ≤ F) {l : Nat} (hl : l ≤ γ 1) (hn : γ 1 + 1 = n) (hn2 : n ≤ 10) : ∃ ν, L_X3_strike_21 F (b + 1) (fun μ10 => some μ10) F (nI l) μ = some ν ∧ R4 ν b n (rpB γ l (γ 1)) ∧ Ag (fun a _ => b + 2 ≤ a ∧ a ≤ b + 5) μ ν := by
  have step : ∀ i v ν, i < γ 1 - l → (v = nI (l + i) ∧ R4 ν b n (rpB γ l (l + i)) ∧ Ag (fun a _ => b + 2 ≤ a ∧ a ≤ b + 5) μ ν) → ∃ v' ν', (v' = nI (l + (i + 1)) ∧ R4 ν' b n (rpB γ l (l + (i + 1))) ∧ Ag (fun a _ => b + 2 ≤ a ∧ a ≤ b + 5) μ ν') ∧ ∀ m, L_X3_strike_21 F (b + 1) (fun μ10 => some μ10) (m + 1) v ν = L_X3_strike_21 F (b + 1) (fun μ10 => some μ10) m v' ν' := by
    rintro i v ν hi ⟨rfl, h2, h3⟩
    obtain ⟨p1, p2, p3, p4⟩ := h2 (l + i + 1) (by omega)
    have q1 : mA ν (b + 2) (l + i + 1) = nI (γ (88 + (l + i) + 1)) := by rw [p1, show 88 + (l + i + 1) = 88 + (l + i) + 1 by omega, rpB_nx (by omega) (by omega)]
    have q2 : mA ν (b + 3) (l + i + 1) = nI (γ (98 + (l + i) + 1)) := by rw [p2, show 98 + (l + i + 1) = 98 + (l + i) + 1 by omega, rpB_nx (by omega) (by omega)]
    have q3 : mA ν (b + 4) (l + i + 1) = nI (γ (108 + (l + i) + 1)) := by rw [p3, show 108 + (l + i + 1) = 108 + (l + i) + 1 by omega, rpB_nx (by omega) (by omega)]
    have q4 : mA ν (b + 5) (l + i + 1) = nI (γ (118 + (l + i) + 1)) := by rw [p4, show 118 + (l + i + 1) = 118 + (l + i) + 1 by omega, rpB_nx (by omega) (by omega)]
    let ν1 := sA ν (b + 2) (l + i) (nI (γ (88 + (l + i) + 1)))
    let ν2 := sA ν1 (b + 3) (l + i) (nI (γ (98 + (l + i) + 1)))
    let ν3 := sA ν2 (b + 4) (l + i) (nI (γ (108 + (l + i) + 1)))
    let ν4 := sA ν3 (b + 5) (l + i) (nI (γ (118 + (l + i) + 1)))
    have hA : Ag (fun a _ => b + 2 ≤ a ∧ a ≤ b + 5) ν ν4 := (((Ag.sA (by omega)).tr (Ag.sA (by omega))).tr (Ag.sA (by omega))).tr (Ag.sA (by omega))
    refine ⟨nI (l + (i + 1)), ν4, ⟨rfl, ?_, h3.tr hA⟩, fun m => ?_⟩
    · intro j hj
      obtain ⟨z1, z2, z3, z4⟩ := h2 j hj
      have m2 : mA ν4 (b + 2) j = if j = l + i then nI (γ (88 + (l + i) + 1)) else mA ν (b + 2) j := by
        show mA (sA (sA (sA (sA ν (b + 2) _ _) (b + 3) _ _) (b + 4) _ _) (b + 5) _ _) (b + 2) j = _
        rw [mA_ne (by omega), mA_ne (by omega), mA_ne (by omega), mA_sA, if_pos rfl]
      have m3 : mA ν4 (b + 3) j = if j = l + i then nI (γ (98 + (l + i) + 1)) else mA ν (b + 3) j := by
        show mA (sA (sA (sA (sA ν (b + 2) _ _) (b + 3) _ _) (b + 4) _ _) (b + 5) _ _) (b + 3) j = _
        rw [mA_ne (by omega), mA_ne (by omega), mA_sA, if_pos rfl, mA_ne (by omega)]
      have m4 : mA ν4 (b + 4) j = if j = l + i then nI (γ (108 + (l + i) + 1)) else mA ν (b + 4) j := by
        show mA (sA (sA (sA (sA ν (b + 2) _ _) (b + 3) _ _) (b + 4) _ _) (b + 5) _ _) (b + 4) j = _
        rw [mA_ne (by omega), mA_sA, if_pos rfl, mA_ne (by omega), mA_ne (by omega)]
      have m5 : mA ν4 (b + 5) j = if j = l + i then nI (γ (118 + (l + i) + 1)) else mA ν (b + 5) j := by
        show mA (sA (sA (sA (sA ν (b + 2) _ _) (b + 3) _ _) (b + 4) _ _) (b + 5) _ _) (b + 5) j = _
        rw [mA_sA, if_pos rfl, mA_ne (by omega), mA_ne (by omega), mA_ne (by omega)]
      rw [m2, m3, m4, m5, ← show l + i + 1 = l + (i + 1) by omega, ← rpB_s (by omega) (by omega)]
      by_cases e : j = l + i
      · rw [if_pos e, if_pos e, if_pos e, if_pos e, e]
        refine ⟨?_, ?_, ?_, ?_⟩
        · rw [updN_ne (by omega), updN_ne (by omega), updN_ne (by omega), updN_eq]
        · rw [updN_ne (by omega), updN_ne (by omega), updN_eq]
        · rw [updN_ne (by omega), updN_eq]
        · rw [updN_eq]
      · rw [if_neg e, if_neg e, if_neg e, if_neg e]
        refine ⟨?_, ?_, ?_, ?_⟩
        · rw [updN_ne (by omega), updN_ne (by omega), updN_ne (by omega), updN_ne (by omega)]; exact z1
        · rw [updN_ne (by omega), updN_ne (by omega), updN_ne (by omega), updN_ne (by omega)]; exact z2
        · rw [updN_ne (by omega), updN_ne (by omega), updN_ne (by omega), updN_ne (by omega)]; exact z3
        · rw [updN_ne (by omega), updN_ne (by omega), updN_ne (by omega), updN_ne (by omega)]; exact z4
    · have r1 : rdA ν (b + 1 + 1) 10 (nI (l + i + 1)) = some (nI (γ (88 + (l + i) + 1))) := by rw [rdA_n (by omega) (by omega)]; exact congrArg some q1
      have w1 : wrA ν (b + 1 + 1) 10 (nI (l + i)) (nI (γ (88 + (l + i) + 1))) = some ν1 := wrA_n (by omega) (by omega)
      have r2 : rdA ν1 (b + 1 + 2) 10 (nI (l + i + 1)) = some (nI (γ (98 + (l + i) + 1))) := by rw [rdA_n (by omega) (by omega)]; show some (mA (sA ν (b + 2) _ _) (b + 3) _) = _; rw [mA_ne (by omega), q2]
      have w2 : wrA ν1 (b + 1 + 2) 10 (nI (l + i)) (nI (γ (98 + (l + i) + 1))) = some ν2 := wrA_n (by omega) (by omega)
      have r3 : rdA ν2 (b + 1 + 3) 10 (nI (l + i + 1)) = some (nI (γ (108 + (l + i) + 1))) := by rw [rdA_n (by omega) (by omega)]; show some (mA (sA (sA ν (b + 2) _ _) (b + 3) _ _) (b + 4) _) = _; rw [mA_ne (by omega), mA_ne (by omega), q3]
      have w3 : wrA ν2 (b + 1 + 3) 10 (nI (l + i)) (nI (γ (108 + (l + i) + 1))) = some ν3 := wrA_n (by omega) (by omega)
      have r4 : rdA ν3 (b + 1 + 4) 10 (nI (l + i + 1)) = some (nI (γ (118 + (l + i) + 1))) := by rw [rdA_n (by omega) (by omega)]; show some (mA (sA (sA (sA ν (b + 2) _ _) (b + 3) _ _) (b + 4) _ _) (b + 5) _) = _; rw [mA_ne (by omega), mA_ne (by omega), mA_ne (by omega), q4]
      have w4 : wrA ν3 (b + 1 + 4) 10 (nI (l + i)) (nI (γ (118 + (l + i) + 1))) = some ν4 := wrA_n (by omega) (by omega)
      have hc1 : mI ν (b + 1) 0 = nI (γ 1) := by rw [h3.i (by omega)]; exact hc
      rw [L_X3_strike_21_s, hc1, if_neg (fun z => by have := (nIle (by omega) (by omega)).mp z; omega), addL, r1, Option.bind_some, w1, Option.bind_some, r2, Option.bind_some, w2, Option.bind_some, r3, Option.bind_some, w3, Option.bind_some, r4, Option.bind_some, w4, Option.bind_some]
      rfl
  obtain ⟨v, ν, m, ⟨h1, h2, h3⟩, e⟩ := iterI2 (L := L_X3_strike_21 F (b + 1) (fun μ10 => some μ10)) (F := F) (N := γ 1 - l) _ (by omega) step (a := nI l) (b := μ) ⟨rfl, by rw [Nat.add_zero, rpB_0]; exact h, Ag.rf⟩
  rw [show l + (γ 1 - l) = γ 1 by omega] at h1 h2
  refine ⟨ν, ?_, h2, h3⟩
  rw [e, L_X3_strike_21_s, h3.i (by omega), hc, h1, if_pos ((nIle (by omega) (by omega)).mpr (by omega))]
theorem op_repeal (h : R μ) (hF : 2000000 ≤ F) (v : Int32) : Sm (f_X11_repeal F v) (f_X12_repeal F v) μ := by
  obtain ⟨β, nm, ω, σ, pg⟩ := h.pg
  have W := pg.wf
  have bx := pg.bx
  have gb := h.gb
  have hc : ∀ c, CB (V0 μ c) β := fun c => pg.c0.at rfl
  have hrp := h.rp
  unfold RefP at hrp
  have w1 := W.1.2.2.2.1
  have w0 := W.1.1
  have wc := W.cl_le
  by_cases e : inN v (β 1) = true
  · obtain ⟨l, hl, hl2, rfl⟩ := inN_of e
    have hg1 : updN β 1 (β 1 - 1) 1 = β 1 - 1 := updN_eq
    have hsub : nI (β 1) - 1 = nI (β 1 - 1) := subL (n := 1) (by show 1 ≤ β 1; omega)
    have r4 : R4 (sI μ (mR μ 0 + 1) 0 (nI (β 1 - 1))) (mR μ 0) (β 1) (updN β 1 (β 1 - 1)) := by
      intro j hj
      rw [mA_sI, updN_ne (by omega), updN_ne (by omega), updN_ne (by omega), updN_ne (by omega)]
      exact ⟨bx.firsts j hj, bx.seconds j hj, bx.places j hj, bx.besides j hj⟩
    obtain ⟨ν, x1, x2, x3⟩ := X_strikeL (F := F) (l := l) r4 (by rw [mI_sI, if_pos rfl, if_pos rfl, hg1]) hF (by rw [hg1]; omega) (by rw [hg1]; omega) w1
    rw [hg1] at x2
    have Wg : WF (updN β 1 (β 1 - 1)) := by
      obtain ⟨⟨a0, a1, a2, a3, a4, a5, a6, a7, a8⟩, wk, wd, wl⟩ := id W
      refine ⟨⟨a0, a1, a2, by rw [hg1]; omega, a4, a5, a6, a7, a8⟩, ?_, ?_, ?_⟩
      · intro a ha; rw [updN_ne (by omega)]; exact wk a ha
      · intro k hk; rw [updN_ne (by omega), updN_ne (by omega), updN_ne (by omega)]; exact wd k hk
      · intro k hk; rw [updN_ne (by omega), updN_ne (by omega), updN_ne (by omega), updN_ne (by omega)]; exact wl k hk
    have gl : ∀ j, j < 88 → j ≠ 1 → rpB (updN β 1 (β 1 - 1)) l (β 1 - 1) j = β j := fun j h1 h2 => by rw [rpB_lo h1, updN_ne h2]
    have gcl : cl (rpB (updN β 1 (β 1 - 1)) l (β 1 - 1)) = cl β := by unfold cl; rw [gl 0 (by omega) (by omega), gl 2 (by omega) (by omega)]
    have g1 : rpB (updN β 1 (β 1 - 1)) l (β 1 - 1) 1 = β 1 - 1 := by rw [rpB_lo (by omega), hg1]
    have aX : Ag (fun a _ => mR μ 0 + 1 ≤ a ∧ a ≤ mR μ 0 + 5) μ ν := (Ag.sI (by omega)).tr (x3.mono (fun a k q => by omega))
    have i0 : mI ν (mR μ 0) = mI μ (mR μ 0) := aX.I (fun _ => by omega)
    have i1 : mI ν (mR μ 0 + 1) 0 = nI (β 1 - 1) := by rw [x3.i (by omega), mI_sI, if_pos rfl, if_pos rfl]
    have hBX : BX ν (mR μ 0) (rpB (updN β 1 (β 1 - 1)) l (β 1 - 1)) := by
      refine ⟨by rw [i0, gl 2 (by omega) (by omega)]; exact bx.wide, by rw [i0, gl 3 (by omega) (by omega)]; exact bx.tap, by rw [i0, gl 4 (by omega) (by omega)]; exact bx.odds, by rw [i0, gl 0 (by omega) (by omega)]; exact bx.acc, by rw [i0, gl 7 (by omega) (by omega)]; exact bx.stand, by rw [i0, gl 5 (by omega) (by omega)]; exact bx.hour, by rw [i0, gl 6 (by omega) (by omega)]; exact bx.stolen, by rw [g1]; exact i1, ?_, ?_, ?_, ?_, ?_, ?_, ?_, ?_⟩
      · intro j hj; rw [g1] at hj; exact (x2 j (by omega)).1
      · intro j hj; rw [g1] at hj; exact (x2 j (by omega)).2.1
      · intro j hj; rw [g1] at hj; exact (x2 j (by omega)).2.2.1
      · intro j hj; rw [g1] at hj; exact (x2 j (by omega)).2.2.2
      · intro j hj; rw [gl 0 (by omega) (by omega)] at hj; rw [aX.A (fun _ => by omega), gl _ (by omega) (by omega)]; exact bx.kinds j hj
      · intro j hj; rw [gcl] at hj; rw [aX.A (fun _ => by omega), gl _ (by omega) (by omega)]; exact bx.digits j hj
      · intro j hj; rw [gcl] at hj; rw [aX.A (fun _ => by omega), gl _ (by omega) (by omega)]; exact bx.truths j hj
      · intro j hj; rw [gcl] at hj; rw [aX.A (fun _ => by omega), gl _ (by omega) (by omega)]; exact bx.taps j hj
    have gbν : gBk (mR ν 0) = some (mR μ 0) := by rw [aX.2]; exact gb
    refine h.v pg 0 (nI (β 1 - 1)) (ν := ν) (β' := rpB (updN β 1 (β 1 - 1)) l (β 1 - 1)) ?_ hBX (aX.mono ?_) (aX.mono ?_) (fun ξ hξ => ?_) (rpB_wf Wg (by omega)) (by rw [gl 5 (by omega) (by omega)]; exact pg.hr) (gl 0 (by omega) (by omega)) (gl 2 (by omega) (by omega))
    · unfold f_X11_repeal f_X3_strike
      simp (disch := omega) only [Option.bind_some, bd_some, eqL, leL, ltL, Lle, Llt, addL, Ladd, Lmul, mulL, nIle, nIlt, nIeq, nI_add, pk_mul, gb, X_cells bx, X_hasCell bx W, X_hasAccount bx W, X_hasLaw bx W, bx.wide, bx.tap, bx.odds, bx.acc, bx.stand, bx.hour, bx.stolen, bx.laws, bx.rD W, bx.rT W, bx.rH W, bx.rK W, bx.rF W, bx.rS W, bx.rP W, bx.rB W, X_isWrong bx W, X_wrongs bx W hF, X_tappedSet bx W hF, X_surplus bx W hF, within_L, inN_k, eq_self, if_true, if_false, Bool.false_eq_true, ans_X, ref_X, ver_X, hsub, x1, gbν, i1]
    · intro a k q; unfold S2; omega
    · intro a k q; omega
    · have hc2 : CB (sI (sI ξ 141 1 0) 141 0 0) β := hξ.at rfl
      have hc3 := hc2.wr (k := 1) (by omega) (β 1 - 1)
      obtain ⟨ζ, z1, z2, z3⟩ := M_repealL (F := F) (l := l) hc3 hF (by rw [hg1]; omega) (by rw [hg1]; omega) (kk := fun μ13 => (rdA μ13 146 2000 1).bind fun x14 => some (x14, μ13))
      rw [hg1] at z2
      have w1' : wrA (sI (sI ξ 141 1 0) 141 0 0) 146 2000 1 (nI (β 1 - 1)) = some (sA (sI (sI ξ 141 1 0) 141 0 0) 146 1 (nI (β 1 - 1))) := wrA_n (k := 1) (by omega) (by omega)
      refine ⟨ζ, ?_, by rw [z3.i (by omega)]; rfl, z2, (SM_0.tr (Ag.sA (Or.inr (Or.inl ⟨rfl, Or.inl (by omega)⟩)))).tr (z3.mono (fun a k q => Or.inr (Or.inl ⟨q.1, Or.inl q.2⟩)))⟩
      unfold f_X12_repeal
      simp (disch := omega) only [Option.bind_some, M_isLawAt hc2 W, inN_k, eq_self, if_true, hc2.r0, hsub, w1']
      rw [z1, z2.rl 1 (by omega), g1]
      rfl
  · have e3 := inN_no e
    exact h.q 2 (-1) (by unfold f_X11_repeal; simp (disch := omega) only [Option.bind_some, bd_some, eqL, leL, ltL, Lle, Llt, addL, Ladd, Lmul, mulL, nIle, nIlt, nIeq, nI_add, pk_mul, gb, X_cells bx, X_hasCell bx W, X_hasAccount bx W, X_hasLaw bx W, bx.wide, bx.tap, bx.odds, bx.acc, bx.stand, bx.hour, bx.stolen, bx.laws, bx.rD W, bx.rT W, bx.rH W, bx.rK W, bx.rF W, bx.rS W, bx.rP W, bx.rB W, X_isWrong bx W, X_wrongs bx W hF, X_tappedSet bx W hF, X_surplus bx W hF, within_L, inN_k, eq_self, if_true, if_false, Bool.false_eq_true, ans_X, ref_X, ver_X, e3]) (by unfold f_X12_repeal; simp (disch := omega) only [Option.bind_some, bd_some, eqL, leL, ltL, Lle, Llt, addL, Ladd, Lmul, mulL, nIle, nIlt, nIeq, nI_add, pk_mul, M_cells (hc _), M_isCellAt (hc _) W, M_isAccountAt (hc _) W, M_isLawAt (hc _) W, (hc _).rd, (hc _).r0, M_isWrong (hc _) W, M_allWrong (hc _) W hF, M_tappedSet (hc _) W hF, M_balanced (hc _) W hF, M_isEven (hc _) W hF, isIn_L, inN_k, eq_self, if_true, if_false, Bool.false_eq_true, ans_M, no_M, e3]; exact QM_r)
end REP
