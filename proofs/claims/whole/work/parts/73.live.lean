/-! ===== live ===== -/
abbrev PXf (b r a k : Nat) : Prop := (a = r ∧ k ≤ 7) ∨ (b ≤ a ∧ a < b + 12 ∧ a ≠ b + 7) ∨ a = r + 1
section LIVE
variable {F b r N it S d v0 : Nat} {β : Nat → Nat} {ω : Nat → Nat → Int32} {σ : Nat → Int32}
theorem LIVES (hb : b = 15 ∨ b = 27) (hr : r = 137 ∨ r = 139) (hN : N = 39 ∨ N = 45) (hF : 2000000 ≤ F) (w : WF β) (h5 : β 5 ≤ 9999) (h60 : it ≤ 60) (h30 : S ≤ 30) (hv : v0 < 65536) (s1 : σ 1 = nI S) (q : SQ (cl β) ω σ d 3 0 S 0 it) : ∃ (Z' : LZ) (o : Option Bool), WI β Z' ∧ Z'.2.1 ≤ 300 ∧ (∀ μ, BX μ b β → NXw μ N it ω → ∃ ν, f_X4_goThrough F r b N (nI v0) μ = some ν ∧ CX ν b r Z' ∧ mI ν r 0 = 1 ∧ mI ν r 6 = (if o = some true then 1 else 0) ∧ Ag (PXf b r) μ ν) ∧ (∀ μ, CB μ β → NMs μ σ → ∃ ν, f_X12_runsNights F (nI v0) μ = some ν ∧ CMz ν Z' ∧ mI ν 141 48 = (if o = some true then 1 else 0) ∧ Ag PMl μ ν) := by
  obtain ⟨Z', o, w', d1, d2, X, M⟩ := RUN (F := F) hb hr hN hF h60 d 3 0 S 0 it q h30 (Nat.le_refl _) (β, 0, v0, fun _ => 0) ⟨w, h5, rfl, rfl, hv⟩ (Nat.zero_le _)
  refine ⟨Z', o, w', d2, fun μ bx nX => ?_, fun μ cB nM => ?_⟩
  · obtain ⟨μ0, hμ0⟩ : ∃ μ0, μ0 = sI (sI (sI (sI (sI (sI (sI (sI μ r 0 1) r 1 0) r 2 0) r 3 0) r 4 0) r 5 0) r 6 0) r 7 (nI v0) := ⟨_, rfl⟩
    have A0 : Ag (fun a k => a = r ∧ k ≤ 7) μ μ0 := by
      rw [hμ0]
      exact (((((((Ag.sI ⟨rfl, by omega⟩).tr (Ag.sI ⟨rfl, by omega⟩)).tr (Ag.sI ⟨rfl, by omega⟩)).tr (Ag.sI ⟨rfl, by omega⟩)).tr (Ag.sI ⟨rfl, by omega⟩)).tr (Ag.sI ⟨rfl, by omega⟩)).tr (Ag.sI ⟨rfl, by omega⟩)).tr (Ag.sI ⟨rfl, by omega⟩)
    have cX : CX μ0 b r (β, 0, v0, fun _ => 0) := by
      refine ⟨bx.ag A0 (fun i hi k => by omega), ?_, ?_, fun j j1 j2 => ?_⟩
      · rw [hμ0]; simp only [mI_sI, if_true]; rfl
      · rw [hμ0]; simp only [mI_sI, if_true]
      · have hj : j = 2 ∨ j = 3 ∨ j = 4 ∨ j = 5 := by omega
        rcases hj with rfl | rfl | rfl | rfl <;> (rw [hμ0]; simp only [mI_sI, if_true]; rfl)
    have nX0 : NXw μ0 N it ω := ⟨by rw [A0.i (by omega)]; exact nX.1, fun j j1 j2 k hk => by rw [A0.a (by omega)]; exact nX.2 j j1 j2 k hk⟩
    obtain ⟨ν, x1, x2, x3, T, x4, x5, x6⟩ := X 0 μ0 (by omega) cX nX0
    have m0 : mI μ0 r 0 = 1 := by rw [hμ0]; simp only [mI_sI, if_true]; rfl
    have m6 : mI μ0 r 6 = 0 := by rw [hμ0]; simp only [mI_sI, if_true]; rfl
    have d0 : ((β, 0, v0, fun _ => 0) : LZ).2.1 = 0 := rfl
    rw [d0] at x4
    refine ⟨ν, ?_, x1, by rw [x2.i (by omega)]; exact m0, by rw [x3, m6], (A0.mono (fun a k q => by omega)).tr (x2.mono (fun a k q => by omega))⟩
    unfold f_X4_goThrough
    rw [if_pos (Or.inr rfl), ← hμ0]
    show LL F b r N F (nI 0) (nI 0) μ0 = some ν
    by_cases ho : o = none
    · obtain ⟨y1, y2⟩ := x5 ho
      have := y2 (F - T - 1 + 1)
      rw [show F - T - 1 + 1 + T = F by omega] at this
      rw [this]
      exact turnZ (NXw_ag hb hr hN nX0 x2) h60 (by omega) _
    · exact x6 ho F (by omega)
  · obtain ⟨μ0, hμ0⟩ : ∃ μ0, μ0 = sI (sI (sI (sI (sI (sI (sI (sI μ 141 42 (nI v0)) 141 43 0) 141 44 0) 141 45 0) 141 46 0) 141 47 0) 141 48 0) 141 41 0 := ⟨_, rfl⟩
    have A0 : Ag PMl μ μ0 := by
      rw [hμ0]
      exact (((((((Ag.sI (by omega)).tr (Ag.sI (by omega))).tr (Ag.sI (by omega))).tr (Ag.sI (by omega))).tr (Ag.sI (by omega))).tr (Ag.sI (by omega))).tr (Ag.sI (by omega))).tr (Ag.sI (by omega))
    have cM : CMz μ0 (β, 0, v0, fun _ => 0) := by
      refine ⟨cB.at (by rw [hμ0]; rfl), by rw [hμ0]; rfl, by rw [hμ0]; rfl, fun j j1 j2 => ?_⟩
      have hj : j = 2 ∨ j = 3 ∨ j = 4 ∨ j = 5 := by omega
      rcases hj with rfl | rfl | rfl | rfl <;> (rw [hμ0]; rfl)
    have nM0 : NMs μ0 σ := NMs_ag nM A0
    obtain ⟨ν, y1, y2, y3, y4, y5⟩ := M 8 F μ0 (by omega) (by omega) cM nM0 (by rw [hμ0]; rfl)
    have y1' : t_X12_doAll F 9 0 (nI S) μ0 = some ν := y1
    have r1 : rdA μ0 146 2000 129 = some (nI S) := by rw [← s1]; exact NMs_rd nM0 (k := 1) (by omega) rfl
    refine ⟨ν, ?_, y2, by rw [y5]; rw [hμ0]; rfl, A0.tr y3⟩
    unfold f_X12_runsNights
    rw [if_pos (Or.inl rfl), ← hμ0, r1, Option.bind_some, y1']
    rfl
end LIVE
section LIVE2
variable {μ : Mm} {F : Nat}
set_option maxHeartbeats 4000000 in
theorem op_live (h : R μ) (hF : 2000000 ≤ F) (v : Int32) : Sm (f_X11_live F v) (f_X12_live F v) μ := by
  obtain ⟨β, nm, ω, σ, pg⟩ := h.pg
  have gb := h.gb
  have gn := h.gn
  have hrp := h.rp
  have hrn := h.rn
  unfold RefP at hrp
  unfold RefN at hrn
  have W := pg.wf
  have bx := pg.bx
  by_cases e : inR v 0 9999 = true
  · obtain ⟨v0, hv1, hv2, hv3, rfl⟩ := inR_of e
    have n0 : mI μ (mR μ 2) 0 = ω 0 0 := pg.2.2.2.2.2.2.1 0 (by omega)
    have n128 : ∀ ν : Mm, (∀ k, mA ν 146 k = mA μ 146 k) → rdA ν 146 2000 128 = some (σ 0) := fun ν hν => by
      have : rdA ν 146 2000 (nI 128) = some (mA ν 146 128) := rdA_n (by omega) (by omega)
      rw [hν, show mA μ 146 128 = σ 0 from pg.ws 0 (by omega)] at this
      exact this
    rcases pg.nr with ⟨z1, z2⟩ | ⟨z1, z2, S, it, d, hS, hit, hs1, hw2, sq⟩
    · refine h.q 8 (-1) ?_ ?_
      · unfold f_X11_live
        rw [within_L (by decide) (by decide), e, Option.bind_some, if_pos rfl, gn, Option.bind_some, n0, if_pos z1]
        rfl
      · unfold f_X12_live
        rw [isIn_L (by decide) (by decide), e, Option.bind_some, if_pos rfl, n128 (sI (sI (sI μ 0 0 8) 141 1 0) 141 0 0) (fun k => rfl), Option.bind_some, if_pos z2]
        exact QM_r
    · have v9 : v0 ≤ 9999 := by omega
      obtain ⟨Z', o, w', dn', X, M⟩ := LIVES (F := F) (b := mR μ 0) (r := 137) (N := mR μ 2) (v0 := v0) (by omega) (by omega) (by omega) hF W pg.hr hit hS (by omega) hs1 sq
      have nX : NXw μ (mR μ 2) it ω := ⟨by rw [pg.2.2.2.2.2.2.1 2 (by omega)]; exact hw2, pg.wj⟩
      obtain ⟨ν, x1, x2, x3, x4, x5⟩ := X μ bx nX
      have An : Ag (fun a k => PXf (mR μ 0) 137 a k ∨ (a = 0 ∧ k = 0)) μ (sI ν 0 0 0) := (x5.mono (fun a k q => Or.inl q)).tr (Ag.sI (Or.inr ⟨rfl, rfl⟩))
      obtain ⟨ν2, hν2⟩ : ∃ ν2, ν2 = sI (sI (sI ν 0 0 0) 141 1 0) 141 0 0 := ⟨_, rfl⟩
      have A2 : Ag (fun a k => PXf (mR μ 0) 137 a k ∨ (a = 0 ∧ k = 0) ∨ (a = 141 ∧ k < 2)) μ ν2 := by
        rw [hν2]
        exact ((An.mono (fun a k q => by rcases q with q | q; exact Or.inl q; exact Or.inr (Or.inl q))).tr (Ag.sI (Or.inr (Or.inr ⟨rfl, by omega⟩)))).tr (Ag.sI (Or.inr (Or.inr ⟨rfl, by omega⟩)))
      have cB2 : CB ν2 β := fun k hk => by rw [A2.a (by omega)]; exact pg.c0 k hk
      have nM2 : NMs ν2 σ := fun k hk => by
        rw [A2.a (by omega)]
        have := pg.ws k hk
        rwa [show 400 * 0 + (128 + k) = 128 + k by omega] at this
      obtain ⟨ξ, y1, y2, y3, y4⟩ := M ν2 cB2 nM2
      obtain ⟨ζ, hζ⟩ : ∃ ζ, ζ = sI (sA (sA (sA (sA (sA ξ 156 0 (mI ξ 141 44)) 156 1 (mI ξ 141 45)) 156 2 (mI ξ 141 46)) 156 3 (mI ξ 141 47)) 156 4 (mI ξ 141 48)) 141 40 1 := ⟨_, rfl⟩
      have A3 : Ag (fun a k => a = 156 ∨ (a = 141 ∧ k = 40)) ξ ζ := by
        rw [hζ]
        exact (((((Ag.sA (Or.inl rfl)).tr (Ag.sA (Or.inl rfl))).tr (Ag.sA (Or.inl rfl))).tr (Ag.sA (Or.inl rfl))).tr (Ag.sA (Or.inl rfl))).tr (Ag.sI (Or.inr ⟨rfl, rfl⟩))
      have AM : Ag (fun a k => PMl a k ∨ a = 156 ∨ (a = 141 ∧ k = 40)) ν2 ζ := (y4.mono (fun a k q => Or.inl q)).tr (A3.mono (fun a k q => Or.inr q))
      have A0 : Ag (fun a k => (PXf (mR μ 0) 137 a k ∨ (a = 0 ∧ k = 0) ∨ (a = 141 ∧ k < 2)) ∨ (PMl a k ∨ a = 156 ∨ (a = 141 ∧ k = 40))) μ ζ := (A2.mono (fun a k q => Or.inl q)).tr (AM.mono (fun a k q => Or.inr q))
      have wr : ∀ (η : Mm) (j : Nat) (x y : Int32), y = nI j → j < 5 → wrA η 156 5 y x = some (sA η 156 j x) := fun η j x y hy hj => by rw [hy]; exact wrA_n (by omega) (by omega)
      have hM : f_X12_live F (nI v0) (sI ν 0 0 0) = some (nI Z'.2.1, ζ) := by
        unfold f_X12_live
        rw [← hν2, isIn_L (by decide) (by decide), e, Option.bind_some, if_pos rfl, show rdA ν2 146 2000 128 = some (σ 0) from NMs_rd nM2 (k := 0) (by omega) rfl, Option.bind_some, z2, if_neg (by decide), y1, Option.bind_some, wr ξ 0 _ 0 rfl (by omega), Option.bind_some, wr _ 1 _ 1 rfl (by omega), Option.bind_some, wr _ 2 _ 2 rfl (by omega), Option.bind_some, wr _ 3 _ 3 rfl (by omega), Option.bind_some, wr _ 4 _ 4 rfl (by omega), Option.bind_some, if_pos (Or.inr rfl)]
        have a43 : mI ζ 141 43 = nI Z'.2.1 := by rw [A3.i (by omega)]; exact y2.2.1
        rw [← a43, hζ]
        rfl
      have hX : f_X11_live F (nI v0) μ = some (nI Z'.2.1, sI ν 0 0 0) := by
        unfold f_X11_live
        rw [within_L (by decide) (by decide), e, Option.bind_some, if_pos rfl, gn, Option.bind_some, n0, z1, if_neg (by decide), gb, Option.bind_some, Option.bind_some, x1, Option.bind_some, x2.2.1]
        rfl
      have p0 : ∀ a k, PXf (mR μ 0) 137 a k → (a = 137 ∨ a = 138 ∨ (mR μ 0 ≤ a ∧ a < mR μ 0 + 12)) := fun a k q => by omega
      refine ⟨nI Z'.2.1, sI ν 0 0 0, ζ, hX, hM, ?_⟩
      have e00 : mI ζ 0 0 = 0 := by rw [AM.i (by omega), hν2]; rfl
      have e141 : mI ζ 141 0 = 0 := by rw [AM.i (by omega), hν2]; rfl
      refine ⟨rp_ag h.rp A0, rn_ag h.rn A0, rt_ag h.rt A0, by rw [e00, e141], eq_agJ h.top A0 (by omega) (by omega), eq_agJ h.bot A0 (by omega) (by omega), tr_ag h.tr A0 (fun a k q => by omega), tp_ag h.tp A0 (by omega) (by omega) (fun k => by omega) (fun k => by omega), eq_agI h.fk A0 (by omega) (by omega), eq_agI h.fa A0 (by omega) (by omega), sw_ag h.sw A0 (fun k => by omega), ?_, mk_ag h.mk A0 (by omega) (by omega) (fun a k h1 h2 => by omega) (fun k h1 h2 => by omega) (fun k h1 h2 => by omega), ?_, ?_⟩
      · rw [A0.2]
        refine ⟨Z'.1, nm, ω, σ, ?_, ?_, w'.1, w'.2.1, ?_, ?_, ?_, ?_, ?_, ?_⟩
        · have b1 : BX ν2 (mR μ 0) Z'.1 := by
            rw [hν2]
            exact x2.1.ag (P := fun a k => a = 0 ∨ a = 141) (((Ag.sI (Or.inl rfl)).tr (Ag.sI (Or.inr rfl))).tr (Ag.sI (Or.inr rfl))) (fun i hi k => by omega)
          exact b1.ag AM (fun i hi k => by omega)
        · intro k hk
          rw [show 400 * 0 + k = k by omega, A3.a (by omega)]
          exact y2.1 k hk
        · intro a ha
          rw [w'.2.2.1] at ha
          rw [A0.l (by omega)]
          exact pg.2.2.2.2.1 a ha
        · intro a ha
          rw [w'.2.2.1] at ha
          rw [A0.l (by omega)]
          exact pg.2.2.2.2.2.1 a ha
        · intro k hk
          rw [A0.i (by omega)]
          exact pg.2.2.2.2.2.2.1 k hk
        · intro j h1 h2 k hk
          rw [A0.a (by omega)]
          exact pg.wj j h1 h2 k hk
        · intro k hk
          rw [A0.a (by omega)]
          exact pg.ws k hk
        · rw [w'.cl]
          exact pg.nr
      · rw [AM.i (by omega), hν2, hζ]
        show mI ν 137 0 = 1
        exact x3
      · intro j hj
        have m137 : ∀ k, k ≤ 6 → mI ζ 137 k = mI ν 137 k := fun k hk => by rw [AM.i (by omega), hν2]; rfl
        rw [m137 _ (by omega)]
        have hj5 : j = 0 ∨ j = 1 ∨ j = 2 ∨ j = 3 ∨ j = 4 := by omega
        rcases hj5 with rfl | rfl | rfl | rfl | rfl
        · rw [x2.2.2.2 2 (by omega) (by omega), ← y2.2.2.2 2 (by omega) (by omega), hζ]; rfl
        · rw [x2.2.2.2 3 (by omega) (by omega), ← y2.2.2.2 3 (by omega) (by omega), hζ]; rfl
        · rw [x2.2.2.2 4 (by omega) (by omega), ← y2.2.2.2 4 (by omega) (by omega), hζ]; rfl
        · rw [x2.2.2.2 5 (by omega) (by omega), ← y2.2.2.2 5 (by omega) (by omega), hζ]; rfl
        · rw [x4, ← y3, hζ]; rfl
  · have e3 := inR_no e
    exact h.q 5 (-1) (by unfold f_X11_live; rw [within_L (by decide) (by decide), e3]; rfl) (by unfold f_X12_live; rw [isIn_L (by decide) (by decide), e3]; exact QM_r)
end LIVE2
