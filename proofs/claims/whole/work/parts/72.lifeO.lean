/-! ===== a life: an order with all that is inside it, on both sides ===== -/
section LIFEO
variable {F b r N it : Nat} {β0 : Nat → Nat} {ω : Nat → Nat → Int32} {σ : Nat → Int32}
theorem SI_26 {c s i : Nat} (h : SI c ω σ s i) : ω 1 i ≠ 26 := by
  rcases h with ⟨-, w1, -⟩ | ⟨-, w1, -⟩ | ⟨-, w1, -⟩ | ⟨-, w1, -⟩ | ⟨-, w1⟩ | ⟨-, w1⟩ <;> rw [w1] <;> decide
theorem SB_26 {c s i : Nat} (h : SB c ω σ s i) : ω 1 i ≠ 26 := by
  rcases h with ⟨-, w1, -⟩ | ⟨-, -, w1, -⟩ | ⟨-, -, w1, -⟩ | ⟨-, -, w1⟩ <;> rw [w1] <;> decide
theorem SI_27 {c s i : Nat} (h : SI c ω σ s i) (z : ω 1 i = 27) : σ (2 + 9 * s) = 7 := by
  rcases h with ⟨-, w1, -⟩ | ⟨-, w1, -⟩ | ⟨-, w1, -⟩ | ⟨-, w1, -⟩ | ⟨-, w1⟩ | ⟨q, -⟩
  · rw [w1] at z; exact absurd z (by decide)
  · rw [w1] at z; exact absurd z (by decide)
  · rw [w1] at z; exact absurd z (by decide)
  · rw [w1] at z; exact absurd z (by decide)
  · rw [w1] at z; exact absurd z (by decide)
  · exact q
theorem SB_25 {c s i : Nat} (h : SB c ω σ s i) (z : ω 1 i = 25) : σ (2 + 9 * s) = 6 ∧ ∃ v, 1 ≤ v ∧ v ≤ 99 ∧ ω 2 i = nI v ∧ σ (3 + 9 * s) = nI v := by
  rcases h with ⟨q1, -, q2⟩ | ⟨-, -, w1, -⟩ | ⟨-, -, w1, -⟩ | ⟨-, -, w1⟩
  · exact ⟨q1, q2⟩
  · rw [w1] at z; exact absurd z (by decide)
  · rw [w1] at z; exact absurd z (by decide)
  · rw [w1] at z; exact absurd z (by decide)
theorem ONE (hb : b = 15 ∨ b = 27) (hr : r = 137 ∨ r = 139) (hN : N = 39 ∨ N = 45) (hF : 2000000 ≤ F) (h60 : it ≤ 60) {h s s' i i' : Nat} (hs : s < s') (hs' : s' ≤ 30) (hi : i < i') (hi' : i' ≤ it) (s10 : σ (10 + 9 * s) = nI s') (q : (SI (cl β0) ω σ s i ∧ s' = s + 1 ∧ i' = i + 1) ∨ (SB (cl β0) ω σ s i ∧ 1 ≤ h ∧ ∃ e, i < e ∧ i' = e + 1 ∧ ω 1 e = 26 ∧ ω 5 e = nI i ∧ ω 5 i = nI e ∧ RunP F b r N it β0 ω σ (h - 1) (s + 1) s' (i + 1) e)) : OneP F b r N it β0 ω σ h s i i' := by
  intro Z w dn
  have w26 : ω 1 i ≠ 26 := by
    rcases q with ⟨q, -⟩ | ⟨q, -⟩
    · exact SI_26 q
    · exact SB_26 q
  by_cases d3 : Z.2.1 = 300
  · refine ⟨Z, some true, w, Nat.le_refl _, dn, fun v μ hv cX nX => ⟨sI μ r 6 1, CX_ag cX (P := fun a k => a = r ∧ k = 6) (Ag.sI ⟨rfl, rfl⟩) (fun q hq k => by omega) (fun k _ _ _ => by omega), Ag.sI (by omega), by rw [mI_sI, if_pos rfl, if_pos rfl, if_pos rfl], 1, by omega, fun z => (by cases z), fun _ n hn => ?_⟩, fun D μ hD cM nM h41 => ⟨sI (sI μ 141 41 1) 141 48 1, ?_, ?_⟩⟩
    · obtain ⟨n', rfl⟩ : ∃ n', n = n' + 1 := ⟨n - 1, by omega⟩
      exact turnS nX h60 (by omega) (by omega) w26 (by rw [cX.2.1, d3]) _
    · unfold f_X12_doOne
      rw [if_pos (by rw [cM.2.1, d3]; rfl), if_pos (Or.inr rfl)]
    · exact ⟨CMz_ag cM (P := fun a k => a = 141 ∧ (k = 41 ∨ k = 48)) ((Ag.sI ⟨rfl, Or.inl rfl⟩).tr (Ag.sI ⟨rfl, Or.inr rfl⟩)) (fun k _ => by omega) (fun k _ _ => by omega), (Ag.sI (by omega)).tr (Ag.sI (by omega)), rfl, rfl⟩
  · obtain ⟨Z0, hZ0⟩ : ∃ Z0 : LZ, Z0 = (Z.1, Z.2.1 + 1, Z.2.2.1, Z.2.2.2) := ⟨_, rfl⟩
    have w0 : WI β0 Z0 := by rw [hZ0]; exact w
    have dn0 : Z0.2.1 = Z.2.1 + 1 := by rw [hZ0]
    -- the count, in the class
    have cX0 : ∀ μ, CX μ b r Z → CX (sI μ r 1 (nI (Z.2.1 + 1))) b r Z0 := fun μ cX => by
      rw [hZ0]
      refine ⟨cX.1.ag (P := fun a _ => a = r) (Ag.sI rfl) (fun q hq k => by omega), ?_, ?_, fun j h1 h2 => ?_⟩
      · rw [mI_sI, if_pos rfl, if_pos rfl]
      · rw [mI_nk (by omega)]; exact cX.2.2.1
      · rw [mI_nk (by omega)]; exact cX.2.2.2 j h1 h2
    have A0 : ∀ μ, Ag (PXl b r i i') μ (sI μ r 1 (nI (Z.2.1 + 1))) := fun μ => Ag.sI (by omega)
    have P0 : ∀ μ ν, Ag (PX0 b r) μ ν → Ag (PXl b r i i') μ ν := fun μ ν a => a.mono (fun a k q => by omega)
    have r6 : ∀ μ ν, Ag (PX0 b r) μ ν → mI ν r 6 = mI μ r 6 := fun μ ν a => a.i (by clear q; omega)
    have s6 : ∀ μ, mI (sI μ r 1 (nI (Z.2.1 + 1))) r 6 = mI μ r 6 := fun μ => mI_nk (by omega)
    -- .. and in the reference
    have cM0 : ∀ μ, CMz μ Z → CMz (sI μ 141 43 (nI (Z.2.1 + 1))) Z0 := fun μ cM => by
      rw [hZ0]
      refine ⟨cM.1.at rfl, ?_, ?_, fun j h1 h2 => ?_⟩
      · rw [mI_sI, if_pos rfl, if_pos rfl]
      · rw [mI_nk (by omega)]; exact cM.2.2.1
      · rw [mI_nk (by omega)]; exact cM.2.2.2 j h1 h2
    have B0 : ∀ μ, Ag PMl μ (sI μ 141 43 (nI (Z.2.1 + 1))) := fun μ => Ag.sI (by omega)
    have ref0 : ∀ D μ, CMz μ Z → NMs μ σ → f_X12_doOne F (t_X12_doAll F D) (nI s) μ = (if 5 ≤ σ (2 + 9 * s) then (if σ (2 + 9 * s) = 5 then (f_X12_isSo F (nI (130 + 9 * s)) (sI μ 141 43 (nI (Z.2.1 + 1)))).bind fun x17 => (if x17 = true then (rdA (sI μ 141 43 (nI (Z.2.1 + 1))) 146 2000 (nI (130 + 9 * s) + (8 : Int32))).bind fun x25 => (t_X12_doAll F D (nI (s + 1)) x25 (sI μ 141 43 (nI (Z.2.1 + 1)))).bind fun μ27 => some μ27 else (if σ (2 + 9 * s) = 6 then L_X12_doOne_118 F (t_X12_doAll F D) (nI s) (nI (130 + 9 * s)) (fun μ24 => some μ24) F 0 (sI μ 141 43 (nI (Z.2.1 + 1))) else (if σ (2 + 9 * s) ≤ 6 then some (sI μ 141 43 (nI (Z.2.1 + 1))) else (if 1 = 0 ∨ 1 = 1 then some (sI (sI μ 141 43 (nI (Z.2.1 + 1))) 141 41 1) else none)))) else (if σ (2 + 9 * s) = 6 then L_X12_doOne_118 F (t_X12_doAll F D) (nI s) (nI (130 + 9 * s)) (fun μ16 => some μ16) F 0 (sI μ 141 43 (nI (Z.2.1 + 1))) else (if σ (2 + 9 * s) ≤ 6 then some (sI μ 141 43 (nI (Z.2.1 + 1))) else (if 1 = 0 ∨ 1 = 1 then some (sI (sI μ 141 43 (nI (Z.2.1 + 1))) 141 41 1) else none)))) else bd (f_X12_does F (nI (130 + 9 * s)) (sI μ 141 43 (nI (Z.2.1 + 1)))) fun x28 μ29 => some (sI μ29 141 44 ((mI (sI μ 141 43 (nI (Z.2.1 + 1))) 141 44) + (if x28 = true then (0 : Int32) else 1)))) := fun D μ cM nM => by
      have rd : rdA (sI μ 141 43 (nI (Z.2.1 + 1))) 146 2000 (nI (130 + 9 * s)) = some (σ (2 + 9 * s)) := NMs_rd (μ := sI μ 141 43 (nI (Z.2.1 + 1))) nM (by omega) (by congr 1; omega)
      unfold f_X12_doOne
      rw [cM.2.1, if_neg (fun y => by have y2 : Z.2.1 = 300 := (eqL (n := 300) (by omega) (by decide)).mp y; omega), nI_1, show (130 : Int32) + (9 : Int32) * nI s = nI (130 + 9 * s) by rw [Lmul, Ladd], rd, Option.bind_some, nI_1]
    have n41 : ∀ μ, mI μ 141 41 = 0 → mI (sI μ 141 43 (nI (Z.2.1 + 1))) 141 41 = 0 := fun μ z => z
    rcases q with ⟨si, es, ei⟩ | ⟨sb, h1, e, he, ei, we, w5e, w5i, IN⟩
    · by_cases z27 : ω 1 i = 27
      · -- stop
        have s7 := SI_27 si z27
        refine ⟨Z0, some false, w0, by omega, by omega, fun v μ hv cX nX => ⟨sI μ r 1 (nI (Z.2.1 + 1)), cX0 μ cX, A0 μ, by rw [if_neg (by decide)]; exact s6 μ, 2, by omega, fun z => (by cases z), fun _ n hn => ?_⟩, fun D μ hD cM nM h41 => ⟨sI (sI μ 141 43 (nI (Z.2.1 + 1))) 141 41 1, ?_, ?_⟩⟩
        · obtain ⟨n', rfl⟩ : ∃ n', n = n' + 2 := ⟨n - 2, by omega⟩
          have nX0 := NXw_ag hb hr hN nX (A0 μ)
          have bo : f_X4_behindOrder F r b N (nI i) (sI μ r 1 (nI (Z.2.1 + 1))) = some (nI it, sI μ r 1 (nI (Z.2.1 + 1))) := by
            unfold f_X4_behindOrder
            rw [NXw_rd nX0 (by omega) (by omega) (by omega), Option.bind_some, NXw_rd nX0 (by omega) (by omega) (by omega), Option.bind_some, z27, if_neg (by decide), if_neg (by decide), if_neg (by decide), if_neg (by decide), if_neg (by decide), if_neg (by decide), if_pos rfl, nX0.1]
          rw [turnO nX h60 (by omega) (by omega) w26 cX.2.1 (by omega), bo, bd_some]
          exact turnZ nX0 h60 (by omega) n'
        · rw [ref0 D μ cM nM, s7, if_pos (by decide), if_neg (by decide), if_neg (by decide), if_neg (by decide), if_pos (Or.inr rfl)]
        · exact ⟨CMz_ag (cM0 μ cM) (P := fun a k => a = 141 ∧ k = 41) (Ag.sI ⟨rfl, rfl⟩) (fun k _ => by omega) (fun k _ _ => by omega), (B0 μ).tr (Ag.sI (by omega)), rfl, rfl⟩
      · obtain ⟨Z', w', dn', s5, -, X, M⟩ := ORD1 (N := N) (it := it) hb hr hF (by omega : s < 30) (by omega : i < 60) w0 si z27
        refine ⟨Z', none, w', by omega, by omega, fun v μ hv cX nX => ?_, fun D μ hD cM nM h41 => ?_⟩
        · have nX0 := NXw_ag hb hr hN nX (A0 μ)
          obtain ⟨ν, x1, x2, x3⟩ := X _ (cX0 μ cX) nX0
          refine ⟨ν, x2, (A0 μ).tr (P0 _ _ x3), by rw [if_neg (by decide), r6 _ _ x3]; exact s6 μ, 1, by omega, fun _ => ⟨by omega, fun n => ?_⟩, fun z => absurd rfl z⟩
          rw [turnO nX h60 (by omega) (by omega) w26 cX.2.1 (by omega), x1, bd_some, ei]
        · obtain ⟨x, ν, m1, m2, m3⟩ := M _ (cM0 μ cM) nM
          refine ⟨_, by rw [ref0 D μ cM nM, if_neg (fa_of_lt s5).2.1, m1, bd_some], m2, ((B0 μ).tr (m3.mono (fun a k q => by omega))).tr (Ag.sI (by omega)), ?_, ?_⟩
          · rw [mI_nk (by omega), m3.i (by omega), if_pos rfl]; exact h41
          · rw [mI_nk (by omega), m3.i (by omega), if_neg (by decide)]; rfl
    · by_cases z25 : ω 1 i = 25
      · -- a loop
        obtain ⟨s6', vv, hv1, hv2, w2, s3⟩ := SB_25 sb z25
        obtain ⟨Z', o, w', d1, d2, X, M⟩ := LOOPS hb hr hN hF h60 (by omega : s < 30) hs' he (by omega : e < it) hv2 h1 z25 we w5e s3 s10 IN vv hv1 (Nat.le_refl _) Z0 w0 (by omega)
        refine ⟨Z', o, w', by omega, d2, fun v μ hv cX nX => ?_, fun D μ hD cM nM h41 => ?_⟩
        · have nX0 := NXw_ag hb hr hN nX (A0 μ)
          have A1 : Ag (PXl b r i i') (sI μ r 1 (nI (Z.2.1 + 1))) (sA (sI μ r 1 (nI (Z.2.1 + 1))) (r + 1) i (nI vv)) := Ag.sA (by omega)
          have bo : f_X4_behindOrder F r b N (nI i) (sI μ r 1 (nI (Z.2.1 + 1))) = some (nI (i + 1), sA (sI μ r 1 (nI (Z.2.1 + 1))) (r + 1) i (nI vv)) := by
            unfold f_X4_behindOrder
            rw [NXw_rd nX0 (by omega) (by omega) (by omega), Option.bind_some, NXw_rd nX0 (by omega) (by omega) (by omega), Option.bind_some, z25, if_neg (by decide), if_neg (by decide), if_neg (by decide), if_neg (by decide), if_neg (by decide), if_pos rfl, w2, wrA_n (by omega) (by omega), Option.bind_some, nI_1]
          obtain ⟨ν, u⟩ := X (v + 1) (sA (sI μ r 1 (nI (Z.2.1 + 1))) (r + 1) i (nI vv)) (by omega) (CX_ag (cX0 μ cX) (P := fun a _ => a = r + 1) (Ag.sA rfl) (fun q hq k => by omega) (fun k _ _ _ => by omega)) (NXw_ag hb hr hN nX0 A1) (by rw [mA_sA, if_pos rfl, if_pos rfl])
          rw [ei]
          refine ⟨ν, XR_pre (T0 := 1) (i1 := i + 1) (Z1 := Z0) (lo' := i) (hi' := e + 1) (c' := vv) (fun n => ?_) (μ1 := sA (sI μ r 1 (nI (Z.2.1 + 1))) (r + 1) i (nI vv)) (by rw [← ei]; exact (A0 μ).tr A1) (s6 μ) u (by omega) (by omega) (by omega)⟩
          rw [turnO nX h60 (by omega) (by omega) w26 cX.2.1 (by omega), bo, bd_some]
        · obtain ⟨ν, y1, y2⟩ := M D F _ hD (by omega) (cM0 μ cM) nM (n41 μ h41)
          rw [show vv - vv = 0 by omega] at y1
          refine ⟨ν, ?_, y2.1, (B0 μ).tr y2.2.1, y2.2.2.1, ?_⟩
          · rw [ref0 D μ cM nM, s6', if_pos (by decide), if_neg (by decide), if_pos rfl]
            exact y1
          · rw [y2.2.2.2]; rfl
      · -- a test
        obtain ⟨tb, s5, wk, X, M⟩ := TEST (b := b) (r := r) (N := N) (it := it) hF (by omega : s < 30) (by omega : i < 60) w0 sb z25
        have nw : ∀ c : Int32, c = 13 ∨ c = 17 ∨ c = 18 ∨ c = 19 ∨ c = 20 ∨ c = 25 ∨ c = 27 → ¬ ω 1 i = c := fun c hc y => by
          rw [y] at wk
          rcases hc with rfl | rfl | rfl | rfl | rfl | rfl | rfl <;> revert wk <;> decide
        have bo : ∀ μ, CX μ b r Z → NXw μ N it ω → f_X4_behindOrder F r b N (nI i) (sI μ r 1 (nI (Z.2.1 + 1))) = some ((if tb = true then nI (i + 1) else nI (e + 1)), sI μ r 1 (nI (Z.2.1 + 1))) := fun μ cX nX => by
          have nX0 := NXw_ag hb hr hN nX (A0 μ)
          unfold f_X4_behindOrder
          rw [NXw_rd nX0 (by omega) (by omega) (by omega), Option.bind_some, NXw_rd nX0 (by omega) (by omega) (by omega), Option.bind_some, if_neg (nw 13 (by decide)), if_neg (nw 17 (by decide)), if_neg (nw 18 (by decide)), if_neg (nw 19 (by decide)), if_neg (nw 20 (by decide)), if_neg (nw 25 (by decide)), if_neg (nw 27 (by decide)), X _ (cX0 μ cX) nX0, Option.bind_some]
          cases tb with
          | true => rw [if_pos rfl, if_pos rfl, nI_1]
          | false => rw [if_neg (by decide), if_neg (by decide), NXw_rd nX0 (by omega) (by omega) (by omega), Option.bind_some, w5i, nI_1]
        cases tb with
        | false =>
          refine ⟨Z0, none, w0, by omega, by omega, fun v μ hv cX nX => ⟨_, cX0 μ cX, A0 μ, by rw [if_neg (by decide)]; exact s6 μ, 1, by omega, fun _ => ⟨by omega, fun n => ?_⟩, fun z => absurd rfl z⟩, fun D μ hD cM nM h41 => ⟨_, ?_, cM0 μ cM, B0 μ, h41, rfl⟩⟩
          · rw [turnO nX h60 (by omega) (by omega) w26 cX.2.1 (by omega), bo μ cX nX, bd_some, if_neg (by decide), ei]
          · rw [ref0 D μ cM nM, s5, if_pos (by decide), if_pos rfl, M _ (cM0 μ cM) nM, Option.bind_some, if_neg (by decide), if_neg (by decide), if_pos (by decide)]
        | true =>
          obtain ⟨Z1, o, w1, d1, d2, X1, M1⟩ := IN Z0 w0 (by omega)
          refine ⟨Z1, o, w1, by omega, d2, fun v μ hv cX nX => ?_, fun D μ hD cM nM h41 => ?_⟩
          · have nX0 := NXw_ag hb hr hN nX (A0 μ)
            obtain ⟨ν, u⟩ := X1 (v + 1) _ (by omega) (cX0 μ cX) nX0
            have st : ∀ n, LL F b r N (n + 1) (nI i) (nI v) μ = LL F b r N n (nI (i + 1)) (nI (v + 1)) (sI μ r 1 (nI (Z.2.1 + 1))) := fun n => by rw [turnO nX h60 (by omega) (by omega) w26 cX.2.1 (by omega), bo μ cX nX, bd_some, if_pos rfl]
            refine ⟨ν, ?_⟩
            by_cases ho : o = none
            · subst ho
              obtain ⟨x1, x2, x3, T, x4, x5, -⟩ := u
              obtain ⟨y1, y2⟩ := x5 rfl
              rw [if_neg (by decide)] at x3
              have nX1 := NXw_ag hb hr hN nX0 x2
              have en : ∀ n, LL F b r N (n + 1) (nI e) (nI (v + 1 + T)) ν = LL F b r N n (nI (e + 1)) (nI (v + 1 + T + 1)) ν := fun n => by
                rw [turnE nX1 h60 (by omega) (by omega) we]
                unfold f_X4_behindEnd
                rw [NXw_rd nX1 (by omega) (by omega) (by omega), Option.bind_some, w5e, NXw_rd nX1 (by omega) (by omega) (by omega), Option.bind_some, if_neg z25, bd_some, nI_1]
              rw [ei]
              exact XR_pre (T0 := 1) (i1 := i + 1) (Z1 := Z0) (lo' := i) (hi' := e + 1) (c' := 1) st (by rw [← ei]; exact A0 μ) (s6 μ) (XR_pre (T0 := T) (i1 := e) (Z1 := Z1) (lo' := i) (hi' := e + 1) (c' := 1) y2 (x2.mono (fun a k q => by omega)) x3 (XR_pre (T0 := 1) (i1 := e + 1) (Z1 := Z1) (lo' := i) (hi' := e + 1) (c' := 0) en Ag.rf rfl (XR_nil x1) (by omega) (by omega) (by omega)) (by omega) (by omega) (by omega)) (by omega) (by omega) (by omega)
            · exact XR_pre (T0 := 1) (i1 := i + 1) (Z1 := Z0) (lo' := i + 1) (hi' := e) (c' := 0) st (A0 μ) (s6 μ) (XR_j u ho) (by omega) (by omega) (by omega)
          · obtain ⟨D', rfl⟩ : ∃ D', D = D' + 1 := ⟨D - 1, by omega⟩
            obtain ⟨ν, y1, y2⟩ := M1 D' F _ (by omega) (by omega) (cM0 μ cM) nM (n41 μ h41)
            have y1' : t_X12_doAll F (D' + 1) (nI (s + 1)) (nI s') (sI μ 141 43 (nI (Z.2.1 + 1))) = some ν := y1
            have rd8 : rdA (sI μ 141 43 (nI (Z.2.1 + 1))) 146 2000 (nI (130 + 9 * s) + (8 : Int32)) = some (nI s') := by rw [← s10]; exact NMs_rd (μ := sI μ 141 43 (nI (Z.2.1 + 1))) nM (by omega) (by rw [st_v])
            refine ⟨ν, ?_, y2.1, (B0 μ).tr y2.2.1, y2.2.2.1, ?_⟩
            · rw [ref0 (D' + 1) μ cM nM, s5, if_pos (by decide), if_pos rfl, M _ (cM0 μ cM) nM, Option.bind_some, if_pos rfl, rd8, Option.bind_some, y1']
              rfl
            · rw [y2.2.2.2]; rfl
/-- orders one after another -/
theorem RUN (hb : b = 15 ∨ b = 27) (hr : r = 137 ∨ r = 139) (hN : N = 39 ∨ N = 45) (hF : 2000000 ≤ F) (h60 : it ≤ 60) : ∀ d h s t i j, SQ (cl β0) ω σ d h s t i j → t ≤ 30 → j ≤ it → RunP F b r N it β0 ω σ h s t i j := by
  have nil : ∀ h s i, s ≤ 30 → RunP F b r N it β0 ω σ h s s i i := fun h s i hs Z w dn => by
    refine ⟨Z, none, w, Nat.le_refl _, dn, fun v μ hv cX nX => ⟨μ, XR_nil cX⟩, fun D n μ hD hn cM nM h41 => ⟨μ, ?_, cM, Ag.rf, h41, rfl⟩⟩
    obtain ⟨n', rfl⟩ : ∃ n', n = n' + 1 := ⟨n - 1, by omega⟩
    rw [L_X12_doAll_2_s, if_pos ((nIle (by omega) (by omega)).mpr (Nat.le_refl _))]
  intro d
  induction d with
  | zero =>
    rintro h s t i j ⟨rfl, rfl⟩ ht hj
    exact nil h s i ht
  | succ d ih =>
    intro h s t i j q ht hj
    rcases q with ⟨rfl, rfl⟩ | ⟨q1, q2, s', i', q3, q4, q5, q6, q7, q8, q9⟩
    · exact nil h s i ht
    · have one : OneP F b r N it β0 ω σ h s i i' := ONE hb hr hN hF h60 q3 (by omega) q5 (by omega) q7 (by
        rcases q9 with q9 | ⟨a1, a2, e, a3, a4, a5, a6, a7, a8⟩
        · exact Or.inl q9
        · exact Or.inr ⟨a1, a2, e, a3, a4, a5, a6, a7, ih (h - 1) (s + 1) s' (i + 1) e a8 (by omega) (by omega)⟩)
      intro Z w dn
      obtain ⟨Z1, o1, w1, d1, d1', X1, M1⟩ := one Z w dn
      have rd8 : ∀ μ, NMs μ σ → rdA μ 146 2000 (((130 : Int32) + ((9 : Int32) * nI s)) + (8 : Int32)) = some (nI s') := fun μ hm => by
        rw [show (130 : Int32) + (9 : Int32) * nI s = nI (130 + 9 * s) by rw [Lmul, Ladd], ← q7]
        exact NMs_rd hm (by omega) (by rw [st_v])
      have ref1 : ∀ D n μ, h ≤ D → CMz μ Z → NMs μ σ → mI μ 141 41 = 0 → ∃ ν, L_X12_doAll_2 F (f_X12_doOne F (t_X12_doAll F D)) (nI t) (fun μ4 => some μ4) (n + 1) (nI s) μ = L_X12_doAll_2 F (f_X12_doOne F (t_X12_doAll F D)) (nI t) (fun μ4 => some μ4) n (nI s') ν ∧ MR Z1 o1 μ ν := fun D n μ hD cM nM h41 => by
        obtain ⟨ν, y1, y2⟩ := M1 D μ hD cM nM h41
        refine ⟨ν, ?_, y2⟩
        rw [L_X12_doAll_2_s, if_neg (fun y => by have := (nIle (by omega) (by omega)).mp y; omega), if_pos h41, y1, Option.bind_some, rd8 ν (NMs_ag nM y2.2.1), Option.bind_some]
      by_cases ho : o1 = none
      · subst ho
        obtain ⟨Z2, o2, w2, d2, d2', X2, M2⟩ := ih h s' t i' j q8 ht hj Z1 w1 d1'
        refine ⟨Z2, o2, w2, by omega, d2', fun v μ hv cX nX => ?_, fun D n μ hD hn cM nM h41 => ?_⟩
        · obtain ⟨ν, x1, x2, x3, T, x4, x5, -⟩ := X1 v μ hv cX nX
          obtain ⟨y1, y2⟩ := x5 rfl
          rw [if_neg (by decide)] at x3
          obtain ⟨ξ, u⟩ := X2 (v + T) ν (by omega) x1 (NXw_ag hb hr hN nX x2)
          exact ⟨ξ, XR_pre (T0 := T) (i1 := i') (Z1 := Z1) (lo' := i') (hi' := j) (c' := 0) y2 (x2.mono (fun a k q => by omega)) x3 u (by omega) (by omega) (by omega)⟩
        · obtain ⟨n', rfl⟩ : ∃ n', n = n' + 1 := ⟨n - 1, by omega⟩
          obtain ⟨ν, y1, y2⟩ := ref1 D n' μ hD cM nM h41
          obtain ⟨ξ, z1, z2⟩ := M2 D n' ν hD (by omega) y2.1 (NMs_ag nM y2.2.1) (MR_0 y2)
          exact ⟨ξ, by rw [y1, z1], MR_tr y2 z2⟩
      · refine ⟨Z1, o1, w1, d1, d1', fun v μ hv cX nX => ?_, fun D n μ hD hn cM nM h41 => ?_⟩
        · obtain ⟨ν, x⟩ := X1 v μ hv cX nX
          exact ⟨ν, XR_w (XR_j x ho) (Nat.le_refl _) q6⟩
        · obtain ⟨n', rfl⟩ : ∃ n', n = n' + 2 := ⟨n - 2, by omega⟩
          obtain ⟨ν, y1, y2⟩ := ref1 D (n' + 1) μ hD cM nM h41
          refine ⟨ν, ?_, y2⟩
          rw [y1, L_X12_doAll_2_s, if_neg (MR_1 y2 ho)]
          split <;> rfl
end LIFEO
