/-! ===== mean ===== -/
abbrev Pcn (b1 a k : Nat) : Prop := (b1 ≤ a ∧ a < b1 + 12) ∨ (a = 139 ∧ k ≤ 7) ∨ a = 140
section MEAN
variable {F b0 b1 N it S d v n : Nat} {β : Nat → Nat} {ω : Nat → Nat → Int32} {σ : Nat → Int32}
theorem M_save {μ : Mm} (h : CB μ β) (hF : 2000000 ≤ F) {v1 v2 : Int32} {K : Mm → Option (Bool × Mm)} : L_X12_mean_63 F v1 v2 K F 0 μ = K (putA μ 148 (fun k => nI (β k)) 0 128) := by
  refine iter2 (L := L_X12_mean_63 F v1 v2 K) (fun i => nI i) (fun i => putA μ 148 (fun k => nI (β k)) 0 i) (N := 128) (by omega) (fun i hi q => ?_) (fun q => ?_)
  · have hc : CB (putA μ 148 (fun k => nI (β k)) 0 i) β := h.at ((putA_ag (P := fun a _ => a = 148) (fun _ _ _ => rfl)).A (fun _ => by omega))
    rw [L_X12_mean_63_s, putA_n, Nat.zero_add]
    simp (disch := omega) only [Option.bind_some, bd_some, eqL, leL, ltL, Lle, Llt, addL, Ladd, Lmul, mulL, nIle, nIlt, nIeq, nI_add, pk_mul, hc.rd, wrA_n]
    rw [if_neg (by omega)]
  · rw [L_X12_mean_63_s]
    simp (disch := omega) only [Option.bind_some, bd_some, eqL, leL, ltL, Lle, Llt, addL, Ladd, Lmul, mulL, nIle, nIlt, nIeq, nI_add, pk_mul]
    rw [if_pos (by omega)]
theorem M_back {μ : Mm} (h : ∀ k, k < 128 → mA μ 148 k = nI (β k)) (hF : 2000000 ≤ F) {v1 v2 v5 : Int32} {v3 : Int64} {K : Mm → Option (Bool × Mm)} : L_X12_mean_118 F v1 v2 v3 v5 K F 0 μ = K (putA μ 146 (fun k => nI (β k)) 0 128) := by
  refine iter2 (L := L_X12_mean_118 F v1 v2 v3 v5 K) (fun i => nI i) (fun i => putA μ 146 (fun k => nI (β k)) 0 i) (N := 128) (by omega) (fun i hi q => ?_) (fun q => ?_)
  · have hr : rdA (putA μ 146 (fun k => nI (β k)) 0 i) 148 128 (nI i) = some (nI (β i)) := by rw [rdA_n (by omega) (by omega), putA_mA, if_neg (by omega), h i hi]
    rw [L_X12_mean_118_s, putA_n, Nat.zero_add]
    simp (disch := omega) only [Option.bind_some, bd_some, eqL, leL, ltL, Lle, Llt, addL, Ladd, Lmul, mulL, nIle, nIlt, nIeq, nI_add, pk_mul, hr, wrA_n]
    rw [if_neg (by omega)]
  · rw [L_X12_mean_118_s]
    simp (disch := omega) only [Option.bind_some, bd_some, eqL, leL, ltL, Lle, Llt, addL, Ladd, Lmul, mulL, nIle, nIlt, nIeq, nI_add, pk_mul]
    rw [if_pos (by omega)]
theorem MEANS (hbb : (b0 = 15 ∧ b1 = 27) ∨ (b0 = 27 ∧ b1 = 15)) (hN : N = 39 ∨ N = 45) (hF : 2000000 ≤ F) (w : WF β) (h5 : β 5 ≤ 9999) (h60 : it ≤ 60) (h30 : S ≤ 30) (s1 : σ 1 = nI S) (sq : SQ (cl β) ω σ d 3 0 S 0 it) (hvn : v + n ≤ 10000) (hn : n ≤ 20) : ∀ m i acc, i + m = n → acc ≤ 25 * i → ∃ acc', acc' ≤ 25 * n ∧ (∀ (K : Int64 → Mm → Option (Bool × Mm)) (fu : Nat) (μ : Mm), m < fu → mR μ 0 = b0 → mR μ 1 = b1 → mR μ 2 = N → BX μ b0 β → NXw μ N it ω → ∃ ν, L_X11_mean_53 F (nI v) (nI n) K fu (lN acc) (nI i) μ = K (lN acc') ν ∧ Ag (Pcn b1) μ ν) ∧ (∀ (K : Int64 → Mm → Option (Bool × Mm)) (fu : Nat) (μ : Mm), m < fu → CB μ β → NMs μ σ → (∀ k, k < 128 → mA μ 148 k = nI (β k)) → ∃ ν, L_X12_mean_93 F (nI v) (nI n) K fu (lN acc) (nI i) μ = K (lN acc') ν ∧ CB ν β ∧ Ag PMl μ ν) := by
  have g0 : gBk b0 = some b0 := by rcases hbb with ⟨rfl, rfl⟩ | ⟨rfl, rfl⟩ <;> rfl
  have g1 : gBk b1 = some b1 := by rcases hbb with ⟨rfl, rfl⟩ | ⟨rfl, rfl⟩ <;> rfl
  have gN : gNt N = some N := by rcases hN with rfl | rfl <;> rfl
  intro m
  induction m with
  | zero =>
    intro i acc hi ha
    refine ⟨acc, by omega, fun K fu μ hfu _ _ _ _ _ => ⟨μ, ?_, Ag.rf⟩, fun K fu μ hfu cB _ _ => ⟨μ, ?_, cB, Ag.rf⟩⟩
    · obtain ⟨f, rfl⟩ : ∃ f, fu = f + 1 := ⟨fu - 1, by omega⟩
      rw [L_X11_mean_53_s, if_pos ((nIle (by omega) (by omega)).mpr (by omega))]
    · obtain ⟨f, rfl⟩ : ∃ f, fu = f + 1 := ⟨fu - 1, by omega⟩
      rw [L_X12_mean_93_s, if_pos ((nIle (by omega) (by omega)).mpr (by omega))]
  | succ m ih =>
    intro i acc hi ha
    obtain ⟨Z', o, w', dn', X, M⟩ := LIVES (F := F) (b := b1) (r := 139) (N := N) (v0 := v + i) (by omega) (by omega) hN hF w h5 h60 h30 (by omega) s1 sq
    have hw25 : wrongAll Z'.1 ≤ 25 := Nat.le_trans wrongAll_le w'.1.cl_le
    obtain ⟨acc', a1, cX, cM⟩ := ih (i + 1) (acc + wrongAll Z'.1) (by omega) (by omega)
    have av : lN acc + (nI (wrongAll Z'.1)).toInt64 = lN (acc + wrongAll Z'.1) := by rw [nI_l (by omega), lN_add]
    have ng : ¬ nI n ≤ nI i := fun z => by have := (nIle (by omega) (by omega)).mp z; omega
    refine ⟨acc', a1, fun K fu μ hfu r0 r1 r2 bx nX => ?_, fun K fu μ hfu cB nM h148 => ?_⟩
    · obtain ⟨f, rfl⟩ : ∃ f, fu = f + 1 := ⟨fu - 1, by omega⟩
      have hd : b1 + 12 ≤ b0 ∨ b0 + 12 ≤ b1 := by omega
      have A1 := tk2_ag (μ := μ) (b := b1) (c := b0)
      have nX1 : NXw (tk2 μ b1 b0) N it ω := ⟨by rw [A1.i (by omega)]; exact nX.1, fun j j1 j2 k hk => by rw [A1.a (by omega)]; exact nX.2 j j1 j2 k hk⟩
      obtain ⟨ν1, x1, x2, x3, x4, x5⟩ := X (tk2 μ b1 b0) (tk2_bx bx w hd) nX1
      have A2 : Ag (Pcn b1) μ ν1 := (A1.mono (fun a k q => by omega)).tr (x5.mono (fun a k q => by omega))
      obtain ⟨ν2, y1, y2⟩ := cX K f ν1 (by omega) (by rw [A2.2]; exact r0) (by rw [A2.2]; exact r1) (by rw [A2.2]; exact r2) (bx.ag A2 (fun i hi k => by omega)) ⟨by rw [A2.i (by omega)]; exact nX.1, fun j j1 j2 k hk => by rw [A2.a (by omega)]; exact nX.2 j j1 j2 k hk⟩
      refine ⟨ν2, ?_, A2.tr y2⟩
      rw [L_X11_mean_53_s, if_neg ng, r1, g1, Option.bind_some, r0, g0, Option.bind_some, X_takeFrom hd, Option.bind_some, A1.2, r1, g1, Option.bind_some, r2, gN, Option.bind_some, nI_add, x1, Option.bind_some, A2.2, r1, g1, Option.bind_some, X_wrongs x2.1 w'.1 hF, Option.bind_some, av, nI_1]
      exact y1
    · obtain ⟨f, rfl⟩ : ∃ f, fu = f + 1 := ⟨fu - 1, by omega⟩
      obtain ⟨ν1, x1, x2, x3, x4⟩ := M μ cB nM
      have A2 : Ag PMl ν1 (putA ν1 146 (fun k => nI (β k)) 0 128) := putA_ag (fun k h1 h2 => by omega)
      have h148' : ∀ k, k < 128 → mA ν1 148 k = nI (β k) := fun k hk => by rw [x4.a (by omega)]; exact h148 k hk
      obtain ⟨ν2, y1, y2, y3⟩ := cM K f (putA ν1 146 (fun k => nI (β k)) 0 128) (by omega) CB_put (NMs_ag (NMs_ag nM x4) A2) (fun k hk => by rw [A2.a (by omega)]; exact h148' k hk)
      refine ⟨ν2, ?_, y2, (x4.tr A2).tr y3⟩
      rw [L_X12_mean_93_s, if_neg ng, nI_add, x1, Option.bind_some, M_allWrong x2.1 w'.1 hF, Option.bind_some, M_back h148' hF, av, nI_1]
      exact y1
end MEAN
section MEAN2
variable {μ : Mm} {F : Nat}
set_option maxHeartbeats 4000000 in
theorem op_mean (h : R μ) (hF : 2000000 ≤ F) (u t : Int32) : Sm (f_X11_mean F u t) (f_X12_mean F u t) μ := by
  obtain ⟨β, nm, ω, σ, pg⟩ := h.pg
  have gn := h.gn
  have hrp := h.rp
  have hrn := h.rn
  unfold RefP at hrp
  unfold RefN at hrn
  have W := pg.wf
  have bx := pg.bx
  by_cases e : inR t 1 20 = true
  · obtain ⟨n, hn1, hn2, hn3, rfl⟩ := inR_of e
    have bX : ((9999 : Int32) - nI n) + (1 : Int32) = nI (10000 - n) := by
      rw [show (9999 : Int32) = nI 9999 from rfl, nIsub (by omega), nI_1]
      congr 1; omega
    have bM : (((10000 : Int32) - nI n).toInt64) = lN (10000 - n) := by
      rw [show (10000 : Int32) = nI 10000 from rfl, nIsub (by omega), nI_l (by omega)]
    have wX : ∀ ν, f_X11_within u 0 (((9999 : Int32) - nI n) + (1 : Int32)) ν = some (inR u 0 (10000 - n)) := fun ν => by rw [bX]; exact within_c u 0 (10000 - n) (by omega) (by omega) ν
    have wM : ∀ ν, f_X12_isIn (u.toInt64) 0 (((10000 : Int32) - nI n).toInt64) ν = some (inR u 0 (10000 - n)) := fun ν => by rw [bM]; exact isIn_c u 0 (10000 - n) (by omega) (by omega) ν
    by_cases e2 : inR u 0 (10000 - n) = true
    · obtain ⟨v, hv1, hv2, hv3, rfl⟩ := inR_of e2
      have n0 : mI μ (mR μ 2) 0 = ω 0 0 := pg.2.2.2.2.2.2.1 0 (by omega)
      have n128 : ∀ ν : Mm, (∀ k, mA ν 146 k = mA μ 146 k) → rdA ν 146 2000 128 = some (σ 0) := fun ν hν => by
        have : rdA ν 146 2000 (nI 128) = some (mA ν 146 128) := rdA_n (by omega) (by omega)
        rw [hν, show mA μ 146 128 = σ 0 from pg.ws 0 (by omega)] at this
        exact this
      rcases pg.nr with ⟨z1, z2⟩ | ⟨z1, z2, S, it, d, hS, hit, hs1, hw2, sq⟩
      · refine h.q 8 false ?_ ?_
        · unfold f_X11_mean
          rw [within_L (by decide) (by decide), e, Option.bind_some, if_pos rfl, wX, e2, Option.bind_some, if_pos rfl, gn, Option.bind_some, n0, if_pos z1]
          rfl
        · unfold f_X12_mean
          rw [isIn_L (by decide) (by decide), e, Option.bind_some, if_pos rfl, wM, e2, Option.bind_some, if_pos rfl, n128 (sI (sI (sI μ 0 0 8) 141 1 0) 141 0 0) (fun k => rfl), Option.bind_some, if_pos z2]
          exact QM_r
      · obtain ⟨acc, a1, X, M⟩ := MEANS (F := F) (b0 := mR μ 0) (b1 := mR μ 1) (N := mR μ 2) (v := v) (n := n) (by omega) (by omega) hF W pg.hr hit hS hs1 sq (by omega) hn2 n 0 0 (by omega) (by omega)
        have nX : NXw μ (mR μ 2) it ω := ⟨by rw [pg.2.2.2.2.2.2.1 2 (by omega)]; exact hw2, pg.wj⟩
        have hn60 : n < 2 ^ 60 := Nat.lt_of_le_of_lt hn2 (by decide)
        have ha63 : acc < 2 ^ 63 := Nat.lt_of_le_of_lt a1 (Nat.lt_of_le_of_lt (show 25 * n ≤ 500 by omega) (by decide))
        have tl : (nI n).toInt64 = lN n := nI_l (by omega)
        obtain ⟨ν, x1, x2⟩ := X (fun u22 μ23 => bd (f_X11_tellFraction F u22 ((nI n).toInt64) μ23) fun x24 μ25 => some (x24, μ25)) F μ (by omega) rfl rfl rfl bx nX
        obtain ⟨a, ha⟩ : ∃ a : Int64, a = lN acc / lN (Nat.gcd acc n) := ⟨_, rfl⟩
        obtain ⟨c, hc⟩ : ∃ c : Int64, c = lN n / lN (Nat.gcd acc n) := ⟨_, rfl⟩
        have tX : ∀ ξ, f_X11_tellFraction F (lN acc) (lN n) ξ = some (true, sI (sJ (sJ ξ 0 1 a) 0 2 c) 0 0 0) := fun ξ => by rw [X_tell ha63 hn60 (by omega) hF, ha, hc]
        have tM : ∀ ξ, f_X12_fraction F (lN acc) (lN n) ξ = some (true, sJ (sJ ξ 141 2 a) 141 3 c) := fun ξ => by rw [M_fraction ha63 hn60 (by omega) hF, ha, hc]
        obtain ⟨ν3, hν3⟩ : ∃ ν3, ν3 = sI (sJ (sJ ν 0 1 a) 0 2 c) 0 0 0 := ⟨_, rfl⟩
        have A3 : Ag (fun a k => Pcn (mR μ 1) a k ∨ (a = 0 ∧ k ≤ 2)) μ ν3 := by
          rw [hν3]
          exact (((x2.mono (fun a k q => Or.inl q)).tr (Ag.sJ (Or.inr ⟨rfl, by omega⟩))).tr (Ag.sJ (Or.inr ⟨rfl, by omega⟩))).tr (Ag.sI (Or.inr ⟨rfl, by omega⟩))
        have hX : f_X11_mean F (nI v) (nI n) μ = some (true, ν3) := by
          unfold f_X11_mean
          rw [within_L (by decide) (by decide), e, Option.bind_some, if_pos rfl, wX, e2, Option.bind_some, if_pos rfl, gn, Option.bind_some, n0, z1, if_neg (by decide)]
          rw [show (0 : Int64) = lN 0 from rfl, show (0 : Int32) = nI 0 from rfl]
          rw [x1, tl, tX, bd_some, hν3]
        obtain ⟨ν4, hν4⟩ : ∃ ν4, ν4 = sI (sI ν3 141 1 0) 141 0 0 := ⟨_, rfl⟩
        have A4 : Ag (fun a k => a = 141 ∧ k < 2) ν3 ν4 := by rw [hν4]; exact (Ag.sI ⟨rfl, by omega⟩).tr (Ag.sI ⟨rfl, by omega⟩)
        have cB4 : CB ν4 β := fun k hk => by rw [A4.a (by omega), A3.a (by omega)]; exact pg.c0 k hk
        have nM4 : NMs ν4 σ := fun k hk => by
          rw [A4.a (by omega), A3.a (by omega)]
          have := pg.ws k hk
          rwa [show 400 * 0 + (128 + k) = 128 + k by omega] at this
        obtain ⟨ν5, hν5⟩ : ∃ ν5, ν5 = putA ν4 148 (fun k => nI (β k)) 0 128 := ⟨_, rfl⟩
        have A5 : Ag (fun a _ => a = 148) ν4 ν5 := by rw [hν5]; exact putA_ag (fun k h1 h2 => rfl)
        obtain ⟨ξ, y1, y2, y3⟩ := M (fun u15 μ16 => bd (f_X12_fraction F u15 ((nI n).toInt64) μ16) fun x17 μ18 => some (x17, μ18)) F ν5 (by omega) (fun k hk => by rw [A5.a (by omega)]; exact cB4 k hk) (fun k hk => by rw [A5.a (by omega)]; exact nM4 k hk) (fun k hk => by rw [hν5, putA_mA, if_pos (by omega)])
        obtain ⟨ζ, hζ⟩ : ∃ ζ, ζ = sJ (sJ ξ 141 2 a) 141 3 c := ⟨_, rfl⟩
        have A6 : Ag (fun a k => a = 141 ∧ 2 ≤ k ∧ k < 4) ξ ζ := by rw [hζ]; exact (Ag.sJ ⟨rfl, by omega, by omega⟩).tr (Ag.sJ ⟨rfl, by omega, by omega⟩)
        have hM : f_X12_mean F (nI v) (nI n) ν3 = some (true, ζ) := by
          unfold f_X12_mean
          rw [← hν4, isIn_L (by decide) (by decide), e, Option.bind_some, if_pos rfl, wM, e2, Option.bind_some, if_pos rfl, show rdA ν4 146 2000 128 = some (σ 0) from NMs_rd nM4 (k := 0) (by omega) rfl, Option.bind_some, z2, if_neg (by decide), M_save cB4 hF, ← hν5]
          rw [show (0 : Int64) = lN 0 from rfl, show (0 : Int32) = nI 0 from rfl]
          rw [y1, tl, tM, bd_some, hζ]
        have A0 : Ag (fun a k => (Pcn (mR μ 1) a k ∨ (a = 0 ∧ k ≤ 2)) ∨ ((a = 141 ∧ k < 4) ∨ a = 148 ∨ PMl a k)) μ ζ := (A3.mono (fun a k q => Or.inl q)).tr ((((A4.mono (fun a k q => Or.inr (Or.inl ⟨q.1, by omega⟩))).tr (A5.mono (fun a k q => Or.inr (Or.inr (Or.inl q))))).tr (y3.mono (fun a k q => Or.inr (Or.inr (Or.inr q))))).tr (A6.mono (fun a k q => Or.inr (Or.inl ⟨q.1, q.2.2⟩))))
        have AM : Ag (fun a k => (a = 141 ∧ k < 4) ∨ a = 148 ∨ PMl a k) ν3 ζ := (((A4.mono (fun a k q => Or.inl ⟨q.1, by omega⟩)).tr (A5.mono (fun a k q => Or.inr (Or.inl q)))).tr (y3.mono (fun a k q => Or.inr (Or.inr q)))).tr (A6.mono (fun a k q => Or.inl ⟨q.1, q.2.2⟩))
        refine ⟨true, ν3, ζ, hX, hM, ?_⟩
        have e00 : mI ζ 0 0 = 0 := by rw [AM.i (by omega), hν3]; rfl
        have e141 : mI ζ 141 0 = 0 := by rw [A6.i (by omega), y3.i (by omega), A5.i (by omega), hν4]; rfl
        refine ⟨rp_ag h.rp A0, rn_ag h.rn A0, rt_ag h.rt A0, by rw [e00, e141], ?_, ?_, tr_ag h.tr A0 (fun a k q => by omega), tp_ag h.tp A0 (by omega) (by omega) (fun k => by omega) (fun k => by omega), eq_agI h.fk A0 (by omega) (by omega), eq_agI h.fa A0 (by omega) (by omega), sw_ag h.sw A0 (fun k => by omega), ?_, mk_ag h.mk A0 (by omega) (by omega) (fun a k h1 h2 => by omega) (fun k h1 h2 => by omega) (fun k h1 h2 => by omega), lv_ag h.lv A0 (fun k h1 h2 => by omega) (by omega) (fun k => by omega)⟩
        · rw [AM.j (by omega), hν3, hζ]; rfl
        · rw [AM.j (by omega), hν3, hζ]; rfl
        · rw [A0.2]
          refine ⟨β, nm, ω, σ, bx.ag A0 (fun i hi k => by omega), ?_, W, pg.hr, ?_, ?_, ?_, ?_, ?_, pg.nr⟩
          · intro k hk
            rw [show 400 * 0 + k = k by omega, A6.a (by omega)]
            exact y2 k hk
          · intro a ha
            rw [A0.l (by omega)]
            exact pg.2.2.2.2.1 a ha
          · intro a ha
            rw [A0.l (by omega)]
            exact pg.2.2.2.2.2.1 a ha
          · intro k hk
            rw [A0.i (by omega)]
            exact pg.2.2.2.2.2.2.1 k hk
          · intro j h1 h2 k hk
            rw [A0.a (by omega)]
            exact pg.wj j h1 h2 k hk
          · intro k hk
            rw [A0.a (by omega)]
            exact pg.ws k hk
    · have z := inR_no e2
      refine h.q 5 false ?_ ?_
      · unfold f_X11_mean
        rw [within_L (by decide) (by decide), e, Option.bind_some, if_pos rfl, wX, z]
        rfl
      · unfold f_X12_mean
        rw [isIn_L (by decide) (by decide), e, Option.bind_some, if_pos rfl, wM, z]
        exact QM_r
  · have z := inR_no e
    exact h.q 5 false (by unfold f_X11_mean; rw [within_L (by decide) (by decide), z]; rfl) (by unfold f_X12_mean; rw [isIn_L (by decide) (by decide), z]; exact QM_r)
end MEAN2
