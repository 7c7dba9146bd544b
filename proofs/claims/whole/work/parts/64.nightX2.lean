/-! ===== the class reads nights: orders, ends, all of it ===== -/
section NX2
variable {μ : Mm} {U : Nat → Nat} {e q F b N : Nat} {β : Nat → Nat} {nm : Nat → Int64} {ω : Nat → Nat → Int32}
theorem X_addItem (hN : N = 39 ∨ N = 45) {i : Nat} (hi : i < 60) (h2 : mI μ N 2 = nI i) (R0 : RN μ N ω) {v : Int32} : ∃ ν, f_X5_addItem N v μ = some (nI i, ν) ∧ mI ν N 2 = nI (i + 1) ∧ RN ν N (setI ω i v 0 0 0 (nI i)) ∧ Ag (fun a k => (N < a ∧ a < N + 6) ∨ (a = N ∧ k = 2)) μ ν := by
  unfold f_X5_addItem
  rw [h2, if_pos ((ltL (n := 60) (by omega) (by decide)).mpr hi), wrA_n hi (by omega), Option.bind_some, wrA_n hi (by omega), Option.bind_some, wrA_n hi (by omega), Option.bind_some, wrA_n hi (by omega), Option.bind_some, wrA_n hi (by omega), Option.bind_some]
  have m2 : mI (sA (sA (sA (sA (sA μ (N + 1) i v) (N + 2) i 0) (N + 3) i 0) (N + 4) i 0) (N + 5) i (nI i)) N 2 = nI i := h2
  rw [m2, nI_1]
  refine ⟨_, rfl, ?_, ?_, ?_⟩
  · rw [mI_sI, if_pos rfl, if_pos rfl]
  · have r := RN_wr (RN_wr (RN_wr (RN_wr (RN_wr R0 (j := 1) (i := i) (x := v)) (j := 2) (i := i) (x := 0)) (j := 3) (i := i) (x := 0)) (j := 4) (i := i) (x := 0)) (j := 5) (i := i) (x := nI i)
    exact RN_ag r (P := fun a k => a = N ∧ k = 2) (Ag.sI ⟨rfl, rfl⟩) (fun j h1 h2 k => by omega)
  · exact (((((Ag.sA (by omega)).tr (Ag.sA (by omega))).tr (Ag.sA (by omega))).tr (Ag.sA (by omega))).tr (Ag.sA (by omega))).tr (Ag.sI (by omega))
theorem begins {o : Option Nat} {i : Nat} (hi : i < 28) (ho : o = some i) : f_X6_beginsOrder (oI o) μ = some (isOr i) := by
  subst ho
  unfold f_X6_beginsOrder
  rw [within_L (by decide) (by decide), Option.bind_some]
  have key : ∀ i, i < 28 → (if oI (some i) = 13 then some true else (if inR (oI (some i)) 17 21 = true then some true else (if oI (some i) = 25 then some true else (if oI (some i) = 27 then some true else some false)))) = some (isOr i) := by decide +kernel
  exact key i hi
theorem PR_PZ {ν : Mm} (h : Ag (PR N) μ ν) : Ag (PZ N) μ ν := h.mono (fun a k z => by omega)
theorem X_order (hb : b = 15 ∨ b = 27) (hN : N = 39 ∨ N = 45) (hF : 2000000 ≤ F) (w : WF β) {S : NT} (g : GY U e b N β nm S μ) (hS : NI e S) {c : Nat} (ho : tO U e S.1 = some c) (hc : isOr c = true) : ∃ ν, f_X6_takeOrder F N b μ = some ((ordS U e β nm c S).isRight, ν) ∧ XO μ ν (ordS U e β nm c S) (fun S' => GY U e b N β nm S' ν) ∧ Ag (PZ N) μ ν := by
  obtain ⟨T0, T, g1, g2, g3, g4, g5, B⟩ := g
  obtain ⟨h1, h2, h3, h4, h5⟩ := hS
  have hc2 := of_decide_eq_true hc
  have t := tK0_le (U := U) h1 (tO_K ho)
  have x21 : (nI c = (21 : Int32)) ↔ c = 21 := eqL (n := 21) (by omega) (by decide)
  have x25 : (nI c = (25 : Int32)) ↔ c = 25 := eqL (n := 25) (by omega) (by decide)
  have op0 : ((if nI c = 21 then (1 : Int32) else (if nI c = 25 then (1 : Int32) else 0)) = 0) ↔ opn c = false := by
    unfold opn
    by_cases z : c = 21
    · rw [if_pos (x21.mpr z), decide_eq_true (Or.inl z)]; decide
    · rw [if_neg (fun y => z (x21.mp y))]
      by_cases y : c = 25
      · rw [if_pos (x25.mpr y), decide_eq_true (Or.inr y)]; decide
      · rw [if_neg (fun t => y (x25.mp t)), decide_eq_false (by omega)]; decide
  unfold f_X6_takeOrder
  simp only [jn]
  rw [X_setWord T, Option.bind_some, begins (by omega) ho, Option.bind_some, hc, if_pos rfl, g1, ho, oI_some]
  unfold ordS
  by_cases c30 : 30 ≤ S.2.2.1
  · rw [if_neg (fun z => by have z2 : S.2.2.1 < 30 := (ltL (n := 30) (by omega) (by decide)).mp z; omega), if_pos c30]
    obtain ⟨ν, x1, x2, x3, x4⟩ := X_refuse T (v := 6) 6 rfl
    rw [x1]
    exact ⟨ν, rfl, ⟨x2, x3⟩, x4.mono (fun a k z => Or.inl z)⟩
  · rw [if_pos ((ltL (n := 30) (by omega) (by decide)).mpr (by show S.2.2.1 < 30; omega)), if_neg c30]
    have hit : S.2.1 < 60 := by omega
    -- the item is there
    have A0 : Ag (fun a k => a = N ∧ k = 1) μ (sI μ N 1 (nI S.2.2.1 + 1)) := Ag.sI ⟨rfl, rfl⟩
    obtain ⟨ν1, a1, a2, a3, a4⟩ := X_addItem (μ := sI μ N 1 (nI S.2.2.1 + 1)) hN hit (by rw [A0.i (by omega)]; exact g2) (RN_ag g3 A0 (fun j h1 h2 k => by omega)) (v := nI c)
    have A1 : Ag (PZ N) μ ν1 := (A0.mono (fun a k z => by omega)).tr (a4.mono (fun a k z => by omega))
    -- from the word on
    have rest : ∀ (ν2 : Mm) (dp : Nat) (st : Nat → Nat), Ag (fun a k => (a = 13 ∧ k = 2) ∨ a = 14) ν1 ν2 → mI ν2 13 2 = nI dp → (∀ j, j < dp → mA ν2 14 j = nI (st j)) → ∃ ν, ((f_X9_advance F ν2).bind fun μ12 => (if nI c = 21 then bd (f_X6_takeTest F N b (nI S.2.1) μ12) fun x21 μ22 => (if (bI x21) = 0 then some (false, μ22) else bd (f_X9_takeEndOfPart F μ22) fun x16 μ17 => (if x16 = true then some (true, μ17) else some (false, μ17))) else bd (f_X6_takeRest F N b (nI S.2.1) μ12) fun x19 μ20 => (if (bI x19) = 0 then some (false, μ20) else bd (f_X9_takeEndOfPart F μ20) fun x16 μ17 => (if x16 = true then some (true, μ17) else some (false, μ17))))) = some ((sb (rstS U e β nm c (tN U e S.1)) fun r => sb (endS U e r.1) fun q => (.inr (q, S.2.1 + 1, S.2.2.1 + 1, dp, st, setI S.2.2.2.2.2 S.2.1 (nI r.2.1) (nI r.2.2.1) (nI r.2.2.2.1) (nI r.2.2.2.2) (nI S.2.1)) : Sum Flt NT)).isRight, ν) ∧ XO μ ν (sb (rstS U e β nm c (tN U e S.1)) fun r => sb (endS U e r.1) fun q => (.inr (q, S.2.1 + 1, S.2.2.1 + 1, dp, st, setI S.2.2.2.2.2 S.2.1 (nI r.2.1) (nI r.2.2.1) (nI r.2.2.2.1) (nI r.2.2.2.2) (nI S.2.1)) : Sum Flt NT)) (fun S' => GY U e b N β nm S' ν) ∧ Ag (PZ N) μ ν := by
      intro ν2 dp st A2 hdp hst
      have A12 : Ag (PZ N) μ ν2 := A1.tr (A2.mono (fun a k z => by omega))
      have Aa : Ag (fun a k => (N ≤ a ∧ a < N + 6) ∨ (a = 13 ∧ k = 2) ∨ a = 14) μ ν2 := ((A0.mono (fun a k z => by omega)).tr (a4.mono (fun a k z => by omega))).tr (A2.mono (fun a k z => by omega))
      have T2 := TkX0_ag T0 Aa (by omega) (fun k => by omega) (fun k => by omega)
      obtain ⟨ν3, y1, y2, y3⟩ := X_adv T2 (TkX_ag T Aa (fun k hk => by omega)) h1 hF
      have kp := PT_keep y3
      have T3 := TkX0_ag T2 y3 (by omega) (fun k => by omega) (fun k => by omega)
      have B3 : PGB ν3 b β nm := PGB_ag (PGB_ag B Aa (by omega) (by omega) (fun k => by omega)) y3 (by omega) (by omega) (fun k => by omega)
      have R3 : RN ν3 N (setI S.2.2.2.2.2 S.2.1 (nI c) 0 0 0 (nI S.2.1)) := RN_ag (RN_ag a3 A2 (fun j h1 h2 k => by omega)) y3 (fun j h1 h2 k => by omega)
      obtain ⟨ν4, z1, z2, z3⟩ := X_rest hb hN hF w T3 y2 t.2 B3 hit hc R3
      have A4 : Ag (PZ N) μ ν4 := (A12.tr (y3.mono (fun a k z => by omega))).tr (PR_PZ z3)
      have same : ∀ KK : Bool → Mm → Option (Bool × Mm), (if nI c = 21 then bd (f_X6_takeTest F N b (nI S.2.1) ν3) KK else bd (f_X6_takeRest F N b (nI S.2.1) ν3) KK) = bd (if nI c = 21 then f_X6_takeTest F N b (nI S.2.1) ν3 else f_X6_takeRest F N b (nI S.2.1) ν3) KK := fun KK => by split <;> rfl
      rw [y1, Option.bind_some, same, z1, bd_some]
      cases hr : rstS U e β nm c (tN U e S.1) with
      | inl f =>
        rw [hr] at z2
        exact ⟨ν4, rfl, z2, A4⟩
      | inr r =>
        rw [hr] at z2
        obtain ⟨⟨z4, z5⟩, z6, z7⟩ := z2
        have n1 := rst_ok w t.2 hr
        have T4 := TkX0_ag T3 z3 (by omega) (fun k => by omega) (fun k => by omega)
        obtain ⟨ν5, u1, u2, u3⟩ := X_takeEnd T4 z4 n1.2 hF
        have A5 : Ag (PZ N) μ ν5 := A4.tr (u3.mono (fun a k z => Or.inl z))
        rw [show (Sum.inr r : Sum Flt RR).isRight = true from rfl, if_neg (by decide), u1, bd_some, sb_r]
        cases hE : endS U e r.1 with
        | inl f => rw [hE] at u2; exact ⟨ν5, rfl, u2, A5⟩
        | inr p =>
          rw [hE] at u2
          obtain ⟨u4, u5, u6⟩ := u2
          have F9 : mI ν2 9 2 = mI μ 9 2 ∧ mI ν2 9 3 = mI μ 9 3 := ⟨Aa.i (by omega), Aa.i (by omega)⟩
          refine ⟨ν5, rfl, ⟨⟨TkX0_ag T4 u3 (by omega) (fun k => by omega) (fun k => by omega), u4, ?_, ?_, RN_ag z5 u3 (fun j h1 h2 k => by omega), ?_, fun j hj => ?_, PGB_ag (PGB_ag B3 z3 (by omega) (by omega) (fun k => by omega)) u3 (by omega) (by omega) (fun k => by omega)⟩, by rw [u5, z6, kp.1, F9.1], by rw [u6, z7, kp.2.1, F9.2]⟩, A5⟩
          · show mI ν5 N 1 = nI (S.2.2.1 + 1)
            rw [u3.i (by omega), z3.i (by omega), y3.i (by omega), A2.i (by omega), a4.i (by omega), mI_sI, if_pos rfl, if_pos rfl, nI_1]
          · show mI ν5 N 2 = nI (S.2.1 + 1)
            rw [u3.i (by omega), z3.i (by omega), y3.i (by omega), A2.i (by omega)]
            exact a2
          · show mI ν5 13 2 = nI dp
            rw [u3.i (by omega), z3.i (by omega), y3.i (by omega)]
            exact hdp
          · show mA ν5 14 j = nI (st j)
            rw [u3.a (by omega), z3.a (by omega), y3.a (by omega)]
            exact hst j hj
    by_cases co : opn c = true
    · have nop : ¬ (if nI c = 21 then (1 : Int32) else (if nI c = 25 then (1 : Int32) else 0)) = 0 := fun z => by rw [op0.mp z] at co; cases co
      rw [if_neg nop, g4]
      by_cases c3 : 3 ≤ S.2.2.2.1
      · rw [if_neg (fun z => by have z2 : S.2.2.2.1 < 3 := (ltL (n := 3) (by omega) (by decide)).mp z; omega), if_pos ⟨co, c3⟩]
        obtain ⟨ν, x1, x2, x3, x4⟩ := X_refuse T (v := 7) 7 rfl
        rw [x1]
        exact ⟨ν, rfl, ⟨x2, x3⟩, x4.mono (fun a k z => Or.inl z)⟩
      · have m13 : mI ν1 13 2 = nI S.2.2.2.1 := by rw [a4.i (by omega), A0.i (by omega)]; exact g4
        rw [if_pos ((ltL (n := 3) (by omega) (by decide)).mpr (by show S.2.2.2.1 < 3; omega)), if_neg (show ¬ (opn c = true ∧ 3 ≤ S.2.2.2.1) from fun z => c3 z.2), a1, bd_some, if_neg nop, m13, wrA_n (by omega) (by omega), Option.bind_some]
        have m13b : mI (sA ν1 14 S.2.2.2.1 (nI S.2.1)) 13 2 = nI S.2.2.2.1 := m13
        rw [m13b, nI_1, if_pos co, if_pos co]
        refine rest (sI (sA ν1 14 S.2.2.2.1 (nI S.2.1)) 13 2 (nI (S.2.2.2.1 + 1))) (S.2.2.2.1 + 1) (updN S.2.2.2.2.1 S.2.2.2.1 S.2.1) ((Ag.sA (Or.inr rfl)).tr (Ag.sI (Or.inl ⟨rfl, rfl⟩))) rfl (fun j hj => ?_)
        rw [mA_sI, mA_sA, if_pos rfl]
        by_cases z : j = S.2.2.2.1
        · rw [if_pos z, z, updN_eq]
        · rw [if_neg z, updN_ne z, a4.a (by omega), A0.a (by omega)]; exact g5 j (by omega)
    · have yop : (if nI c = 21 then (1 : Int32) else (if nI c = 25 then (1 : Int32) else 0)) = 0 := op0.mpr (bf co)
      rw [if_pos yop, if_neg (show ¬ (opn c = true ∧ 3 ≤ S.2.2.2.1) from fun z => co z.1), a1, bd_some, if_pos yop, if_neg co, if_neg co]
      exact rest ν1 S.2.2.2.1 S.2.2.2.2.1 Ag.rf (by rw [a4.i (by omega), A0.i (by omega)]; exact g4) (fun j hj => by rw [a4.a (by omega), A0.a (by omega)]; exact g5 j hj)
theorem X_end (hb : b = 15 ∨ b = 27) (hN : N = 39 ∨ N = 45) (hF : 2000000 ≤ F) {S : NT} (g : GY U e b N β nm S μ) (hS : NI e S) (ho : tO U e S.1 = some 26) : ∃ ν, f_X6_takeEnd F N μ = some ((ndS U e S).isRight, ν) ∧ XO μ ν (ndS U e S) (fun S' => GY U e b N β nm S' ν) ∧ Ag (PZ N) μ ν := by
  obtain ⟨T0, T, g1, g2, g3, g4, g5, B⟩ := g
  obtain ⟨h1, h2, h3, h4, h5⟩ := hS
  have t := tK0_le (U := U) h1 (tO_K ho)
  unfold f_X6_takeEnd ndS
  rw [g4]
  by_cases c0 : S.2.2.2.1 = 0
  · rw [if_neg (fun z => by have z2 : 0 < S.2.2.2.1 := (Llt (n := 0) (by omega) (by decide)).mp z; omega), if_pos c0]
    obtain ⟨ν, x1, x2, x3, x4⟩ := X_unfit T
    rw [x1]
    exact ⟨ν, rfl, ⟨x2, x3⟩, x4.mono (fun a k z => Or.inl z)⟩
  · rw [if_pos ((Llt (n := 0) (by omega) (by decide)).mpr (by show 0 < S.2.2.2.1; omega)), if_neg c0]
    have hit : S.2.1 < 60 := by omega
    have hst := h5 (S.2.2.2.1 - 1) (by omega)
    obtain ⟨ν1, y1, y2, y3⟩ := X_adv T0 T h1 hF
    have kp := PT_keep y3
    have m13 : mI ν1 13 2 = nI S.2.2.2.1 := by rw [y3.i (by omega)]; exact g4
    rw [y1, Option.bind_some, m13, subL (by show 1 ≤ S.2.2.2.1; omega)]
    obtain ⟨ν2, hν2⟩ : ∃ ν2, ν2 = sI ν1 13 2 (nI (S.2.2.2.1 - 1)) := ⟨_, rfl⟩
    rw [show sI ν1 13 2 (nI (S.2.2.2.1 - OfNat.ofNat 1)) = ν2 from hν2.symm]
    have A2 : Ag (fun a k => a = 13 ∧ k = 2) ν1 ν2 := by rw [hν2]; exact Ag.sI ⟨rfl, rfl⟩
    obtain ⟨ν3, a1, a2, a3, a4⟩ := X_addItem (μ := ν2) hN hit (by rw [A2.i (by omega), y3.i (by omega)]; exact g2) (RN_ag (RN_ag g3 y3 (fun j h1 h2 k => by omega)) A2 (fun j h1 h2 k => by omega)) (v := 26)
    have m3 : mI ν3 13 2 = nI (S.2.2.2.1 - 1) := by rw [a4.i (by omega), hν2]; rfl
    have o3 : mA ν3 14 (S.2.2.2.1 - 1) = nI (S.2.2.2.2.1 (S.2.2.2.1 - 1)) := by rw [a4.a (by omega), A2.a (by omega), y3.a (by omega)]; exact g5 _ (by omega)
    rw [a1, bd_some, m3, rdA_n (by omega) (by omega), o3, Option.bind_some, wrA_n hit (by omega), Option.bind_some]
    have m4 : mI (sA ν3 (N + 5) S.2.1 (nI (S.2.2.2.2.1 (S.2.2.2.1 - 1)))) 13 2 = nI (S.2.2.2.1 - 1) := m3
    have o4 : mA (sA ν3 (N + 5) S.2.1 (nI (S.2.2.2.2.1 (S.2.2.2.1 - 1)))) 14 (S.2.2.2.1 - 1) = nI (S.2.2.2.2.1 (S.2.2.2.1 - 1)) := by rw [mA_ne (by omega)]; exact o3
    rw [m4, rdA_n (by omega) (by omega), o4, Option.bind_some, wrA_n (by omega) (by omega), Option.bind_some]
    obtain ⟨ν5, hν5⟩ : ∃ ν5, ν5 = sA (sA ν3 (N + 5) S.2.1 (nI (S.2.2.2.2.1 (S.2.2.2.1 - 1)))) (N + 5) (S.2.2.2.2.1 (S.2.2.2.1 - 1)) (nI S.2.1) := ⟨_, rfl⟩
    rw [← hν5]
    have A5 : Ag (fun a _ => a = N + 5) ν3 ν5 := by rw [hν5]; exact (Ag.sA (P := fun a _ => a = N + 5) rfl).tr (Ag.sA rfl)
    have R5 : RN ν5 N (updW (setI S.2.2.2.2.2 S.2.1 26 0 0 0 (nI (S.2.2.2.2.1 (S.2.2.2.1 - 1)))) 5 (S.2.2.2.2.1 (S.2.2.2.1 - 1)) (nI S.2.1)) := by
      have r := RN_wr (RN_wr a3 (j := 5) (i := S.2.1) (x := nI (S.2.2.2.2.1 (S.2.2.2.1 - 1)))) (j := 5) (i := S.2.2.2.2.1 (S.2.2.2.1 - 1)) (x := nI S.2.1)
      rw [sW5, ← hν5] at r
      exact r
    have Aa : Ag (fun a k => (N ≤ a ∧ a < N + 6) ∨ (a = 13 ∧ k = 2)) ν1 ν5 := ((A2.mono (fun a k z => by omega)).tr (a4.mono (fun a k z => by omega))).tr (A5.mono (fun a k z => by omega))
    have T1 := TkX0_ag T0 y3 (by omega) (fun k => by omega) (fun k => by omega)
    have T5 := TkX0_ag T1 Aa (by omega) (fun k => by omega) (fun k => by omega)
    obtain ⟨ν6, u1, u2, u3⟩ := X_takeEnd T5 (TkX_ag y2 Aa (fun k hk => by omega)) t.2 hF
    have A6 : Ag (PZ N) μ ν6 := ((y3.mono (fun a k z => by omega)).tr (Aa.mono (fun a k z => by omega))).tr (u3.mono (fun a k z => Or.inl z))
    rw [u1, bd_some]
    cases hE : endS U e (tN U e S.1) with
    | inl f => rw [hE] at u2; exact ⟨ν6, rfl, u2, A6⟩
    | inr p =>
      rw [hE] at u2
      obtain ⟨u4, u5, u6⟩ := u2
      refine ⟨ν6, rfl, ⟨⟨TkX0_ag T5 u3 (by omega) (fun k => by omega) (fun k => by omega), u4, ?_, ?_, RN_ag R5 u3 (fun j h1 h2 k => by omega), ?_, fun j hj => ?_, PGB_ag (PGB_ag (PGB_ag B y3 (by omega) (by omega) (fun k => by omega)) Aa (by omega) (by omega) (fun k => by omega)) u3 (by omega) (by omega) (fun k => by omega)⟩, by rw [u5, Aa.i (by omega), kp.1], by rw [u6, Aa.i (by omega), kp.2.1]⟩, A6⟩
      · show mI ν6 N 1 = nI S.2.2.1
        rw [u3.i (by omega), A5.i (by omega), a4.i (by omega), A2.i (by omega), y3.i (by omega)]; exact g1
      · show mI ν6 N 2 = nI (S.2.1 + 1)
        rw [u3.i (by omega), A5.i (by omega)]; exact a2
      · show mI ν6 13 2 = nI (S.2.2.2.1 - 1)
        rw [u3.i (by omega), A5.i (by omega)]; exact m3
      · have hj2 : j < S.2.2.2.1 - 1 := hj
        show mA ν6 14 j = nI (S.2.2.2.2.1 j)
        rw [u3.a (by omega), Aa.a (by omega), y3.a (by omega)]; exact g5 j (by omega)
/-- the loop over the items -/
theorem X_nightL (hb : b = 15 ∨ b = 27) (hN : N = 39 ∨ N = 45) (hF : 2000000 ≤ F) (w : WF β) (he : e ≤ 300) : ∀ (n m j : Nat) (S : NT) (μ : Mm), e - S.1 < n → n < m → j ≤ S.1 → j ≤ 300 → GY U e b N β nm S μ → NI e S → ∃ ν, Ag (PZ N) μ ν ∧ ((∃ f, nrn U e β nm n S = .inl f ∧ L_X6_fill_20 F N b (fun μ14 => (if (mI μ14 13 2) ≤ 0 then (if 1 = 0 ∨ 1 = 1 then some (true, (sI μ14 N 0 1)) else none) else bd (f_X9_refuseUnfit μ14) fun x15 μ16 => some (x15, μ16))) m (nI j) μ = some (false, ν) ∧ mI ν 9 2 = nI f.1 ∧ mI ν 9 3 = nI f.2) ∨ (∃ S', nrn U e β nm n S = .inr S' ∧ L_X6_fill_20 F N b (fun μ14 => (if (mI μ14 13 2) ≤ 0 then (if 1 = 0 ∨ 1 = 1 then some (true, (sI μ14 N 0 1)) else none) else bd (f_X9_refuseUnfit μ14) fun x15 μ16 => some (x15, μ16))) m (nI j) μ = some (true, sI ν N 0 1) ∧ GY U e b N β nm S' ν ∧ NI e S' ∧ mI ν 9 2 = mI μ 9 2 ∧ mI ν 9 3 = mI μ 9 3)) := by
  intro n
  induction n with
  | zero => intro m j S μ h1; omega
  | succ n ih =>
    intro m j S μ h1 h2 h3 h3' g hS
    obtain ⟨m, rfl⟩ : ∃ q, m = q + 1 := ⟨m - 1, by omega⟩
    have T := g.2.1
    have hk4 := tK_le (U := U) (e := e) (p := S.1)
    have hp := hS.1
    have hd3 := hS.2.2.2.1
    unfold nrn
    rw [L_X6_fill_20_s, T.2.2.1]
    by_cases z : tK U e S.1 = 0
    · have fin : ∃ ν, Ag (PZ N) μ ν ∧ ((∃ f, (if S.2.2.2.1 = 0 then (.inr S : Sum Flt NT) else .inl (unf U e S.1)) = .inl f ∧ (if (mI μ 13 2) ≤ 0 then (if 1 = 0 ∨ 1 = 1 then some (true, (sI μ N 0 1)) else none) else bd (f_X9_refuseUnfit μ) fun x15 μ16 => some (x15, μ16)) = some (false, ν) ∧ mI ν 9 2 = nI f.1 ∧ mI ν 9 3 = nI f.2) ∨ (∃ S', (if S.2.2.2.1 = 0 then (.inr S : Sum Flt NT) else .inl (unf U e S.1)) = .inr S' ∧ (if (mI μ 13 2) ≤ 0 then (if 1 = 0 ∨ 1 = 1 then some (true, (sI μ N 0 1)) else none) else bd (f_X9_refuseUnfit μ) fun x15 μ16 => some (x15, μ16)) = some (true, sI ν N 0 1) ∧ GY U e b N β nm S' ν ∧ NI e S' ∧ mI ν 9 2 = mI μ 9 2 ∧ mI ν 9 3 = mI μ 9 3)) := by
        rw [g.2.2.2.2.2.1]
        by_cases d0 : S.2.2.2.1 = 0
        · rw [if_pos d0, if_pos ((leL (n := 0) (by omega) (by decide)).mpr (by show S.2.2.2.1 ≤ 0; omega)), if_pos (Or.inr rfl)]
          exact ⟨μ, Ag.rf, Or.inr ⟨S, rfl, rfl, g, hS, rfl, rfl⟩⟩
        · obtain ⟨ν, x1, x2, x3, x4⟩ := X_unfit T
          rw [if_neg d0, if_neg (fun y => by have y2 : S.2.2.2.1 ≤ 0 := (leL (n := 0) (by omega) (by decide)).mp y; omega), x1]
          exact ⟨ν, x4.mono (fun a k z => Or.inl z), Or.inl ⟨_, rfl, rfl, x2, x3⟩⟩
      rw [if_pos z]
      by_cases y : 300 ≤ j
      · rw [if_pos ((Lle (n := 300) (by omega) (by decide)).mpr y)]
        exact fin
      · rw [if_neg (fun q => y ((Lle (n := 300) (by omega) (by decide)).mp q)), if_pos ((eqL (n := 0) (by omega) (by decide)).mpr z)]
        exact fin
    · have tS1 := (tN_b (U := U) hp).2.2 z
      have tS2 := (tS_b (U := U) (e := e) (p := S.1)).1
      rw [if_neg z, if_neg (fun q => by have q2 : 300 ≤ j := (Lle (n := 300) (by omega) (by decide)).mp q; omega), if_neg (fun q => z ((eqL (n := 0) (by omega) (by decide)).mp q)), X_setWord T, Option.bind_some]
      simp only [jn]
      have hol : ∀ k, tO U e S.1 = some k → k < 28 := fun k hk => (tO_lt hk).1
      have turn : ∃ ν, (if oI (tO U e S.1) = 26 then f_X6_takeEnd F N μ else f_X6_takeOrder F N b μ) = some ((nst U e β nm S).isRight, ν) ∧ XO μ ν (nst U e β nm S) (fun S' => GY U e b N β nm S' ν) ∧ Ag (PZ N) μ ν := by
        unfold nst
        cases ho : tO U e S.1 with
        | none =>
          rw [if_neg (by decide)]
          unfold f_X6_takeOrder
          have hx : f_X9_setWord μ = some (-1) := by rw [X_setWord T, ho]; rfl
          obtain ⟨ν, x1, x2, x3, x4⟩ := X_unfit T
          rw [hx, Option.bind_some, show f_X6_beginsOrder (-1) μ = some false from rfl, Option.bind_some, if_neg (by decide), x1]
          exact ⟨ν, rfl, ⟨x2, x3⟩, x4.mono (fun a k z => Or.inl z)⟩
        | some i =>
          have hi := hol i ho
          dsimp only
          by_cases c26 : i = 26
          · rw [c26] at ho
            rw [c26, if_pos (show oI (some 26) = 26 from rfl), if_pos rfl]
            exact X_end hb hN hF g hS ho
          · rw [if_neg (fun y => by
              have : i = 26 := (eqL (n := 26) (by omega) (by decide)).mp y
              exact c26 this), if_neg c26]
            by_cases c0 : isOr i = true
            · rw [if_pos c0]
              exact X_order hb hN hF w g hS ho c0
            · rw [if_neg c0]
              unfold f_X6_takeOrder
              obtain ⟨ν, x1, x2, x3, x4⟩ := X_unfit T
              rw [X_setWord T, Option.bind_some, begins hi ho, Option.bind_some, if_neg c0, x1]
              exact ⟨ν, rfl, ⟨x2, x3⟩, x4.mono (fun a k z => Or.inl z)⟩
      obtain ⟨ν, x1, x2, x3⟩ := turn
      have same : ∀ KK : Bool → Mm → Option (Bool × Mm), (if oI (tO U e S.1) = 26 then bd (f_X6_takeEnd F N μ) KK else bd (f_X6_takeOrder F N b μ) KK) = bd (if oI (tO U e S.1) = 26 then f_X6_takeEnd F N μ else f_X6_takeOrder F N b μ) KK := fun KK => by split <;> rfl
      rw [same, x1, bd_some]
      cases hP : nst U e β nm S with
      | inl f =>
        rw [hP] at x2
        exact ⟨ν, x3, Or.inl ⟨f, rfl, rfl, x2.1, x2.2⟩⟩
      | inr S2 =>
        rw [hP] at x2
        obtain ⟨a1, a2⟩ := nst_ok w hS hP
        obtain ⟨g2, f2, f3⟩ := x2
        have a2' := a2.1
        obtain ⟨ξ, y1, y2⟩ := ih m (j + 1) S2 ν (by omega) (by omega) (by omega) (by omega) g2 a2
        rw [show (Sum.inr S2 : Sum Flt NT).isRight = true from rfl, if_neg (by decide), nI_1, sb_r]
        refine ⟨ξ, x3.tr y1, ?_⟩
        rcases y2 with y2 | ⟨S', y3, y4, y5, y6, y7, y8⟩
        · exact Or.inl y2
        · exact Or.inr ⟨S', y3, y4, y5, y6, by rw [y7, f2], by rw [y8, f3]⟩
/-- what becomes of the spare nights -/
theorem X_nfill (hb : b = 15 ∨ b = 27) (hN : N = 39 ∨ N = 45) (hF : 2000000 ≤ F) (w : WF β) {m n : Nat} (hm : m ≤ 900) (hn : n ≤ m) (h3 : n ≤ 300) (h1 : mI μ 9 1 = nI m) (hB : ∀ k, k < m → isB (mB μ 10 k)) (hsw : ∀ i, i < 28 → mL μ 11 i = swT i) (B : PGB μ b β nm) : ∃ ν, Ag (fun a k => (a = 9 ∧ 1 ≤ k) ∨ (N ≤ a ∧ a < N + 6) ∨ (a = 13 ∧ k = 2) ∨ a = 14) μ ν ∧ mI ν 9 1 = 0 ∧ ((∃ f, nrn (fun k => uB (mB μ 10 k)) n β nm (n + 1) (0, 0, 0, 0, (fun _ => 0), fun j k => mA μ (N + j) k) = .inl f ∧ f_X6_fill F N b (nI n) μ = some (false, ν) ∧ mI ν 9 2 = nI f.1 ∧ mI ν 9 3 = nI f.2) ∨ (∃ S, nrn (fun k => uB (mB μ 10 k)) n β nm (n + 1) (0, 0, 0, 0, (fun _ => 0), fun j k => mA μ (N + j) k) = .inr S ∧ f_X6_fill F N b (nI n) μ = some (true, ν) ∧ mI ν 9 2 = 0 ∧ mI ν 9 3 = -1 ∧ NI n S ∧ mI ν N 0 = 1 ∧ mI ν N 1 = nI S.2.2.1 ∧ mI ν N 2 = nI S.2.1 ∧ RN ν N S.2.2.2.2.2)) := by
  obtain ⟨ν1, hν1⟩ : ∃ ν1, ν1 = sI (sI (sI (sI μ 13 2 0) N 0 0) N 1 0) N 2 0 := ⟨_, rfl⟩
  have A1 : Ag (fun a k => (a = 13 ∧ k = 2) ∨ (a = N ∧ k < 3)) μ ν1 := by
    rw [hν1]
    exact (((Ag.sI (by omega)).tr (Ag.sI (by omega))).tr (Ag.sI (by omega))).tr (Ag.sI (by omega))
  obtain ⟨ν2, hν2⟩ : ∃ ν2, ν2 = sI (sI (sI (sI (sI ν1 9 11 (nI n)) 9 1 0) 9 10 0) 9 2 0) 9 3 (-1) := ⟨_, rfl⟩
  have A2 : Ag (fun a k => a = 9 ∧ 1 ≤ k) ν1 ν2 := by
    rw [hν2]
    exact ((((Ag.sI ⟨rfl, by omega⟩).tr (Ag.sI ⟨rfl, by omega⟩)).tr (Ag.sI ⟨rfl, by omega⟩)).tr (Ag.sI ⟨rfl, by omega⟩)).tr (Ag.sI ⟨rfl, by omega⟩)
  have T0 : TkX0 ν2 (fun k => uB (mB μ 10 k)) n := ⟨by omega, by rw [hν2]; rfl, fun k hk => by
    rw [A2.b (by omega), A1.b (by omega)]
    exact by_of (hB k (by omega)), fun i hi => by rw [A2.l (by omega), A1.l (by omega)]; exact hsw i hi⟩
  obtain ⟨ν3, y1, y2, y3⟩ := X_advance (p := 0) T0 hF (by omega) (by rw [hν2]; rfl)
  have n1 : ∀ k, k < 3 → mI ν3 N k = 0 := fun k hk => by
    rw [y3.i (by omega), A2.i (by omega), hν1]
    have h3 : k = 0 ∨ k = 1 ∨ k = 2 := by omega
    rcases h3 with rfl | rfl | rfl <;> simp [mI_sI]
  have g : GY (fun k => uB (mB μ 10 k)) n b N β nm (0, 0, 0, 0, (fun _ => 0), fun j k => mA μ (N + j) k) ν3 := by
    refine ⟨TkX0_ag T0 y3 (by omega) (fun k => by omega) (fun k => by omega), y2, n1 1 (by omega), n1 2 (by omega), fun j h1 h2 k hk => ?_, ?_, fun q hq => by have : q < 0 := hq; omega, PGB_ag (PGB_ag (PGB_ag B A1 (by omega) (by omega) (fun k => by omega)) A2 (by omega) (by omega) (fun k => by omega)) y3 (by omega) (by omega) (fun k => by omega)⟩
    · rw [y3.a (by omega), A2.a (by omega), A1.a (by omega)]
    · show mI ν3 13 2 = nI 0
      rw [y3.i (by omega), A2.i (by omega), hν1, mI_ne (by omega), mI_ne (by omega), mI_ne (by omega)]
      rfl
  have hS : NI n ((0, 0, 0, 0, (fun _ => 0), fun j k => mA μ (N + j) k) : NT) := ⟨by show 0 ≤ n; omega, by show 0 + 0 ≤ 2 * 0; omega, by show 0 ≤ 30; omega, by show 0 ≤ 3; omega, fun q hq => by have : q < 0 := hq; omega⟩
  have op : f_X9_open F (nI n) ν1 = some ν3 := by
    unfold f_X9_open
    have m1 : mI ν1 9 1 = nI m := by rw [A1.i (by omega)]; exact h1
    have mn : f_J9_min_7cf53 (nI n) (nI m) ν1 = some (nI n) := by
      unfold f_J9_min_7cf53
      rw [if_neg (fun z => by have := (nIlt (by omega) (by omega)).mp z; omega)]
    rw [m1, mn, Option.bind_some, ← hν2, y1]
    rfl
  obtain ⟨ξ, z1, z2⟩ := X_nightL hb hN hF w h3 (n + 1) F 0 (0, 0, 0, 0, (fun _ => 0), fun j k => mA μ (N + j) k) ν3 (by show n - 0 < n + 1; omega) (by omega) (by omega) (by omega) g hS
  have A3 : Ag (fun a k => (a = 9 ∧ 1 ≤ k) ∨ (N ≤ a ∧ a < N + 6) ∨ (a = 13 ∧ k = 2) ∨ a = 14) μ ξ := (((A1.mono (fun a k q => by omega)).tr (A2.mono (fun a k q => by omega))).tr (y3.mono (fun a k q => by omega))).tr (z1.mono (fun a k q => by omega))
  have many0 : mI ξ 9 1 = 0 := by rw [z1.i (by omega), y3.i (by omega), hν2]; rfl
  have pre : f_X6_fill F N b (nI n) μ = L_X6_fill_20 F N b (fun μ14 => (if (mI μ14 13 2) ≤ 0 then (if 1 = 0 ∨ 1 = 1 then some (true, (sI μ14 N 0 1)) else none) else bd (f_X9_refuseUnfit μ14) fun x15 μ16 => some (x15, μ16))) F 0 ν3 := by
    unfold f_X6_fill f_X5_empty
    rw [if_pos (Or.inl rfl), Option.bind_some, ← hν1, op, Option.bind_some]
  rw [nI_0] at z2
  rcases z2 with ⟨f, w1, w2, w3, w4⟩ | ⟨S, w1, w2, w3, w4, w5, w6⟩
  · exact ⟨ξ, A3, many0, Or.inl ⟨f, w1, by rw [pre, w2], w3, w4⟩⟩
  · have A4 : Ag (fun a k => a = N ∧ k = 0) ξ (sI ξ N 0 1) := Ag.sI ⟨rfl, rfl⟩
    refine ⟨sI ξ N 0 1, A3.tr (A4.mono (fun a k q => by omega)), by rw [A4.i (by omega)]; exact many0, Or.inr ⟨S, w1, by rw [pre, w2], ?_, ?_, w4, by rw [mI_sI, if_pos rfl, if_pos rfl], by rw [A4.i (by omega)]; exact w3.2.2.1, by rw [A4.i (by omega)]; exact w3.2.2.2.1, RN_ag w3.2.2.2.2.1 A4 (fun j h1 h2 k => by omega)⟩⟩
    · rw [A4.i (by omega), w5, y3.i (by omega), hν2]; rfl
    · rw [A4.i (by omega), w6, y3.i (by omega), hν2]; rfl
end NX2
