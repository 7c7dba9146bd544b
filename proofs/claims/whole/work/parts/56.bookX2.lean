/-! ===== the class reads a book: accounts, laws, the watch ===== -/
section BKX2
variable {μ : Mm} {U : Nat → Nat} {e p F b : Nat}
theorem X_takeDigits (hb : b = 15 ∨ b = 27) (hF : 2000000 ≤ F) {W k : Nat} (hW : W ≤ 5) (hk : W * k + W ≤ 25) : ∀ (r n p : Nat) (β : Nat → Nat) (μ : Mm), r ≤ W → r < n → p ≤ e → TkX0 μ U e → TkX μ U e p → mI μ b 0 = nI W → (∀ j, j < 25 → mA μ (b + 8) j = nI (β (13 + j))) → ∃ ν, L_X1_takeDigits_2 F b (nI (W * k)) (fun μ8 => some (true, μ8)) n (nI (W - r)) μ = some ((dgS U e W k r p β).isRight, ν) ∧ XO μ ν (dgS U e W k r p β) (fun x => TkX ν U e x.1 ∧ ∀ j, j < 25 → mA ν (b + 8) j = nI (x.2 (13 + j))) ∧ Ag (fun a k => (a = 9 ∧ 2 ≤ k ∧ k ≤ 10) ∨ a = b + 8) μ ν := by
  intro r
  induction r with
  | zero =>
    intro n p β μ hr hn hp T0 T hw hd
    obtain ⟨n, rfl⟩ : ∃ q, n = q + 1 := ⟨n - 1, by omega⟩
    have hk := tK_le (U := U) (e := e) (p := p)
    rw [L_X1_takeDigits_2_s, hw, T.2.2.1, if_neg (fun z => by have := (nIlt (by omega) (by omega)).mp z; omega)]
    unfold dgS
    by_cases z : tK U e p = 2
    · have hv := tV_2 z
      rw [if_pos ((eqL (n := 2) (by omega) (by decide)).mpr z), if_pos z, T.2.2.2.2 (Or.inl z)]
      by_cases y : tV U e p ≤ 9
      · rw [if_pos ((leL (n := 9) (by omega) (by decide)).mpr y), if_pos y, if_pos (by rw [Nat.sub_zero])]
        obtain ⟨ν, x1, x2, x3, x4⟩ := X_refuse T (v := 6) 6 rfl
        rw [x1]
        exact ⟨ν, rfl, ⟨x2, x3⟩, x4.mono (fun a k q => Or.inl q)⟩
      · rw [if_neg (fun q => y ((leL (n := 9) (by omega) (by decide)).mp q)), if_neg y]
        obtain ⟨ν, x1, x2, x3, x4⟩ := X_refuse T (v := 4) 4 rfl
        rw [x1]
        exact ⟨ν, rfl, ⟨x2, x3⟩, x4.mono (fun a k q => Or.inl q)⟩
    · rw [if_neg (fun q => z ((eqL (n := 2) (by omega) (by decide)).mp q)), if_neg z]
      exact ⟨μ, rfl, ⟨⟨T, hd⟩, rfl, rfl⟩, Ag.rf⟩
  | succ r ih =>
    intro n p β μ hr hn hp T0 T hw hd
    obtain ⟨n, rfl⟩ : ∃ q, n = q + 1 := ⟨n - 1, by omega⟩
    have hk4 := tK_le (U := U) (e := e) (p := p)
    rw [L_X1_takeDigits_2_s, hw, T.2.2.1, if_neg (fun z => by have := (nIlt (by omega) (by omega)).mp z; omega)]
    unfold dgS
    by_cases z : tK U e p = 2
    · have hv := tV_2 z
      rw [if_pos ((eqL (n := 2) (by omega) (by decide)).mpr z), if_pos z, T.2.2.2.2 (Or.inl z)]
      by_cases y : tV U e p ≤ 9
      · rw [if_pos ((leL (n := 9) (by omega) (by decide)).mpr y), if_pos y, if_neg (fun q => by have := (nIeq (by omega) (by omega)).mp q; omega), nI_add, wrA_n (by omega) (by omega), Option.bind_some]
        have A0 : Ag (fun a _ => a = b + 8) μ (sA μ (b + 8) (W * k + (W - (r + 1))) (nI (tV U e p))) := Ag.sA rfl
        have t := tK0_le (U := U) hp (by omega : tK U e p ≠ 0)
        have T1 := TkX0_ag T0 A0 (by omega) (fun k => by omega) (fun k => by omega)
        obtain ⟨ν, x1, x2, x3⟩ := X_adv T1 (TkX_ag T A0 (fun k hk => by omega)) hp hF
        have kp := PT_keep x3
        obtain ⟨ξ, y1, y2, y3⟩ := ih n (tN U e p) (updN β (13 + (W * k + (W - (r + 1)))) (tV U e p)) ν (by omega) (by omega) t.2 (TkX0_ag T1 x3 (by omega) (fun k => by omega) (fun k => by omega)) x2 (by rw [x3.i (by omega)]; exact hw) (fun j hj => by
          rw [x3.a (by omega), mA_sA, if_pos rfl]
          by_cases q : j = W * k + (W - (r + 1))
          · rw [if_pos q, q, updN_eq]
          · rw [if_neg q, updN_ne (by omega)]; exact hd j hj)
        rw [x1, Option.bind_some, nI_1, show W - (r + 1) + 1 = W - r by omega, y1]
        refine ⟨ξ, rfl, ?_, ((A0.mono (fun a k q => Or.inr q)).tr (x3.mono (fun a k q => by omega))).tr y3⟩
        cases hD : dgS U e W k r (tN U e p) (updN β (13 + (W * k + (W - (r + 1)))) (tV U e p)) with
        | inl f => rw [hD] at y2; exact y2
        | inr x => rw [hD] at y2; exact ⟨y2.1, by rw [y2.2.1, kp.1]; rfl, by rw [y2.2.2, kp.2.1]; rfl⟩
      · rw [if_neg (fun q => y ((leL (n := 9) (by omega) (by decide)).mp q)), if_neg y]
        obtain ⟨ν, x1, x2, x3, x4⟩ := X_refuse T (v := 4) 4 rfl
        rw [x1]
        exact ⟨ν, rfl, ⟨x2, x3⟩, x4.mono (fun a k q => Or.inl q)⟩
    · rw [if_neg (fun q => z ((eqL (n := 2) (by omega) (by decide)).mp q)), if_neg z]
      exact ⟨μ, rfl, ⟨⟨T, hd⟩, rfl, rfl⟩, Ag.rf⟩
/-- a book with one account more -/
theorem PBX_acc {ν : Mm} {β β2 : Nat → Nat} {nm : Nat → Int64} {kd : Nat} {x : Int64} {P : Nat → Nat → Prop} (h : PBX μ b β nm) (w : WF β) (h0 : β 0 < 5) (A : Ag P μ ν) (hP : ∀ i, i ≤ 10 → ∀ k, P (b + i) k → (i = 0 ∧ k = 3) ∨ (i = 6 ∧ k = β 0) ∨ (i = 7 ∧ k = β 0) ∨ i = 8) (h3 : mI ν b 3 = nI (β 0 + 1)) (h6 : mA ν (b + 6) (β 0) = nI kd) (h7 : mL ν (b + 7) (β 0) = x) (h8 : ∀ j, j < 25 → mA ν (b + 8) j = nI (β2 (13 + j))) (h2 : ∀ j, ¬ (13 + β 2 * β 0 ≤ j ∧ j < 13 + (β 2 * β 0 + β 2)) → β2 j = β j) (hm : β 2 * β 0 + β 2 ≤ 25) : PBX ν b (updN (updN β2 (8 + β 0) kd) 0 (β 0 + 1)) (updJ nm (β 0) x) := by
  obtain ⟨q1, q2, q3, q4, q5, q6, q7, q8, q9, q10, q11, q12, q13, q14, q15, q16⟩ := h.1
  have w1 := w.1.2.2.2.1
  have lo : ∀ j, j < 13 → j ≠ 0 → j ≠ 8 + β 0 → updN (updN β2 (8 + β 0) kd) 0 (β 0 + 1) j = β j := fun j h1 h3 h4 => by rw [updN_ne h3, updN_ne h4, h2 j (by omega)]
  have hi : ∀ j, 38 ≤ j → updN (updN β2 (8 + β 0) kd) 0 (β 0 + 1) j = β j := fun j h1 => by rw [updN_ne (by omega), updN_ne (by omega), h2 j (by omega)]
  have n1 := lo 1 (by omega) (by omega) (by omega)
  have n2 := lo 2 (by omega) (by omega) (by omega)
  have fI : ∀ k, k ≠ 3 → mI ν b k = mI μ b k := fun k hk => A.i (a := b) (fun z => by have := hP 0 (by omega) k (by rw [Nat.add_zero]; exact z); omega)
  have fI1 : mI ν (b + 1) 0 = mI μ (b + 1) 0 := A.i (fun z => by have := hP 1 (by omega) 0 z; omega)
  have fA : ∀ i k, 2 ≤ i → i ≤ 5 → mA ν (b + i) k = mA μ (b + i) k := fun i k h1 h2 => A.a (fun z => by have := hP i (by omega) k z; omega)
  have hc25 : cl (updN (updN β2 (8 + β 0) kd) 0 (β 0 + 1)) ≤ 25 := by
    unfold cl
    rw [n2, updN_eq, Nat.succ_mul, Nat.mul_comm]
    exact hm
  have row : ∀ k, k < 25 → mA ν (b + 8) k = nI (updN (updN β2 (8 + β 0) kd) 0 (β 0 + 1) (13 + k)) ∧ mA ν (b + 9) k = nI (updN (updN β2 (8 + β 0) kd) 0 (β 0 + 1) (38 + k)) ∧ mA ν (b + 10) k = nI (updN (updN β2 (8 + β 0) kd) 0 (β 0 + 1) (63 + k)) := fun k hk => by
    refine ⟨?_, ?_, ?_⟩
    · rw [updN_ne (by omega), updN_ne (by omega)]; exact h8 k hk
    · rw [hi _ (by omega), A.a (fun z => by have := hP 9 (by omega) k z; omega)]; exact (h.2.1 k hk).2.1
    · rw [hi _ (by omega), A.a (fun z => by have := hP 10 (by omega) k z; omega)]; exact (h.2.1 k hk).2.2
  refine ⟨⟨by rw [fI 0 (by omega), n2]; exact q1, by rw [fI 1 (by omega), lo 3 (by omega) (by omega) (by omega)]; exact q2, by rw [fI 2 (by omega), lo 4 (by omega) (by omega) (by omega)]; exact q3, by rw [updN_eq]; exact h3, by rw [fI 4 (by omega), lo 7 (by omega) (by omega) (by omega)]; exact q5, by rw [fI 5 (by omega), lo 5 (by omega) (by omega) (by omega)]; exact q6, by rw [fI 6 (by omega), lo 6 (by omega) (by omega) (by omega)]; exact q7, by rw [fI1, n1]; exact q8, fun l hl => ?_, fun l hl => ?_, fun l hl => ?_, fun l hl => ?_, fun a ha => ?_, fun k hk => (row k (by omega)).1, fun k hk => (row k (by omega)).2.1, fun k hk => (row k (by omega)).2.2⟩, row, fun a ha => ?_⟩
  · rw [n1] at hl; rw [fA 2 l (by omega) (by omega), hi _ (by omega)]; exact q9 l hl
  · rw [n1] at hl; rw [fA 3 l (by omega) (by omega), hi _ (by omega)]; exact q10 l hl
  · rw [n1] at hl; rw [fA 4 l (by omega) (by omega), hi _ (by omega)]; exact q11 l hl
  · rw [n1] at hl; rw [fA 5 l (by omega) (by omega), hi _ (by omega)]; exact q12 l hl
  · rw [updN_eq] at ha
    by_cases z : a = β 0
    · rw [updN_ne (by omega), z, updN_eq]; exact h6
    · rw [lo (8 + a) (by omega) (by omega) (by omega), A.a (fun y => by have := hP 6 (by omega) a y; omega)]; exact q13 a (by omega)
  · rw [updN_eq] at ha
    unfold updJ
    by_cases z : a = β 0
    · rw [if_pos z, z]; exact h7
    · rw [if_neg z, A.l (fun y => by have := hP 7 (by omega) a y; omega)]; exact h.2.2 a (by omega)
theorem X_takeAccount {s : BS} (hb : b = 15 ∨ b = 27) (hF : 2000000 ≤ F) (g : GX U e b s μ) (hs : PI e s) (ho : tO U e s.1 = some 3) : ∃ ν, f_X1_takeAccount F b μ = some ((accS U e s).isRight, ν) ∧ XO μ ν (accS U e s) (fun s' => GX U e b s' ν) ∧ Ag (PQ b) μ ν := by
  obtain ⟨T0, T, B, L⟩ := g
  obtain ⟨hp, w, h5, h6, h63, h128⟩ := id hs
  have w0 := w.1.1
  have w2 := w.1.2.2.1
  have acc := B.1.acc
  unfold f_X1_takeAccount accS
  rw [acc]
  by_cases c5 : 5 ≤ s.2.1 0
  · rw [if_neg (fun z => by have z2 : s.2.1 0 < 5 := (ltL (n := 5) (by omega) (by decide)).mp z; omega), if_pos c5]
    obtain ⟨ν, x1, x2, x3, x4⟩ := X_refuse T (v := 6) 6 rfl
    rw [x1]
    exact ⟨ν, rfl, ⟨x2, x3⟩, PT_PQ x4⟩
  · rw [if_pos ((ltL (n := 5) (by omega) (by decide)).mpr (by show s.2.1 0 < 5; omega)), if_neg c5]
    have hm : s.2.1 2 * s.2.1 0 + s.2.1 2 ≤ 25 := by
      have h1 : s.2.1 2 * s.2.1 0 ≤ 5 * 4 := Nat.mul_le_mul w2 (by omega)
      omega
    obtain ⟨ν1, x1, x2, x3⟩ := X_adv T0 T hp hF
    have t1 := tK0_le (U := U) hp (tO_K ho)
    have T01 := TkX0_ag T0 x3 (by omega) (fun k => by omega) (fun k => by omega)
    have B1 := PBX_ag B x3 (fun i hi k => by omega)
    have k1 := PT_keep x3
    rw [x1, Option.bind_some, X_isName x2, Option.bind_some]
    by_cases c1 : tM U e (tN U e s.1) = true
    · have t2 := tK0_le (U := U) t1.2 (by rw [(tM_K c1).1]; omega)
      rw [if_pos c1, if_pos c1, tM_name x2 c1, X_accountNamed B1.1.acc w0 B1.2.2 hF, Option.bind_some]
      have hf : fndF (fun a => decide (s.2.2.1 a = lN (tW U e (tN U e s.1)))) 0 (s.2.1 0) = fnm U e s.2.1 s.2.2.1 (tN U e s.1) := rfl
      rw [hf]
      cases hfn : fnm U e s.2.1 s.2.2.1 (tN U e s.1) with
      | some a =>
        have ha := (fndF_some hfn).2.1
        rw [oI_some, if_neg (by rw [neg_ne (by omega)]; exact id), if_neg (fun z => by cases z)]
        obtain ⟨ν, y1, y2, y3, y4⟩ := X_refuse x2 (v := 3) 3 rfl
        rw [y1]
        exact ⟨ν, rfl, ⟨y2, y3⟩, (PT_PQ (PA_PT x3)).tr (PT_PQ y4)⟩
      | none =>
        rw [if_pos oI_none, if_pos rfl, wrL_n (by omega) (by omega), Option.bind_some]
        have A2 : Ag (fun a k => a = b + 7 ∧ k = s.2.1 0) ν1 (sL ν1 (b + 7) (s.2.1 0) (lN (tW U e (tN U e s.1)))) := Ag.sL ⟨rfl, rfl⟩
        have T02 := TkX0_ag T01 A2 (by omega) (fun k => by omega) (fun k => by omega)
        obtain ⟨ν3, y1, y2, y3⟩ := X_adv T02 (TkX_ag x2 A2 (fun k hk => by omega)) t1.2 hF
        have T03 := TkX0_ag T02 y3 (by omega) (fun k => by omega) (fun k => by omega)
        have k3 := PT_keep y3
        have A13 : Ag (fun a k => (a = 9 ∧ 2 ≤ k ∧ k ≤ 10) ∨ (a = b + 7 ∧ k = s.2.1 0)) μ ν3 := ((x3.mono (fun a k q => by omega)).tr (A2.mono (fun a k q => by omega))).tr (y3.mono (fun a k q => by omega))
        rw [y1, Option.bind_some, X_setWord y2, Option.bind_some]
        have hol : ∀ k, tO U e (tN U e (tN U e s.1)) = some k → k < 28 := fun k hk => (tO_lt hk).1
        -- both kinds alike
        have rest : ∀ kd : Nat, kindO (tO U e (tN U e (tN U e s.1))) = some kd → ∃ ν, ((wrA ν3 (b + 6) 5 (nI (s.2.1 0)) (nI kd)).bind fun μ11 => (f_X9_advance F μ11).bind fun μ13 => bd (f_X1_takeDigits F b (nI (s.2.1 0) * (mI (sI μ13 b 3 ((mI μ13 b 3) + (1 : Int32))) b 0)) (sI μ13 b 3 ((mI μ13 b 3) + (1 : Int32)))) fun x14 μ15 => (if x14 = true then bd (f_X9_takeEndOfPart F μ15) fun x16 μ17 => (if x16 = true then some (true, μ17) else some (false, μ17)) else some (false, μ15))) = some ((sb (dgS U e (s.2.1 2) (s.2.1 0) (s.2.1 2) (tN U e (tN U e (tN U e s.1))) s.2.1) fun x => sb (endS U e x.1) fun q => (.inr (q, updN (updN x.2 (8 + s.2.1 0) kd) 0 (s.2.1 0 + 1), updJ s.2.2.1 (s.2.1 0) (lN (tW U e (tN U e s.1))), s.2.2.2) : Sum Flt BS)).isRight, ν) ∧ XO μ ν (sb (dgS U e (s.2.1 2) (s.2.1 0) (s.2.1 2) (tN U e (tN U e (tN U e s.1))) s.2.1) fun x => sb (endS U e x.1) fun q => (.inr (q, updN (updN x.2 (8 + s.2.1 0) kd) 0 (s.2.1 0 + 1), updJ s.2.2.1 (s.2.1 0) (lN (tW U e (tN U e s.1))), s.2.2.2) : Sum Flt BS)) (fun s' => GX U e b s' ν) ∧ Ag (PQ b) μ ν := by
          intro kd hkd
          have t3 := tN_le (U := U) (p := tN U e (tN U e s.1)) t2.2
          have A4 : Ag (fun a k => a = b + 6 ∧ k = s.2.1 0) ν3 (sA ν3 (b + 6) (s.2.1 0) (nI kd)) := Ag.sA ⟨rfl, rfl⟩
          have T04 := TkX0_ag T03 A4 (by omega) (fun k => by omega) (fun k => by omega)
          obtain ⟨ν5, z1, z2, z3⟩ := X_adv T04 (TkX_ag y2 A4 (fun k hk => by omega)) t2.2 hF
          have k5 := PT_keep z3
          have T05 := TkX0_ag T04 z3 (by omega) (fun k => by omega) (fun k => by omega)
          have A15 : Ag (fun a k => (a = 9 ∧ 2 ≤ k ∧ k ≤ 10) ∨ (a = b + 7 ∧ k = s.2.1 0) ∨ (a = b + 6 ∧ k = s.2.1 0)) μ ν5 := ((A13.mono (fun a k q => by omega)).tr (A4.mono (fun a k q => by omega))).tr (z3.mono (fun a k q => by omega))
          have m3 : mI ν5 b 3 = nI (s.2.1 0) := by rw [A15.i (by omega)]; exact acc
          have m0 : mI ν5 b 0 = nI (s.2.1 2) := by rw [A15.i (by omega)]; exact B.1.wide
          obtain ⟨ν6, hν6⟩ : ∃ ν6, ν6 = sI ν5 b 3 (nI (s.2.1 0 + 1)) := ⟨_, rfl⟩
          have A6 : Ag (fun a k => a = b ∧ k = 3) ν5 ν6 := by rw [hν6]; exact Ag.sI ⟨rfl, rfl⟩
          have T06 := TkX0_ag T05 A6 (by omega) (fun k => by omega) (fun k => by omega)
          have m60 : mI ν6 b 0 = nI (s.2.1 2) := by rw [A6.i (by omega)]; exact m0
          obtain ⟨ν7, u1, u2, u3⟩ := X_takeDigits (U := U) (e := e) hb hF (W := s.2.1 2) (k := s.2.1 0) w2 hm (s.2.1 2) F (tN U e (tN U e (tN U e s.1))) s.2.1 ν6 (Nat.le_refl _) (by omega) t3.2 T06 (TkX_ag z2 A6 (fun k hk => by omega)) m60 (fun j hj => by rw [A6.a (by omega), A15.a (by omega)]; exact (B.2.1 j hj).1)
          rw [Nat.sub_self, nI_0] at u1
          have A17 : Ag (fun a k => (a = 9 ∧ 2 ≤ k ∧ k ≤ 10) ∨ (a = b + 7 ∧ k = s.2.1 0) ∨ (a = b + 6 ∧ k = s.2.1 0) ∨ (a = b ∧ k = 3) ∨ a = b + 8) μ ν7 := ((A15.mono (fun a k q => by omega)).tr (A6.mono (fun a k q => by omega))).tr (u3.mono (fun a k q => by omega))
          have d1 : f_X1_takeDigits F b (nI (s.2.1 0) * (mI (sI ν5 b 3 ((mI ν5 b 3) + (1 : Int32))) b 0)) (sI ν5 b 3 ((mI ν5 b 3) + (1 : Int32))) = some ((dgS U e (s.2.1 2) (s.2.1 0) (s.2.1 2) (tN U e (tN U e (tN U e s.1))) s.2.1).isRight, ν7) := by
            rw [m3, nI_1, ← hν6, m60, pk_mul, Nat.mul_comm]
            exact u1
          rw [wrA_n (by omega) (by omega), Option.bind_some, z1, Option.bind_some, d1, bd_some]
          have base2 : mI ν6 9 2 = mI μ 9 2 := by rw [A6.i (by omega), k5.1, A4.i (by omega), k3.1, A2.i (by omega), k1.1]
          have base3 : mI ν6 9 3 = mI μ 9 3 := by rw [A6.i (by omega), k5.2.1, A4.i (by omega), k3.2.1, A2.i (by omega), k1.2.1]
          cases hD : dgS U e (s.2.1 2) (s.2.1 0) (s.2.1 2) (tN U e (tN U e (tN U e s.1))) s.2.1 with
          | inl f =>
            rw [hD] at u2
            exact ⟨ν7, rfl, u2, A17.mono (fun a k q => by omega)⟩
          | inr x =>
            rw [hD] at u2
            obtain ⟨⟨u4, u5⟩, u6, u7⟩ := u2
            obtain ⟨e1, e2, e3, e4⟩ := dg_ok t3.2 (Nat.le_refl _) hD
            have T07 := TkX0_ag T06 u3 (by omega) (fun k => by omega) (fun k => by omega)
            obtain ⟨ν8, v1, v2, v3⟩ := X_takeEnd T07 u4 e2 hF
            have A18 : Ag (fun a k => (a = 9 ∧ 2 ≤ k ∧ k ≤ 10) ∨ (a = b + 7 ∧ k = s.2.1 0) ∨ (a = b + 6 ∧ k = s.2.1 0) ∨ (a = b ∧ k = 3) ∨ a = b + 8) μ ν8 := A17.tr (v3.mono (fun a k q => by omega))
            show ∃ ν, (if true = true then bd (f_X9_takeEndOfPart F ν7) fun x16 μ17 => (if x16 = true then some (true, μ17) else some (false, μ17)) else some (false, ν7)) = some ((sb (endS U e x.1) _).isRight, ν) ∧ XO μ ν (sb (endS U e x.1) _) _ ∧ _
            rw [if_pos rfl, v1, bd_some]
            cases hE : endS U e x.1 with
            | inl f =>
              rw [hE] at v2
              exact ⟨ν8, rfl, v2, A18.mono (fun a k q => by omega)⟩
            | inr q =>
              rw [hE] at v2
              obtain ⟨v4, v5, v6⟩ := v2
              refine ⟨ν8, rfl, ⟨⟨TkX0_ag T07 v3 (by omega) (fun k => by omega) (fun k => by omega), v4, ?_, ?_⟩, by rw [v5, u6, base2], by rw [v6, u7, base3]⟩, A18.mono (fun a k q => by omega)⟩
              · refine PBX_acc B w (by omega) A18 (fun i hi k z => by omega) ?_ ?_ ?_ (fun j hj => by rw [v3.a (by omega)]; exact u5 j hj) e3 hm
                · rw [v3.i (by omega), u3.i (by omega), hν6, mI_sI, if_pos rfl, if_pos rfl]
                · rw [v3.a (by omega), u3.a (by omega), A6.a (by omega), z3.a (by omega), mA_sA, if_pos rfl, if_pos rfl]
                · rw [v3.l (by omega), u3.l (by omega), A6.l (by omega), z3.l (by omega), A4.l (by omega), y3.l (by omega), mL_sL, if_pos rfl, if_pos rfl]
              · show TL (mI ν8 12 1) s.2.2.2
                rw [A18.i (by omega)]; exact L
        by_cases c4 : tO U e (tN U e (tN U e s.1)) = some 4
        · have hko : kindO (tO U e (tN U e (tN U e s.1))) = some 0 := by unfold kindO; rw [if_pos c4]
          have hi4 : oI (tO U e (tN U e (tN U e s.1))) = (4 : Int32) := (oI_i hol (i := 4) (by omega)).mpr c4
          rw [if_pos hi4, if_pos hi4, hko]
          exact rest 0 hko
        · have hi4 : ¬ oI (tO U e (tN U e (tN U e s.1))) = (4 : Int32) := fun z => c4 ((oI_i hol (i := 4) (by omega)).mp z)
          rw [if_neg hi4, if_neg hi4]
          by_cases c6 : tO U e (tN U e (tN U e s.1)) = some 5
          · have hko : kindO (tO U e (tN U e (tN U e s.1))) = some 1 := by unfold kindO; rw [if_neg c4, if_pos c6]
            have hi5 : oI (tO U e (tN U e (tN U e s.1))) = (5 : Int32) := (oI_i hol (i := 5) (by omega)).mpr c6
            rw [if_pos hi5, hko]
            exact rest 1 hko
          · have hi5 : ¬ oI (tO U e (tN U e (tN U e s.1))) = (5 : Int32) := fun z => c6 ((oI_i hol (i := 5) (by omega)).mp z)
            have hko : kindO (tO U e (tN U e (tN U e s.1))) = none := by unfold kindO; rw [if_neg c4, if_neg c6]
            rw [if_neg hi5, hko]
            obtain ⟨ν, z1, z2, z3, z4⟩ := X_unfit y2
            rw [z1]
            exact ⟨ν, rfl, ⟨z2, z3⟩, (A13.mono (fun a k q => by omega)).tr (PT_PQ z4)⟩
    · rw [if_neg c1, if_neg c1]
      obtain ⟨ν, y1, y2, y3, y4⟩ := X_unfit x2
      rw [y1]
      exact ⟨ν, rfl, ⟨y2, y3⟩, (PT_PQ (PA_PT x3)).tr (PT_PQ y4)⟩
end BKX2
