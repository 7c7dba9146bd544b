/-! ===== the class reads nights ===== -/
section SETW
variable {ω : Nat → Nat → Int32} {i : Nat} {a b c d f x : Int32}
theorem sW1 : updW (setI ω i a b c d f) 1 i x = setI ω i x b c d f := by
  funext j k
  unfold setI updW
  (repeat' split) <;> first | rfl | omega
theorem sW2 : updW (setI ω i a b c d f) 2 i x = setI ω i a x c d f := by
  funext j k
  unfold setI updW
  (repeat' split) <;> first | rfl | omega
theorem sW3 : updW (setI ω i a b c d f) 3 i x = setI ω i a b x d f := by
  funext j k
  unfold setI updW
  (repeat' split) <;> first | rfl | omega
theorem sW4 : updW (setI ω i a b c d f) 4 i x = setI ω i a b c x f := by
  funext j k
  unfold setI updW
  (repeat' split) <;> first | rfl | omega
theorem sW5 : updW (setI ω i a b c d f) 5 i x = setI ω i a b c d x := by
  funext j k
  unfold setI updW
  (repeat' split) <;> first | rfl | omega
end SETW
def RN (ν : Mm) (N : Nat) (ω : Nat → Nat → Int32) : Prop := ∀ j, 1 ≤ j → j ≤ 5 → ∀ k, k < 60 → mA ν (N + j) k = ω j k
def PGB (ν : Mm) (b : Nat) (β : Nat → Nat) (nm : Nat → Int64) : Prop := mI ν b 0 = nI (β 2) ∧ mI ν b 3 = nI (β 0) ∧ (∀ a, a < β 0 → mL ν (b + 7) a = nm a)
def GY (U : Nat → Nat) (e b N : Nat) (β : Nat → Nat) (nm : Nat → Int64) (S : NT) (ν : Mm) : Prop := TkX0 ν U e ∧ TkX ν U e S.1 ∧ mI ν N 1 = nI S.2.2.1 ∧ mI ν N 2 = nI S.2.1 ∧ RN ν N S.2.2.2.2.2 ∧ mI ν 13 2 = nI S.2.2.2.1 ∧ (∀ q, q < S.2.2.2.1 → mA ν 14 q = nI (S.2.2.2.2.1 q)) ∧ PGB ν b β nm
abbrev PZ (N a k : Nat) : Prop := (a = 9 ∧ 2 ≤ k ∧ k ≤ 10) ∨ (N ≤ a ∧ a < N + 6) ∨ (a = 13 ∧ k = 2) ∨ a = 14
abbrev PR (N a k : Nat) : Prop := (a = 9 ∧ 2 ≤ k ∧ k ≤ 10) ∨ (N < a ∧ a < N + 6)
section NX
variable {μ : Mm} {U : Nat → Nat} {e q F b N : Nat} {β : Nat → Nat} {nm : Nat → Int64} {ω : Nat → Nat → Int32}
theorem RN_ag {ν : Mm} {P : Nat → Nat → Prop} (h : RN μ N ω) (a : Ag P μ ν) (hP : ∀ j, 1 ≤ j → j ≤ 5 → ∀ k, ¬ P (N + j) k) : RN ν N ω := fun j h1 h2 k hk => by rw [a.a (hP j h1 h2 k)]; exact h j h1 h2 k hk
theorem RN_wr (h : RN μ N ω) {j i : Nat} {x : Int32} : RN (sA μ (N + j) i x) N (updW ω j i x) := fun j' h1 h2 k hk => by
  rw [mA_sA]
  unfold updW
  by_cases z : j' = j
  · rw [if_pos (by omega)]
    by_cases y : k = i
    · rw [if_pos y, if_pos ⟨z, y⟩]
    · rw [if_neg y, if_neg (fun t => y t.2)]; exact h j' h1 h2 k hk
  · rw [if_neg (by omega), if_neg (fun t => z t.1)]; exact h j' h1 h2 k hk
theorem PGB_ag {ν : Mm} {P : Nat → Nat → Prop} (h : PGB μ b β nm) (a : Ag P μ ν) (h1 : ¬ P b 0) (h2 : ¬ P b 3) (h3 : ∀ k, ¬ P (b + 7) k) : PGB ν b β nm := ⟨by rw [a.i h1]; exact h.1, by rw [a.i h2]; exact h.2.1, fun q hq => by rw [a.l (h3 q)]; exact h.2.2 q hq⟩
theorem X_cellInto (hb : b = 15 ∨ b = 27) (hN : N = 39 ∨ N = 45) (hF : 2000000 ≤ F) (w : WF β) (T0 : TkX0 μ U e) (T : TkX μ U e q) (hq : q ≤ e) (B : PGB μ b β nm) (R0 : RN μ N ω) {i : Nat} (hi : i < 60) : ∃ ν, f_X6_takeCellInto F N b (nI i) μ = some ((celS U e β nm q).isRight, ν) ∧ XO μ ν (celS U e β nm q) (fun x => TkX ν U e x.2 ∧ RN ν N (updW ω 3 i (nI x.1))) ∧ Ag (PR N) μ ν := by
  have w0 := w.1.1
  have w1 := w.1.2.1
  have w2 := w.1.2.2.1
  unfold f_X6_takeCellInto celS
  obtain ⟨ν1, x1, x2, x3⟩ := X_takeName T0 T hq hF B.1 B.2.1 w0 B.2.2
  rw [x1, bd_some]
  cases hn : nmS U e β nm q with
  | inl f => rw [hn] at x2; exact ⟨ν1, rfl, x2, x3.mono (fun a k z => Or.inl z)⟩
  | inr a =>
    rw [hn] at x2
    obtain ⟨⟨x4, x5⟩, x6, x7⟩ := x2
    obtain ⟨n1, n2, n3⟩ := nm_ok hq hn
    have T1 := TkX0_ag T0 x3 (by omega) (fun k => by omega) (fun k => by omega)
    have hl : mI ν1 b 0 - (1 : Int32) = nI (β 2 - 1) := by rw [x3.i (by omega), B.1]; exact subL (by show 1 ≤ β 2; omega)
    obtain ⟨ν2, y1, y2, y3⟩ := X_takeNumber T1 x4 n3 hF (v := 0) (w := mI ν1 b 0 - 1) (lo := 0) (hi := β 2 - 1) rfl hl (by omega) (by omega)
    have A2 : Ag PT μ ν2 := x3.tr y3
    rw [show (Sum.inr a : Sum Flt (Nat × Nat)).isRight = true from rfl, if_pos rfl, y1, bd_some, sb_r]
    cases hc : numS U e 0 (β 2 - 1) a.2 with
    | inl f => rw [hc] at y2; exact ⟨ν2, rfl, y2, A2.mono (fun a k z => Or.inl z)⟩
    | inr c =>
      rw [hc] at y2
      obtain ⟨⟨y4, y5⟩, y6, y7⟩ := y2
      rw [show (Sum.inr c : Sum Flt (Nat × Nat)).isRight = true from rfl, if_pos rfl, x5, y5, nI_add, wrA_n hi (by omega)]
      have A3 : Ag (fun a _ => a = N + 3) ν2 (sA ν2 (N + 3) i (nI (β 2 * a.1 + c.1))) := Ag.sA rfl
      exact ⟨_, rfl, ⟨⟨TkX_ag y4 A3 (fun k hk => by omega), RN_wr (RN_ag R0 A2 (fun j h1 h2 k => by omega))⟩, by rw [A3.i (by omega), y6, x6], by rw [A3.i (by omega), y7, x7]⟩, (A2.mono (fun a k z => Or.inl z)).tr (A3.mono (fun a k z => by omega))⟩
theorem X_cmpInto (hN : N = 39 ∨ N = 45) (hF : 2000000 ≤ F) (T0 : TkX0 μ U e) (T : TkX μ U e q) (hq : q ≤ e) (R0 : RN μ N ω) {i : Nat} (hi : i < 60) : ∃ ν, f_X6_takeCompares F N (nI i) μ = some ((cmpS U e q).isRight, ν) ∧ XO μ ν (cmpS U e q) (fun x => TkX ν U e x.2 ∧ RN ν N (updW ω 4 i (nI x.1))) ∧ Ag (PR N) μ ν := by
  have hk4 := tK_le (U := U) (e := e) (p := q)
  unfold f_X6_takeCompares cmpS
  rw [T.2.2.1]
  by_cases z : tK U e q = 3
  · have hv := (tV_3 z).2
    rw [if_pos ((eqL (n := 3) (by omega) (by decide)).mpr z), T.2.2.2.2 (Or.inr z)]
    by_cases y : tV U e q = 59
    · rw [if_pos ((eqL (n := 59) (by omega) (by decide)).mpr y), if_neg (fun t => t.2 y)]
      obtain ⟨ν, x1, x2, x3, x4⟩ := X_unfit T
      rw [x1]
      exact ⟨ν, rfl, ⟨x2, x3⟩, x4.mono (fun a k z => Or.inl z)⟩
    · rw [if_neg (fun t => y ((eqL (n := 59) (by omega) (by decide)).mp t)), if_pos ⟨z, y⟩, wrA_n hi (by omega), Option.bind_some]
      have A1 : Ag (fun a _ => a = N + 4) μ (sA μ (N + 4) i (nI (tV U e q))) := Ag.sA rfl
      obtain ⟨ν, x1, x2, x3⟩ := X_adv (TkX0_ag T0 A1 (by omega) (fun k => by omega) (fun k => by omega)) (TkX_ag T A1 (fun k hk => by omega)) hq hF
      have kp := PT_keep x3
      rw [x1]
      exact ⟨ν, rfl, ⟨⟨x2, RN_ag (RN_wr R0) x3 (fun j h1 h2 k => by omega)⟩, by rw [kp.1]; rfl, by rw [kp.2.1]; rfl⟩, (A1.mono (fun a k z => by omega)).tr (x3.mono (fun a k z => by omega))⟩
  · rw [if_neg (fun t => z ((eqL (n := 3) (by omega) (by decide)).mp t)), if_neg (fun t => z t.1)]
    obtain ⟨ν, x1, x2, x3, x4⟩ := X_unfit T
    rw [x1]
    exact ⟨ν, rfl, ⟨x2, x3⟩, x4.mono (fun a k z => Or.inl z)⟩
theorem X_numInto (hN : N = 39 ∨ N = 45) (hF : 2000000 ≤ F) (T0 : TkX0 μ U e) (T : TkX μ U e q) (hq : q ≤ e) (R0 : RN μ N ω) {i : Nat} (hi : i < 60) {v1 v2 : Int32} {lo hi' : Nat} (hv1 : v1 = nI lo) (hv2 : v2 = nI hi') (hlo : lo < 1000) (hhi : hi' < 1000) : ∃ ν, f_X6_takeNumberInto F N (nI i) v1 v2 μ = some ((numS U e lo hi' q).isRight, ν) ∧ XO μ ν (numS U e lo hi' q) (fun x => TkX ν U e x.2 ∧ RN ν N (updW ω 2 i (nI x.1))) ∧ Ag (PR N) μ ν := by
  unfold f_X6_takeNumberInto
  obtain ⟨ν2, y1, y2, y3⟩ := X_takeNumber T0 T hq hF hv1 hv2 hlo hhi
  rw [y1, bd_some]
  cases hc : numS U e lo hi' q with
  | inl f => rw [hc] at y2; exact ⟨ν2, rfl, y2, y3.mono (fun a k z => Or.inl z)⟩
  | inr c =>
    rw [hc] at y2
    obtain ⟨⟨y4, y5⟩, y6, y7⟩ := y2
    rw [show (Sum.inr c : Sum Flt (Nat × Nat)).isRight = true from rfl, if_pos rfl, y5, wrA_n hi (by omega)]
    have A3 : Ag (fun a _ => a = N + 2) ν2 (sA ν2 (N + 2) i (nI c.1)) := Ag.sA rfl
    exact ⟨_, rfl, ⟨⟨TkX_ag y4 A3 (fun k hk => by omega), RN_wr (RN_ag R0 y3 (fun j h1 h2 k => by omega))⟩, by rw [A3.i (by omega), y6], by rw [A3.i (by omega), y7]⟩, (y3.mono (fun a k z => Or.inl z)).tr (A3.mono (fun a k z => by omega))⟩
theorem XO_tr {α : Type} {ν ξ : Mm} {o : Sum Flt α} {g : α → Prop} (h : XO ν ξ o g) (h2 : mI ν 9 2 = mI μ 9 2) (h3 : mI ν 9 3 = mI μ 9 3) : XO μ ξ o g := by
  cases o with
  | inl f => exact h
  | inr x => exact ⟨h.1, by rw [h.2.1, h2], by rw [h.2.2, h3]⟩
theorem X_test (hb : b = 15 ∨ b = 27) (hN : N = 39 ∨ N = 45) (hF : 2000000 ≤ F) (w : WF β) (T0 : TkX0 μ U e) (T : TkX μ U e q) (hq : q ≤ e) (B : PGB μ b β nm) {i : Nat} (hi : i < 60) {f0 : Int32} (R0 : RN μ N (setI ω i f0 0 0 0 (nI i))) : ∃ ν, f_X6_takeTest F N b (nI i) μ = some ((tstS U e β nm q).isRight, ν) ∧ XO μ ν (tstS U e β nm q) (fun r => TkX ν U e r.1 ∧ RN ν N (setI ω i (nI r.2.1) (nI r.2.2.1) (nI r.2.2.2.1) (nI r.2.2.2.2) (nI i))) ∧ Ag (PR N) μ ν := by
  have hol : ∀ k, tO U e q = some k → k < 28 := fun k hk => (tO_lt hk).1
  have hI : ∀ j, j < 28 → ∀ v : Int32, v = nI j → ((oI (tO U e q) = v) ↔ tO U e q = some j) := fun j hj v hv => by rw [hv]; exact oI_i hol hj
  have wi : f_X11_within (oI (tO U e q)) 22 24 μ = some (decide (tO U e q = some 24 ∨ tO U e q = some 23 ∨ tO U e q = some 22)) := by
    rw [within_L (by decide) (by decide)]
    cases ho : tO U e q with
    | none => rfl
    | some k =>
      have key : ∀ k, k < 28 → some (inR (nI k) 22 24) = some (decide (some k = some 24 ∨ some k = some 23 ∨ some k = some 22)) := by decide +kernel
      exact key k (hol k ho)
  unfold f_X6_takeTest tstS
  rw [X_setWord T, Option.bind_some, wi, Option.bind_some]
  -- the word's row, and on
  have go : ∀ j, (j = 24 ∨ j = 23 ∨ j = 22) → tO U e q = some j → ∃ ν1, ((wrA μ (N + 1) 60 (nI i) (oI (tO U e q))).bind fun μ3 => f_X9_advance F μ3) = some ν1 ∧ TkX0 ν1 U e ∧ TkX ν1 U e (tN U e q) ∧ PGB ν1 b β nm ∧ RN ν1 N (setI ω i (nI j) 0 0 0 (nI i)) ∧ mI ν1 9 2 = mI μ 9 2 ∧ mI ν1 9 3 = mI μ 9 3 ∧ Ag (PR N) μ ν1 := by
    intro j hj ho
    rw [wrA_n hi (by omega), Option.bind_some, ho, oI_some]
    have A1 : Ag (fun a _ => a = N + 1) μ (sA μ (N + 1) i (nI j)) := Ag.sA rfl
    have R1 : RN (sA μ (N + 1) i (nI j)) N (setI ω i (nI j) 0 0 0 (nI i)) := by
      have := RN_wr R0 (j := 1) (i := i) (x := nI j)
      rw [sW1] at this
      exact this
    have T1 := TkX0_ag T0 A1 (by omega) (fun k => by omega) (fun k => by omega)
    obtain ⟨ν, x1, x2, x3⟩ := X_adv T1 (TkX_ag T A1 (fun k hk => by omega)) hq hF
    have kp := PT_keep x3
    exact ⟨ν, x1, TkX0_ag T1 x3 (by omega) (fun k => by omega) (fun k => by omega), x2, PGB_ag (PGB_ag B A1 (by omega) (by omega) (fun k => by omega)) x3 (by omega) (by omega) (fun k => by omega), RN_ag R1 x3 (fun j h1 h2 k => by omega), by rw [kp.1]; rfl, by rw [kp.2.1]; rfl, (A1.mono (fun a k z => by omega)).tr (x3.mono (fun a k z => by omega))⟩
  have asc : ∀ (o : Option Mm) (k1 : Mm → Option Mm) (k2 : Mm → Option (Bool × Mm)), (o.bind fun x => (k1 x).bind k2) = (o.bind k1).bind k2 := fun o k1 k2 => by cases o <;> rfl
  have t := tN_le (U := U) hq
  by_cases c24 : tO U e q = some 24
  · obtain ⟨ν1, g1, g2, g3, g4, g5, g6, g7, g8⟩ := go 24 (by omega) c24
    rw [decide_eq_true (Or.inl c24), if_pos rfl, asc, g1, Option.bind_some, if_pos ((hI 24 (by omega) 24 rfl).mpr c24), if_pos c24]
    exact ⟨ν1, rfl, ⟨⟨g3, g5⟩, g6, g7⟩, g8⟩
  · by_cases c23 : tO U e q = some 23
    · obtain ⟨ν1, g1, g2, g3, g4, g5, g6, g7, g8⟩ := go 23 (by omega) c23
      rw [decide_eq_true (Or.inr (Or.inl c23)), if_pos rfl, asc, g1, Option.bind_some, if_neg (fun z => c24 ((hI 24 (by omega) 24 rfl).mp z)), if_pos ((hI 23 (by omega) 23 rfl).mpr c23), if_pos ((hI 23 (by omega) 23 rfl).mpr c23), if_neg c24, if_pos c23]
      obtain ⟨ν2, x1, x2, x3⟩ := X_cellInto hb hN hF w g2 g3 t.2 g4 g5 hi
      rw [x1, bd_some]
      cases hc : celS U e β nm (tN U e q) with
      | inl f => rw [hc] at x2; exact ⟨ν2, rfl, XO_tr x2 g6 g7, g8.tr x3⟩
      | inr c =>
        rw [hc] at x2
        obtain ⟨⟨x4, x5⟩, x6, x7⟩ := x2
        rw [sW3] at x5
        have n1 := cel_ok w t.2 hc
        have T2 := TkX0_ag g2 x3 (by omega) (fun k => by omega) (fun k => by omega)
        obtain ⟨ν3, y1, y2, y3⟩ := X_cmpInto hN hF T2 x4 n1.2.2 x5 hi
        rw [show (Sum.inr c : Sum Flt (Nat × Nat)).isRight = true from rfl, if_pos rfl, y1, bd_some, sb_r]
        cases hs : cmpS U e c.2 with
        | inl f => rw [hs] at y2; exact ⟨ν3, rfl, y2, (g8.tr x3).tr y3⟩
        | inr s =>
          rw [hs] at y2
          obtain ⟨⟨y4, y5⟩, y6, y7⟩ := y2
          rw [sW4] at y5
          have n2 := cmp_ok n1.2.2 hs
          obtain ⟨ν4, z1, z2, z3⟩ := X_numInto hN hF (TkX0_ag T2 y3 (by omega) (fun k => by omega) (fun k => by omega)) y4 n2.2.1 y5 hi (v1 := 0) (v2 := 9) (lo := 0) (hi' := 9) rfl rfl (by omega) (by omega)
          rw [show (Sum.inr s : Sum Flt (Nat × Nat)).isRight = true from rfl, if_pos rfl, z1, bd_some, sb_r]
          cases hv : numS U e 0 9 s.2 with
          | inl f => rw [hv] at z2; exact ⟨ν4, rfl, z2, ((g8.tr x3).tr y3).tr z3⟩
          | inr v =>
            rw [hv] at z2
            obtain ⟨⟨z4, z5⟩, z6, z7⟩ := z2
            rw [sW2] at z5
            exact ⟨ν4, rfl, ⟨⟨z4, z5⟩, by rw [z6, y6, x6, g6], by rw [z7, y7, x7, g7]⟩, ((g8.tr x3).tr y3).tr z3⟩
    · by_cases c22 : tO U e q = some 22
      · obtain ⟨ν1, g1, g2, g3, g4, g5, g6, g7, g8⟩ := go 22 (by omega) c22
        rw [decide_eq_true (Or.inr (Or.inr c22)), if_pos rfl, asc, g1, Option.bind_some, if_neg (fun z => c24 ((hI 24 (by omega) 24 rfl).mp z)), if_neg (fun z => c23 ((hI 23 (by omega) 23 rfl).mp z)), if_neg (fun z => c23 ((hI 23 (by omega) 23 rfl).mp z)), if_neg c24, if_neg c23, if_pos c22]
        obtain ⟨ν3, y1, y2, y3⟩ := X_cmpInto hN hF g2 g3 t.2 g5 hi
        rw [y1, bd_some]
        cases hs : cmpS U e (tN U e q) with
        | inl f => rw [hs] at y2; exact ⟨ν3, rfl, XO_tr y2 g6 g7, g8.tr y3⟩
        | inr s =>
          rw [hs] at y2
          obtain ⟨⟨y4, y5⟩, y6, y7⟩ := y2
          rw [sW4] at y5
          have n2 := cmp_ok t.2 hs
          obtain ⟨ν4, z1, z2, z3⟩ := X_numInto hN hF (TkX0_ag g2 y3 (by omega) (fun k => by omega) (fun k => by omega)) y4 n2.2.1 y5 hi (v1 := 0) (v2 := 99) (lo := 0) (hi' := 99) rfl rfl (by omega) (by omega)
          rw [show (Sum.inr s : Sum Flt (Nat × Nat)).isRight = true from rfl, if_pos rfl, z1, bd_some, sb_r]
          cases hv : numS U e 0 99 s.2 with
          | inl f => rw [hv] at z2; exact ⟨ν4, rfl, z2, (g8.tr y3).tr z3⟩
          | inr v =>
            rw [hv] at z2
            obtain ⟨⟨z4, z5⟩, z6, z7⟩ := z2
            rw [sW2] at z5
            exact ⟨ν4, rfl, ⟨⟨z4, z5⟩, by rw [z6, y6, g6], by rw [z7, y7, g7]⟩, (g8.tr y3).tr z3⟩
      · rw [decide_eq_false (by rintro (z | z | z); exact c24 z; exact c23 z; exact c22 z), if_neg (by decide), if_neg c24, if_neg c23, if_neg c22]
        obtain ⟨ν, x1, x2, x3, x4⟩ := X_unfit T
        rw [x1]
        exact ⟨ν, rfl, ⟨x2, x3⟩, x4.mono (fun a k z => Or.inl z)⟩
theorem wayN {o : Option Nat} (h : ∀ k, o = some k → k < 28) : f_X6_wayNamed (oI o) μ = some (oI (wayO o)) := by
  unfold f_X6_wayNamed wayO
  cases o with
  | none => rfl
  | some k =>
    have hk := h k rfl
    have key : ∀ k, k < 28 → (if oI (some k) = 8 then some (2 : Int32) else (if oI (some k) = 9 then some 3 else (if oI (some k) = 14 then some 0 else (if oI (some k) = 15 then some 1 else (if oI (some k) = 16 then some 4 else some (-1)))))) = some (oI (if some k = some 14 then some 0 else if some k = some 15 then some 1 else if some k = some 8 then some 2 else if some k = some 9 then some 3 else if some k = some 16 then some 4 else none)) := by decide +kernel
    exact key k hk
/-- the rest of any order -/
theorem X_rest (hb : b = 15 ∨ b = 27) (hN : N = 39 ∨ N = 45) (hF : 2000000 ≤ F) (w : WF β) (T0 : TkX0 μ U e) (T : TkX μ U e q) (hq : q ≤ e) (B : PGB μ b β nm) {i c : Nat} (hi : i < 60) (hc : isOr c = true) (R0 : RN μ N (setI ω i (nI c) 0 0 0 (nI i))) : ∃ ν, (if nI c = 21 then f_X6_takeTest F N b (nI i) μ else f_X6_takeRest F N b (nI i) μ) = some ((rstS U e β nm c q).isRight, ν) ∧ XO μ ν (rstS U e β nm c q) (fun r => TkX ν U e r.1 ∧ RN ν N (setI ω i (nI r.2.1) (nI r.2.2.1) (nI r.2.2.2.1) (nI r.2.2.2.2) (nI i))) ∧ Ag (PR N) μ ν := by
  have hc2 := of_decide_eq_true hc
  have hol : ∀ k, tO U e q = some k → k < 28 := fun k hk => (tO_lt hk).1
  have rd : rdA μ (N + 1) 60 (nI i) = some (nI c) := by rw [rdA_n hi (by omega), R0 1 (by omega) (by omega) i hi, setI_1]
  unfold rstS
  by_cases c21 : c = 21
  · rw [if_pos ((eqL (n := 21) (by omega) (by decide)).mpr c21), if_pos c21]
    exact X_test hb hN hF w T0 T hq B hi R0
  · rw [if_neg (fun z => c21 ((eqL (n := 21) (by omega) (by decide)).mp z)), if_neg c21]
    unfold f_X6_takeRest
    rw [rd, Option.bind_some]
    by_cases c13 : c = 13
    · rw [if_pos ((eqL (n := 13) (by omega) (by decide)).mpr c13), if_pos c13]
      unfold f_X6_takeWay
      rw [X_setWord T, Option.bind_some, wayN hol, Option.bind_some]
      cases hw : wayO (tO U e q) with
      | none =>
        rw [if_pos oI_none]
        obtain ⟨ν, x1, x2, x3, x4⟩ := X_unfit T
        rw [x1]
        exact ⟨ν, rfl, ⟨x2, x3⟩, x4.mono (fun a k z => Or.inl z)⟩
      | some v =>
        have hv := (wayO_le hw).1
        rw [oI_some, if_neg (by rw [neg_ne (by omega)]; exact id), wrA_n hi (by omega), Option.bind_some]
        have A1 : Ag (fun a _ => a = N + 2) μ (sA μ (N + 2) i (nI v)) := Ag.sA rfl
        obtain ⟨ν, x1, x2, x3⟩ := X_adv (TkX0_ag T0 A1 (by omega) (fun k => by omega) (fun k => by omega)) (TkX_ag T A1 (fun k hk => by omega)) hq hF
        have kp := PT_keep x3
        have R1 := RN_ag (RN_wr R0 (j := 2) (i := i) (x := nI v)) x3 (fun j h1 h2 k => by omega)
        rw [sW2, c13] at R1
        rw [x1]
        exact ⟨ν, rfl, ⟨⟨x2, R1⟩, by rw [kp.1]; rfl, by rw [kp.2.1]; rfl⟩, (A1.mono (fun a k z => by omega)).tr (x3.mono (fun a k z => by omega))⟩
    · rw [if_neg (fun z => c13 ((eqL (n := 13) (by omega) (by decide)).mp z)), if_neg c13]
      by_cases c17 : c = 17
      · rw [if_pos ((eqL (n := 17) (by omega) (by decide)).mpr c17), if_pos c17]
        obtain ⟨ν, x1, x2, x3⟩ := X_numInto hN hF T0 T hq R0 hi (v1 := 1) (v2 := 24) (lo := 1) (hi' := 24) rfl rfl (by omega) (by omega)
        rw [x1]
        refine ⟨ν, ?_, ?_, x3⟩
        · cases numS U e 1 24 q <;> rfl
        · cases hn : numS U e 1 24 q with
          | inl f => rw [hn] at x2; exact x2
          | inr v => rw [hn] at x2; obtain ⟨⟨x4, x5⟩, x6, x7⟩ := x2; rw [sW2, c17] at x5; exact ⟨⟨x4, x5⟩, x6, x7⟩
      · rw [if_neg (fun z => c17 ((eqL (n := 17) (by omega) (by decide)).mp z)), if_neg c17]
        have cell : ∃ ν, f_X6_takeCellInto F N b (nI i) μ = some ((sb (celS U e β nm q) fun x => (.inr (x.2, c, 0, x.1, 0) : Sum Flt RR)).isRight, ν) ∧ XO μ ν (sb (celS U e β nm q) fun x => (.inr (x.2, c, 0, x.1, 0) : Sum Flt RR)) (fun r => TkX ν U e r.1 ∧ RN ν N (setI ω i (nI r.2.1) (nI r.2.2.1) (nI r.2.2.2.1) (nI r.2.2.2.2) (nI i))) ∧ Ag (PR N) μ ν := by
          obtain ⟨ν, x1, x2, x3⟩ := X_cellInto hb hN hF w T0 T hq B R0 hi
          rw [x1]
          refine ⟨ν, ?_, ?_, x3⟩
          · cases celS U e β nm q <;> rfl
          · cases hn : celS U e β nm q with
            | inl f => rw [hn] at x2; exact x2
            | inr v => rw [hn] at x2; obtain ⟨⟨x4, x5⟩, x6, x7⟩ := x2; rw [sW3] at x5; exact ⟨⟨x4, x5⟩, x6, x7⟩
        by_cases c18 : c = 18
        · rw [if_pos ((eqL (n := 18) (by omega) (by decide)).mpr c18), if_pos (Or.inl c18)]
          obtain ⟨ν, x1, x2, x3⟩ := cell
          rw [x1]
          exact ⟨ν, rfl, x2, x3⟩
        · rw [if_neg (fun z => c18 ((eqL (n := 18) (by omega) (by decide)).mp z))]
          by_cases c19 : c = 19
          · rw [if_pos ((eqL (n := 19) (by omega) (by decide)).mpr c19), if_pos (Or.inr c19)]
            obtain ⟨ν, x1, x2, x3⟩ := cell
            rw [x1]
            exact ⟨ν, rfl, x2, x3⟩
          · rw [if_neg (fun z => c19 ((eqL (n := 19) (by omega) (by decide)).mp z)), if_neg (show ¬ (c = 18 ∨ c = 19) by omega)]
            by_cases c25 : c = 25
            · rw [if_pos ((eqL (n := 25) (by omega) (by decide)).mpr c25), if_pos c25]
              obtain ⟨ν, x1, x2, x3⟩ := X_numInto hN hF T0 T hq R0 hi (v1 := 1) (v2 := 99) (lo := 1) (hi' := 99) rfl rfl (by omega) (by omega)
              rw [x1]
              refine ⟨ν, ?_, ?_, x3⟩
              · cases numS U e 1 99 q <;> rfl
              · cases hn : numS U e 1 99 q with
                | inl f => rw [hn] at x2; exact x2
                | inr v => rw [hn] at x2; obtain ⟨⟨x4, x5⟩, x6, x7⟩ := x2; rw [sW2, c25] at x5; exact ⟨⟨x4, x5⟩, x6, x7⟩
            · rw [if_neg (fun z => c25 ((eqL (n := 25) (by omega) (by decide)).mp z)), if_neg c25]
              exact ⟨μ, rfl, ⟨⟨T, R0⟩, rfl, rfl⟩, Ag.rf⟩
end NX
