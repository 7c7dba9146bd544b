/-! ===== the class reads a book: laws, the watch, all of it ===== -/
def bk0 : Nat → Nat := fun j => if j = 2 then 3 else if j = 3 then 2 else if j = 4 then 2 else 0
/-- the truths are the digits -/
def trB (β : Nat → Nat) : Nat → Nat := fun j => if 38 ≤ j ∧ j < 63 then β (j - 25) else β j
section BKX3
variable {μ : Mm} {U : Nat → Nat} {e p F b : Nat}
theorem wi_pl {o : Option Nat} (h : ∀ k, o = some k → k < 28) : f_X11_within (oI o) 8 11 μ = some (placO o).isSome := by
  rw [within_L (by decide) (by decide)]
  cases o with
  | none => rfl
  | some i =>
    have hi := h i rfl
    have key : ∀ i, i < 28 → some (inR (nI i) 8 11) = some (placO (some i)).isSome := by decide +kernel
    exact key i hi
theorem X_takeLaw {s : BS} (hb : b = 15 ∨ b = 27) (hF : 2000000 ≤ F) (g : GX U e b s μ) (hs : PI e s) (ho : tO U e s.1 = some 6) : ∃ ν, f_X1_takeLaw F b μ = some ((lawS U e s).isRight, ν) ∧ XO μ ν (lawS U e s) (fun s' => GX U e b s' ν) ∧ Ag (PQ b) μ ν := by
  obtain ⟨T0, T, B, L⟩ := g
  obtain ⟨hp, w, h5, h6, h63, h128⟩ := id hs
  have w1 := w.1.2.2.2.1
  unfold f_X1_takeLaw lawS
  rw [B.1.laws]
  by_cases c10 : 10 ≤ s.2.1 1
  · rw [if_neg (fun z => by have z2 : s.2.1 1 < 10 := (ltL (n := 10) (by omega) (by decide)).mp z; omega), if_pos c10]
    obtain ⟨ν, x1, x2, x3, x4⟩ := X_refuse T (v := 6) 6 rfl
    rw [x1]
    exact ⟨ν, rfl, ⟨x2, x3⟩, PT_PQ x4⟩
  · rw [if_pos ((ltL (n := 10) (by omega) (by decide)).mpr (by show s.2.1 1 < 10; omega)), if_neg c10]
    obtain ⟨ν1, x1, x2, x3⟩ := X_adv T0 T hp hF
    have t1 := tK0_le (U := U) hp (tO_K ho)
    have T01 := TkX0_ag T0 x3 (by omega) (fun k => by omega) (fun k => by omega)
    have k1 := PT_keep x3
    obtain ⟨ν2, y1, y2, y3⟩ := X_takeNumber T01 x2 t1.2 hF (v := 0) (w := 9) (lo := 0) (hi := 9) rfl rfl (by omega) (by omega)
    have A2 : Ag PT μ ν2 := (PA_PT x3).tr y3
    rw [x1, Option.bind_some, y1, bd_some]
    cases hn : numS U e 0 9 (tN U e s.1) with
    | inl f => rw [hn] at y2; exact ⟨ν2, rfl, y2, PT_PQ A2⟩
    | inr a =>
      rw [hn] at y2
      obtain ⟨⟨y4, y5⟩, y6, y7⟩ := y2
      obtain ⟨n1, n2, n3, n4, -, -⟩ := num_ok t1.2 hn
      have T02 := TkX0_ag T01 y3 (by omega) (fun k => by omega) (fun k => by omega)
      obtain ⟨ν3, z1, z2, z3⟩ := X_takeWord T02 y4 n4 hF (v := 7) (i := 7) rfl (by omega)
      have A3 : Ag PT μ ν3 := A2.tr z3
      rw [show (Sum.inr a : Sum Flt (Nat × Nat)).isRight = true from rfl, if_pos rfl, z1, bd_some, sb_r]
      cases hw : wdS U e 7 a.2 with
      | inl f => rw [hw] at z2; exact ⟨ν3, rfl, z2, PT_PQ A3⟩
      | inr q1 =>
        rw [hw] at z2
        obtain ⟨⟨z4, z5⟩, z6, z7⟩ := z2
        have n5 := wd_ok n4 hw
        have T03 := TkX0_ag T02 z3 (by omega) (fun k => by omega) (fun k => by omega)
        obtain ⟨ν4, u1, u2, u3⟩ := X_takeNumber T03 z4 n5.2 hF (v := 0) (w := 9) (lo := 0) (hi := 9) rfl rfl (by omega) (by omega)
        have A4 : Ag PT μ ν4 := A3.tr u3
        rw [show (Sum.inr q1 : Sum Flt Nat).isRight = true from rfl, if_pos rfl, u1, bd_some, sb_r]
        cases hc : numS U e 0 9 q1 with
        | inl f => rw [hc] at u2; exact ⟨ν4, rfl, u2, PT_PQ A4⟩
        | inr c =>
          rw [hc] at u2
          obtain ⟨⟨u4, u5⟩, u6, u7⟩ := u2
          obtain ⟨m1, m2, m3, m4, -, -⟩ := num_ok n5.2 hc
          have T04 := TkX0_ag T03 u3 (by omega) (fun k => by omega) (fun k => by omega)
          have hol : ∀ k, tO U e c.2 = some k → k < 28 := fun k hk => (tO_lt hk).1
          rw [show (Sum.inr c : Sum Flt (Nat × Nat)).isRight = true from rfl, if_pos rfl, X_setWord u4, Option.bind_some, wi_pl hol, Option.bind_some, sb_r, y5, u5]
          -- behind the law is laid
          have fin : ∀ (ν5 : Mm) (p5 pl be : Nat) (v : Int32), p5 ≤ e → pl ≤ 4 → be ≤ 9 → (if nI pl = 0 then (0 : Int32) else v) = nI be → TkX0 ν5 U e → TkX ν5 U e p5 → Ag PT μ ν5 → mI ν5 9 2 = mI μ 9 2 → mI ν5 9 3 = mI μ 9 3 → ∃ ν, ((f_X3_add (b + 1) (nI a.1) (nI c.1) (nI pl) v ν5).bind fun μ20 => bd (f_X9_takeEndOfPart F μ20) fun x21 μ22 => some (x21, μ22)) = some ((sb (endS U e p5) fun q => (.inr (q, addB s.2.1 a.1 c.1 pl be, s.2.2.1, s.2.2.2) : Sum Flt BS)).isRight, ν) ∧ XO μ ν (sb (endS U e p5) fun q => (.inr (q, addB s.2.1 a.1 c.1 pl be, s.2.2.1, s.2.2.2) : Sum Flt BS)) (fun s' => GX U e b s' ν) ∧ Ag (PQ b) μ ν := by
            intro ν5 p5 pl be v hp5 hpl hbe hv T05 T5 A5 f2 f3
            have B5 : PBX ν5 b s.2.1 s.2.2.1 := PBX_ag B A5 (fun i hi k => by omega)
            have A6 : Ag (fun a _ => b < a ∧ a < b + 6) ν5 (addX ν5 b (s.2.1 1) a.1 c.1 pl be) := addX_ag
            have bx := addX_bx (f := a.1) (t := c.1) (p := pl) (q := be) B5.1 w (by omega)
            have B6 : PBX (addX ν5 b (s.2.1 1) a.1 c.1 pl be) b (addB s.2.1 a.1 c.1 pl be) s.2.2.1 := by
              refine ⟨bx, fun k hk => ?_, fun q hq => ?_⟩
              · rw [addB_lo (by omega) (by omega), addB_lo (by omega) (by omega), addB_lo (by omega) (by omega), A6.a (by omega), A6.a (by omega), A6.a (by omega)]
                exact B5.2.1 k hk
              · rw [addB_lo (by omega) (by omega)] at hq
                rw [A6.l (by omega)]
                exact B5.2.2 q hq
            have T06 := TkX0_ag T05 A6 (by omega) (fun k => by omega) (fun k => by omega)
            obtain ⟨ν7, v1, v2, v3⟩ := X_takeEnd T06 (TkX_ag T5 A6 (fun k hk => by omega)) hp5 hF
            have A7 : Ag (PQ b) μ ν7 := ((PT_PQ A5).tr (A6.mono (fun a k q => by omega))).tr (PT_PQ v3)
            rw [X_add B5.1 (by omega) hv, Option.bind_some, v1, bd_some]
            cases hE : endS U e p5 with
            | inl f => rw [hE] at v2; exact ⟨ν7, rfl, v2, A7⟩
            | inr q =>
              rw [hE] at v2
              obtain ⟨v4, v5, v6⟩ := v2
              refine ⟨ν7, rfl, ⟨⟨TkX0_ag T06 v3 (by omega) (fun k => by omega) (fun k => by omega), v4, PBX_ag B6 v3 (fun i hi k => by omega), ?_⟩, by rw [v5, A6.i (by omega), f2], by rw [v6, A6.i (by omega), f3]⟩, A7⟩
              show TL (mI ν7 12 1) s.2.2.2
              rw [v3.i (by omega), A6.i (by omega), A5.i (by omega)]
              exact L
          have f2 : mI ν4 9 2 = mI μ 9 2 := by rw [u6, z6, y6, k1.1]
          have f3 : mI ν4 9 3 = mI μ 9 3 := by rw [u7, z7, y7, k1.2.1]
          cases hk : placO (tO U e c.2) with
          | none =>
            rw [show (none : Option Nat).isSome = false from rfl, if_neg (by decide)]
            exact fin ν4 c.2 0 0 0 m4 (by omega) (by omega) rfl T04 u4 A4 f2 f3
          | some pl =>
            obtain ⟨i, hi1, hi2⟩ := placO_i hk
            have hpl := placO_le hk
            have hK : tK U e c.2 = 1 := (tO_lt hi1).2
            have t2 := tK0_le (U := U) m4 (by omega : tK U e c.2 ≠ 0)
            have v5 : mI ν4 9 5 = nI (pl + 7) := by rw [(u4.2.2.2.1 hK).1, hi1, oI_some, hi2]
            rw [show (some pl : Option Nat).isSome = true from rfl, if_pos rfl]
            obtain ⟨ν5, r1, r2, r3⟩ := X_adv T04 u4 m4 hF
            have k5 := PT_keep r3
            have T05 := TkX0_ag T04 r3 (by omega) (fun k => by omega) (fun k => by omega)
            obtain ⟨ν6, w1', w2', w3'⟩ := X_takeNumber T05 r2 t2.2 hF (v := 0) (w := 9) (lo := 0) (hi := 9) rfl rfl (by omega) (by omega)
            have A6 : Ag PT μ ν6 := (A4.tr (PA_PT r3)).tr w3'
            rw [r1, Option.bind_some, w1', bd_some]
            cases hd : numS U e 0 9 (tN U e c.2) with
            | inl f => rw [hd] at w2'; exact ⟨ν6, rfl, w2', PT_PQ A6⟩
            | inr d =>
              rw [hd] at w2'
              obtain ⟨⟨w4, w5⟩, w6, w7⟩ := w2'
              obtain ⟨l1, l2, l3, l4, -, -⟩ := num_ok t2.2 hd
              have pv : mI ν4 9 5 - (8 : Int32) + (1 : Int32) = nI pl := by
                rw [v5, subL (by show 8 ≤ pl + 7; omega)]
                show nI (pl + 7 - 8) + 1 = nI pl
                rw [nI_1, show pl + 7 - 8 + 1 = pl by omega]
              rw [show (Sum.inr d : Sum Flt (Nat × Nat)).isRight = true from rfl, if_pos rfl, pv, w5]
              exact fin ν6 d.2 pl d.1 (nI d.1) l4 (by omega) l2 (by rw [if_neg (fun z => by have z2 : pl = 0 := (eqL (n := 0) (by omega) (by decide)).mp z; omega)]) (TkX0_ag T05 w3' (by omega) (fun k => by omega) (fun k => by omega)) w4 A6 (by rw [w6, k5.1, f2]) (by rw [w7, k5.2.1, f3])
theorem X_takeWatch {s : BS} (hb : b = 15 ∨ b = 27) (hF : 2000000 ≤ F) (g : GX U e b s μ) (hs : PI e s) (ho : tO U e s.1 = some 12) : ∃ ν, f_X1_takeWatch F b μ = some ((watS U e s).isRight, ν) ∧ XO μ ν (watS U e s) (fun s' => GX U e b s' ν) ∧ Ag (PQ b) μ ν := by
  obtain ⟨T0, T, B, L⟩ := g
  obtain ⟨hp, w, h5, h6, h63, h128⟩ := id hs
  have w0 := w.1.1
  have w1 := w.1.2.1
  have w2 := w.1.2.2.1
  have hat := TL_at L (i := 12) (j := 7) (by omega)
  obtain ⟨o1, o2⟩ := X_wordOnce T0 T hp hF (v := 12) (i := 12) rfl (by omega) ho
  unfold f_X1_takeWatch watS
  by_cases ht : s.2.2.2 7 = true
  · obtain ⟨ν, x1, x2, x3, x4⟩ := o1 (hat.trans ht)
    rw [x1, if_pos ht]
    exact ⟨ν, rfl, ⟨x2, x3⟩, PT_PQ x4⟩
  · obtain ⟨ν1, x1, x2, x3, x4, x5, x6⟩ := o2 (hat.trans (bf ht))
    rw [x1, bd_some, if_pos rfl, if_neg ht]
    have t1 := tK0_le (U := U) hp (tO_K ho)
    have T01 := TkX0_ag T0 x6 (by omega) (fun k => by omega) (fun k => by omega)
    have B1 := PBX_ag B x6 (fun i hi k => by omega)
    obtain ⟨ν2, y1, y2, y3⟩ := X_takeName T01 x2 t1.2 hF B1.1.wide B1.1.acc w0 B1.2.2
    have A2 : Ag (fun a k => (a = 9 ∧ 2 ≤ k ∧ k ≤ 10) ∨ (a = 12 ∧ k = 1)) μ ν2 := x6.tr (y3.mono (fun a k q => Or.inl q))
    rw [y1, bd_some]
    cases hn : nmS U e s.2.1 s.2.2.1 (tN U e s.1) with
    | inl f => rw [hn] at y2; exact ⟨ν2, rfl, y2, A2.mono (fun a k q => by omega)⟩
    | inr a =>
      rw [hn] at y2
      obtain ⟨⟨y4, y5⟩, y6, y7⟩ := y2
      obtain ⟨n1, n2, n3⟩ := nm_ok t1.2 hn
      have T02 := TkX0_ag T01 y3 (by omega) (fun k => by omega) (fun k => by omega)
      have m0 : mI ν2 b 0 = nI (s.2.1 2) := by rw [A2.i (by omega)]; exact B.1.wide
      have hl : mI ν2 b 0 - (1 : Int32) = nI (s.2.1 2 - 1) := by rw [m0]; exact subL (by show 1 ≤ s.2.1 2; omega)
      obtain ⟨ν3, z1, z2, z3⟩ := X_takeNumber T02 y4 n3 hF (v := 0) (w := mI ν2 b 0 - 1) (lo := 0) (hi := s.2.1 2 - 1) rfl hl (by omega) (by omega)
      have A3 : Ag (fun a k => (a = 9 ∧ 2 ≤ k ∧ k ≤ 10) ∨ (a = 12 ∧ k = 1)) μ ν3 := A2.tr (z3.mono (fun a k q => Or.inl q))
      rw [show (Sum.inr a : Sum Flt (Nat × Nat)).isRight = true from rfl, if_pos rfl, z1, bd_some, sb_r]
      cases hc : numS U e 0 (s.2.1 2 - 1) a.2 with
      | inl f => rw [hc] at z2; exact ⟨ν3, rfl, z2, A3.mono (fun a k q => by omega)⟩
      | inr c =>
        rw [hc] at z2
        obtain ⟨⟨z4, z5⟩, z6, z7⟩ := z2
        obtain ⟨m1, m2, m3, m4, -, -⟩ := num_ok n3 hc
        have T03 := TkX0_ag T02 z3 (by omega) (fun k => by omega) (fun k => by omega)
        have A4 : Ag (fun a k => a = b ∧ k = 4) ν3 (sI ν3 b 4 (nI (s.2.1 2 * a.1 + c.1))) := Ag.sI ⟨rfl, rfl⟩
        have T04 := TkX0_ag T03 A4 (by omega) (fun k => by omega) (fun k => by omega)
        obtain ⟨ν4, u1, u2, u3⟩ := X_takeEnd T04 (TkX_ag z4 A4 (fun k hk => by omega)) m4 hF
        have A5 : Ag (PQ b) μ ν4 := ((A3.mono (fun a k q => by omega)).tr (A4.mono (fun a k q => by omega))).tr (PT_PQ u3)
        rw [show (Sum.inr c : Sum Flt (Nat × Nat)).isRight = true from rfl, if_pos rfl, y5, z5, nI_add, u1, bd_some, sb_r]
        cases hE : endS U e c.2 with
        | inl f => rw [hE] at u2; exact ⟨ν4, rfl, u2, A5⟩
        | inr q =>
          rw [hE] at u2
          obtain ⟨u4, u5, u6⟩ := u2
          refine ⟨ν4, rfl, ⟨⟨TkX0_ag T04 u3 (by omega) (fun k => by omega) (fun k => by omega), u4, ?_, ?_⟩, by rw [u5, A4.i (by omega), z6, y6, x4], by rw [u6, A4.i (by omega), z7, y7, x5]⟩, A5⟩
          · have B3 : PBX ν3 b s.2.1 s.2.2.1 := PBX_ag B A3 (fun i hi k => by omega)
            have B4 : PBX (sI ν3 b 4 (nI (s.2.1 2 * a.1 + c.1))) b (updN s.2.1 7 (s.2.1 2 * a.1 + c.1)) s.2.2.1 := by
              refine ⟨B3.1.u_stand w, fun k hk => ?_, fun q hq => ?_⟩
              · rw [updN_ne (by omega), updN_ne (by omega), updN_ne (by omega)]; exact B3.2.1 k hk
              · rw [updN_ne (by omega)] at hq; exact B3.2.2 q hq
            exact PBX_ag B4 u3 (fun i hi k => by omega)
          · show TL (mI ν4 12 1) (updB s.2.2.2 7)
            rw [u3.i (by omega), A4.i (by omega), z3.i (by omega), y3.i (by omega), x3]
            exact TL_upd L (by omega)
theorem X_takePart {s : BS} (hb : b = 15 ∨ b = 27) (hF : 2000000 ≤ F) (g : GX U e b s μ) (hs : PI e s) : ∃ ν, f_X1_takePart F b μ = some ((prtS U e s).isRight, ν) ∧ XO μ ν (prtS U e s) (fun s' => GX U e b s' ν) ∧ Ag (PQ b) μ ν := by
  have T := g.2.1
  have hol : ∀ k, tO U e s.1 = some k → k < 28 := fun k hk => (tO_lt hk).1
  have hI : ∀ i, i < 28 → ∀ v : Int32, v = nI i → ((oI (tO U e s.1) = v) ↔ tO U e s.1 = some i) := fun i hi v hv => by rw [hv]; exact oI_i hol hi
  unfold f_X1_takePart prtS
  rw [X_setWord T, Option.bind_some]
  by_cases c0 : tO U e s.1 = some 0
  · rw [if_pos ((hI 0 (by omega) 0 rfl).mpr c0), if_pos c0]
    unfold f_X1_takeWide wideS
    rw [g.2.2.1.1.acc]
    have w0 := hs.2.1.1.1
    by_cases z : 0 < s.2.1 0
    · rw [if_neg (fun y => by have y2 : s.2.1 0 ≤ 0 := (leL (n := 0) (by omega) (by decide)).mp y; omega), if_pos z]
      obtain ⟨ν, x1, x2, x3, x4⟩ := X_refuse T (v := 5) 5 rfl
      rw [x1]
      exact ⟨ν, rfl, ⟨x2, x3⟩, PT_PQ x4⟩
    · rw [if_pos ((leL (n := 0) (by omega) (by decide)).mpr (by show s.2.1 0 ≤ 0; omega)), if_neg z]
      obtain ⟨ν, x1, x2, x3⟩ := X_once hb hF g hs (i := 0) (j := 2) (lo := 1) (hi := 5) (fk := 0) (v := 0) (v1 := 1) (v2 := 5) rfl rfl rfl (by omega) (by omega) (by omega) c0
      rw [x1]
      exact ⟨ν, rfl, x2, x3⟩
  · rw [if_neg (fun y => c0 ((hI 0 (by omega) 0 rfl).mp y)), if_neg c0]
    by_cases c1 : tO U e s.1 = some 1
    · rw [if_pos ((hI 1 (by omega) 1 rfl).mpr c1), if_pos c1]
      unfold f_X1_takeTap
      obtain ⟨ν, x1, x2, x3⟩ := X_once hb hF g hs (i := 1) (j := 3) (lo := 1) (hi := 9) (fk := 1) (v := 1) (v1 := 1) (v2 := 9) rfl rfl rfl (by omega) (by omega) (by omega) c1
      rw [x1]
      exact ⟨ν, rfl, x2, x3⟩
    · rw [if_neg (fun y => c1 ((hI 1 (by omega) 1 rfl).mp y)), if_neg c1]
      by_cases c2 : tO U e s.1 = some 2
      · rw [if_pos ((hI 2 (by omega) 2 rfl).mpr c2), if_pos c2]
        unfold f_X1_takeOdds
        obtain ⟨ν, x1, x2, x3⟩ := X_once hb hF g hs (i := 2) (j := 4) (lo := 0) (hi := 16) (fk := 2) (v := 2) (v1 := 0) (v2 := 16) rfl rfl rfl (by omega) (by omega) (by omega) c2
        rw [x1]
        exact ⟨ν, rfl, x2, x3⟩
      · rw [if_neg (fun y => c2 ((hI 2 (by omega) 2 rfl).mp y)), if_neg c2]
        by_cases c3 : tO U e s.1 = some 3
        · rw [if_pos ((hI 3 (by omega) 3 rfl).mpr c3), if_pos c3]
          obtain ⟨ν, x1, x2, x3⟩ := X_takeAccount hb hF g hs c3
          rw [x1]
          exact ⟨ν, rfl, x2, x3⟩
        · rw [if_neg (fun y => c3 ((hI 3 (by omega) 3 rfl).mp y)), if_neg c3]
          by_cases c6 : tO U e s.1 = some 6
          · rw [if_pos ((hI 6 (by omega) 6 rfl).mpr c6), if_pos c6]
            obtain ⟨ν, x1, x2, x3⟩ := X_takeLaw hb hF g hs c6
            rw [x1]
            exact ⟨ν, rfl, x2, x3⟩
          · rw [if_neg (fun y => c6 ((hI 6 (by omega) 6 rfl).mp y)), if_neg c6]
            by_cases c12 : tO U e s.1 = some 12
            · rw [if_pos ((hI 12 (by omega) 12 rfl).mpr c12), if_pos c12]
              obtain ⟨ν, x1, x2, x3⟩ := X_takeWatch hb hF g hs c12
              rw [x1]
              exact ⟨ν, rfl, x2, x3⟩
            · rw [if_neg (fun y => c12 ((hI 12 (by omega) 12 rfl).mp y)), if_neg c12]
              obtain ⟨ν, x1, x2, x3, x4⟩ := X_unfit T
              rw [x1]
              exact ⟨ν, rfl, ⟨x2, x3⟩, PT_PQ x4⟩
/-- the loop over the parts -/
theorem X_fillL (hb : b = 15 ∨ b = 27) (hF : 2000000 ≤ F) (he : e ≤ 900) {K : Mm → Option (Bool × Mm)} : ∀ (n m j : Nat) (s : BS) (μ : Mm), e - s.1 < n → n < m → j ≤ s.1 → j ≤ 900 → GX U e b s μ → PI e s → ∃ ν, Ag (PQ b) μ ν ∧ ((∃ f, bkS U e n s = .inl f ∧ L_X1_fill_19 F b K m (nI j) μ = some (false, ν) ∧ mI ν 9 2 = nI f.1 ∧ mI ν 9 3 = nI f.2) ∨ (∃ s', bkS U e n s = .inr s' ∧ L_X1_fill_19 F b K m (nI j) μ = K ν ∧ GX U e b s' ν ∧ PI e s' ∧ mI ν 9 2 = mI μ 9 2 ∧ mI ν 9 3 = mI μ 9 3)) := by
  intro n
  induction n with
  | zero => intro m j s μ h1; omega
  | succ n ih =>
    intro m j s μ h1 h2 h3 h3' g hs
    obtain ⟨m, rfl⟩ : ∃ q, m = q + 1 := ⟨m - 1, by omega⟩
    have T := g.2.1
    have hk4 := tK_le (U := U) (e := e) (p := s.1)
    have hp := hs.1
    unfold bkS
    rw [L_X1_fill_19_s, T.2.2.1]
    by_cases z : tK U e s.1 = 0
    · refine ⟨μ, Ag.rf, Or.inr ⟨s, by rw [if_pos z], ?_, g, hs, rfl, rfl⟩⟩
      by_cases y : 900 ≤ j
      · rw [if_pos ((Lle (n := 900) (by omega) (by decide)).mpr y)]
      · rw [if_neg (fun q => y ((Lle (n := 900) (by omega) (by decide)).mp q)), if_pos ((eqL (n := 0) (by omega) (by decide)).mpr z)]
    · have tS1 := (tN_b (U := U) hp).2.2 z
      have tS2 := (tS_b (U := U) (e := e) (p := s.1)).1
      rw [if_neg z, if_neg (fun q => by have q2 : 900 ≤ j := (Lle (n := 900) (by omega) (by decide)).mp q; omega), if_neg (fun q => z ((eqL (n := 0) (by omega) (by decide)).mp q))]
      obtain ⟨ν, x1, x2, x3⟩ := X_takePart hb hF g hs
      rw [x1, bd_some]
      cases hP : prtS U e s with
      | inl f =>
        rw [hP] at x2
        exact ⟨ν, x3, Or.inl ⟨f, rfl, rfl, x2.1, x2.2⟩⟩
      | inr s2 =>
        rw [hP] at x2
        obtain ⟨a1, a2⟩ := prt_ok hs hP
        obtain ⟨g2, f2, f3⟩ := x2
        obtain ⟨ξ, y1, y2⟩ := ih m (j + 1) s2 ν (by omega) (by omega) (by omega) (by omega) g2 a2
        rw [show (Sum.inr s2 : Sum Flt BS).isRight = true from rfl, if_pos rfl, nI_1, sb_r]
        refine ⟨ξ, x3.tr y1, ?_⟩
        rcases y2 with y2 | ⟨s', y3, y4, y5, y6, y7, y8⟩
        · exact Or.inl y2
        · exact Or.inr ⟨s', y3, y4, y5, y6, by rw [y7, f2], by rw [y8, f3]⟩
theorem X_empty (hb : b = 15 ∨ b = 27) (hF : 2000000 ≤ F) : ∃ ν, f_X0_empty F b μ = some ν ∧ PBX ν b bk0 (fun _ => 0) ∧ Ag (fun a _ => b ≤ a ∧ a < b + 11) μ ν := by
  unfold f_X0_empty f_X0_setBare
  simp only [Option.bind_some]
  rw [fillA hF (by omega), Option.bind_some, fillA hF (by omega), Option.bind_some, fillA hF (by omega), Option.bind_some]
  refine ⟨_, rfl, ?_, ?_⟩
  · have hc : cl bk0 = 0 := by decide
    have row : ∀ (ξ : Mm) k, k < 25 → mA (putA (putA (putA ξ (b + 8) (fun _ => 0) 0 25) (b + 9) (fun _ => 0) 0 25) (b + 10) (fun _ => 0) 0 25) (b + 8) k = nI (bk0 (13 + k)) ∧ mA (putA (putA (putA ξ (b + 8) (fun _ => 0) 0 25) (b + 9) (fun _ => 0) 0 25) (b + 10) (fun _ => 0) 0 25) (b + 9) k = nI (bk0 (38 + k)) ∧ mA (putA (putA (putA ξ (b + 8) (fun _ => 0) 0 25) (b + 9) (fun _ => 0) 0 25) (b + 10) (fun _ => 0) 0 25) (b + 10) k = nI (bk0 (63 + k)) := fun ξ k hk => by
      have z : ∀ j, 5 ≤ j → nI (bk0 j) = 0 := fun j hj => by unfold bk0; rw [if_neg (by omega), if_neg (by omega), if_neg (by omega)]; rfl
      rw [z _ (by omega), z _ (by omega), z _ (by omega)]
      refine ⟨?_, ?_, ?_⟩
      · rw [putA_mA, if_neg (by omega), putA_mA, if_neg (by omega), putA_mA, if_pos (by omega)]
      · rw [putA_mA, if_neg (by omega), putA_mA, if_pos (by omega)]
      · rw [putA_mA, if_pos (by omega)]
    have fi : ∀ (ξ : Mm) a k, a ≤ b + 1 → mI (putA (putA (putA ξ (b + 8) (fun _ => 0) 0 25) (b + 9) (fun _ => 0) 0 25) (b + 10) (fun _ => 0) 0 25) a k = mI ξ a k := fun ξ a k ha => by
      rw [(putA_ag (P := fun x _ => x = b + 10) (fun _ _ _ => rfl)).i (by omega), (putA_ag (P := fun x _ => x = b + 9) (fun _ _ _ => rfl)).i (by omega), (putA_ag (P := fun x _ => x = b + 8) (fun _ _ _ => rfl)).i (by omega)]
    have b0 : bk0 0 = 0 := rfl
    have b1 : bk0 1 = 0 := rfl
    refine ⟨⟨?_, ?_, ?_, ?_, ?_, ?_, ?_, ?_, fun l hl => by omega, fun l hl => by omega, fun l hl => by omega, fun l hl => by omega, fun l hl => by omega, fun k hk => by rw [hc] at hk; omega, fun k hk => by rw [hc] at hk; omega, fun k hk => by rw [hc] at hk; omega⟩, row _, fun q hq => by omega⟩
    all_goals rw [fi _ _ _ (by omega)]
    all_goals (rcases hb with rfl | rfl <;> rfl)
  · have A0 : Ag (fun a _ => b ≤ a ∧ a < b + 11) μ (sI (sI (sI (sI (sI (sI (sI (sI μ b 0 3) b 1 2) b 2 2) b 3 0) b 4 0) b 5 0) b 6 0) (b + 1) 0 0) := by
      repeat' (first | exact Ag.rf | refine Ag.tr (ν := _) ?_ (Ag.sI (by omega)))
    exact ((A0.tr (putA_ag (fun _ _ _ => by omega))).tr (putA_ag (fun _ _ _ => by omega))).tr (putA_ag (fun _ _ _ => by omega))
/-- what becomes of the spare book -/
theorem X_fill (hb : b = 15 ∨ b = 27) (hF : 2000000 ≤ F) {m n : Nat} (hm : m ≤ 900) (hn : n ≤ m) (h1 : mI μ 9 1 = nI m) (hB : ∀ k, k < m → isB (mB μ 10 k)) (hsw : ∀ i, i < 28 → mL μ 11 i = swT i) : ∃ ν, Ag (fun a k => (a = 9 ∧ 1 ≤ k) ∨ (a = 12 ∧ k = 1) ∨ (b ≤ a ∧ a < b + 11)) μ ν ∧ mI ν 9 1 = 0 ∧ ((∃ f, bkS (fun k => uB (mB μ 10 k)) n (n + 1) (0, bk0, fun _ => 0, fun _ => false) = .inl f ∧ f_X1_fill F b (nI n) μ = some (false, ν) ∧ mI ν 9 2 = nI f.1 ∧ mI ν 9 3 = nI f.2) ∨ (∃ s, bkS (fun k => uB (mB μ 10 k)) n (n + 1) (0, bk0, fun _ => 0, fun _ => false) = .inr s ∧ f_X1_fill F b (nI n) μ = some (true, ν) ∧ mI ν 9 2 = 0 ∧ mI ν 9 3 = -1 ∧ PI n s ∧ BX ν b (trB s.2.1) ∧ ∀ a, a < s.2.1 0 → mL ν (b + 7) a = s.2.2.1 a)) := by
  obtain ⟨ν1, x1, x2, x3⟩ := X_empty (μ := sI μ 12 1 0) hb hF
  obtain ⟨ν2, hν2⟩ : ∃ ν2, ν2 = sI (sI (sI (sI (sI ν1 9 11 (nI n)) 9 1 0) 9 10 0) 9 2 0) 9 3 (-1) := ⟨_, rfl⟩
  have A1 : Ag (fun a k => (a = 12 ∧ k = 1) ∨ (b ≤ a ∧ a < b + 11)) μ ν1 := (Ag.sI (Or.inl ⟨rfl, rfl⟩)).tr (x3.mono (fun a k q => Or.inr q))
  have A2 : Ag (fun a k => a = 9 ∧ 1 ≤ k) ν1 ν2 := by
    rw [hν2]
    exact ((((Ag.sI ⟨rfl, by omega⟩).tr (Ag.sI ⟨rfl, by omega⟩)).tr (Ag.sI ⟨rfl, by omega⟩)).tr (Ag.sI ⟨rfl, by omega⟩)).tr (Ag.sI ⟨rfl, by omega⟩)
  have T0 : TkX0 ν2 (fun k => uB (mB μ 10 k)) n := ⟨by omega, by rw [hν2]; rfl, fun k hk => by
    rw [A2.b (by omega), A1.b (by omega)]
    exact by_of (hB k (by omega)), fun i hi => by rw [A2.l (by omega), A1.l (by omega)]; exact hsw i hi⟩
  obtain ⟨ν3, y1, y2, y3⟩ := X_advance (p := 0) T0 hF (by omega) (by rw [hν2]; rfl)
  have g : GX (fun k => uB (mB μ 10 k)) n b (0, bk0, fun _ => 0, fun _ => false) ν3 := by
    refine ⟨TkX0_ag T0 y3 (by omega) (fun k => by omega) (fun k => by omega), y2, PBX_ag (PBX_ag x2 A2 (fun i hi k => by omega)) y3 (fun i hi k => by omega), ?_⟩
    have : mI ν3 12 1 = 0 := by rw [y3.i (by omega), A2.i (by omega), x3.i (by omega)]; rfl
    rw [this]
    exact ⟨bit_z (by omega), bit_z (by omega), bit_z (by omega), bit_z (by omega)⟩
  have hs : PI n ((0, bk0, fun _ => 0, fun _ => false) : BS) := by
    refine ⟨by show 0 ≤ n; omega, ?_, rfl, rfl, fun k hk => ?_, fun k hk => ?_⟩
    · refine ⟨⟨by decide, by decide, by decide, by decide, by decide, by decide, by decide, by decide, Or.inr ⟨rfl, rfl⟩⟩, ?_, ?_, ?_⟩
      · intro a ha; show bk0 (8 + a) ≤ 1; unfold bk0; rw [if_neg (by omega), if_neg (by omega), if_neg (by omega)]; omega
      · intro k hk
        refine ⟨?_, ?_, ?_⟩
        · show bk0 (13 + k) ≤ 9; unfold bk0; rw [if_neg (by omega), if_neg (by omega), if_neg (by omega)]; omega
        · show bk0 (38 + k) ≤ 9; unfold bk0; rw [if_neg (by omega), if_neg (by omega), if_neg (by omega)]; omega
        · show bk0 (63 + k) ≤ 9; unfold bk0; rw [if_neg (by omega), if_neg (by omega), if_neg (by omega)]; omega
      · intro l hl
        refine ⟨?_, ?_, ?_, ?_⟩
        · show bk0 (88 + l) ≤ 9; unfold bk0; rw [if_neg (by omega), if_neg (by omega), if_neg (by omega)]; omega
        · show bk0 (98 + l) ≤ 9; unfold bk0; rw [if_neg (by omega), if_neg (by omega), if_neg (by omega)]; omega
        · show bk0 (108 + l) ≤ 4; unfold bk0; rw [if_neg (by omega), if_neg (by omega), if_neg (by omega)]; omega
        · show bk0 (118 + l) ≤ 9; unfold bk0; rw [if_neg (by omega), if_neg (by omega), if_neg (by omega)]; omega
    · show bk0 (63 + k) = 0; unfold bk0; rw [if_neg (by omega), if_neg (by omega), if_neg (by omega)]
    · show bk0 k = 0; unfold bk0; rw [if_neg (by omega), if_neg (by omega), if_neg (by omega)]
  have op : f_X9_open F (nI n) ν1 = some ν3 := by
    unfold f_X9_open
    have m1 : mI ν1 9 1 = nI m := by rw [A1.i (by omega)]; exact h1
    have mn : f_J9_min_7cf53 (nI n) (nI m) ν1 = some (nI n) := by
      unfold f_J9_min_7cf53
      rw [if_neg (fun z => by have := (nIlt (by omega) (by omega)).mp z; omega)]
    rw [m1, mn, Option.bind_some, ← hν2, y1]
    rfl
  obtain ⟨ξ, z1, z2⟩ := X_fillL (K := fun μ7 => (cpA μ7 (b + 8) 25 0 (b + 9) 25 0 25).bind fun μ8 => some (true, μ8)) hb hF (by omega) (n + 1) F 0 (0, bk0, fun _ => 0, fun _ => false) ν3 (by show n - 0 < n + 1; omega) (by omega) (by omega) (by omega) g hs
  have A3 : Ag (fun a k => (a = 9 ∧ 1 ≤ k) ∨ (a = 12 ∧ k = 1) ∨ (b ≤ a ∧ a < b + 11)) μ ξ := (((A1.mono (fun a k q => Or.inr q)).tr (A2.mono (fun a k q => Or.inl q))).tr (y3.mono (fun a k q => by omega))).tr (z1.mono (fun a k q => by omega))
  have many0 : mI ξ 9 1 = 0 := by rw [z1.i (by omega), y3.i (by omega), hν2]; rfl
  have pre : f_X1_fill F b (nI n) μ = L_X1_fill_19 F b (fun μ7 => (cpA μ7 (b + 8) 25 0 (b + 9) 25 0 25).bind fun μ8 => some (true, μ8)) F 0 ν3 := by
    unfold f_X1_fill
    rw [x1, Option.bind_some, op, Option.bind_some]
  rw [nI_0] at z2
  rcases z2 with ⟨f, w1, w2, w3, w4⟩ | ⟨s, w1, w2, w3, w4, w5, w6⟩
  · exact ⟨ξ, A3, many0, Or.inl ⟨f, w1, by rw [pre, w2], w3, w4⟩⟩
  · have cp : cpA ξ (b + 8) 25 0 (b + 9) 25 0 25 = some (cpR ξ (b + 8) (b + 9) 25) := cpA_25
    have A4 : Ag (fun a _ => a = b + 9) ξ (cpR ξ (b + 8) (b + 9) 25) := cpR_ag (fun _ => rfl)
    refine ⟨cpR ξ (b + 8) (b + 9) 25, A3.tr (A4.mono (fun a k q => by omega)), many0, Or.inr ⟨s, w1, by rw [pre, w2, cp]; rfl, ?_, ?_, w4, ?_, fun a ha => ?_⟩⟩
    · rw [A4.i (by omega), w5, y3.i (by omega), hν2]; rfl
    · rw [A4.i (by omega), w6, y3.i (by omega), hν2]; rfl
    · obtain ⟨q1, q2, q3, q4, q5, q6, q7, q8, q9, q10, q11, q12, q13, q14, q15, q16⟩ := w3.2.2.1.1
      have wc := w4.2.1.cl_le
      have lo : ∀ j, j < 38 → trB s.2.1 j = s.2.1 j := fun j hj => by unfold trB; rw [if_neg (by omega)]
      have hi : ∀ j, 63 ≤ j → trB s.2.1 j = s.2.1 j := fun j hj => by unfold trB; rw [if_neg (by omega)]
      have hcl : cl (trB s.2.1) = cl s.2.1 := by unfold cl; rw [lo 0 (by omega), lo 2 (by omega)]
      have w0 := w4.2.1.1.1
      have w1' := w4.2.1.1.2.2.2.1
      refine ⟨by rw [lo 2 (by omega)]; exact q1, by rw [lo 3 (by omega)]; exact q2, by rw [lo 4 (by omega)]; exact q3, by rw [lo 0 (by omega)]; exact q4, by rw [lo 7 (by omega)]; exact q5, by rw [lo 5 (by omega)]; exact q6, by rw [lo 6 (by omega)]; exact q7, by rw [lo 1 (by omega)]; exact q8, fun l hl => ?_, fun l hl => ?_, fun l hl => ?_, fun l hl => ?_, fun a ha => ?_, fun k hk => ?_, fun k hk => ?_, fun k hk => ?_⟩
      · rw [lo 1 (by omega)] at hl; rw [A4.a (by omega), hi _ (by omega)]; exact q9 l hl
      · rw [lo 1 (by omega)] at hl; rw [A4.a (by omega), hi _ (by omega)]; exact q10 l hl
      · rw [lo 1 (by omega)] at hl; rw [A4.a (by omega), hi _ (by omega)]; exact q11 l hl
      · rw [lo 1 (by omega)] at hl; rw [A4.a (by omega), hi _ (by omega)]; exact q12 l hl
      · rw [lo 0 (by omega)] at ha; rw [A4.a (by omega), lo _ (by omega)]; exact q13 a ha
      · rw [hcl] at hk; rw [A4.a (by omega), lo _ (by omega)]; exact q14 k hk
      · rw [hcl] at hk; rw [cpR_at (by omega), (w3.2.2.1.2.1 k (by omega)).1]; unfold trB; rw [if_pos (by omega), show 38 + k - 25 = 13 + k by omega]
      · rw [hcl] at hk; rw [A4.a (by omega), hi _ (by omega)]; exact q16 k hk
    · rw [A4.l (by omega)]; exact w3.2.2.1.2.2 a ha
end BKX3
