/-! ===== the reference reads a book: laws, the watch, all of it ===== -/
section BKM3
variable {μ : Mm} {U : Nat → Nat} {e p F : Nat}
theorem isBecomes_any : ∃ x, f_X12_isBecomes μ = some x := by
  unfold f_X12_isBecomes f_X12_isWord
  rw [sp_7, Option.bind_some]
  split
  · split
    · exact ⟨_, rfl⟩
    · exact ⟨_, rfl⟩
  · exact ⟨_, rfl⟩
theorem M_lays4 {β : Nat → Nat} (C : CN μ β) (hl : β 1 < 10) {f t p q : Nat} : ∃ ν, f_X12_lays 4 (nI (β 1)) (nI f) (nI t) (nI p) (nI q) μ = some ν ∧ CN ν (addB β f t p q) ∧ Ag (fun a i => a = 146 ∧ 1600 ≤ i) μ ν := by
  have ix : ∀ j, j < 400 → ((400 : Int32) * 4 + nI j) + nI (β 1) = nI (1600 + (j + β 1)) := fun j hj => by
    rw [show (400 : Int32) * 4 = nI 1600 by decide, nI_add, nI_add, Nat.add_assoc]
  obtain ⟨ν1, a1, a2, a3⟩ := CN_wr C (k := 88 + β 1) (by omega) (v := ((400 : Int32) * 4 + 88) + nI (β 1)) (ix 88 (by omega)) (x := f) rfl
  obtain ⟨ν2, b1, b2, b3⟩ := CN_wr a2 (k := 98 + β 1) (by omega) (v := ((400 : Int32) * 4 + 98) + nI (β 1)) (ix 98 (by omega)) (x := t) rfl
  obtain ⟨ν3, c1, c2, c3⟩ := CN_wr b2 (k := 108 + β 1) (by omega) (v := ((400 : Int32) * 4 + 108) + nI (β 1)) (ix 108 (by omega)) (x := p) rfl
  obtain ⟨ν4, d1, d2, d3⟩ := CN_wr c2 (k := 118 + β 1) (by omega) (v := ((400 : Int32) * 4 + 118) + nI (β 1)) (ix 118 (by omega)) (x := q) rfl
  obtain ⟨ν5, e1, e2, e3⟩ := CN_wr d2 (k := 1) (by omega) (v := (400 : Int32) * 4 + 1) (w := nI (β 1) + 1) (x := β 1 + 1) (by decide) (nI_1 _)
  refine ⟨ν5, ?_, e2, (((a3.tr b3).tr c3).tr d3).tr e3⟩
  unfold f_X12_lays
  rw [a1, Option.bind_some, b1, Option.bind_some, c1, Option.bind_some, d1, Option.bind_some, e1]
  rfl
theorem M_readLaw {s : BS} (hF : 2000000 ≤ F) (g : GM U e s μ) (h : mI μ 141 12 = 0) (hs : PI e s) (hK : tK U e s.1 ≠ 0) : ∃ ν, f_X12_readLaw F μ = some ν ∧ MO ν (lawB U e s) (fun s' => GM U e s' ν) ∧ Ag PN μ ν := by
  obtain ⟨T0, T, C, N, L⟩ := id g
  obtain ⟨hp, w, h5, h6, h63, h128⟩ := id hs
  have w1 := w.1.2.2.2.1
  have r1 : rdA μ 146 2000 1601 = some (nI (s.2.1 1)) := CN_rd C (k := 1) (by omega) rfl
  unfold f_X12_readLaw lawB
  simp only [jn]
  rw [r1, Option.bind_some]
  by_cases c10 : 10 ≤ s.2.1 1
  · obtain ⟨ν, x1, x2, x3, x4⟩ := M_fail h (v := 6) (w := mI μ 141 15) 6 (tS U e s.1) rfl T.1
    have hb := bad_of x2 (by omega) (by omega)
    rw [if_pos ((eqL (n := 10) (by omega) (by decide)).mpr (by show s.2.1 1 = 10; omega)), x1, Option.bind_some, if_neg hb.2, if_pos c10]
    exact ⟨ν, rfl, ⟨x2, x3, by show 1 ≤ 6; omega, by show 6 ≤ 7; omega⟩, PM_PN x4⟩
  · rw [if_neg (fun z => by have z2 : s.2.1 1 = 10 := (eqL (n := 10) (by omega) (by decide)).mp z; omega), if_pos (z0 h), if_neg c10]
    obtain ⟨ν1, x1, x2, x3⟩ := M_adv T0 T hp hF
    have t1 := tK0_le (U := U) hp hK
    have T01 := TkM0_ag T0 x3 (by omega) (fun k => by omega)
    have b1 : mI ν1 141 12 = 0 := by rw [x3.i (by omega)]; exact h
    obtain ⟨ν2, xa, y1, y2, y3⟩ := M_count T01 x2 t1.2 hF b1 (v := 0) (w := 9) (lo := 0) (hi := 9) rfl rfl (by omega) (by omega)
    have A2 : Ag PMm μ ν2 := (PB_PM x3).tr y3
    rw [x1, Option.bind_some, y1, bd_some]
    cases hn : numS U e 0 9 (tN U e s.1) with
    | inl f =>
      rw [hn] at y2
      have hb := MO_bad y2
      obtain ⟨xb, hxb⟩ := isBecomes_any (μ := ν2)
      rw [hxb, Option.bind_some, M_mustB hb, Option.bind_some, M_countB hb, bd_some, if_neg hb.1, if_pos (by decide), if_pos (by decide), if_neg hb.1]
      exact ⟨ν2, rfl, y2, PM_PN A2⟩
    | inr a =>
      rw [hn] at y2
      obtain ⟨b2, y5, y4⟩ := y2
      obtain ⟨n1, n2, n3, n4, -, -⟩ := num_ok t1.2 hn
      have T02 := TkM0_ag T01 y3 (by omega) (fun k => by omega)
      rw [M_isBecomes y4, Option.bind_some, sb_r]
      unfold wdS
      by_cases c7 : tO U e a.2 = some 7
      · obtain ⟨ν3, z1, z2, z3⟩ := M_must1 T02 y4 n4 hF b2 (v := bI true) (by decide)
        have A3 : Ag PMm μ ν3 := A2.tr (PB_PM z3)
        have b3 : mI ν3 141 12 = 0 := by rw [z3.i (by omega)]; exact b2
        have n5 := tK0_le (U := U) n4 (tO_K c7)
        have T03 := TkM0_ag T02 z3 (by omega) (fun k => by omega)
        obtain ⟨ν4, xc, u1, u2, u3⟩ := M_count T03 z2 n5.2 hF b3 (v := 0) (w := 9) (lo := 0) (hi := 9) rfl rfl (by omega) (by omega)
        have A4 : Ag PMm μ ν4 := A3.tr u3
        rw [decide_eq_true c7, z1, Option.bind_some, u1, bd_some, if_pos c7, sb_r]
        cases hc : numS U e 0 9 (tN U e a.2) with
        | inl f =>
          rw [hc] at u2
          have hb := MO_bad u2
          rw [if_neg hb.1, if_pos (by decide), if_pos (by decide), if_neg hb.1]
          exact ⟨ν4, rfl, u2, PM_PN A4⟩
        | inr c =>
          rw [hc] at u2
          obtain ⟨b4, u5, u4⟩ := u2
          obtain ⟨m1, m2, m3, m4, -, -⟩ := num_ok n5.2 hc
          have T04 := TkM0_ag T03 u3 (by omega) (fun k => by omega)
          have fin : ∀ (ν5 : Mm) (p5 pl be : Nat), TkM0 ν5 U e → TkM ν5 U e p5 → Ag PMm μ ν5 → mI ν5 141 12 = 0 → ∃ ν, ((f_X12_lays 4 (nI (s.2.1 1)) xa xc (nI pl) (nI be) ν5).bind fun μ25 => some μ25) = some ν ∧ MO ν (.inr (p5, addB s.2.1 a.1 c.1 pl be, s.2.2.1, s.2.2.2) : Sum Flt BS) (fun s' => GM U e s' ν) ∧ Ag PN μ ν := by
            intro ν5 p5 pl be T05 T5 A5 b5
            obtain ⟨ν6, v1, v2, v3⟩ := M_lays4 (CN_ag C A5 (fun k hk => by omega)) (by omega) (f := a.1) (t := c.1) (p := pl) (q := be)
            rw [y5, u5, v1]
            refine ⟨ν6, rfl, ⟨by rw [v3.i (by omega)]; exact b5, TkM0_ag T05 v3 (by omega) (fun k => by omega), TkM_ag T5 v3 (fun k h1 h2 => by omega), v2, fun i hi => ?_, ?_⟩, (PM_PN A5).tr (v3.mono (fun a k q => by omega))⟩
            · have hi2 : i < s.2.1 0 := by
                have : addB s.2.1 a.1 c.1 pl be 0 = s.2.1 0 := addB_lo (by omega) (by omega)
                exact this ▸ hi
              show mL ν6 149 (20 + i) = s.2.2.1 i
              rw [v3.l (by omega), A5.l (by omega)]; exact N i hi2
            · show TLM (mI ν6 141 25) s.2.2.2
              rw [v3.i (by omega), A5.i (by omega)]; exact L
          rw [if_pos b4, M_placeWord u4, Option.bind_some]
          have pw : (if tO U e c.2 = some 8 then (1 : Int32) else if tO U e c.2 = some 9 then 2 else if tO U e c.2 = some 10 then 3 else if tO U e c.2 = some 11 then 4 else -1) = oI (placO (tO U e c.2)) := by
            unfold placO
            (repeat' split) <;> first | rfl | contradiction
          rw [pw, sb_r]
          cases hk : placO (tO U e c.2) with
          | none =>
            rw [if_pos (by decide), if_pos (by decide), if_pos (by decide), if_pos b4]
            exact fin ν4 c.2 0 0 T04 u4 A4 b4
          | some pl =>
            have hpl := placO_le hk
            obtain ⟨i, hi1, hi2⟩ := placO_i hk
            have npl : ¬ nI pl ≤ 0 := fun z => by have z2 : pl ≤ 0 := (leL (n := 0) (by omega) (by decide)).mp z; omega
            have t2 := tK0_le (U := U) m4 (tO_K hi1)
            obtain ⟨ν5, q1, q2, q3⟩ := M_adv T04 u4 m4 hF
            have b5 : mI ν5 141 12 = 0 := by rw [q3.i (by omega)]; exact b4
            have T05 := TkM0_ag T04 q3 (by omega) (fun k => by omega)
            obtain ⟨ν6, xd, w1', w2', w3'⟩ := M_count T05 q2 t2.2 hF b5 (v := 0) (w := 9) (lo := 0) (hi := 9) rfl rfl (by omega) (by omega)
            have A6 : Ag PMm μ ν6 := (A4.tr (PB_PM q3)).tr w3'
            rw [oI_some, if_neg npl, Option.bind_some, if_neg npl, q1, Option.bind_some, if_neg npl, w1', bd_some]
            cases hd : numS U e 0 9 (tN U e c.2) with
            | inl f =>
              rw [hd] at w2'
              have hb := MO_bad w2'
              rw [if_neg hb.1]
              exact ⟨ν6, rfl, w2', PM_PN A6⟩
            | inr d =>
              rw [hd] at w2'
              obtain ⟨b6, w5, w4⟩ := w2'
              rw [if_pos b6, w5]
              exact fin ν6 d.2 pl d.1 (TkM0_ag T05 w3' (by omega) (fun k => by omega)) w4 A6 b6
      · obtain ⟨ν3, z1, z2, z3, z4⟩ := M_must0 (F := F) y4 b2
        have hb := bad_of z2 unf_r.1 unf_r.2
        rw [decide_eq_false c7, show bI false = 0 from rfl, z1, Option.bind_some, M_countB hb, bd_some, if_neg hb.1, if_pos (by decide), if_pos (by decide), if_neg hb.1, if_neg c7]
        exact ⟨ν3, rfl, ⟨z2, z3, unf_r.1, unf_r.2⟩, (PM_PN A2).tr (PM_PN z4)⟩
theorem M_readWatch {s : BS} (hF : 2000000 ≤ F) (g : GM U e s μ) (h : mI μ 141 12 = 0) (hs : PI e s) (hK : tK U e s.1 ≠ 0) : ∃ ν, f_X12_readWatch F μ = some ν ∧ MO ν (watB U e s) (fun s' => GM U e s' ν) ∧ Ag PN μ ν := by
  obtain ⟨T0, T, C, N, L⟩ := id g
  obtain ⟨hp, w, h5, h6, h63, h128⟩ := id hs
  have w0 := w.1.1
  have w1 := w.1.2.1
  have w2 := w.1.2.2.1
  have hat := TLM_at L (j := 7) (by omega)
  unfold f_X12_readWatch watB
  simp only [jn]
  have hh : f_X12_has (mI μ 141 25) 7 μ = some (bit (mI μ 141 25) 7) := has_n rfl
  rw [hh, Option.bind_some, hat]
  by_cases ht : s.2.2.2 7 = true
  · obtain ⟨ν, x1, x2, x3, x4⟩ := M_fail h (v := 5) (w := mI μ 141 15) 5 (tS U e s.1) rfl T.1
    have hb := bad_of x2 (by omega) (by omega)
    rw [if_pos ht, x1, Option.bind_some, if_neg hb.2, if_pos ht]
    exact ⟨ν, rfl, ⟨x2, x3, by show 1 ≤ 5; omega, by show 5 ≤ 7; omega⟩, PM_PN x4⟩
  · rw [if_neg ht, if_neg ht, if_pos (z0 h)]
    have A0 : Ag (fun a k => a = 141 ∧ k = 25) μ (sI μ 141 25 ((mI μ 141 25) ||| (128 : Int32))) := Ag.sI ⟨rfl, rfl⟩
    have T01 := TkM0_ag T0 A0 (by omega) (fun k => by omega)
    obtain ⟨ν1, x1, x2, x3⟩ := M_adv T01 (TkM_ag T A0 (fun k h1 h2 => by omega)) hp hF
    have t1 := tK0_le (U := U) hp hK
    have T02 := TkM0_ag T01 x3 (by omega) (fun k => by omega)
    have b1 : mI ν1 141 12 = 0 := by rw [x3.i (by omega)]; exact h
    have C1 : CN ν1 s.2.1 := CN_ag (CN_ag C A0 (fun k hk => by omega)) x3 (fun k hk => by omega)
    obtain ⟨ν2, xa, y1, y2, y3⟩ := M_readTold (F := F) (β := s.2.1) (nm := s.2.2.1) (m := 4) T02 x2 t1.2 hF b1 (by omega) (show mA ν1 146 (400 * 4) = nI (s.2.1 0) from C1 0 (by omega)) w0 (fun a ha => by rw [x3.l (by omega), A0.l (by omega)]; exact N a ha) (v := 4) rfl
    have A2 : Ag PN μ ν2 := ((A0.mono (fun a k q => by omega)).tr (PM_PN (PB_PM x3))).tr (PM_PN y3)
    have C2 : CN ν2 s.2.1 := CN_ag C1 y3 (fun k hk => by omega)
    have r2 : rdA ν2 146 2000 1602 = some (nI (s.2.1 2)) := CN_rd C2 (k := 2) (by omega) rfl
    rw [x1, Option.bind_some, y1, bd_some, r2, Option.bind_some, subL (by show 1 ≤ s.2.1 2; omega)]
    cases hn : nmS U e s.2.1 s.2.2.1 (tN U e s.1) with
    | inl f =>
      rw [hn] at y2
      have hb := MO_bad y2
      rw [M_countB hb, bd_some, if_neg hb.1]
      exact ⟨ν2, rfl, y2, A2⟩
    | inr a =>
      rw [hn] at y2
      obtain ⟨b2, y5, y4⟩ := y2
      obtain ⟨n1, n2, n3⟩ := nm_ok t1.2 hn
      have T03 := TkM0_ag T02 y3 (by omega) (fun k => by omega)
      obtain ⟨ν3, xc, z1, z2, z3⟩ := M_count T03 y4 n3 hF b2 (v := 0) (w := nI (s.2.1 2 - OfNat.ofNat 1)) (lo := 0) (hi := s.2.1 2 - 1) rfl rfl (by omega) (by omega)
      have A3 : Ag PN μ ν3 := A2.tr (PM_PN z3)
      rw [z1, bd_some, sb_r]
      cases hc : numS U e 0 (s.2.1 2 - 1) a.2 with
      | inl f =>
        rw [hc] at z2
        have hb := MO_bad z2
        rw [if_neg hb.1]
        exact ⟨ν3, rfl, z2, A3⟩
      | inr c =>
        rw [hc] at z2
        obtain ⟨b3, z5, z4⟩ := z2
        have C3 : CN ν3 s.2.1 := CN_ag C2 z3 (fun k hk => by omega)
        have r3 : rdA ν3 146 2000 1602 = some (nI (s.2.1 2)) := CN_rd C3 (k := 2) (by omega) rfl
        obtain ⟨ν4, u1, u2, u3⟩ := CN_wr C3 (k := 7) (by omega) (v := 1607) (w := nI (s.2.1 2) * xa + xc) (x := s.2.1 2 * a.1 + c.1) rfl (by rw [y5, z5, pk_mul, nI_add])
        rw [if_pos b3, r3, Option.bind_some, u1]
        refine ⟨ν4, rfl, ⟨by rw [u3.i (by omega)]; exact b3, TkM0_ag (TkM0_ag T03 z3 (by omega) (fun k => by omega)) u3 (by omega) (fun k => by omega), TkM_ag z4 u3 (fun k h1 h2 => by omega), u2, fun i hi => ?_, ?_⟩, A3.tr (u3.mono (fun a k q => by omega))⟩
        · have hi2 : i < s.2.1 0 := by
            have : updN s.2.1 7 (s.2.1 2 * a.1 + c.1) 0 = s.2.1 0 := updN_ne (by omega)
            exact this ▸ hi
          show mL ν4 149 (20 + i) = s.2.2.1 i
          rw [u3.l (by omega), z3.l (by omega), y3.l (by omega), x3.l (by omega), A0.l (by omega)]
          exact N i hi2
        · show TLM (mI ν4 141 25) (updB s.2.2.2 7)
          rw [u3.i (by omega), z3.i (by omega), y3.i (by omega), x3.i (by omega)]
          have : mI (sI μ 141 25 (mI μ 141 25 ||| 128)) 141 25 = mI μ 141 25 ||| ((1 : Int32) <<< (nI 7 &&& 31)) := rfl
          rw [this]
          exact TLM_upd L (by omega)
theorem M_readPart {s : BS} (hF : 2000000 ≤ F) (g : GM U e s μ) (h : mI μ 141 12 = 0) (hs : PI e s) (hK : tK U e s.1 ≠ 0) : ∃ ν, f_X12_readPart F μ = some ν ∧ MO ν (prtB U e s) (fun s' => GM U e s' ν) ∧ Ag PN μ ν := by
  have T := g.2.1
  unfold f_X12_readPart prtB
  rw [M_isWide T, M_isTap T, M_isOdds T, M_isAccount T, M_isLaw T, M_isWatch T]
  simp only [Option.bind_some, decide_eq_true_eq]
  by_cases c0 : tO U e s.1 = some 0
  · rw [if_pos c0, if_pos c0]
    obtain ⟨ν, x1, x2, x3⟩ := M_readOnce hF g h hs (j := 2) (lo := 1) (hi := 5) (v := 2) (v1 := 1) (v2 := 5) rfl rfl rfl (by omega) (by omega) (by omega) hK
    rw [x1]
    refine ⟨ν, rfl, ?_, x3⟩
    unfold wideB
    by_cases z : 0 < s.2.1 0
    · rw [if_pos z]; rw [if_pos ⟨rfl, z⟩] at x2; exact x2
    · rw [if_neg z]; rw [if_neg (fun y => z y.2)] at x2; exact x2
  · rw [if_neg c0, if_neg c0]
    by_cases c1 : tO U e s.1 = some 1
    · rw [if_pos c1, if_pos c1]
      obtain ⟨ν, x1, x2, x3⟩ := M_readOnce hF g h hs (j := 3) (lo := 1) (hi := 9) (v := 3) (v1 := 1) (v2 := 9) rfl rfl rfl (by omega) (by omega) (by omega) hK
      rw [if_neg (by omega)] at x2
      rw [x1]
      exact ⟨ν, rfl, x2, x3⟩
    · rw [if_neg c1, if_neg c1]
      by_cases c2 : tO U e s.1 = some 2
      · rw [if_pos c2, if_pos c2]
        obtain ⟨ν, x1, x2, x3⟩ := M_readOnce hF g h hs (j := 4) (lo := 0) (hi := 16) (v := 4) (v1 := 0) (v2 := 16) rfl rfl rfl (by omega) (by omega) (by omega) hK
        rw [if_neg (by omega)] at x2
        rw [x1]
        exact ⟨ν, rfl, x2, x3⟩
      · rw [if_neg c2, if_neg c2]
        by_cases c3 : tO U e s.1 = some 3
        · rw [if_pos c3, if_pos c3]
          obtain ⟨ν, x1, x2, x3⟩ := M_readAccount hF g h hs hK
          rw [x1]
          exact ⟨ν, rfl, x2, x3⟩
        · rw [if_neg c3, if_neg c3]
          by_cases c6 : tO U e s.1 = some 6
          · rw [if_pos c6, if_pos c6]
            obtain ⟨ν, x1, x2, x3⟩ := M_readLaw hF g h hs hK
            rw [x1]
            exact ⟨ν, rfl, x2, x3⟩
          · rw [if_neg c6, if_neg c6]
            by_cases c12 : tO U e s.1 = some 12
            · rw [if_pos c12, if_pos c12]
              obtain ⟨ν, x1, x2, x3⟩ := M_readWatch hF g h hs hK
              rw [x1]
              exact ⟨ν, rfl, x2, x3⟩
            · rw [if_neg c12, if_neg c12]
              obtain ⟨ν, x1, x2, x3, x4⟩ := M_amiss T h
              rw [x1]
              exact ⟨ν, rfl, ⟨x2, x3, unf_r.1, unf_r.2⟩, PM_PN x4⟩
theorem prtB_le {s s' : BS} (hs : PI e s) (h : prtB U e s = .inr s') : s'.1 ≤ e := by
  have hp := hs.1
  unfold prtB at h
  have once : ∀ j lo hi, tO U e s.1 ≠ none → onceB U e j lo hi s = .inr s' → s'.1 ≤ e := fun j lo hi hne h => by
    unfold onceB at h
    split at h
    · cases h
    · obtain ⟨v, h1, h2⟩ := sb_ok h
      cases h2
      exact (num_ok (tN_le hp).2 h1).2.2.2.1
  split at h
  · rename_i z
    unfold wideB at h
    split at h
    · cases h
    · exact once _ _ _ (by rw [z]; exact fun y => by cases y) h
  · split at h
    · rename_i z; exact once _ _ _ (by rw [z]; exact fun y => by cases y) h
    · split at h
      · rename_i z; exact once _ _ _ (by rw [z]; exact fun y => by cases y) h
      · split at h
        · unfold accB at h
          split at h
          · cases h
          · split at h
            · split at h
              · cases hk : kindO (tO U e (tN U e (tN U e s.1))) with
                | none => rw [hk] at h; cases h
                | some kd =>
                  rw [hk] at h
                  obtain ⟨x, a1, a2⟩ := sb_ok h
                  cases a2
                  exact (dg_ok (tN_le (tN_le (tN_le hp).2).2).2 (Nat.le_refl _) a1).2.1
              · cases h
            · cases h
        · split at h
          · unfold lawB at h
            split at h
            · cases h
            · obtain ⟨a, a1, a2⟩ := sb_ok h
              obtain ⟨q1, b1, b2⟩ := sb_ok a2
              obtain ⟨c, c1, c2⟩ := sb_ok b2
              have n1 := (num_ok (tN_le hp).2 a1).2.2.2.1
              have n2 := (wd_ok n1 b1).2
              have n3 := (num_ok n2 c1).2.2.2.1
              cases hk : placO (tO U e c.2) with
              | none => rw [hk] at c2; cases c2; exact n3
              | some pl =>
                rw [hk] at c2
                obtain ⟨d, d1, d2⟩ := sb_ok c2
                cases d2
                exact (num_ok (tN_le n3).2 d1).2.2.2.1
          · split at h
            · unfold watB at h
              split at h
              · cases h
              · obtain ⟨a, a1, a2⟩ := sb_ok h
                obtain ⟨c, c1, c2⟩ := sb_ok a2
                cases c2
                exact (num_ok (nm_ok (tN_le hp).2 a1).2.2 c1).2.2.2.1
            · cases h
theorem M_bookL (hF : 2000000 ≤ F) {K : Mm → Option (Int32 × Mm)} : ∀ (n m : Nat) (s : BS) (μ : Mm), e - s.1 < n → n + 1 < m → GM U e s μ → mI μ 141 12 = 0 → PI e s → ∃ ν, L_X12_book_33 F K m μ = K ν ∧ MO ν (bkS U e n s) (fun s' => GM U e s' ν ∧ PI e s') ∧ Ag PN μ ν := by
  intro n
  induction n with
  | zero => intro m s μ h1; omega
  | succ n ih =>
    intro m s μ h1 h2 g h hs
    obtain ⟨m, rfl⟩ : ∃ q, m = q + 1 := ⟨m - 1, by omega⟩
    have T := g.2.1
    have hk4 := tK_le (U := U) (e := e) (p := s.1)
    unfold bkS
    rw [L_X12_book_33_s, if_pos h, T.2.2.1]
    by_cases z : tK U e s.1 = 0
    · rw [if_pos ((eqL (n := 0) (by omega) (by decide)).mpr z), if_pos z]
      exact ⟨μ, rfl, ⟨h, g, hs⟩, Ag.rf⟩
    · rw [if_neg (fun q => z ((eqL (n := 0) (by omega) (by decide)).mp q)), if_neg z]
      obtain ⟨ν, x1, x2, x3⟩ := M_readPart hF g h hs z
      have assoc : ∀ ξ : Mm, ((f_X12_isSign 59 ξ).bind fun x7 => (f_X12_must F (bI x7) ξ).bind fun μ9 => L_X12_book_33 F K m μ9) = ((f_X12_isSign 59 ξ).bind fun x7 => f_X12_must F (bI x7) ξ).bind fun μ9 => L_X12_book_33 F K m μ9 := fun ξ => by
        cases f_X12_isSign 59 ξ <;> rfl
      have stop : ∀ ξ : Mm, Bad ξ → L_X12_book_33 F K m ξ = K ξ := fun ξ hb => by
        obtain ⟨m, rfl⟩ : ∃ q, m = q + 1 := ⟨m - 1, by omega⟩
        rw [L_X12_book_33_s, if_neg hb.1]
      have hpb : prtS U e s = sb (prtB U e s) (enS U e) := prt_B
      rw [x1, Option.bind_some, assoc]
      cases hP : prtB U e s with
      | inl f =>
        rw [hP] at x2 hpb
        have hb := MO_bad x2
        rw [M_endB hb, Option.bind_some, stop ν hb, hpb]
        exact ⟨ν, rfl, x2, x3⟩
      | inr s1 =>
        rw [hP] at x2 hpb
        obtain ⟨b1, g1⟩ := x2
        have hp1 := prtB_le hs hP
        obtain ⟨ξ, y1, y2, y3⟩ := M_end g1.1 g1.2.1 hp1 hF b1
        rw [y1, Option.bind_some]
        cases hE : endS U e s1.1 with
        | inl f =>
          rw [hE] at y2
          have hb := MO_bad y2
          have hps : prtS U e s = .inl f := by rw [hpb]; show enS U e s1 = _; unfold enS; rw [hE]; rfl
          rw [stop ξ hb, hps]
          exact ⟨ξ, rfl, y2, x3.tr (PM_PN y3)⟩
        | inr q =>
          rw [hE] at y2
          obtain ⟨b2, t2⟩ := y2
          have hps : prtS U e s = .inr (q, s1.2) := by rw [hpb]; show enS U e s1 = _; unfold enS; rw [hE]; rfl
          obtain ⟨a1, a2⟩ := prt_ok hs hps
          have g2 := GM_ag g1 y3 (by omega) (fun k => by omega) (fun k hk => by omega) (fun k => by omega) (by omega) t2
          have a1' : s.1 < q := a1
          have a2' : q ≤ e := a2.1
          obtain ⟨ζ, u1, u2, u3⟩ := ih m (q, s1.2) ξ (by show e - q < n; omega) (by omega) g2 b2 a2
          rw [hps, sb_r, u1]
          exact ⟨ζ, rfl, u2, (x3.tr (PM_PN y3)).tr u3⟩
end BKM3
