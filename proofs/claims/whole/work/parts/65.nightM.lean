/-! ===== the reference reads nights: the rest of an order ===== -/
def sg (ν : Mm) : Nat → Int32 := fun k => mA ν 146 (1728 + k)
def PGM (ν : Mm) (β : Nat → Nat) (nm : Nat → Int64) : Prop := mA ν 146 0 = nI (β 0) ∧ mA ν 146 2 = nI (β 2) ∧ (∀ a, a < β 0 → mL ν 149 a = nm a)
abbrev PO (s a k : Nat) : Prop := (a = 141 ∧ ((12 ≤ k ∧ k ≤ 19) ∨ k = 26)) ∨ (a = 146 ∧ 1730 + 9 * s ≤ k)
abbrev PO1 (s a k : Nat) : Prop := (a = 141 ∧ 12 ≤ k ∧ k ≤ 19) ∨ (a = 146 ∧ 1731 + 9 * s ≤ k ∧ k < 1739 + 9 * s)
def kdO (c : Nat) : Nat := if c = 13 then 0 else if c = 17 then 1 else if c = 18 then 2 else if c = 19 then 3 else if c = 20 then 4 else if c = 21 then 5 else if c = 25 then 6 else 7
section NM
variable {μ : Mm} {U : Nat → Nat} {e q F : Nat} {β : Nat → Nat} {nm : Nat → Int64}
theorem PGM_ag {ν : Mm} {P : Nat → Nat → Prop} (h : PGM μ β nm) (a : Ag P μ ν) (h1 : ¬ P 146 0) (h2 : ¬ P 146 2) (h3 : ∀ k, ¬ P 149 k) : PGM ν β nm := ⟨by rw [a.a h1]; exact h.1, by rw [a.a h2]; exact h.2.1, fun q hq => by rw [a.l (h3 q)]; exact h.2.2 q hq⟩
theorem PM_PO1 {ν : Mm} {s : Nat} (h : Ag PMm μ ν) : Ag (PO1 s) μ ν := h.mono (fun a k z => Or.inl z)
theorem M_readCell (hF : 2000000 ≤ F) (w : WF β) (T0 : TkM0 μ U e) (T : TkM μ U e q) (hq : q ≤ e) (h : mI μ 141 12 = 0) (B : PGM μ β nm) : ∃ ν y, f_X12_readCell F μ = some (y, ν) ∧ MO ν (celS U e β nm q) (fun x => y = nI x.1 ∧ TkM ν U e x.2) ∧ Ag PMm μ ν := by
  have w0 := w.1.1
  have w1 := w.1.2.1
  have w2 := w.1.2.2.1
  unfold f_X12_readCell celS
  obtain ⟨ν1, xa, x1, x2, x3⟩ := M_readTold (F := F) (β := β) (nm := nm) (m := 0) T0 T hq hF h (by omega) (show mA μ 146 (400 * 0) = nI (β 0) from B.1) w0 (fun a ha => by rw [show 5 * 0 + a = a by omega]; exact B.2.2 a ha) (v := 0) rfl
  have r2 : rdA ν1 146 2000 2 = some (nI (β 2)) := by
    have : rdA ν1 146 2000 (nI 2) = some (mA ν1 146 2) := rdA_n (by omega) (by omega)
    rw [x3.a (by omega), B.2.1] at this
    exact this
  rw [x1, bd_some, r2, Option.bind_some, Option.bind_some, subL (by show 1 ≤ β 2; omega)]
  cases hn : nmS U e β nm q with
  | inl f =>
    rw [hn] at x2
    have hb := MO_bad x2
    rw [M_countB hb]
    exact ⟨ν1, _, rfl, x2, x3⟩
  | inr a =>
    rw [hn] at x2
    obtain ⟨b1, x5, x4⟩ := x2
    obtain ⟨n1, n2, n3⟩ := nm_ok hq hn
    obtain ⟨ν2, xc, y1, y2, y3⟩ := M_count (TkM0_ag T0 x3 (by omega) (fun k => by omega)) x4 n3 hF b1 (v := 0) (w := nI (β 2 - OfNat.ofNat 1)) (lo := 0) (hi := β 2 - 1) rfl rfl (by omega) (by omega)
    rw [y1, bd_some, sb_r]
    cases hc : numS U e 0 (β 2 - 1) a.2 with
    | inl f => rw [hc] at y2; exact ⟨ν2, _, rfl, y2, x3.tr y3⟩
    | inr c =>
      rw [hc] at y2
      obtain ⟨b2, y5, y4⟩ := y2
      exact ⟨ν2, _, rfl, ⟨b2, by rw [x5, y5, pk_mul, nI_add], y4⟩, x3.tr y3⟩
/-- a write into the step that is being read -/
theorem M_wst {s j : Nat} (hs : s < 30) (hj : 1 ≤ j) (hj8 : j ≤ 8) {x v : Int32} (hv : v = nI (1730 + 9 * s + j)) : wrA μ 146 2000 v x = some (sA μ 146 (1730 + 9 * s + j) x) := by rw [hv]; exact wrA_n (by omega) (by omega)
theorem TkM_wst {s j : Nat} {x : Int32} (T : TkM μ U e q) : TkM (sA μ 146 (1730 + 9 * s + j) x) U e q := TkM_ag T (P := fun a _ => a = 146) (Ag.sA rfl) (fun k h1 h2 => by omega)
theorem TkM0_wst {s j : Nat} {x : Int32} (T : TkM0 μ U e) : TkM0 (sA μ 146 (1730 + 9 * s + j) x) U e := TkM0_ag T (P := fun a _ => a = 146) (Ag.sA rfl) (by omega) (fun k => by omega)
theorem lt0_n {k : Nat} (h : k < 1000) : (if nI k < 0 then (0 : Int32) else 1) = 1 := if_neg (nI_n0 (by omega))
theorem pos0 (h : mI μ 141 12 = 0) : ¬ 0 < mI μ 141 12 := by rw [h]; decide
theorem bad_pos (h : Bad μ) : 0 < mI μ 141 12 := fa_of_nle h.2
theorem M_readTest (hF : 2000000 ≤ F) (w : WF β) (T0 : TkM0 μ U e) (T : TkM μ U e q) (hq : q ≤ e) (h : mI μ 141 12 = 0) (B : PGM μ β nm) {s : Nat} (hs : s < 30) (hk : mA μ 146 (1730 + 9 * s) = nI 5) : ∃ ν, f_X12_readTest F (nI (1730 + 9 * s)) μ = some ν ∧ MO ν (tstS U e β nm q) (fun r => TkM ν U e r.1 ∧ ∀ ω i, SB (cl β) (setI ω i (nI r.2.1) (nI r.2.2.1) (nI r.2.2.2.1) (nI r.2.2.2.2) (nI i)) (sg ν) s i) ∧ Ag (PO1 s) μ ν := by
  have hcl := w.cl_le
  have i5 : nI (1730 + 9 * s) + (5 : Int32) = nI (1730 + 9 * s + 5) := addL
  have i7 : nI (1730 + 9 * s) + (7 : Int32) = nI (1730 + 9 * s + 7) := addL
  have i6 : nI (1730 + 9 * s) + (6 : Int32) = nI (1730 + 9 * s + 6) := addL
  have i1 : nI (1730 + 9 * s) + (1 : Int32) = nI (1730 + 9 * s + 1) := addL
  have w5 : ∀ ν (x : Int32), wrA ν 146 2000 (nI (1730 + 9 * s) + 5) x = some (sA ν 146 (1730 + 9 * s + 5) x) := fun ν x => M_wst (by omega) (by omega) (by omega) i5
  have w7 : ∀ ν (x : Int32), wrA ν 146 2000 (nI (1730 + 9 * s) + 7) x = some (sA ν 146 (1730 + 9 * s + 7) x) := fun ν x => M_wst (by omega) (by omega) (by omega) i7
  have w6 : ∀ ν (x : Int32), wrA ν 146 2000 (nI (1730 + 9 * s) + 6) x = some (sA ν 146 (1730 + 9 * s + 6) x) := fun ν x => M_wst (by omega) (by omega) (by omega) i6
  have w1 : ∀ ν (x : Int32), wrA ν 146 2000 (nI (1730 + 9 * s) + 1) x = some (sA ν 146 (1730 + 9 * s + 1) x) := fun ν x => M_wst (by omega) (by omega) (by omega) i1
  have AW : ∀ (ν : Mm) (j : Nat) (x : Int32), 1 ≤ j → j ≤ 8 → Ag (PO1 s) ν (sA ν 146 (1730 + 9 * s + j) x) := fun ν j x h1 h2 => Ag.sA (by omega)
  have t := tN_le (U := U) hq
  unfold f_X12_readTest tstS
  simp only [jn]
  rw [M_testWord T, Option.bind_some]
  -- the sign, the number
  have tail : ∀ (ν : Mm) (p t0 cell wd : Nat) (hi : Nat) (x1 : Int32), (t0 = 0 ∧ hi = 99 ∧ wd = 22 ∧ x1 = 0) ∨ (t0 = 1 ∧ hi = 9 ∧ wd = 23 ∧ x1 = 1 ∧ cell < cl β) → TkM0 ν U e → TkM ν U e p → p ≤ e → mI ν 141 12 = 0 → mA ν 146 (1730 + 9 * s) = nI 5 → mA ν 146 (1730 + 9 * s + 5) = nI t0 → (t0 = 1 → mA ν 146 (1730 + 9 * s + 1) = nI cell) → ∃ ξ, ((wrA ν 146 2000 (nI (1730 + 9 * s) + (7 : Int32)) (if (mI ν 141 14) = 3 then (mI ν 141 17) else 0)).bind fun μ12 => (f_X12_isSign 60 μ12).bind fun x13 => (if x13 = true then (f_X12_must F 1 μ12).bind fun μ18 => bd (f_X12_count F 0 (if x1 = 0 then (99 : Int32) else 9) μ18) fun x21 μ22 => (wrA μ22 146 2000 (nI (1730 + 9 * s) + (6 : Int32)) x21).bind fun μ23 => some μ23 else (f_X12_isSign 62 μ12).bind fun x26 => (if x26 = true then (f_X12_must F 1 μ12).bind fun μ18 => bd (f_X12_count F 0 (if x1 = 0 then (99 : Int32) else 9) μ18) fun x21 μ22 => (wrA μ22 146 2000 (nI (1730 + 9 * s) + (6 : Int32)) x21).bind fun μ23 => some μ23 else (f_X12_isSign 61 μ12).bind fun x27 => (if x27 = true then (f_X12_must F 1 μ12).bind fun μ18 => bd (f_X12_count F 0 (if x1 = 0 then (99 : Int32) else 9) μ18) fun x21 μ22 => (wrA μ22 146 2000 (nI (1730 + 9 * s) + (6 : Int32)) x21).bind fun μ23 => some μ23 else (f_X12_must F 0 μ12).bind fun μ18 => bd (f_X12_count F 0 (if x1 = 0 then (99 : Int32) else 9) μ18) fun x21 μ22 => (wrA μ22 146 2000 (nI (1730 + 9 * s) + (6 : Int32)) x21).bind fun μ23 => some μ23)))) = some ξ ∧ MO ξ (sb (cmpS U e p) fun sn => sb (numS U e 0 hi sn.2) fun v => (.inr (v.2, wd, v.1, cell, sn.1) : Sum Flt RR)) (fun r => TkM ξ U e r.1 ∧ ∀ ω i, SB (cl β) (setI ω i (nI r.2.1) (nI r.2.2.1) (nI r.2.2.2.1) (nI r.2.2.2.2) (nI i)) (sg ξ) s i) ∧ Ag (PO1 s) ν ξ := by
    intro ν p t0 cell wd hi x1 ht T0ν Tν hp bν k5 k55 k1
    have hk4 := tK_le (U := U) (e := e) (p := p)
    have hx1 : (if x1 = 0 then (99 : Int32) else 9) = nI hi := by
      rcases ht with ⟨-, z2, -, z4⟩ | ⟨-, z2, -, z4, -⟩
      · rw [z4, if_pos rfl, z2]; rfl
      · rw [z4, if_neg (by decide), z2]; rfl
    have hhi : hi < 1000 := by omega
    rw [w7, Option.bind_some, hx1]
    obtain ⟨ν2, hν2⟩ : ∃ ν2, ν2 = sA ν 146 (1730 + 9 * s + 7) (if (mI ν 141 14) = 3 then (mI ν 141 17) else 0) := ⟨_, rfl⟩
    rw [← hν2]
    have A2 : Ag (PO1 s) ν ν2 := by rw [hν2]; exact AW _ 7 _ (by omega) (by omega)
    have T02 : TkM0 ν2 U e := by rw [hν2]; exact TkM0_wst T0ν
    have T2 : TkM ν2 U e p := by rw [hν2]; exact TkM_wst Tν
    have b2 : mI ν2 141 12 = 0 := by rw [hν2]; exact bν
    have s60 := M_isSign T2 (v := 60) (c := 60) rfl (by omega)
    have s62 := M_isSign T2 (v := 62) (c := 62) rfl (by omega)
    have s61 := M_isSign T2 (v := 61) (c := 61) rfl (by omega)
    rw [s60, s62, s61]
    simp only [Option.bind_some, decide_eq_true_eq]
    unfold cmpS
    by_cases z : tK U e p = 3 ∧ tV U e p ≠ 59
    · have hv := (tV_3 z.1).2
      rw [if_pos z, sb_r]
      have tp := tK0_le (U := U) hp (by omega : tK U e p ≠ 0)
      -- one of the three signs
      have yes : ∃ ξ, ((f_X12_must F 1 ν2).bind fun μ18 => bd (f_X12_count F 0 (nI hi) μ18) fun x21 μ22 => (wrA μ22 146 2000 (nI (1730 + 9 * s) + (6 : Int32)) x21).bind fun μ23 => some μ23) = some ξ ∧ MO ξ (sb (numS U e 0 hi (tN U e p)) fun v => (.inr (v.2, wd, v.1, cell, tV U e p) : Sum Flt RR)) (fun r => TkM ξ U e r.1 ∧ ∀ ω i, SB (cl β) (setI ω i (nI r.2.1) (nI r.2.2.1) (nI r.2.2.2.1) (nI r.2.2.2.2) (nI i)) (sg ξ) s i) ∧ Ag (PO1 s) ν ξ := by
        obtain ⟨ν3, x1', x2, x3⟩ := M_must1 T02 T2 hp hF b2 (v := 1) (by decide)
        have b3 : mI ν3 141 12 = 0 := by rw [x3.i (by omega)]; exact b2
        obtain ⟨ν4, xc, y1, y2, y3⟩ := M_count (TkM0_ag T02 x3 (by omega) (fun k => by omega)) x2 tp.2 hF b3 (v := 0) (w := nI hi) (lo := 0) (hi := hi) rfl rfl (by omega) hhi
        have A4 : Ag (PO1 s) ν ν4 := (A2.tr (PM_PO1 (PB_PM x3))).tr (PM_PO1 y3)
        rw [x1', Option.bind_some, y1, bd_some, w6]
        have A5 := AW ν4 6 xc (by omega) (by omega)
        cases hn : numS U e 0 hi (tN U e p) with
        | inl f =>
          rw [hn] at y2
          exact ⟨_, rfl, ⟨y2.1, y2.2.1, y2.2.2⟩, A4.tr A5⟩
        | inr v =>
          rw [hn] at y2
          obtain ⟨b4, y5, y4⟩ := y2
          refine ⟨_, rfl, ⟨b4, TkM_wst y4, fun ω i => ?_⟩, A4.tr A5⟩
          have m7 : mA (sA ν4 146 (1730 + 9 * s + 6) xc) 146 (1730 + 9 * s + 7) = nI (tV U e p) := by
            rw [mA_sA, if_pos rfl, if_neg (by omega), y3.a (by omega), x3.a (by omega), hν2, mA_sA, if_pos rfl, if_pos rfl, Tν.2.2.1, if_pos ((eqL (n := 3) (by omega) (by decide)).mpr z.1)]
            exact Tν.2.2.2.2 (Or.inr z.1)
          have m6 : mA (sA ν4 146 (1730 + 9 * s + 6) xc) 146 (1730 + 9 * s + 6) = nI v.1 := by rw [mA_sA, if_pos rfl, if_pos rfl]; exact y5
          have old : ∀ j, j ≠ 6 → j ≠ 7 → j ≤ 8 → mA (sA ν4 146 (1730 + 9 * s + 6) xc) 146 (1730 + 9 * s + j) = mA ν 146 (1730 + 9 * s + j) := fun j h6 h7 h8 => by
            rw [mA_sA, if_pos rfl, if_neg (by omega), y3.a (by omega), x3.a (by omega), hν2, mA_sA, if_pos rfl, if_neg (by omega)]
          have g0 : sg (sA ν4 146 (1730 + 9 * s + 6) xc) (2 + 9 * s) = 5 := by
            show mA _ 146 (1728 + (2 + 9 * s)) = 5
            rw [show 1728 + (2 + 9 * s) = 1730 + 9 * s + 0 by omega, old 0 (by omega) (by omega) (by omega)]
            exact k5
          have g5 : sg (sA ν4 146 (1730 + 9 * s + 6) xc) (7 + 9 * s) = nI t0 := by
            show mA _ 146 (1728 + (7 + 9 * s)) = _
            rw [show 1728 + (7 + 9 * s) = 1730 + 9 * s + 5 by omega, old 5 (by omega) (by omega) (by omega)]
            exact k55
          have g6 : sg (sA ν4 146 (1730 + 9 * s + 6) xc) (8 + 9 * s) = nI v.1 := by
            show mA _ 146 (1728 + (8 + 9 * s)) = _
            rw [show 1728 + (8 + 9 * s) = 1730 + 9 * s + 6 by omega]
            exact m6
          have g7 : sg (sA ν4 146 (1730 + 9 * s + 6) xc) (9 + 9 * s) = nI (tV U e p) := by
            show mA _ 146 (1728 + (9 + 9 * s)) = _
            rw [show 1728 + (9 + 9 * s) = 1730 + 9 * s + 7 by omega]
            exact m7
          rcases ht with ⟨rfl, -, rfl, -⟩ | ⟨rfl, -, rfl, -, hc⟩
          · exact Or.inr (Or.inl ⟨g0, g5, setI_1, by rw [setI_2, g6], by rw [setI_4, g7]⟩)
          · refine Or.inr (Or.inr (Or.inl ⟨g0, g5, setI_1, by rw [setI_2, g6], by rw [setI_4, g7], cell, hc, setI_3, ?_⟩))
            show mA _ 146 (1728 + (3 + 9 * s)) = _
            rw [show 1728 + (3 + 9 * s) = 1730 + 9 * s + 1 by omega, old 1 (by omega) (by omega) (by omega)]
            exact k1 rfl
      by_cases z60 : tV U e p = 60
      · rw [if_pos ⟨z.1, z60⟩]; exact yes
      · rw [if_neg (show ¬ (tK U e p = 3 ∧ tV U e p = 60) from fun y => z60 y.2)]
        by_cases z62 : tV U e p = 62
        · rw [if_pos ⟨z.1, z62⟩]; exact yes
        · rw [if_neg (show ¬ (tK U e p = 3 ∧ tV U e p = 62) from fun y => z62 y.2), if_pos ⟨z.1, by omega⟩]
          exact yes
    · obtain ⟨ν3, x1', x2, x3, x4⟩ := M_must0 (F := F) T2 b2
      have hb := bad_of x2 unf_r.1 unf_r.2
      rw [if_neg z, sb_l, if_neg (show ¬ (tK U e p = 3 ∧ tV U e p = 60) from fun y => z ⟨y.1, by omega⟩), if_neg (show ¬ (tK U e p = 3 ∧ tV U e p = 62) from fun y => z ⟨y.1, by omega⟩), if_neg (show ¬ (tK U e p = 3 ∧ tV U e p = 61) from fun y => z ⟨y.1, by omega⟩), x1', Option.bind_some, M_countB hb, bd_some, w6]
      exact ⟨_, rfl, ⟨x2, x3, unf_r.1, unf_r.2⟩, (A2.tr (PM_PO1 x4)).tr (AW ν3 6 0 (by omega) (by omega))⟩
  by_cases c22 : tO U e q = some 22
  · obtain ⟨ν1, x1, x2, x3⟩ := M_must1 T0 T hq hF h (v := 1) (by decide)
    have b1 : mI ν1 141 12 = 0 := by rw [x3.i (by omega)]; exact h
    have b2 : mI (sA ν1 146 (1730 + 9 * s + 5) 0) 141 12 = 0 := b1
    have n24 : ¬ tO U e q = some 24 := by rw [c22]; exact fun y => by cases y
    have n23 : ¬ tO U e q = some 23 := by rw [c22]; exact fun y => by cases y
    obtain ⟨ξ, y1, y2, y3⟩ := tail (sA ν1 146 (1730 + 9 * s + 5) 0) (tN U e q) 0 0 22 99 0 (Or.inl ⟨rfl, rfl, rfl, rfl⟩) (TkM0_wst (TkM0_ag T0 x3 (by omega) (fun k => by omega))) (TkM_wst x2) t.2 b1 (by rw [mA_sA, if_pos rfl, if_neg (by omega), x3.a (by omega)]; exact hk) (by rw [mA_sA, if_pos rfl, if_pos rfl]; rfl) (fun z => by omega)
    rw [if_pos c22, if_neg (show ¬ (0 : Int32) < 0 by decide), x1, Option.bind_some, w5, Option.bind_some, if_neg (pos0 b2), if_neg (show ¬ (0 : Int32) = 2 by decide), if_neg (show ¬ (0 : Int32) = 1 by decide), if_pos (z0 b2), y1, if_neg n24, if_neg n23, if_pos c22]
    exact ⟨ξ, rfl, y2, ((PM_PO1 (PB_PM x3)).tr (AW ν1 5 0 (by omega) (by omega))).tr y3⟩
  · rw [if_neg c22]
    by_cases c23 : tO U e q = some 23
    · obtain ⟨ν1, x1, x2, x3⟩ := M_must1 T0 T hq hF h (v := 1) (by decide)
      have b1 : mI ν1 141 12 = 0 := by rw [x3.i (by omega)]; exact h
      have b2 : mI (sA ν1 146 (1730 + 9 * s + 5) 1) 141 12 = 0 := b1
      have n24 : ¬ tO U e q = some 24 := by rw [c23]; exact fun y => by cases y
      have A2 : Ag (PO1 s) μ (sA ν1 146 (1730 + 9 * s + 5) 1) := (PM_PO1 (PB_PM x3)).tr (AW ν1 5 1 (by omega) (by omega))
      have B2 : PGM (sA ν1 146 (1730 + 9 * s + 5) 1) β nm := PGM_ag B A2 (by omega) (by omega) (fun k => by omega)
      have T02 : TkM0 (sA ν1 146 (1730 + 9 * s + 5) 1) U e := TkM0_wst (TkM0_ag T0 x3 (by omega) (fun k => by omega))
      obtain ⟨ν3, yc, y1, y2, y3⟩ := M_readCell hF w T02 (TkM_wst x2) t.2 b2 B2
      rw [if_pos c23, if_neg (show ¬ (1 : Int32) < 0 by decide), x1, Option.bind_some, w5, Option.bind_some, if_neg (pos0 b2), if_neg (show ¬ (1 : Int32) = 2 by decide), if_pos rfl, y1, bd_some, w1, Option.bind_some, if_neg n24, if_pos c23]
      have A3 : Ag (PO1 s) μ (sA ν3 146 (1730 + 9 * s + 1) yc) := (A2.tr (PM_PO1 y3)).tr (AW ν3 1 yc (by omega) (by omega))
      cases hc : celS U e β nm (tN U e q) with
      | inl f =>
        rw [hc] at y2
        have hb : Bad (sA ν3 146 (1730 + 9 * s + 1) yc) := bad_of (show mI (sA ν3 146 (1730 + 9 * s + 1) yc) 141 12 = nI f.1 from y2.1) y2.2.2.1 y2.2.2.2
        rw [if_neg hb.2]
        exact ⟨_, rfl, y2, A3⟩
      | inr c =>
        rw [hc] at y2
        obtain ⟨b3, y5, y4⟩ := y2
        have b4 : mI (sA ν3 146 (1730 + 9 * s + 1) yc) 141 12 = 0 := b3
        have n1 := cel_ok w t.2 hc
        obtain ⟨ξ, z1, z2, z3⟩ := tail (sA ν3 146 (1730 + 9 * s + 1) yc) c.2 1 c.1 23 9 1 (Or.inr ⟨rfl, rfl, rfl, rfl, n1.1⟩) (TkM0_wst (TkM0_ag T02 y3 (by omega) (fun k => by omega))) (TkM_wst y4) n1.2.2 b4 (by rw [mA_sA, if_pos rfl, if_neg (by omega), y3.a (by omega), mA_sA, if_pos rfl, if_neg (by omega), x3.a (by omega)]; exact hk) (by rw [mA_sA, if_pos rfl, if_neg (by omega), y3.a (by omega), mA_sA, if_pos rfl, if_pos rfl]; rfl) (fun _ => by rw [mA_sA, if_pos rfl, if_pos rfl]; exact y5)
        rw [if_pos (z0 b4), z1]
        exact ⟨ξ, rfl, z2, A3.tr z3⟩
    · rw [if_neg c23]
      by_cases c24 : tO U e q = some 24
      · obtain ⟨ν1, x1, x2, x3⟩ := M_must1 T0 T hq hF h (v := 1) (by decide)
        have b1 : mI ν1 141 12 = 0 := by rw [x3.i (by omega)]; exact h
        have b2 : mI (sA ν1 146 (1730 + 9 * s + 5) 2) 141 12 = 0 := b1
        rw [if_pos c24, if_neg (show ¬ (2 : Int32) < 0 by decide), x1, Option.bind_some, w5, Option.bind_some, if_neg (pos0 b2), if_pos rfl, if_pos c24]
        refine ⟨_, rfl, ⟨b2, TkM_wst x2, fun ω i => Or.inr (Or.inr (Or.inr ⟨?_, ?_, setI_1⟩))⟩, (PM_PO1 (PB_PM x3)).tr (AW ν1 5 2 (by omega) (by omega))⟩
        · show mA _ 146 (1728 + (2 + 9 * s)) = 5
          rw [show 1728 + (2 + 9 * s) = 1730 + 9 * s by omega, mA_sA, if_pos rfl, if_neg (by omega), x3.a (by omega)]
          exact hk
        · show mA _ 146 (1728 + (7 + 9 * s)) = 2
          rw [show 1728 + (7 + 9 * s) = 1730 + 9 * s + 5 by omega, mA_sA, if_pos rfl, if_pos rfl]
      · obtain ⟨ν1, x1, x2, x3, x4⟩ := M_must0 (F := F) T h
        have hb : Bad (sA ν1 146 (1730 + 9 * s + 5) (-1)) := bad_of (show mI (sA ν1 146 (1730 + 9 * s + 5) (-1)) 141 12 = nI (unf U e q).1 from x2) unf_r.1 unf_r.2
        rw [if_neg c24, if_pos (show (-1 : Int32) < 0 by decide), x1, Option.bind_some, w5, Option.bind_some, if_pos (bad_pos hb), if_neg c24, if_neg c23, if_neg c22]
        exact ⟨_, rfl, ⟨x2, x3, unf_r.1, unf_r.2⟩, (PM_PO1 x4).tr (AW ν1 5 (-1) (by omega) (by omega))⟩
end NM
