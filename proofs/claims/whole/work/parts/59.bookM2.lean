/-! ===== the reference reads a book: its parts ===== -/
section BKM2
variable {μ : Mm} {U : Nat → Nat} {e p F : Nat}
theorem GM_ag {ν : Mm} {P : Nat → Nat → Prop} {s : BS} (g : GM U e s μ) (a : Ag P μ ν) (h1 : ¬ P 141 9) (h2 : ∀ k, ¬ P 145 k) (h3 : ∀ k, 1600 ≤ k → ¬ P 146 k) (h4 : ∀ k, ¬ P 149 k) (h5 : ¬ P 141 25) {q : Nat} (T : TkM ν U e q) : GM U e (q, s.2) ν := ⟨TkM0_ag g.1 a h1 h2, T, CN_ag g.2.2.1 a h3, fun i hi => by rw [a.l (h4 _)]; exact g.2.2.2.1 i hi, by show TLM (mI ν 141 25) s.2.2.2; rw [a.i h5]; exact g.2.2.2.2⟩
theorem has_n {x : Int32} {v : Int32} {j : Nat} (hv : v = nI j) : f_X12_has x v μ = some (bit x j) := by rw [has_eq, hv]; rfl
theorem M_readOnce {s : BS} (hF : 2000000 ≤ F) (g : GM U e s μ) (h : mI μ 141 12 = 0) (hs : PI e s) {j lo hi : Nat} {v v1 v2 : Int32} (hv : v = nI j) (hv1 : v1 = nI lo) (hv2 : v2 = nI hi) (hj : j = 2 ∨ j = 3 ∨ j = 4) (hlo : lo < 1000) (hhi : hi < 1000) (hK : tK U e s.1 ≠ 0) : ∃ ν, f_X12_readOnce F v v1 v2 μ = some ν ∧ MO ν (if j = 2 ∧ 0 < s.2.1 0 then .inl (5, tS U e s.1) else onceB U e j lo hi s) (fun s' => GM U e s' ν) ∧ Ag PN μ ν := by
  obtain ⟨T0, T, C, N, L⟩ := id g
  obtain ⟨hp, w, h5, h6, h63, h128⟩ := id hs
  have w0 := w.1.1
  have hat := TLM_at L (j := j) (by omega)
  have r0 : rdA μ 146 2000 1600 = some (nI (s.2.1 0)) := CN_rd C (k := 0) (by omega) rfl
  -- what stands in the way
  have fl : ∃ ν, f_X12_fail 5 (mI μ 141 15) μ = some ν ∧ mI ν 141 12 = nI 5 ∧ mI ν 141 13 = nI (tS U e s.1) ∧ Ag PMm μ ν := M_fail h (v := 5) 5 (tS U e s.1) rfl T.1
  obtain ⟨νf, f1, f2, f3, f4⟩ := fl
  have hbf := bad_of f2 (by omega) (by omega)
  have go : ∃ ν, (if (mI μ 141 12) ≤ 0 then (f_X12_advance F (sI μ 141 25 ((mI μ 141 25) ||| ((1 : Int32) <<< (nI j &&& 31))))).bind fun μ6 => bd (f_X12_count F v1 v2 μ6) fun x7 μ8 => (wrA μ8 146 2000 ((1600 : Int32) + nI j) x7).bind fun μ9 => some μ9 else some μ) = some ν ∧ MO ν (sb (numS U e lo hi (tN U e s.1)) fun v => (.inr (v.2, updN s.2.1 j v.1, s.2.2.1, updB s.2.2.2 j) : Sum Flt BS)) (fun s' => GM U e s' ν) ∧ Ag PN μ ν := by
    rw [if_pos (z0 h)]
    have A0 : Ag (fun a k => a = 141 ∧ k = 25) μ (sI μ 141 25 ((mI μ 141 25) ||| ((1 : Int32) <<< (nI j &&& 31)))) := Ag.sI ⟨rfl, rfl⟩
    have T01 := TkM0_ag T0 A0 (by omega) (fun k => by omega)
    obtain ⟨ν1, x1, x2, x3⟩ := M_adv T01 (TkM_ag T A0 (fun k h1 h2 => by omega)) hp hF
    have t1 := tK0_le (U := U) hp hK
    have T02 := TkM0_ag T01 x3 (by omega) (fun k => by omega)
    have b1 : mI ν1 141 12 = 0 := by rw [x3.i (by omega)]; exact h
    obtain ⟨ν2, x, y1, y2, y3⟩ := M_count T02 x2 t1.2 hF b1 hv1 hv2 hlo hhi
    have A2 : Ag PN μ ν2 := ((A0.mono (fun a k q => by omega)).tr (x3.mono (fun a k q => by omega))).tr (PM_PN y3)
    have L2 : TLM (mI ν2 141 25) (updB s.2.2.2 j) := by
      rw [y3.i (by omega), x3.i (by omega)]
      exact TLM_upd L (by omega)
    have C2 : CN ν2 s.2.1 := CN_ag (CN_ag (CN_ag C A0 (fun k hk => by omega)) x3 (fun k hk => by omega)) y3 (fun k hk => by omega)
    rw [x1, Option.bind_some, y1, bd_some]
    cases hn : numS U e lo hi (tN U e s.1) with
    | inl f =>
      rw [hn] at y2
      obtain ⟨ν3, z1, -, z3⟩ : ∃ ν3, wrA ν2 146 2000 ((1600 : Int32) + nI j) x = some ν3 ∧ True ∧ Ag (fun a i => a = 146 ∧ 1600 ≤ i) ν2 ν3 := ⟨sA ν2 146 (1600 + j) x, by rw [Ladd]; exact wrA_n (by show 1600 + j < 2000; omega) (by omega), trivial, Ag.sA ⟨rfl, by omega⟩⟩
      rw [z1]
      exact ⟨ν3, rfl, ⟨by rw [z3.i (by omega)]; exact y2.1, by rw [z3.i (by omega)]; exact y2.2.1, y2.2.2⟩, A2.tr (z3.mono (fun a k q => by omega))⟩
    | inr y =>
      rw [hn] at y2
      obtain ⟨y4, y5, y6⟩ := y2
      obtain ⟨ν3, z1, z2, z3⟩ := CN_wr C2 (k := j) (by omega) (v := (1600 : Int32) + nI j) (w := x) (x := y.1) (by rw [Ladd]) y5
      rw [z1]
      refine ⟨ν3, rfl, ⟨by rw [z3.i (by omega)]; exact y4, TkM0_ag (TkM0_ag T02 y3 (by omega) (fun k => by omega)) z3 (by omega) (fun k => by omega), TkM_ag y6 z3 (fun k h1 h2 => by omega), z2, fun i hi => ?_, ?_⟩, A2.tr (z3.mono (fun a k q => by omega))⟩
      · show mL ν3 149 (20 + i) = s.2.2.1 i
        have hi0 : i < s.2.1 0 := by
          have : updN s.2.1 j y.1 0 = s.2.1 0 := updN_ne (by omega)
          exact this ▸ hi
        rw [z3.l (by omega), y3.l (by omega), x3.l (by omega), A0.l (by omega)]
        exact N i hi0
      · show TLM (mI ν3 141 25) (updB s.2.2.2 j)
        rw [z3.i (by omega)]; exact L2
  subst hv
  unfold f_X12_readOnce
  simp only [jn]
  rw [has_n rfl, Option.bind_some, hat, f1]
  unfold onceB
  by_cases ht : s.2.2.2 j = true
  · rw [if_pos ht, Option.bind_some, if_neg hbf.2]
    refine ⟨νf, rfl, ?_, PM_PN f4⟩
    split
    · exact ⟨f2, f3, by show 1 ≤ 5; omega, by show 5 ≤ 7; omega⟩
    · exact ⟨f2, f3, by show 1 ≤ 5; omega, by show 5 ≤ 7; omega⟩
  · rw [if_neg ht, if_neg ht]
    by_cases h2 : j = 2
    · rw [if_pos ((eqL (n := 2) (by omega) (by decide)).mpr h2), r0, Option.bind_some]
      by_cases h00 : 0 < s.2.1 0
      · rw [if_neg (fun y => by have y2 : s.2.1 0 ≤ 0 := (leL (n := 0) (by omega) (by decide)).mp y; omega), Option.bind_some, if_neg hbf.2, if_pos ⟨h2, h00⟩]
        exact ⟨νf, rfl, ⟨f2, f3, by show 1 ≤ 5; omega, by show 5 ≤ 7; omega⟩, PM_PN f4⟩
      · rw [if_pos ((leL (n := 0) (by omega) (by decide)).mpr (by show s.2.1 0 ≤ 0; omega)), if_neg (show ¬ (j = 2 ∧ 0 < s.2.1 0) from fun z => h00 z.2)]
        exact go
    · rw [if_neg (fun y => h2 ((eqL (n := 2) (by omega) (by decide)).mp y)), if_neg (show ¬ (j = 2 ∧ 0 < s.2.1 0) from fun z => h2 z.1)]
      exact go
/-- digits of an account -/
theorem M_digits (hF : 2000000 ≤ F) {W k kd : Nat} {v2 : Int32} (hW : W ≤ 5) (hk : W * k + W ≤ 25) {KK : Mm → Option Mm} : ∀ (r n p : Nat) (β : Nat → Nat) (μ : Mm), r ≤ W → r < n → p ≤ e → TkM0 μ U e → TkM μ U e p → mI μ 141 12 = 0 → CN μ β → ∃ ν, Ag PN μ ν ∧ mI ν 141 25 = mI μ 141 25 ∧ (∀ i, mL ν 149 i = mL μ 149 i) ∧ ((∃ f, dgS U e W k r p β = .inl f ∧ L_X12_readAccount_126 F (nI k) v2 (nI W) KK n (nI (W - r)) μ = some ν ∧ mI ν 141 12 = nI f.1 ∧ mI ν 141 13 = nI f.2 ∧ 1 ≤ f.1 ∧ f.1 ≤ 7) ∨ (∃ x, dgS U e W k r p β = .inr x ∧ L_X12_readAccount_126 F (nI k) v2 (nI W) KK n (nI (W - r)) μ = KK ν ∧ mI ν 141 12 = 0 ∧ TkM0 ν U e ∧ TkM ν U e x.1 ∧ CN ν x.2)) := by
  intro r
  induction r with
  | zero =>
    intro n p β μ hr hn hp T0 T h0 C
    obtain ⟨n, rfl⟩ : ∃ q, n = q + 1 := ⟨n - 1, by omega⟩
    have hk4 := tK_le (U := U) (e := e) (p := p)
    rw [L_X12_readAccount_126_s, if_pos h0, T.2.2.1]
    unfold dgS
    by_cases z : tK U e p = 2
    · have hv := tV_2 z
      rw [if_pos ((eqL (n := 2) (by omega) (by decide)).mpr z), if_pos z, T.2.2.2.2 (Or.inl z), isIn_L (by decide) (by decide), Option.bind_some]
      simp only [jn]
      by_cases y : tV U e p ≤ 9
      · obtain ⟨ν, x1, x2, x3, x4⟩ := M_fail h0 (v := 6) (w := mI μ 141 15) 6 (tS U e p) rfl T.1
        have hb := bad_of x2 (by omega) (by omega)
        rw [if_pos y, inR_k (by omega) y (by omega), if_pos rfl, if_pos h0, Nat.sub_zero, if_pos rfl, x1, Option.bind_some, if_neg hb.2]
        exact ⟨ν, PM_PN x4, x4.i (by omega), fun i => x4.l (by omega), Or.inl ⟨(6, tS U e p), rfl, rfl, x2, x3, by show 1 ≤ 6; omega, by show 6 ≤ 7; omega⟩⟩
      · obtain ⟨ν, x1, x2, x3, x4⟩ := M_fail h0 (v := 4) (w := mI μ 141 15) 4 (tS U e p) rfl T.1
        have hb := bad_of x2 (by omega) (by omega)
        have nin : inR (nI (tV U e p)) 0 9 = false := by unfold inR; rw [nI_ti (by omega)]; exact decide_eq_false (by omega)
        rw [if_neg y, nin, if_neg (show ¬ (false = true) by decide), x1, Option.bind_some, if_neg hb.1, if_neg hb.2]
        exact ⟨ν, PM_PN x4, x4.i (by omega), fun i => x4.l (by omega), Or.inl ⟨(4, tS U e p), rfl, rfl, x2, x3, by show 1 ≤ 4; omega, by show 4 ≤ 7; omega⟩⟩
    · rw [if_neg (fun q => z ((eqL (n := 2) (by omega) (by decide)).mp q)), if_neg z]
      exact ⟨μ, Ag.rf, rfl, fun _ => rfl, Or.inr ⟨(p, β), rfl, rfl, h0, T0, T, C⟩⟩
  | succ r ih =>
    intro n p β μ hr hn hp T0 T h0 C
    obtain ⟨n, rfl⟩ : ∃ q, n = q + 1 := ⟨n - 1, by omega⟩
    have hk4 := tK_le (U := U) (e := e) (p := p)
    rw [L_X12_readAccount_126_s, if_pos h0, T.2.2.1]
    unfold dgS
    by_cases z : tK U e p = 2
    · have hv := tV_2 z
      rw [if_pos ((eqL (n := 2) (by omega) (by decide)).mpr z), if_pos z, T.2.2.2.2 (Or.inl z), isIn_L (by decide) (by decide), Option.bind_some]
      simp only [jn]
      by_cases y : tV U e p ≤ 9
      · have ix : (1613 : Int32) + nI W * nI k + nI (W - (r + 1)) = nI (1600 + (13 + (W * k + (W - (r + 1))))) := by
          rw [pk_mul, Ladd, nI_add]
          show nI (1613 + W * k + (W - (r + 1))) = _
          congr 1
          omega
        obtain ⟨ν1, x1, x2, x3⟩ := CN_wr C (k := 13 + (W * k + (W - (r + 1)))) (by omega) ix (x := tV U e p) rfl
        rw [if_pos y, inR_k (by omega) y (by omega), if_pos rfl, if_pos h0, if_neg (show ¬ nI (W - (r + 1)) = nI W from fun q => by have := (nIeq (by omega) (by omega)).mp q; omega), if_pos (z0 h0), T.2.2.2.2 (Or.inl z), x1, Option.bind_some]
        have T01 := TkM0_ag T0 x3 (by omega) (fun k => by omega)
        obtain ⟨ν2, y1, y2, y3⟩ := M_adv T01 (TkM_ag T x3 (fun k h1 h2 => by omega)) hp hF
        have t := tK0_le (U := U) hp (by omega : tK U e p ≠ 0)
        obtain ⟨ξ, u1, u2, u3, u4⟩ := ih n (tN U e p) (updN β (13 + (W * k + (W - (r + 1)))) (tV U e p)) ν2 (by omega) (by omega) t.2 (TkM0_ag T01 y3 (by omega) (fun k => by omega)) y2 (by rw [y3.i (by omega), x3.i (by omega)]; exact h0) (CN_ag x2 y3 (fun k hk => by omega))
        rw [y1, Option.bind_some, nI_1, show W - (r + 1) + 1 = W - r by omega]
        exact ⟨ξ, ((x3.mono (fun a k q => by omega)).tr (PM_PN (PB_PM y3))).tr u1, by rw [u2, y3.i (by omega), x3.i (by omega)], fun i => by rw [u3, y3.l (by omega), x3.l (by omega)], u4⟩
      · obtain ⟨ν, x1, x2, x3, x4⟩ := M_fail h0 (v := 4) (w := mI μ 141 15) 4 (tS U e p) rfl T.1
        have hb := bad_of x2 (by omega) (by omega)
        have nin : inR (nI (tV U e p)) 0 9 = false := by unfold inR; rw [nI_ti (by omega)]; exact decide_eq_false (by omega)
        rw [if_neg y, nin, if_neg (show ¬ (false = true) by decide), x1, Option.bind_some, if_neg hb.1, if_neg hb.2]
        exact ⟨ν, PM_PN x4, x4.i (by omega), fun i => x4.l (by omega), Or.inl ⟨(4, tS U e p), rfl, rfl, x2, x3, by show 1 ≤ 4; omega, by show 4 ≤ 7; omega⟩⟩
    · rw [if_neg (fun q => z ((eqL (n := 2) (by omega) (by decide)).mp q)), if_neg z]
      exact ⟨μ, Ag.rf, rfl, fun _ => rfl, Or.inr ⟨(p, β), rfl, rfl, h0, T0, T, C⟩⟩
theorem M_readAccount {s : BS} (hF : 2000000 ≤ F) (g : GM U e s μ) (h : mI μ 141 12 = 0) (hs : PI e s) (hK : tK U e s.1 ≠ 0) : ∃ ν, f_X12_readAccount F μ = some ν ∧ MO ν (accB U e s) (fun s' => GM U e s' ν) ∧ Ag PN μ ν := by
  obtain ⟨T0, T, C, N, L⟩ := id g
  obtain ⟨hp, w, h5, h6, h63, h128⟩ := id hs
  have w0 := w.1.1
  have w2 := w.1.2.2.1
  have r0 : rdA μ 146 2000 1600 = some (nI (s.2.1 0)) := CN_rd C (k := 0) (by omega) rfl
  unfold f_X12_readAccount accB
  simp only [jn]
  rw [r0, Option.bind_some]
  by_cases c5 : 5 ≤ s.2.1 0
  · obtain ⟨ν, x1, x2, x3, x4⟩ := M_fail h (v := 6) (w := mI μ 141 15) 6 (tS U e s.1) rfl T.1
    have hb := bad_of x2 (by omega) (by omega)
    rw [if_pos ((eqL (n := 5) (by omega) (by decide)).mpr (by show s.2.1 0 = 5; omega)), x1, Option.bind_some, if_neg hb.2, if_pos c5]
    exact ⟨ν, rfl, ⟨x2, x3, by show 1 ≤ 6; omega, by show 6 ≤ 7; omega⟩, PM_PN x4⟩
  · have hm : s.2.1 2 * s.2.1 0 + s.2.1 2 ≤ 25 := by
      have h1 : s.2.1 2 * s.2.1 0 ≤ 5 * 4 := Nat.mul_le_mul w2 (by omega)
      omega
    rw [if_neg (fun z => by have z2 : s.2.1 0 = 5 := (eqL (n := 5) (by omega) (by decide)).mp z; omega), if_pos (z0 h), if_neg c5]
    obtain ⟨ν1, x1, x2, x3⟩ := M_adv T0 T hp hF
    have t1 := tK0_le (U := U) hp hK
    have T01 := TkM0_ag T0 x3 (by omega) (fun k => by omega)
    have b1 : mI ν1 141 12 = 0 := by rw [x3.i (by omega)]; exact h
    have C1 := CN_ag C x3 (fun k hk => by omega)
    rw [x1, Option.bind_some, M_isName x2 (tL_le T0.1 t1.2), Option.bind_some]
    by_cases c1 : tM U e (tN U e s.1) = true
    · have t2 := tK0_le (U := U) t1.2 (by rw [(tM_K c1).1]; omega)
      have nmd := M_named (F := F) (β := s.2.1) (nm := s.2.2.1) (m := 4) (by omega) (show mA ν1 146 (400 * 4) = nI (s.2.1 0) from C1 0 (by omega)) w0 (fun a ha => by rw [x3.l (by omega)]; exact N a ha) hF (v := 4) rfl
      rw [tM_nameM x2 c1] at nmd
      have hf : fndF (fun a => decide (s.2.2.1 a = lN (tW U e (tN U e s.1)))) 0 (s.2.1 0) = fnm U e s.2.1 s.2.2.1 (tN U e s.1) := rfl
      rw [hf] at nmd
      rw [if_pos c1, if_pos c1, if_pos b1, nmd, Option.bind_some]
      cases hfn : fnm U e s.2.1 s.2.2.1 (tN U e s.1) with
      | some a =>
        have ha := (fndF_some hfn).2.1
        obtain ⟨ν, y1, y2, y3, y4⟩ := M_fail b1 (v := 3) (w := mI ν1 141 15) 3 (tS U e (tN U e s.1)) rfl x2.1
        have hb := bad_of y2 (by omega) (by omega)
        rw [oI_some, if_neg (nI_n0 (by omega)), y1, Option.bind_some, if_neg hb.2, if_neg (fun z => by cases z)]
        exact ⟨ν, rfl, ⟨y2, y3, by show 1 ≤ 3; omega, by show 3 ≤ 7; omega⟩, (PM_PN (PB_PM x3)).tr (PM_PN y4)⟩
      | none =>
        rw [if_pos (by decide), if_pos (z0 b1), if_pos rfl, tM_nameM x2 c1, Ladd, wrL_n (by show 20 + s.2.1 0 < 25; omega) (by omega), Option.bind_some]
        obtain ⟨ν2, hν2⟩ : ∃ ν2, ν2 = sL ν1 149 (20 + s.2.1 0) (lN (tW U e (tN U e s.1))) := ⟨_, rfl⟩
        rw [show sL ν1 149 (OfNat.ofNat 20 + s.2.1 0) (lN (tW U e (tN U e s.1))) = ν2 from hν2.symm]
        have A2 : Ag (fun a k => a = 149 ∧ k = 20 + s.2.1 0) ν1 ν2 := by rw [hν2]; exact Ag.sL ⟨rfl, rfl⟩
        have T02 := TkM0_ag T01 A2 (by omega) (fun k => by omega)
        obtain ⟨ν3, y1, y2, y3⟩ := M_adv T02 (TkM_ag x2 A2 (fun k h1 h2 => by omega)) t1.2 hF
        have T03 := TkM0_ag T02 y3 (by omega) (fun k => by omega)
        have b3 : mI ν3 141 12 = 0 := by rw [y3.i (by omega), A2.i (by omega)]; exact b1
        have A3 : Ag PN μ ν3 := ((PM_PN (PB_PM x3)).tr (A2.mono (fun a k q => by omega))).tr (PM_PN (PB_PM y3))
        have C3 : CN ν3 s.2.1 := CN_ag (CN_ag C1 A2 (fun k hk => by omega)) y3 (fun k hk => by omega)
        rw [y1, Option.bind_some, M_kindWord y2, Option.bind_some]
        have rest : ∀ kd : Nat, kd ≤ 1 → ∃ ν, ((f_X12_must F (if nI kd < 0 then (0 : Int32) else 1) ν3).bind fun μ21 => (rdA μ21 146 2000 1602).bind fun x22 => L_X12_readAccount_126 F (nI (s.2.1 0)) (nI kd) x22 (fun μ40 => (if (mI μ40 141 12) ≤ 0 then (wrA μ40 146 2000 ((1608 : Int32) + nI (s.2.1 0)) (nI kd)).bind fun μ41 => (rdA μ41 146 2000 1600).bind fun x42 => (wrA μ41 146 2000 1600 (x42 + (1 : Int32))).bind fun μ43 => some μ43 else some μ40)) F 0 μ21) = some ν ∧ MO ν (sb (dgS U e (s.2.1 2) (s.2.1 0) (s.2.1 2) (tN U e (tN U e (tN U e s.1))) s.2.1) fun x => (.inr (x.1, updN (updN x.2 (8 + s.2.1 0) kd) 0 (s.2.1 0 + 1), updJ s.2.2.1 (s.2.1 0) (lN (tW U e (tN U e s.1))), s.2.2.2) : Sum Flt BS)) (fun s' => GM U e s' ν) ∧ Ag PN μ ν := by
          intro kd hkd
          have t3 := tN_le (U := U) (p := tN U e (tN U e s.1)) t2.2
          obtain ⟨ν4, z1, z2, z3⟩ := M_must1 T03 y2 t2.2 hF b3 (v := 1) (by decide)
          have b4 : mI ν4 141 12 = 0 := by rw [z3.i (by omega)]; exact b3
          have C4 := CN_ag C3 z3 (fun k hk => by omega)
          have r2 : rdA ν4 146 2000 1602 = some (nI (s.2.1 2)) := CN_rd C4 (k := 2) (by omega) rfl
          rw [if_neg (nI_n0 (by omega)), z1, Option.bind_some, r2, Option.bind_some]
          obtain ⟨ν5, u1, u2, u3, u4⟩ := M_digits (U := U) (e := e) (F := F) hF (W := s.2.1 2) (k := s.2.1 0) (kd := kd) (v2 := nI kd) w2 hm (KK := fun μ40 => (if (mI μ40 141 12) ≤ 0 then (wrA μ40 146 2000 ((1608 : Int32) + nI (s.2.1 0)) (nI kd)).bind fun μ41 => (rdA μ41 146 2000 1600).bind fun x42 => (wrA μ41 146 2000 1600 (x42 + (1 : Int32))).bind fun μ43 => some μ43 else some μ40)) (s.2.1 2) F (tN U e (tN U e (tN U e s.1))) s.2.1 ν4 (Nat.le_refl _) (by omega) t3.2 (TkM0_ag T03 z3 (by omega) (fun k => by omega)) z2 b4 C4
          have A5 : Ag PN μ ν5 := (A3.tr (PM_PN (PB_PM z3))).tr u1
          rw [Nat.sub_self, nI_0] at u4
          rcases u4 with ⟨f, v1, v2, v3⟩ | ⟨x, v1, v2, v3, v4, v5, v6⟩
          · rw [v1, v2]
            exact ⟨ν5, rfl, v3, A5⟩
          · rw [v1, v2, if_pos (z0 v3)]
            obtain ⟨e1, e2, e3, e4⟩ := dg_ok t3.2 (Nat.le_refl _) v1
            obtain ⟨ν6, w1', w2', w3'⟩ := CN_wr v6 (k := 8 + s.2.1 0) (by omega) (v := (1608 : Int32) + nI (s.2.1 0)) (w := nI kd) (x := kd) (by rw [Ladd]; show nI (1608 + s.2.1 0) = _; congr 1; omega) rfl
            have x0 : updN x.2 (8 + s.2.1 0) kd 0 = s.2.1 0 := by rw [updN_ne (by omega), e3 0 (by omega)]
            have r60 : rdA ν6 146 2000 1600 = some (nI (updN x.2 (8 + s.2.1 0) kd 0)) := CN_rd w2' (k := 0) (by omega) rfl
            have r6 : rdA ν6 146 2000 1600 = some (nI (s.2.1 0)) := by rw [r60, x0]
            obtain ⟨ν7, q1, q2, q3⟩ := CN_wr w2' (k := 0) (by omega) (v := 1600) (w := nI (s.2.1 0) + 1) (x := s.2.1 0 + 1) rfl (nI_1 _)
            rw [w1', Option.bind_some, r6, Option.bind_some, q1]
            have A7 : Ag PN μ ν7 := (A5.tr (w3'.mono (fun a k q => by omega))).tr (q3.mono (fun a k q => by omega))
            refine ⟨ν7, rfl, ⟨by rw [q3.i (by omega), w3'.i (by omega)]; exact v3, TkM0_ag (TkM0_ag v4 w3' (by omega) (fun k => by omega)) q3 (by omega) (fun k => by omega), TkM_ag (TkM_ag v5 w3' (fun k h1 h2 => by omega)) q3 (fun k h1 h2 => by omega), q2, fun i hi => ?_, ?_⟩, A7⟩
            · have hi2 : i < s.2.1 0 + 1 := hi
              show mL ν7 149 (20 + i) = updJ s.2.2.1 (s.2.1 0) (lN (tW U e (tN U e s.1))) i
              rw [q3.l (by omega), w3'.l (by omega), u3, z3.l (by omega), y3.l (by omega)]
              unfold updJ
              by_cases z : i = s.2.1 0
              · rw [if_pos z, hν2, mL_sL, if_pos rfl, if_pos (by omega)]
              · rw [if_neg z, A2.l (by omega), x3.l (by omega)]; exact N i (by omega)
            · show TLM (mI ν7 141 25) s.2.2.2
              rw [q3.i (by omega), w3'.i (by omega), u2, z3.i (by omega), y3.i (by omega), A2.i (by omega), x3.i (by omega)]
              exact L
        by_cases c4 : tO U e (tN U e (tN U e s.1)) = some 4
        · have hko : kindO (tO U e (tN U e (tN U e s.1))) = some 0 := by unfold kindO; rw [if_pos c4]
          rw [if_pos c4, hko]
          exact rest 0 (by omega)
        · rw [if_neg c4]
          by_cases c6 : tO U e (tN U e (tN U e s.1)) = some 5
          · have hko : kindO (tO U e (tN U e (tN U e s.1))) = some 1 := by unfold kindO; rw [if_neg c4, if_pos c6]
            rw [if_pos c6, hko]
            exact rest 1 (by omega)
          · have hko : kindO (tO U e (tN U e (tN U e s.1))) = none := by unfold kindO; rw [if_neg c4, if_neg c6]
            obtain ⟨ν, z1, z2, z3, z4⟩ := M_must0 (F := F) y2 b3
            have hb := bad_of z2 unf_r.1 unf_r.2
            have C5 : CN ν s.2.1 := CN_ag C3 z4 (fun k hk => by omega)
            have r52 : rdA ν 146 2000 1602 = some (nI (s.2.1 2)) := CN_rd C5 (k := 2) (by omega) rfl
            rw [if_neg c6, hko, if_pos (by decide), z1, Option.bind_some, r52, Option.bind_some]
            have hl : ∀ KK : Mm → Option Mm, ∀ v1 v2 v3 v4, L_X12_readAccount_126 F v1 v2 v3 KK F v4 ν = KK ν := fun KK v1 v2 v3 v4 => by
              obtain ⟨n, hn⟩ : ∃ q, F = q + 1 := ⟨F - 1, by omega⟩
              rw [show L_X12_readAccount_126 F v1 v2 v3 KK F v4 ν = L_X12_readAccount_126 F v1 v2 v3 KK (n + 1) v4 ν by rw [← hn], L_X12_readAccount_126_s, if_neg hb.1]
            rw [hl, if_neg hb.2]
            exact ⟨ν, rfl, ⟨z2, z3, unf_r.1, unf_r.2⟩, A3.tr (PM_PN z4)⟩
    · obtain ⟨ν, y1, y2, y3, y4⟩ := M_amiss x2 b1
      have hb := bad_of y2 unf_r.1 unf_r.2
      rw [if_neg c1, if_neg c1, y1, Option.bind_some, if_neg hb.1, if_neg hb.2]
      exact ⟨ν, rfl, ⟨y2, y3, unf_r.1, unf_r.2⟩, (PM_PN (PB_PM x3)).tr (PM_PN y4)⟩
end BKM2
