/-! ===== what stood there: the class ===== -/
def wR (μ : Mm) (f : Nat → Nat) : Mm := (μ.1, μ.2.1, μ.2.2.1, μ.2.2.2.1, μ.2.2.2.2.1, f)
def TB (ν : Mm) (C L : Nat) (c : Nat → Nat) (l : Nat → Option Nat) : Prop := ∀ p, p < 110 → mA ν C p = nI (c p) ∧ ∀ x, l p = some x → mA ν L p = nI x
def RW (ν : Mm) (β : Nat → Nat) (a : Nat) (ρ : Nat → Nat) : Prop := Row ν 132 (cl β) ρ ∧ (∀ k, k < cl β → ρ k ≤ 9) ∧ (∀ k, k < cl β → ¬ (β 2 * a ≤ k ∧ k < β 2 * a + β 2) → ρ k = β (13 + k))
def T4 (C L C' L' : Nat) : Prop := (133 ≤ C ∧ C ≤ 136) ∧ (133 ≤ L ∧ L ≤ 136) ∧ (133 ≤ C' ∧ C' ≤ 136) ∧ (133 ≤ L' ∧ L' ≤ 136) ∧ C ≠ L ∧ C ≠ C' ∧ C ≠ L' ∧ L ≠ C' ∧ L ≠ L' ∧ C' ≠ L'
def RT (μ : Mm) (C L C' L' : Nat) : Prop := mR μ 4 = C ∧ mR μ 5 = L ∧ mR μ 6 = C' ∧ mR μ 7 = L'
theorem gPt_ok {x : Nat} (h : 133 ≤ x ∧ x ≤ 136) : gPt x = some x := by unfold gPt; rw [if_pos (by omega)]
section PASTX
variable {μ : Mm} {b : Nat} {β : Nat → Nat} {F a : Nat}
theorem TB_ag {ν : Mm} {P : Nat → Nat → Prop} {C L : Nat} {c : Nat → Nat} {l : Nat → Option Nat} (h : TB μ C L c l) (e : Ag P μ ν) (h1 : ∀ k, ¬ P C k) (h2 : ∀ k, ¬ P L k) : TB ν C L c l := fun p hp => ⟨by rw [e.a (h1 p)]; exact (h p hp).1, fun x hx => by rw [e.a (h2 p)]; exact (h p hp).2 x hx⟩
theorem RW_wr {ν : Mm} {ρ : Nat → Nat} (h : RW ν β a ρ) {k x : Nat} (h1 : β 2 * a ≤ k) (h2 : k < β 2 * a + β 2) (hx : x ≤ 9) : RW (sA ν 132 k (nI x)) β a (updN ρ k x) := by
  refine ⟨fun i hi => ?_, fun i hi => ?_, fun i hi q => ?_⟩
  · rw [mA_sA, if_pos rfl]
    by_cases e : i = k
    · rw [if_pos e, e, updN_eq]
    · rw [if_neg e, updN_ne e]; exact h.1 i hi
  · by_cases e : i = k
    · rw [e, updN_eq]; exact hx
    · rw [updN_ne e]; exact h.2.1 i hi
  · rw [updN_ne (by omega)]; exact h.2.2 i hi q
theorem RW_ag {ν : Mm} {P : Nat → Nat → Prop} {ρ : Nat → Nat} (h : RW μ β a ρ) (e : Ag P μ ν) (h1 : ∀ k, ¬ P 132 k) : RW ν β a ρ := ⟨fun i hi => by rw [e.a (h1 i)]; exact h.1 i hi, h.2⟩
theorem fillA {r N : Nat} {x : Int32} (hF : 2000000 ≤ F) (hN : N < 1000) : f_J7_fill_53178 F N r x μ = some (putA μ r (fun _ => x) 0 N) := by
  unfold f_J7_fill_53178
  refine iter2 (L := L_J7_fill_53178_5 F N r x _ _) (fun i => nI i) (fun i => putA μ r (fun _ => x) 0 i) (N := N) (by omega) (fun i hi n => ?_) (fun n => ?_)
  · rw [L_J7_fill_53178_5_s, putA_n, Nat.zero_add]
    show (if nI N ≤ nI i then _ else _) = _
    simp (disch := omega) only [Option.bind_some, bd_some, eqL, leL, ltL, Lle, Llt, addL, Ladd, Lmul, mulL, nIle, nIlt, nIeq, nI_add, pk_mul, wrA_n]
    rw [if_neg (by omega)]
  · rw [L_J7_fill_53178_5_s]
    show (if nI N ≤ nI N then _ else _) = _
    simp (disch := omega) only [Option.bind_some, bd_some, eqL, leL, ltL, Lle, Llt, addL, Ladd, Lmul, mulL, nIle, nIlt, nIeq, nI_add, pk_mul]
    rw [if_pos (by omega)]
theorem d10 {p : Nat} (hp : p < 2147483648) : nI p / (10 : Int32) = nI (p / 10) := pk_div (d := 10) (by omega) (by omega) (by omega)
theorem r10 {p : Nat} (hp : p < 2147483648) : nI p - nI p / (10 : Int32) * (10 : Int32) = nI (p % 10) := pk_rem (d := 10) (by omega) (by omega) (by omega)
theorem min_b {x c : Nat} (ha : x < 2147483648) (hc : c < 2147483648) : f_J9_min_7cf53 (nI x) (nI c) μ = some (nI (min x c)) := by
  unfold f_J9_min_7cf53
  congr 1
  by_cases e : c < x
  · rw [if_pos ((nIlt (by omega) (by omega)).mpr e), Nat.min_eq_right (by omega)]
  · rw [if_neg (fun z => e ((nIlt (by omega) (by omega)).mp z)), Nat.min_eq_left (by omega)]
theorem X_setPair (w : WF β) {ρ : Nat → Nat} (h : RW μ β a ρ) {m p : Nat} (hm : m < β 2) (ha : a < β 0) (hp : p < 110) (h0 : m = 0 → 100 ≤ p) (h1 : 0 < m → p < 100) : ∃ ν ρ', f_X7_setPair (nI (β 2 * a + m)) (nI p) μ = some ν ∧ RW ν β a ρ' ∧ ρ' (β 2 * a + m) = p % 10 ∧ (0 < m → ρ' (β 2 * a + m - 1) = p / 10) ∧ Ag (fun x _ => x = 132) μ ν := by
  have hc := w.cl_le
  have hk := pl_lt ha hm
  unfold f_X7_setPair
  have n10 : ¬ (10 : Int32) = 0 := by decide
  simp only [jn, n10, if_false]
  rw [r10 (by omega), d10 (by omega)]
  by_cases e : p / 10 = 10
  · have m0 : m = 0 := by
      by_cases q : m = 0
      · exact q
      · have := h1 (by omega); omega
    rw [if_pos ((eqL (n := 10) (by omega) (by decide)).mpr e), wrA_n (by omega) (by omega)]
    exact ⟨_, _, rfl, RW_wr h (by omega) (by omega) (by omega), updN_eq, fun q => by omega, Ag.sA rfl⟩
  · have m0 : 0 < m := by
      by_cases q : m = 0
      · have := h0 q; omega
      · omega
    have hp2 := h1 m0
    rw [if_neg (fun z => e ((eqL (n := 10) (by omega) (by decide)).mp z)), if_neg (fun z => by have z2 : β 2 * a + m ≤ 0 := (leL (n := 0) (by omega) (by decide)).mp z; omega), subL (by show 1 ≤ _; omega), wrA_n (by omega) (by omega), Option.bind_some, wrA_n (by omega) (by omega)]
    refine ⟨_, _, rfl, RW_wr (RW_wr h (k := β 2 * a + m - 1) (x := p / 10) (by omega) (by omega) (by omega)) (k := β 2 * a + m) (x := p % 10) (by omega) (by omega) (by omega), updN_eq, fun q => ?_, (Ag.sA (P := fun x _ => x = 132) rfl).tr (Ag.sA rfl)⟩
    rw [updN_ne (by omega), updN_eq]
theorem X_goOn (h : BX μ b β) (w : WF β) (hF : 2000000 ≤ F) (hb : b + 12 ≤ 107) (ha : a < β 0) {m p C L C' L' : Nat} (hm : m + 1 < β 2) (hp : p < 110) (T : T4 C L C' L') (hR : RT μ C L C' L') {ρ : Nat → Nat} (hρ : RW μ β a ρ) (h1 : TB μ C L (cT β a m) (lT β a m)) (h2 : TB μ C' L' (nC β a m (10 * p)) (nL β a m (10 * p))) : ∃ ν ρ', f_X7_goOn F b (nI (β 2 * a + m)) (nI p) μ = some ν ∧ RW ν β a ρ' ∧ TB ν C' L' (nC β a m (10 * (p + 1))) (nL β a m (10 * (p + 1))) ∧ Ag (fun x _ => x = 132 ∨ x = C' ∨ x = L') μ ν := by
  have hc := w.cl_le
  have w5 := w.1.2.2.1
  have hk := pl_lt ha (show m < β 2 by omega)
  have hk1 := pl_lt ha (show m + 1 < β 2 by omega)
  obtain ⟨T1, T2, T3, T4', T5, T6, T7, T8, T9, T10⟩ := T
  have cle := cT_le (β := β) (a := a) (m := m) (p := p) (by omega)
  unfold f_X7_goOn
  rw [hR.1, gPt_ok T1, Option.bind_some, rdA_n hp (by omega), (h1 p hp).1, Option.bind_some]
  by_cases e : cT β a m p = 0
  · refine ⟨μ, ρ, ?_, hρ, ?_, Ag.rf⟩
    · rw [if_pos (by rw [e]; rfl)]
    · intro n hn
      obtain ⟨q1, q2⟩ := n_skip (n := n) e 10 (by omega)
      rw [show 10 * (p + 1) = 10 * p + 10 by omega, q1, q2]
      exact h2 n hn
  · rw [if_neg (fun z => e ((eqL (n := 0) (by omega) (by decide)).mp z))]
    obtain ⟨q0, q1⟩ := cT_pair e
    obtain ⟨μ5, ρ5, s1, s2, s3, s4, s5⟩ := X_setPair w hρ (by omega) ha hp q0 q1
    rw [s1, Option.bind_some]
    cases hl : lT β a m p with
    | none => exact absurd (c0_iff.mpr hl) e
    | some l =>
      have hlt := lT_lt (by omega) hl
      have step : ∀ r v ν, r < 10 → (v = nI r ∧ (∃ ρ', RW ν β a ρ' ∧ ρ' (β 2 * a + m) = p % 10 ∧ (0 < m → ρ' (β 2 * a + m - 1) = p / 10)) ∧ TB ν C' L' (nC β a m (10 * p + r)) (nL β a m (10 * p + r)) ∧ Ag (fun x _ => x = 132 ∨ x = C' ∨ x = L') μ ν) → ∃ v' ν', (v' = nI (r + 1) ∧ (∃ ρ', RW ν' β a ρ' ∧ ρ' (β 2 * a + m) = p % 10 ∧ (0 < m → ρ' (β 2 * a + m - 1) = p / 10)) ∧ TB ν' C' L' (nC β a m (10 * p + (r + 1))) (nL β a m (10 * p + (r + 1))) ∧ Ag (fun x _ => x = 132 ∨ x = C' ∨ x = L') μ ν') ∧ ∀ k, L_X7_goOn_19 F b (nI (β 2 * a + m)) (nI p) (fun μ34 => some μ34) (k + 1) v ν = L_X7_goOn_19 F b (nI (β 2 * a + m)) (nI p) (fun μ34 => some μ34) k v' ν' := by
        rintro r v ν hr ⟨rfl, ⟨ρ1, r1, r2, r3⟩, i1, i2⟩
        have e1 : (10 * p + r) / 10 = p := by omega
        have e2 : (10 * p + r) % 10 = r := by omega
        obtain ⟨μ6, hμ6⟩ : ∃ μ6, μ6 = sA ν 132 (β 2 * a + m + 1) (nI r) := ⟨_, rfl⟩
        have r6 : RW μ6 β a (updN ρ1 (β 2 * a + m + 1) r) := by rw [hμ6]; exact RW_wr r1 (by omega) (by omega) (by omega)
        have A6 : Ag (fun x _ => x = 132 ∨ x = C' ∨ x = L') μ μ6 := by rw [hμ6]; exact i2.tr (Ag.sA (Or.inl rfl))
        have hx6 : BX μ6 b β := h.ag A6 (fun i hi _ => by omega)
        have R6 : RT μ6 C L C' L' := by unfold RT; rw [A6.2]; exact hR
        have i6 : TB μ6 C' L' (nC β a m (10 * p + r)) (nL β a m (10 * p + r)) := by rw [hμ6]; exact TB_ag i1 (Ag.sA (P := fun x _ => x = 132) rfl) (fun k => by omega) (fun k => by omega)
        have dr := X_drifted hx6 w hF r6.1 r6.2.1 hk
        have rd8 := hx6.rD w hk
        have ck : decide (becomes β (updN ρ1 (β 2 * a + m + 1) r) (β 2 * a + m) = β (13 + (β 2 * a + m))) = chq β a m p r := by
          refine row_chk w ha (g := gq m p r) (by omega) ?_ (fun q => ?_) (fun q => ?_) r6.2.2
          · rw [updN_ne (by omega), r2]; unfold gq; rw [if_neg (by omega), if_pos rfl]
          · rw [updN_ne (by omega), r3 q]; unfold gq; rw [if_pos (by omega)]
          · rw [updN_eq]; unfold gq; rw [if_neg (by omega), if_neg (by omega)]
        have hb9 : becomes β (updN ρ1 (β 2 * a + m + 1) r) (β 2 * a + m) ≤ 9 := becomes_le w (r6.2.1 _ hk)
        have hd9 := (w.2.2.1 (β 2 * a + m) (by omega)).1
        have rI : ∃ ρ', RW μ6 β a ρ' ∧ ρ' (β 2 * a + m) = p % 10 ∧ (0 < m → ρ' (β 2 * a + m - 1) = p / 10) := ⟨_, r6, by rw [updN_ne (by omega)]; exact r2, fun q => by rw [updN_ne (by omega)]; exact r3 q⟩
        have n9 : ¬ (9 : Int32) < nI r := fun z => by have z2 : 9 < r := (Llt (n := 9) (by omega) (by decide)).mp z; omega
        by_cases hq : chq β a m p r = true
        · have eqn := of_decide_eq_true (ck.trans hq)
          have hn : p % 10 * 10 + r < 110 := by omega
          have cce : cc β a m (10 * p + r) (p % 10 * 10 + r) = true := by unfold cc; rw [e1, e2, hq, decide_eq_true rfl]; rfl
          have nc1 : nC β a m (10 * p + (r + 1)) (p % 10 * 10 + r) = nC β a m (10 * p + r) (p % 10 * 10 + r) + cT β a m p := by rw [← Nat.add_assoc, nC_s, cce, e1, if_pos rfl]
          have ncl := nC_le (β := β) (a := a) (m := m) (t := 10 * p + r) (n := p % 10 * 10 + r) (by omega)
          have nl1 : nL β a m (10 * p + (r + 1)) (p % 10 * 10 + r) = omn (nL β a m (10 * p + r) (p % 10 * 10 + r)) (some (10 * l + r)) := by rw [← Nat.add_assoc, nL_s, cce, e1, hl, e2, if_pos rfl]; rfl
          have ccn : ∀ n, n ≠ p % 10 * 10 + r → cc β a m (10 * p + r) n = false := fun n hne => by unfold cc; rw [e1, e2, decide_eq_false hne, Bool.and_false]
          obtain ⟨t1, t2⟩ := i6 (p % 10 * 10 + r) hn
          have lv : nI l * (10 : Int32) + nI r = nI (10 * l + r) := by rw [mulL, nI_add, Nat.mul_comm]
          have ix : (nI p - nI p / (10 : Int32) * (10 : Int32)) * (10 : Int32) + nI r = nI (p % 10 * 10 + r) := by rw [r10 (by omega), mulL, nI_add]
          obtain ⟨R4, R5, R6', R7⟩ := R6
          have body : ∀ x k, ((wrA μ6 L' 110 (nI (p % 10 * 10 + r)) (nI x)).bind fun μ21 => (gPt (mR μ21 6)).bind fun b22 => (rdA μ21 b22 110 (nI (p % 10 * 10 + r))).bind fun x24 => (gPt (mR μ21 4)).bind fun b25 => (rdA μ21 b25 110 (nI p)).bind fun x27 => (wrA μ21 b22 110 (nI (p % 10 * 10 + r)) (x24 + x27)).bind fun μ28 => L_X7_goOn_19 F b (nI (β 2 * a + m)) (nI p) (fun μ34 => some μ34) k (nI r + 1) μ28) = L_X7_goOn_19 F b (nI (β 2 * a + m)) (nI p) (fun μ34 => some μ34) k (nI (r + 1)) (sA (sA μ6 L' (p % 10 * 10 + r) (nI x)) C' (p % 10 * 10 + r) (nI (nC β a m (10 * p + (r + 1)) (p % 10 * 10 + r)))) := by
            intro x k
            have g1 : mA (sA μ6 L' (p % 10 * 10 + r) (nI x)) C' (p % 10 * 10 + r) = nI (nC β a m (10 * p + r) (p % 10 * 10 + r)) := by rw [mA_ne (by omega)]; exact t1
            have g2 : mA (sA μ6 L' (p % 10 * 10 + r) (nI x)) C p = nI (cT β a m p) := by rw [mA_ne (by omega), A6.a (by omega)]; exact (h1 p hp).1
            rw [wrA_n hn (by omega), Option.bind_some, mR_sA, R6', gPt_ok T3, Option.bind_some, rdA_n hn (by omega), g1, Option.bind_some, R4, gPt_ok T1, Option.bind_some, rdA_n hp (by omega), g2, Option.bind_some, wrA_n hn (by omega), Option.bind_some, nI_add, nc1, nI_1]
          have fin : ∀ x, nL β a m (10 * p + (r + 1)) (p % 10 * 10 + r) = some x → TB (sA (sA μ6 L' (p % 10 * 10 + r) (nI x)) C' (p % 10 * 10 + r) (nI (nC β a m (10 * p + (r + 1)) (p % 10 * 10 + r)))) C' L' (nC β a m (10 * p + (r + 1))) (nL β a m (10 * p + (r + 1))) := by
            intro x hx n hn'
            by_cases en : n = p % 10 * 10 + r
            · subst en
              refine ⟨by rw [mA_sA, if_pos rfl, if_pos rfl], fun y hy => ?_⟩
              rw [hx] at hy
              cases hy
              rw [mA_ne (by omega), mA_sA, if_pos rfl, if_pos rfl]
            · obtain ⟨z1, z2⟩ := i6 n hn'
              refine ⟨?_, fun y hy => ?_⟩
              · rw [mA_sA, if_pos rfl, if_neg en, mA_ne (by omega), z1, ← Nat.add_assoc, nC_s, ccn n en, if_neg (by decide), Nat.add_zero]
              · rw [← Nat.add_assoc, nL_s, ccn n en, if_neg (by decide)] at hy
                rw [mA_ne (by omega), mA_sA, if_pos rfl, if_neg en]
                exact z2 y hy
          have Afin : ∀ x y : Int32, Ag (fun x _ => x = 132 ∨ x = C' ∨ x = L') μ (sA (sA μ6 L' (p % 10 * 10 + r) x) C' (p % 10 * 10 + r) y) := fun x y => (A6.tr (Ag.sA (Or.inr (Or.inr rfl)))).tr (Ag.sA (Or.inr (Or.inl rfl)))
          have rfin : ∀ x y : Int32, ∃ ρ', RW (sA (sA μ6 L' (p % 10 * 10 + r) x) C' (p % 10 * 10 + r) y) β a ρ' ∧ ρ' (β 2 * a + m) = p % 10 ∧ (0 < m → ρ' (β 2 * a + m - 1) = p / 10) := by
            intro x y
            obtain ⟨ρ', z1, z2, z3⟩ := rI
            exact ⟨ρ', RW_ag z1 (P := fun x _ => x = C' ∨ x = L') ((Ag.sA (Or.inr rfl)).tr (Ag.sA (Or.inl rfl))) (fun k => by omega), z2, z3⟩
          cases ho : nL β a m (10 * p + r) (p % 10 * 10 + r) with
          | none =>
            have hx : nL β a m (10 * p + (r + 1)) (p % 10 * 10 + r) = some (10 * l + r) := by rw [nl1, ho]; rfl
            refine ⟨nI (r + 1), _, ⟨rfl, rfin (nI (10 * l + r)) _, fin _ hx, Afin _ _⟩, fun k => ?_⟩
            rw [L_X7_goOn_19_s, if_neg n9, show nI (β 2 * a + m) + (1 : Int32) = nI (β 2 * a + m + 1) from nI_1 _, wrA_n (by omega) (by omega), Option.bind_some, ← hμ6, dr, Option.bind_some, rd8, Option.bind_some, if_pos (by rw [eqn]), if_neg (by decide), R5, gPt_ok T2, Option.bind_some, rdA_n hp (by omega), A6.a (by omega), (h1 p hp).2 l hl, Option.bind_some, R7, gPt_ok T4', Option.bind_some, R6', gPt_ok T3, Option.bind_some, ix, rdA_n hn (by omega), t1, Option.bind_some]
            simp only [jn]
            rw [if_pos (by rw [n0_iff.mpr ho]; rfl), lv]
            exact body _ k
          | some y =>
            have hy2 := nL_lt (by omega) ho
            have n0 : nC β a m (10 * p + r) (p % 10 * 10 + r) ≠ 0 := fun z => by rw [n0_iff.mp z] at ho; cases ho
            have hx : nL β a m (10 * p + (r + 1)) (p % 10 * 10 + r) = some (min y (10 * l + r)) := by rw [nl1, ho]; rfl
            refine ⟨nI (r + 1), _, ⟨rfl, rfin (nI (min y (10 * l + r))) _, fin _ hx, Afin _ _⟩, fun k => ?_⟩
            rw [L_X7_goOn_19_s, if_neg n9, show nI (β 2 * a + m) + (1 : Int32) = nI (β 2 * a + m + 1) from nI_1 _, wrA_n (by omega) (by omega), Option.bind_some, ← hμ6, dr, Option.bind_some, rd8, Option.bind_some, if_pos (by rw [eqn]), if_neg (by decide), R5, gPt_ok T2, Option.bind_some, rdA_n hp (by omega), A6.a (by omega), (h1 p hp).2 l hl, Option.bind_some, R7, gPt_ok T4', Option.bind_some, R6', gPt_ok T3, Option.bind_some, ix, rdA_n hn (by omega), t1, Option.bind_some]
            simp only [jn]
            rw [if_neg (fun z => n0 ((eqL (n := 0) (by omega) (by decide)).mp z)), Option.bind_some, rdA_n hn (by omega), t2 y ho, Option.bind_some, lv, min_b (by omega) (by omega), Option.bind_some]
            exact body _ k
        · have hq2 := bf hq
          have neq : ¬ nI (becomes β (updN ρ1 (β 2 * a + m + 1) r) (β 2 * a + m)) = nI (β (13 + (β 2 * a + m))) := fun z => by
            have z2 := (nIeq (by omega) (by omega)).mp z
            rw [decide_eq_true z2] at ck
            rw [← ck] at hq2
            cases hq2
          have ccn : ∀ n, cc β a m (10 * p + r) n = false := fun n => by unfold cc; rw [e1, e2, hq2, Bool.false_and]
          refine ⟨nI (r + 1), μ6, ⟨rfl, rI, fun n hn' => ?_, A6⟩, fun k => ?_⟩
          · obtain ⟨z1, z2⟩ := i6 n hn'
            refine ⟨?_, fun y hy => ?_⟩
            · rw [z1, ← Nat.add_assoc, nC_s, ccn n, if_neg (by decide), Nat.add_zero]
            · rw [← Nat.add_assoc, nL_s, ccn n, if_neg (by decide)] at hy
              exact z2 y hy
          · rw [L_X7_goOn_19_s, if_neg n9, show nI (β 2 * a + m) + (1 : Int32) = nI (β 2 * a + m + 1) from nI_1 _, wrA_n (by omega) (by omega), Option.bind_some, ← hμ6, dr, Option.bind_some, rd8, Option.bind_some, if_neg neq, nI_1]
      obtain ⟨v, ν, k, ⟨z1, ⟨ρ', z2, -, -⟩, z3, z4⟩, ee⟩ := iterI2 (L := L_X7_goOn_19 F b (nI (β 2 * a + m)) (nI p) (fun μ34 => some μ34)) (F := F) (N := 10) _ (by omega) step (a := 0) (b := μ5) ⟨rfl, ⟨ρ5, s2, s3, s4⟩, TB_ag h2 s5 (fun k => by omega) (fun k => by omega), s5.mono (fun x _ q => Or.inl q)⟩
      refine ⟨ν, ρ', ?_, z2, z3, z4⟩
      rw [ee, L_X7_goOn_19_s, z1, if_pos (by decide)]
theorem X_pairs (h : BX μ b β) (w : WF β) (hF : 2000000 ≤ F) (hb : b + 12 ≤ 107) (ha : a < β 0) {m C L C' L' : Nat} (hm : m + 1 < β 2) (T : T4 C L C' L') (hR : RT μ C L C' L') {ρ : Nat → Nat} (hρ : RW μ β a ρ) (h1 : TB μ C L (cT β a m) (lT β a m)) (h2 : TB μ C' L' (nC β a m 0) (nL β a m 0)) (kk : Mm → Option Mm) : ∃ ν ρ', L_X7_gather_99 F b (nI (β 2 * a)) (nI m) kk F 0 μ = kk ν ∧ RW ν β a ρ' ∧ TB ν C' L' (cT β a (m + 1)) (lT β a (m + 1)) ∧ Ag (fun x _ => x = 132 ∨ x = C' ∨ x = L') μ ν := by
  have T' := T
  obtain ⟨T1, T2, T3, T4', T5, T6, T7, T8, T9, T10⟩ := T
  have step : ∀ p v ν, p < 110 → (v = nI p ∧ (∃ ρ', RW ν β a ρ') ∧ TB ν C' L' (nC β a m (10 * p)) (nL β a m (10 * p)) ∧ Ag (fun x _ => x = 132 ∨ x = C' ∨ x = L') μ ν) → ∃ v' ν', (v' = nI (p + 1) ∧ (∃ ρ', RW ν' β a ρ') ∧ TB ν' C' L' (nC β a m (10 * (p + 1))) (nL β a m (10 * (p + 1))) ∧ Ag (fun x _ => x = 132 ∨ x = C' ∨ x = L') μ ν') ∧ ∀ k, L_X7_gather_99 F b (nI (β 2 * a)) (nI m) kk (k + 1) v ν = L_X7_gather_99 F b (nI (β 2 * a)) (nI m) kk k v' ν' := by
    rintro p v ν hp ⟨rfl, ⟨ρ1, r1⟩, i1, i2⟩
    obtain ⟨ξ, ρ2, x1, x2, x3, x4⟩ := X_goOn (h.ag i2 (fun i hi _ => by omega)) w hF hb ha hm hp T' (by unfold RT; rw [i2.2]; exact hR) r1 (TB_ag h1 i2 (fun k => by omega) (fun k => by omega)) i1
    refine ⟨nI (p + 1), ξ, ⟨rfl, ⟨ρ2, x2⟩, x3, i2.tr x4⟩, fun k => ?_⟩
    rw [L_X7_gather_99_s, if_neg (fun z => by have z2 : 110 ≤ p := (Lle (n := 110) (by omega) (by decide)).mp z; omega), nI_add, x1, Option.bind_some, nI_1]
  obtain ⟨v, ν, k, ⟨z1, ⟨ρ', z2⟩, z3, z4⟩, ee⟩ := iterI2 (L := L_X7_gather_99 F b (nI (β 2 * a)) (nI m) kk) (F := F) (N := 110) _ (by omega) step (a := 0) (b := μ) ⟨rfl, ⟨ρ, hρ⟩, h2, Ag.rf⟩
  refine ⟨ν, ρ', ?_, z2, fun n hn => ?_, z4⟩
  · rw [ee, L_X7_gather_99_s, z1, if_pos (by decide)]
  · have := z3 n hn
    rw [show 10 * 110 = 1100 from rfl, nC_all, nL_all] at this
    exact this
/-- the same memory but for P and the four tables' places -/
def AR (P : Nat → Nat → Prop) (μ ν : Mm) : Prop := Ag P μ (wR ν (mR μ)) ∧ ∀ i, i < 4 → mR ν i = mR μ i
theorem AR_tr {P : Nat → Nat → Prop} {μ ν ξ : Mm} (h : AR P μ ν) (h2 : Ag P ν ξ) : AR P μ ξ := ⟨h.1.tr (ξ := wR ξ (mR μ)) ⟨h2.1, rfl⟩, fun i hi => by rw [h2.2]; exact h.2 i hi⟩
abbrev PP (x : Nat) (_ : Nat) : Prop := 131 ≤ x ∧ x ≤ 136
theorem AR_bx {ν : Mm} (h : BX μ b β) (hb : b + 12 ≤ 107) (e : AR PP μ ν) : BX ν b β := h.ag (ν := wR ν (mR μ)) e.1 (fun i hi _ => by show ¬ (131 ≤ b + i ∧ b + i ≤ 136); omega)
theorem X_gather (h : BX μ b β) (w : WF β) (hF : 2000000 ≤ F) (hb : b + 12 ≤ 107) (ha : a < β 0) (hT : RefT μ) : ∃ ν, f_X7_gather F b (nI a) μ = some ν ∧ mI ν 131 0 = nI (cntF (pst β a) 0 (10 ^ β 2)) ∧ (∀ x, fndF (pst β a) 0 (10 ^ β 2) = some x → mI ν 131 1 = nI x) ∧ RefT ν ∧ AR PP μ ν := by
  have hc := w.cl_le
  have w2 := w.1.2.1
  have w5 := w.1.2.2.1
  -- the start
  obtain ⟨μ1, hμ1⟩ : ∃ μ1, μ1 = sI (sI (cpR μ (b + 8) 132 25) 131 0 0) 131 1 (-1) := ⟨_, rfl⟩
  have A1 : Ag PP μ μ1 := by rw [hμ1]; exact ((cpR_ag (fun k => ⟨by omega, by omega⟩)).tr (Ag.sI ⟨by omega, by omega⟩)).tr (Ag.sI ⟨by omega, by omega⟩)
  have rt4 := hT.1 4 (by omega) (by omega)
  have rt5 := hT.1 5 (by omega) (by omega)
  have ne45 := hT.2 4 5 (by omega) (by omega) (by omega)
  obtain ⟨C0, hC0⟩ : ∃ C, C = mR μ 4 := ⟨_, rfl⟩
  obtain ⟨L0, hL0⟩ : ∃ C, C = mR μ 5 := ⟨_, rfl⟩
  rw [← hC0, ← hL0] at ne45
  rw [← hC0] at rt4
  rw [← hL0] at rt5
  have rw1 : RW μ1 β a (dgs β) := ⟨fun k hk => by rw [hμ1, mA_sI, mA_sI, cpR_at (by omega)]; exact h.digits k hk, fun k hk => (w.2.2.1 k (by omega)).1, fun k hk _ => rfl⟩
  obtain ⟨μ2, hμ2⟩ : ∃ μ2, μ2 = putA μ1 C0 (fun _ => 0) 0 110 := ⟨_, rfl⟩
  have A2 : Ag (fun x _ => x = C0) μ1 μ2 := by rw [hμ2]; exact putA_ag (fun _ _ _ => rfl)
  have step1 : ∀ i v ν, i < 10 → (v = nI i ∧ (∀ p, p < 110 → mA ν C0 p = if 100 ≤ p ∧ p < 100 + i then nI 1 else nI 0) ∧ (∀ p, 100 ≤ p → p < 100 + i → mA ν L0 p = nI (p - 100)) ∧ Ag (fun x _ => x = C0 ∨ x = L0) μ2 ν) → ∃ v' ν', (v' = nI (i + 1) ∧ (∀ p, p < 110 → mA ν' C0 p = if 100 ≤ p ∧ p < 100 + (i + 1) then nI 1 else nI 0) ∧ (∀ p, 100 ≤ p → p < 100 + (i + 1) → mA ν' L0 p = nI (p - 100)) ∧ Ag (fun x _ => x = C0 ∨ x = L0) μ2 ν') ∧ ∀ kk k, L_X7_gather_35 F b (nI a) kk (k + 1) v ν = L_X7_gather_35 F b (nI a) kk k v' ν' := by
    rintro i v ν hi ⟨rfl, i1, i2, i3⟩
    have mr : ∀ q, mR ν q = mR μ q := fun q => by rw [i3.2, A2.2, A1.2]
    refine ⟨nI (i + 1), sA (sA ν C0 (100 + i) 1) L0 (100 + i) (nI i), ⟨rfl, fun p hp => ?_, fun p h1 h2 => ?_, (i3.tr (Ag.sA (Or.inl rfl))).tr (Ag.sA (Or.inr rfl))⟩, fun kk k => ?_⟩
    · rw [mA_ne ne45, mA_sA, if_pos rfl]
      by_cases e : p = 100 + i
      · rw [if_pos e, if_pos (by omega)]; rfl
      · rw [if_neg e, i1 p hp]
        by_cases q : 100 ≤ p ∧ p < 100 + i
        · rw [if_pos q, if_pos (by omega)]
        · rw [if_neg q, if_neg (by omega)]
    · rw [mA_sA, if_pos rfl]
      by_cases e : p = 100 + i
      · rw [if_pos e]; congr 1; omega
      · rw [if_neg e, mA_ne (Ne.symm ne45)]; exact i2 p h1 (by omega)
    · rw [L_X7_gather_35_s, if_neg (fun z => by have z2 : 9 < i := (Llt (n := 9) (by omega) (by decide)).mp z; omega), mr, ← hC0, gPt_ok rt4, Option.bind_some, Ladd, wrA_n (by show 100 + i < 110; omega) (by omega), Option.bind_some, mR_sA, mr, ← hL0, gPt_ok rt5, Option.bind_some, wrA_n (by show 100 + i < 110; omega) (by omega), Option.bind_some, nI_1]
  have i0 : ∀ p, p < 110 → mA μ2 C0 p = if 100 ≤ p ∧ p < 100 + 0 then nI 1 else nI 0 := fun p hp => by rw [hμ2, putA_mA, if_pos (by omega), if_neg (by omega)]; rfl
  -- the places
  have place : ∀ m v ν, m < β 2 - 1 → (v = nI m ∧ (∃ ρ, RW ν β a ρ) ∧ (∃ C L C' L', T4 C L C' L' ∧ RT ν C L C' L' ∧ TB ν C L (cT β a m) (lT β a m)) ∧ mI ν 131 0 = nI 0 ∧ AR PP μ ν) → ∃ v' ν', (v' = nI (m + 1) ∧ (∃ ρ, RW ν' β a ρ) ∧ (∃ C L C' L', T4 C L C' L' ∧ RT ν' C L C' L' ∧ TB ν' C L (cT β a (m + 1)) (lT β a (m + 1))) ∧ mI ν' 131 0 = nI 0 ∧ AR PP μ ν') ∧ ∀ k, L_X7_gather_77 F b (nI (β 2 * a)) (fun μ22 => L_X7_gather_136 F b (nI (β 2 * a)) (fun μ25 => some μ25) F 0 μ22) (k + 1) v ν = L_X7_gather_77 F b (nI (β 2 * a)) (fun μ22 => L_X7_gather_136 F b (nI (β 2 * a)) (fun μ25 => some μ25) F 0 μ22) k v' ν' := by
    rintro m v ν hm ⟨rfl, ⟨ρ, r1⟩, ⟨C, L, C', L', T, hR, hB⟩, hz, hA⟩
    have hx := AR_bx h hb hA
    have T' := T
    obtain ⟨T1, T2, T3, T4', T5, T6, T7, T8, T9, T10⟩ := T
    obtain ⟨ν1, hν1⟩ : ∃ ν1, ν1 = putA ν C' (fun _ => 0) 0 110 := ⟨_, rfl⟩
    have B1 : Ag (fun x _ => x = C') ν ν1 := by rw [hν1]; exact putA_ag (fun _ _ _ => rfl)
    have n0 : TB ν1 C' L' (nC β a m 0) (nL β a m 0) := fun p hp => ⟨by rw [hν1, putA_mA, if_pos (by omega), nC_0]; rfl, fun x hx => by rw [nL_0] at hx; cases hx⟩
    have R1 : RT ν1 C L C' L' := by unfold RT; rw [B1.2]; exact hR
    have hfun : ∀ kk : Mm → Option Mm, ∃ ν2 ρ', L_X7_gather_99 F b (nI (β 2 * a)) (nI m) kk F 0 ν1 = kk ν2 ∧ RW ν2 β a ρ' ∧ TB ν2 C' L' (cT β a (m + 1)) (lT β a (m + 1)) ∧ Ag (fun x _ => x = 132 ∨ x = C' ∨ x = L') ν1 ν2 := fun kk => X_pairs (hx.ag B1 (fun i hi _ => by omega)) w hF hb ha (by omega) T' R1 (RW_ag r1 B1 (fun k => by omega)) (TB_ag hB B1 (fun k => by omega) (fun k => by omega)) n0 kk
    -- the pairs' memory does not depend on what follows: take it once
    obtain ⟨ν2, ρ', y1, y2, y3, y4⟩ := hfun (fun ξ => some ξ)
    have gen : ∀ kk : Mm → Option Mm, L_X7_gather_99 F b (nI (β 2 * a)) (nI m) kk F 0 ν1 = kk ν2 := by
      intro kk
      have key : ∀ n v ξ, L_X7_gather_99 F b (nI (β 2 * a)) (nI m) kk n v ξ = (L_X7_gather_99 F b (nI (β 2 * a)) (nI m) (fun ξ => some ξ) n v ξ).bind kk := by
        intro n
        induction n with
        | zero => intro v ξ; rfl
        | succ n ih =>
          intro v ξ
          rw [L_X7_gather_99_s, L_X7_gather_99_s]
          split
          · rfl
          · cases f_X7_goOn F b (nI (β 2 * a) + nI m) v ξ with
            | none => rfl
            | some ζ => exact ih _ _
      rw [key, y1]
      rfl
    have R2 : RT ν2 C L C' L' := by unfold RT; rw [y4.2]; exact R1
    obtain ⟨S4, S5, S6, S7⟩ := R2
    obtain ⟨ν3, hν3⟩ : ∃ ν3, ν3 = sR (sR (sR (sR ν2 4 C') 6 C) 5 L') 7 L := ⟨_, rfl⟩
    have sw : f_X7_swapTables ν2 = some ν3 := by
      unfold f_X7_swapTables
      have m5 : mR (sR (sR ν2 4 C') 6 C) 5 = L := S5
      have m7 : mR (sR (sR ν2 4 C') 6 C) 7 = L' := S7
      rw [S4, gPt_ok T1, Option.bind_some, S6, gPt_ok T3, Option.bind_some, m5, gPt_ok T2, Option.bind_some, m7, gPt_ok T4', Option.bind_some, hν3]
    have hA3 : AR PP μ ν3 := by
      have q : AR PP μ ν2 := AR_tr (AR_tr hA (B1.mono (fun x _ z => ⟨by omega, by omega⟩))) (y4.mono (fun x _ z => ⟨by omega, by omega⟩))
      rw [hν3]
      exact ⟨q.1, fun i hi => by
        rw [← q.2 i hi, mR_sR, if_neg (by omega), mR_sR, if_neg (by omega), mR_sR, if_neg (by omega), mR_sR, if_neg (by omega)]⟩
    refine ⟨nI (m + 1), ν3, ⟨rfl, ⟨ρ', by rw [hν3]; exact y2⟩, ⟨C', L', C, L, ⟨T3, T4', T1, T2, T10, Ne.symm T6, Ne.symm T8, Ne.symm T7, Ne.symm T9, T5⟩, by rw [hν3]; exact ⟨rfl, rfl, rfl, rfl⟩, by rw [hν3]; exact y3⟩, ?_, hA3⟩, fun k => ?_⟩
    · have : mI ν3 131 0 = mI ν2 131 0 := by rw [hν3]; rfl
      rw [this, y4.i (by omega), B1.i (by omega)]; exact hz
    · rw [L_X7_gather_77_s, hx.wide, subL (by show 1 ≤ β 2; omega), if_neg (fun z => by have := (nIle (by omega) (by omega)).mp z; omega), hR.2.2.1, gPt_ok T3, Option.bind_some, fillA hF (by omega), ← hν1, Option.bind_some, gen, sw, Option.bind_some, nI_1]
  -- the last place
  have last : ∀ p v ν, p < 110 → (v = nI p ∧ (∃ ρ, RW ν β a ρ) ∧ (∃ C L C' L', T4 C L C' L' ∧ RT ν C L C' L' ∧ TB ν C L (cT β a (β 2 - 1)) (lT β a (β 2 - 1))) ∧ mI ν 131 0 = nI (fC β a (β 2 - 1) p) ∧ (∀ x, fL β a (β 2 - 1) p = some x → mI ν 131 1 = nI x) ∧ AR PP μ ν) → ∃ v' ν', (v' = nI (p + 1) ∧ (∃ ρ, RW ν' β a ρ) ∧ (∃ C L C' L', T4 C L C' L' ∧ RT ν' C L C' L' ∧ TB ν' C L (cT β a (β 2 - 1)) (lT β a (β 2 - 1))) ∧ mI ν' 131 0 = nI (fC β a (β 2 - 1) (p + 1)) ∧ (∀ x, fL β a (β 2 - 1) (p + 1) = some x → mI ν' 131 1 = nI x) ∧ AR PP μ ν') ∧ ∀ k, L_X7_gather_136 F b (nI (β 2 * a)) (fun μ25 => some μ25) (k + 1) v ν = L_X7_gather_136 F b (nI (β 2 * a)) (fun μ25 => some μ25) k v' ν' := by
    rintro p v ν hp ⟨rfl, ⟨ρ, r1⟩, ⟨C, L, C', L', T, hR, hB⟩, hz, hz1, hA⟩
    have hx := AR_bx h hb hA
    have T' := T
    obtain ⟨T1, T2, T3, T4', T5, T6, T7, T8, T9, T10⟩ := T
    have hk := pl_lt ha (show β 2 - 1 < β 2 by omega)
    have cle := cT_le (β := β) (a := a) (m := β 2 - 1) (p := p) (by omega)
    have n110 : ¬ (110 : Int32) ≤ nI p := fun z => by have z2 : 110 ≤ p := (Lle (n := 110) (by omega) (by decide)).mp z; omega
    have ix : nI (β 2 * a) + nI (β 2) - 1 = nI (β 2 * a + (β 2 - 1)) := by rw [nI_add, subL (by show 1 ≤ _; omega)]; congr 1; omega
    by_cases e : cT β a (β 2 - 1) p = 0
    · refine ⟨nI (p + 1), ν, ⟨rfl, ⟨ρ, r1⟩, ⟨C, L, C', L', T', hR, hB⟩, ?_, fun x hx => ?_, hA⟩, fun k => ?_⟩
      · rw [hz, fC_s, e]; split <;> rfl
      · rw [fL_s, c0_iff.mp e] at hx
        apply hz1
        split at hx
        · rw [omn_none] at hx; exact hx
        · exact hx
      · rw [L_X7_gather_136_s, if_neg n110, hx.wide, ix]
        unfold f_X7_finish
        rw [hR.1, gPt_ok T1, Option.bind_some, rdA_n hp (by omega), (hB p hp).1, Option.bind_some, if_pos (by rw [e]; rfl), Option.bind_some, nI_1]
    · obtain ⟨q0, q1⟩ := cT_pair e
      obtain ⟨μ5, ρ5, s1, s2, s3, s4, s5⟩ := X_setPair w r1 (m := β 2 - 1) (by omega) ha hp q0 q1
      have A5 : AR PP μ μ5 := AR_tr hA (s5.mono (fun x _ z => ⟨by omega, by omega⟩))
      have hx5 := AR_bx h hb A5
      have R5 : RT μ5 C L C' L' := by unfold RT; rw [s5.2]; exact hR
      have B5 : TB μ5 C L (cT β a (β 2 - 1)) (lT β a (β 2 - 1)) := TB_ag hB s5 (fun k => by omega) (fun k => by omega)
      have dr := X_drifted hx5 w hF s2.1 s2.2.1 hk
      have rd8 := hx5.rD w hk
      have z0 : mI μ5 131 0 = nI (fC β a (β 2 - 1) p) := by rw [s5.i (by omega)]; exact hz
      have fle := fC_le (β := β) (a := a) (m := β 2 - 1) (t := p) (by omega)
      have ck : decide (becomes β ρ5 (β 2 * a + (β 2 - 1)) = β (13 + (β 2 * a + (β 2 - 1)))) = chq β a (β 2 - 1) p 0 := by
        refine row_chk w ha (g := gq (β 2 - 1) p 0) (by omega) ?_ (fun q => ?_) (fun q => by omega) s2.2.2
        · rw [s3]; unfold gq; rw [if_neg (by omega), if_pos rfl]
        · rw [s4 q]; unfold gq; rw [if_pos (by omega)]
      have hb9 : becomes β ρ5 (β 2 * a + (β 2 - 1)) ≤ 9 := becomes_le w (s2.2.1 _ hk)
      have hd9 := (w.2.2.1 (β 2 * a + (β 2 - 1)) (by omega)).1
      have pre : ∀ k, L_X7_gather_136 F b (nI (β 2 * a)) (fun μ25 => some μ25) (k + 1) (nI p) ν = ((f_X0_drifted F b 132 (nI (β 2 * a + (β 2 - 1))) μ5).bind fun x6 => (rdA μ5 (b + 8) 25 (nI (β 2 * a + (β 2 - 1)))).bind fun x7 => (if x6 = x7 then jn (fun (a11 : Int32) => (gPt (mR (sI μ5 131 1 a11) 4)).bind fun b12 => (rdA (sI μ5 131 1 a11) b12 110 (nI p)).bind fun x14 => some (sI (sI μ5 131 1 a11) 131 0 ((mI (sI μ5 131 1 a11) 131 0) + x14))) fun K10 => (if (mI μ5 131 0) = 0 then (gPt (mR μ5 5)).bind fun b20 => (rdA μ5 b20 110 (nI p)).bind fun x22 => K10 x22 else (gPt (mR μ5 5)).bind fun b16 => (rdA μ5 b16 110 (nI p)).bind fun x18 => (f_J9_min_7cf53 (mI μ5 131 1) x18 μ5).bind fun x19 => K10 x19) else some μ5)).bind fun μ24 => L_X7_gather_136 F b (nI (β 2 * a)) (fun μ25 => some μ25) k (nI (p + 1)) μ24 := by
        intro k
        rw [L_X7_gather_136_s, if_neg n110, hx.wide, ix]
        unfold f_X7_finish
        rw [hR.1, gPt_ok T1, Option.bind_some, rdA_n hp (by omega), (hB p hp).1, Option.bind_some, if_neg (fun z => e ((eqL (n := 0) (by omega) (by decide)).mp z)), s1, Option.bind_some, nI_1]
      cases hl : lT β a (β 2 - 1) p with
      | none => exact absurd (c0_iff.mpr hl) e
      | some l =>
        have hlt := lT_lt (by omega) hl
        have rL : rdA μ5 L 110 (nI p) = some (nI l) := by rw [rdA_n hp (by omega), (B5 p hp).2 l hl]
        by_cases hq : chq β a (β 2 - 1) p 0 = true
        · have eqn := of_decide_eq_true (ck.trans hq)
          have body : ∀ x : Nat, ((gPt (mR (sI μ5 131 1 (nI x)) 4)).bind fun b12 => (rdA (sI μ5 131 1 (nI x)) b12 110 (nI p)).bind fun x14 => some (sI (sI μ5 131 1 (nI x)) 131 0 ((mI (sI μ5 131 1 (nI x)) 131 0) + x14))) = some (sI (sI μ5 131 1 (nI x)) 131 0 (nI (fC β a (β 2 - 1) (p + 1)))) := by
            intro x
            have m0 : mI (sI μ5 131 1 (nI x)) 131 0 = nI (fC β a (β 2 - 1) p) := z0
            rw [mR_sI, R5.1, gPt_ok T1, Option.bind_some, rdA_n hp (by omega), mA_sI, (B5 p hp).1, Option.bind_some, m0, nI_add, fC_s, if_pos hq]
          have Af : ∀ x y : Int32, AR PP μ (sI (sI μ5 131 1 x) 131 0 y) := fun x y => AR_tr A5 ((Ag.sI ⟨by omega, by omega⟩).tr (Ag.sI ⟨by omega, by omega⟩))
          have inv : ∀ x : Nat, fL β a (β 2 - 1) (p + 1) = some x → (nI (p + 1) = nI (p + 1) ∧ (∃ ρ, RW (sI (sI μ5 131 1 (nI x)) 131 0 (nI (fC β a (β 2 - 1) (p + 1)))) β a ρ) ∧ (∃ C L C' L', T4 C L C' L' ∧ RT (sI (sI μ5 131 1 (nI x)) 131 0 (nI (fC β a (β 2 - 1) (p + 1)))) C L C' L' ∧ TB (sI (sI μ5 131 1 (nI x)) 131 0 (nI (fC β a (β 2 - 1) (p + 1)))) C L (cT β a (β 2 - 1)) (lT β a (β 2 - 1))) ∧ mI (sI (sI μ5 131 1 (nI x)) 131 0 (nI (fC β a (β 2 - 1) (p + 1)))) 131 0 = nI (fC β a (β 2 - 1) (p + 1)) ∧ (∀ y, fL β a (β 2 - 1) (p + 1) = some y → mI (sI (sI μ5 131 1 (nI x)) 131 0 (nI (fC β a (β 2 - 1) (p + 1)))) 131 1 = nI y) ∧ AR PP μ (sI (sI μ5 131 1 (nI x)) 131 0 (nI (fC β a (β 2 - 1) (p + 1))))) := fun x hx => ⟨rfl, ⟨ρ5, s2⟩, ⟨C, L, C', L', T', R5, B5⟩, rfl, fun y hy => by rw [hx] at hy; cases hy; rfl, Af _ _⟩
          cases ho : fL β a (β 2 - 1) p with
          | none =>
            have hx2 : fL β a (β 2 - 1) (p + 1) = some l := by rw [fL_s, if_pos hq, ho, hl]; rfl
            refine ⟨nI (p + 1), _, inv l hx2, fun k => ?_⟩
            rw [pre, dr, Option.bind_some, rd8, Option.bind_some, if_pos (by rw [eqn])]
            simp only [jn]
            rw [z0, if_pos (by rw [f0_iff.mpr ho]; rfl), R5.2.1, gPt_ok T2, Option.bind_some, rL, Option.bind_some, body, Option.bind_some]
          | some y =>
            have hy2 := fL_lt (by omega) ho
            have n0 : fC β a (β 2 - 1) p ≠ 0 := fun z => by rw [f0_iff.mp z] at ho; cases ho
            have hx2 : fL β a (β 2 - 1) (p + 1) = some (min y l) := by rw [fL_s, if_pos hq, ho, hl]; rfl
            have z1 : mI μ5 131 1 = nI y := by rw [s5.i (by omega)]; exact hz1 y ho
            refine ⟨nI (p + 1), _, inv (min y l) hx2, fun k => ?_⟩
            rw [pre, dr, Option.bind_some, rd8, Option.bind_some, if_pos (by rw [eqn])]
            simp only [jn]
            rw [z0, if_neg (fun z => n0 ((eqL (n := 0) (by omega) (by decide)).mp z)), R5.2.1, gPt_ok T2, Option.bind_some, rL, Option.bind_some, z1, min_b (by omega) (by omega), Option.bind_some, body, Option.bind_some]
        · have hq2 := bf hq
          have neq : ¬ nI (becomes β ρ5 (β 2 * a + (β 2 - 1))) = nI (β (13 + (β 2 * a + (β 2 - 1)))) := fun z => by
            have z2 := (nIeq (by omega) (by omega)).mp z
            rw [decide_eq_true z2] at ck
            rw [← ck] at hq2
            cases hq2
          refine ⟨nI (p + 1), μ5, ⟨rfl, ⟨ρ5, s2⟩, ⟨C, L, C', L', T', R5, B5⟩, ?_, fun x hx => ?_, A5⟩, fun k => ?_⟩
          · rw [z0, fC_s, if_neg hq, Nat.add_zero]
          · rw [fL_s, if_neg hq] at hx
            rw [s5.i (by omega)]; exact hz1 x hx
          · rw [pre, dr, Option.bind_some, rd8, Option.bind_some, if_neg neq, Option.bind_some]
  -- all of it
  unfold f_X7_gather
  have cp : cpA μ (b + 8) 25 0 132 25 0 25 = some (cpR μ (b + 8) 132 25) := cpA_25
  rw [cp, Option.bind_some, ← hμ1, A1.2, ← hC0, gPt_ok rt4, Option.bind_some, fillA hF (by omega), ← hμ2, Option.bind_some]
  obtain ⟨v, ν, k, ⟨y1, y2, y3, y4⟩, ee⟩ := iterI2 (L := L_X7_gather_35 F b (nI a) (fun μ12 => L_X7_gather_77 F b (nI a * (mI μ12 b 0)) (fun μ22 => L_X7_gather_136 F b (nI a * (mI μ12 b 0)) (fun μ25 => some μ25) F 0 μ22) F 0 μ12)) (F := F) (N := 10) (fun i v ν => v = nI i ∧ (∀ p, p < 110 → mA ν C0 p = if 100 ≤ p ∧ p < 100 + i then nI 1 else nI 0) ∧ (∀ p, 100 ≤ p → p < 100 + i → mA ν L0 p = nI (p - 100)) ∧ Ag (fun x _ => x = C0 ∨ x = L0) μ2 ν) (by omega) (fun i v ν hi hI => by obtain ⟨v', ν', z1, z2⟩ := step1 i v ν hi hI; exact ⟨v', ν', z1, fun n => z2 _ n⟩) (a := 0) (b := μ2) ⟨rfl, i0, fun p h1 h2 => by omega, Ag.rf⟩
  have B0 : TB ν C0 L0 (cT β a 0) (lT β a 0) := fun p hp => ⟨by
    rw [y2 p hp, cT_0 hp]
    by_cases q : 100 ≤ p
    · rw [if_pos (by omega), if_pos q]
    · rw [if_neg (by omega), if_neg q], fun x hx => by
    rw [lT_0 hp] at hx
    by_cases q : 100 ≤ p
    · rw [if_pos q] at hx; cases hx; exact y3 p q (by omega)
    · rw [if_neg q] at hx; cases hx⟩
  have Aν : Ag PP μ ν := (A1.tr (A2.mono (fun x _ z => ⟨by omega, by omega⟩))).tr (y4.mono (fun x _ z => ⟨by omega, by omega⟩))
  have hxν : BX ν b β := h.ag Aν (fun i hi _ => by show ¬ (131 ≤ b + i ∧ b + i ≤ 136); omega)
  have rt6 := hT.1 6 (by omega) (by omega)
  have rt7 := hT.1 7 (by omega) (by omega)
  have T0 : T4 C0 L0 (mR μ 6) (mR μ 7) := ⟨rt4, rt5, rt6, rt7, ne45, by rw [hC0]; exact hT.2 4 6 (by omega) (by omega) (by omega), by rw [hC0]; exact hT.2 4 7 (by omega) (by omega) (by omega), by rw [hL0]; exact hT.2 5 6 (by omega) (by omega) (by omega), by rw [hL0]; exact hT.2 5 7 (by omega) (by omega) (by omega), hT.2 6 7 (by omega) (by omega) (by omega)⟩
  have z131 : mI ν 131 0 = nI 0 := by rw [y4.i (by omega), A2.i (by omega), hμ1]; rfl
  rw [ee, L_X7_gather_35_s, y1, if_pos (by decide), hxν.wide, pk_mul, Nat.mul_comm a]
  obtain ⟨v2, ν2, k2, ⟨u1, u2, ⟨C, L, C', L', u3, u4, u5⟩, u6, u7⟩, ee2⟩ := iterI2 (L := L_X7_gather_77 F b (nI (β 2 * a)) (fun μ22 => L_X7_gather_136 F b (nI (β 2 * a)) (fun μ25 => some μ25) F 0 μ22)) (F := F) (N := β 2 - 1) _ (by omega) place (a := 0) (b := ν) ⟨rfl, ⟨dgs β, RW_ag (RW_ag rw1 A2 (fun k => by omega)) y4 (fun k => by omega)⟩, ⟨C0, L0, mR μ 6, mR μ 7, T0, ⟨by rw [Aν.2, hC0], by rw [Aν.2, hL0], by rw [Aν.2], by rw [Aν.2]⟩, B0⟩, z131, ⟨⟨Aν.1, rfl⟩, fun i hi => by rw [Aν.2]⟩⟩
  have hx2 := AR_bx h hb u7
  rw [ee2, L_X7_gather_77_s, u1, hx2.wide, subL (by show 1 ≤ β 2; omega), if_pos ((nIle (by omega) (by omega)).mpr (by omega))]
  obtain ⟨v3, ν3, k3, ⟨t1, t2, ⟨D1, D2, D3, D4, t3, t4, t5⟩, t6, t7, t8⟩, ee3⟩ := iterI2 (L := L_X7_gather_136 F b (nI (β 2 * a)) (fun μ25 => some μ25)) (F := F) (N := 110) _ (by omega) last (a := 0) (b := ν2) ⟨rfl, u2, ⟨C, L, C', L', u3, u4, u5⟩, by rw [fC_0]; exact u6, fun x hx => (by rw [fL_0] at hx; cases hx), u7⟩
  refine ⟨ν3, ?_, ?_, ?_, ?_, t8⟩
  · rw [ee3, L_X7_gather_136_s, t1, if_pos (by decide)]
  · rw [t6, fC_all w ha]
  · intro x hx; rw [← fL_all w ha] at hx; exact t7 x hx
  · obtain ⟨s4, s5, s6, s7⟩ := t4
    obtain ⟨T1, T2, T3, T4', T5, T6, T7, T8, T9, T10⟩ := t3
    constructor
    · intro i h1 h2
      have : i = 4 ∨ i = 5 ∨ i = 6 ∨ i = 7 := by omega
      rcases this with rfl | rfl | rfl | rfl
      · rw [s4]; exact T1
      · rw [s5]; exact T2
      · rw [s6]; exact T3
      · rw [s7]; exact T4'
    · intro i j h1 h2 h3
      have hi : i = 4 ∨ i = 5 ∨ i = 6 := by omega
      have hj : j = 5 ∨ j = 6 ∨ j = 7 := by omega
      rcases hi with rfl | rfl | rfl <;> rcases hj with rfl | rfl | rfl <;> omega
end PASTX
