/-! ===== marks ===== -/
def cpyA (μ : Mm) (m m' : Nat) (p : Nat) : Int32 := mA μ 146 (400 * m + (p - 400 * m'))
def cpyL (μ : Mm) (m m' : Nat) (p : Nat) : Int64 := mL μ 149 (5 * m + (p - 5 * m'))
/-- nights copied -/
def tkN (μ : Mm) (n c : Nat) : Mm := cpR (cpR (cpR (cpR (cpR (sI (sI (sI μ n 0 (mI μ c 0)) n 1 (mI μ c 1)) n 2 (mI μ c 2)) (c + 1) (n + 1) 60) (c + 2) (n + 2) 60) (c + 3) (n + 3) 60) (c + 4) (n + 4) 60) (c + 5) (n + 5) 60
section MARKS
variable {μ : Mm} {F : Nat}
theorem M_copy {m m' : Nat} (hm : m ≤ 4) (hm' : m' ≤ 4) (hne : m ≠ m') (hF : 2000000 ≤ F) : f_X12_copy F (nI m) (nI m') μ = some (putL (putA μ 146 (cpyA μ m m') (400 * m') 400) 149 (cpyL μ m m') (5 * m') 5) := by
  unfold f_X12_copy
  refine iter2 (L := L_X12_copy_2 F (nI m) (nI m') _) (fun i => nI i) (fun i => putA μ 146 (cpyA μ m m') (400 * m') i) (N := 400) (by omega) (fun i hi n => ?_) (fun n => ?_)
  · have hr : rdA (putA μ 146 (cpyA μ m m') (400 * m') i) 146 2000 (nI (400 * m + i)) = some (cpyA μ m m' (400 * m' + i)) := by
      rw [rdA_n (by omega) (by omega), putA_mA, if_neg (by omega)]
      unfold cpyA
      congr 2
      omega
    rw [L_X12_copy_2_s, putA_n]
    simp (disch := omega) only [Option.bind_some, bd_some, eqL, leL, ltL, Lle, Llt, addL, Ladd, Lmul, mulL, nIle, nIlt, nIeq, nI_add, pk_mul, hr, wrA_n]
    rw [if_neg (by omega)]
  · rw [L_X12_copy_2_s]
    simp (disch := omega) only [Option.bind_some, bd_some, eqL, leL, ltL, Lle, Llt, addL, Ladd, Lmul, mulL, nIle, nIlt, nIeq, nI_add, pk_mul]
    rw [if_pos (by omega)]
    refine iter2 (L := L_X12_copy_41 F (nI m) (nI m') _) (fun i => nI i) (fun i => putL (putA μ 146 (cpyA μ m m') (400 * m') 400) 149 (cpyL μ m m') (5 * m') i) (N := 5) (by omega) (fun i hi n => ?_) (fun n => ?_)
    · have hr : rdL (putL (putA μ 146 (cpyA μ m m') (400 * m') 400) 149 (cpyL μ m m') (5 * m') i) 149 25 (nI (5 * m + i)) = some (cpyL μ m m' (5 * m' + i)) := by
        rw [rdL_n (by omega) (by omega), putL_mL, if_neg (by omega), (putA_ag (P := fun a _ => a = 146) (fun _ _ _ => rfl)).l (by omega)]
        unfold cpyL
        congr 2
        omega
      rw [L_X12_copy_41_s, putL_n]
      simp (disch := omega) only [Option.bind_some, bd_some, eqL, leL, ltL, Lle, Llt, addL, Ladd, Lmul, mulL, nIle, nIlt, nIeq, nI_add, pk_mul, hr, wrL_n]
      rw [if_neg (by omega)]
    · rw [L_X12_copy_41_s]
      simp (disch := omega) only [Option.bind_some, bd_some, eqL, leL, ltL, Lle, Llt, addL, Ladd, Lmul, mulL, nIle, nIlt, nIeq, nI_add, pk_mul]
      rw [if_pos (by omega)]
theorem cp_ag {m m' : Nat} : Ag (fun a k => (a = 146 ∧ 400 * m' ≤ k ∧ k < 400 * m' + 400) ∨ (a = 149 ∧ 5 * m' ≤ k ∧ k < 5 * m' + 5)) μ (putL (putA μ 146 (cpyA μ m m') (400 * m') 400) 149 (cpyL μ m m') (5 * m') 5) := (putA_ag (fun k h1 h2 => Or.inl ⟨rfl, h1, by omega⟩)).tr (putL_ag (fun k h1 h2 => Or.inr ⟨rfl, h1, by omega⟩))
theorem cp_A {m m' k : Nat} (hk : k < 400) : mA (putL (putA μ 146 (cpyA μ m m') (400 * m') 400) 149 (cpyL μ m m') (5 * m') 5) 146 (400 * m' + k) = mA μ 146 (400 * m + k) := by
  rw [(putL_ag (P := fun a _ => a = 149) (fun _ _ _ => rfl)).a (by omega), putA_mA, if_pos (by omega)]
  unfold cpyA
  congr 1
  omega
theorem cp_L {m m' k : Nat} (hk : k < 5) : mL (putL (putA μ 146 (cpyA μ m m') (400 * m') 400) 149 (cpyL μ m m') (5 * m') 5) 149 (5 * m' + k) = mL μ 149 (5 * m + k) := by
  rw [putL_mL, if_pos (by omega)]
  unfold cpyL
  congr 1
  omega
theorem X_takeN {n c : Nat} (hd : n + 6 ≤ c ∨ c + 6 ≤ n) (h : mI μ c 0 = 0 ∨ mI μ c 0 = 1) : f_X5_takeFrom n c μ = some (tkN μ n c) := by
  have hne : c ≠ n := by omega
  unfold f_X5_takeFrom
  rw [if_pos h]
  simp (disch := omega) only [mI_ne hne]
  simp only [cpA_60, Option.bind_some]
  rfl
theorem tkN_ag {n c : Nat} : Ag (fun a _ => n ≤ a ∧ a < n + 6) μ (tkN μ n c) := by
  unfold tkN
  exact (((((((Ag.sI (by omega)).tr (Ag.sI (by omega))).tr (Ag.sI (by omega))).tr (cpR_ag (fun k => by omega))).tr (cpR_ag (fun k => by omega))).tr (cpR_ag (fun k => by omega))).tr (cpR_ag (fun k => by omega))).tr (cpR_ag (fun k => by omega))
theorem tkN_f {n c k : Nat} (hk : k < 3) : mI (tkN μ n c) n k = mI μ c k := by
  show mI (sI (sI (sI μ n 0 (mI μ c 0)) n 1 (mI μ c 1)) n 2 (mI μ c 2)) n k = _
  have h7 : k = 0 ∨ k = 1 ∨ k = 2 := by omega
  rcases h7 with rfl | rfl | rfl <;> simp [mI_sI]
theorem tkN_r {n c j k : Nat} (hd : n + 6 ≤ c ∨ c + 6 ≤ n) (h1 : 1 ≤ j) (h2 : j ≤ 5) (hk : k < 60) : mA (tkN μ n c) (n + j) k = mA μ (c + j) k := by
  unfold tkN
  have h5 : j = 1 ∨ j = 2 ∨ j = 3 ∨ j = 4 ∨ j = 5 := by omega
  rcases h5 with rfl | rfl | rfl | rfl | rfl <;> (simp (disch := omega) only [cpR_ne, cpR_at]; rfl)
theorem PG.cp {ξ : Mm} {b N m b' N' m' : Nat} {β : Nat → Nat} {nm : Nat → Int64} {ω : Nat → Nat → Int32} {σ : Nat → Int32} (h : PG μ b N m β nm ω σ) (h1 : BX ξ b' β) (h2 : ∀ k, k < 400 → mA ξ 146 (400 * m' + k) = mA μ 146 (400 * m + k)) (h3 : ∀ a, a < 5 → mL ξ (b' + 7) a = mL μ (b + 7) a) (h4 : ∀ a, a < 5 → mL ξ 149 (5 * m' + a) = mL μ 149 (5 * m + a)) (h5 : ∀ k, k < 3 → mI ξ N' k = mI μ N k) (h6 : ∀ j, 1 ≤ j → j ≤ 5 → ∀ k, k < 60 → mA ξ (N' + j) k = mA μ (N + j) k) : PG ξ b' N' m' β nm ω σ := by
  obtain ⟨q1, q2, q3, q4, q5, q6, q7, q8, q9, q10⟩ := h
  have w0 := q3.1.1
  exact ⟨h1, fun k hk => by rw [h2 k (by omega)]; exact q2 k hk, q3, q4, fun a ha => by rw [h3 a (by omega)]; exact q5 a ha, fun a ha => by rw [h4 a (by omega)]; exact q6 a ha, fun k hk => by rw [h5 k hk]; exact q7 k hk, fun j a1 a2 k hk => by rw [h6 j a1 a2 k hk]; exact q8 j a1 a2 k hk, fun k hk => by rw [h2 _ (by omega)]; exact q9 k hk, q10⟩
theorem R.gn {μ : Mm} (h : R μ) : gNt (mR μ 2) = some (mR μ 2) := by
  rcases h.rn with q | q <;> rw [q.1] <;> rfl
theorem R.gn1 {μ : Mm} (h : R μ) : gNt (mR μ 3) = some (mR μ 3) := by
  rcases h.rn with q | q <;> rw [q.2] <;> rfl
theorem NRel.b {c : Nat} {ω : Nat → Nat → Int32} {σ : Nat → Int32} (h : NRel c ω σ) : ω 0 0 = 0 ∨ ω 0 0 = 1 := by
  rcases h with h | h
  · exact Or.inl h.1
  · exact Or.inr h.1
theorem rdE_51 {m : Nat} (h : m < 3) : rdE 51 3 (nI m) = some (53 + 18 * m) := by
  rw [rdE_n h (by omega)]
  have : m = 0 ∨ m = 1 ∨ m = 2 := by omega
  rcases this with rfl | rfl | rfl <;> rfl
theorem rdE_52 {m : Nat} (h : m < 3) : rdE 52 3 (nI m) = some (65 + 18 * m) := by
  rw [rdE_n h (by omega)]
  have : m = 0 ∨ m = 1 ∨ m = 2 := by omega
  rcases this with rfl | rfl | rfl <;> rfl
theorem op_mark (h : R μ) (hF : 2000000 ≤ F) : Sm f_X11_mark (f_X12_mark F) μ := by
  obtain ⟨β, nm, ω, σ, pg⟩ := h.pg
  obtain ⟨m, hm, h03, h24, hk⟩ := h.mk
  have gb := h.gb
  have gn := h.gn
  have hrp := h.rp
  have hrn := h.rn
  unfold RefP at hrp
  unfold RefN at hrn
  by_cases e : m < 3
  · have nb := pg.nr.b
    rw [← pg.w0 0 (by omega)] at nb
    have hd : 53 + 18 * m + 12 ≤ mR μ 0 ∨ mR μ 0 + 12 ≤ 53 + 18 * m := by omega
    have hd2 : 65 + 18 * m + 6 ≤ mR μ 2 ∨ mR μ 2 + 6 ≤ 65 + 18 * m := by omega
    obtain ⟨ν1, hν1⟩ : ∃ ν1, ν1 = tk2 μ (53 + 18 * m) (mR μ 0) := ⟨_, rfl⟩
    have A1 : Ag (fun a _ => 53 + 18 * m ≤ a ∧ a < 53 + 18 * m + 11) μ ν1 := by rw [hν1]; exact tk2_ag
    have B1 : BX ν1 (53 + 18 * m) β := by rw [hν1]; exact tk2_bx pg.bx pg.wf hd
    have N1 : ∀ a, a < 5 → mL ν1 (53 + 18 * m + 7) a = mL μ (mR μ 0 + 7) a := fun a ha => by rw [hν1]; exact tk2_n hd ha
    obtain ⟨ν2, hν2⟩ : ∃ ν2, ν2 = tkN ν1 (65 + 18 * m) (mR μ 2) := ⟨_, rfl⟩
    have A2 : Ag (fun a _ => 65 + 18 * m ≤ a ∧ a < 65 + 18 * m + 6) ν1 ν2 := by rw [hν2]; exact tkN_ag
    have f2 : ∀ k, k < 3 → mI ν2 (65 + 18 * m) k = mI μ (mR μ 2) k := fun k hk => by rw [hν2, tkN_f hk, A1.i (by omega)]
    have r2 : ∀ j, 1 ≤ j → j ≤ 5 → ∀ k, k < 60 → mA ν2 (65 + 18 * m + j) k = mA μ (mR μ 2 + j) k := fun j h1 h2 k hk => by rw [hν2, tkN_r hd2 h1 h2 hk, A1.a (by omega)]
    have A12 : Ag (fun a k => 53 + 18 * m ≤ a ∧ a < 53 + 18 * m + 18) μ ν2 := (A1.mono (fun a k q => by omega)).tr (A2.mono (fun a k q => by omega))
    have hX : f_X11_mark μ = some (nI (m + 1), sI (sI ν2 0 3 (nI (m + 1))) 0 0 0) := by
      unfold f_X11_mark
      have g1 : gNt (mR ν1 2) = some (mR μ 2) := by rw [A1.2]; exact gn
      have m1 : mI ν1 0 3 = nI m := by rw [A1.i (by omega)]; exact h03
      have m2 : mI ν2 0 3 = nI m := by rw [A12.i (by omega)]; exact h03
      have nb1 : mI ν1 (mR μ 2) 0 = 0 ∨ mI ν1 (mR μ 2) 0 = 1 := by rw [A1.i (by omega)]; exact nb
      rw [h03, if_pos ((ltL (n := 3) (by omega) (by decide)).mpr e), rdE_51 e, Option.bind_some, gb, Option.bind_some, X_takeFrom hd, ← hν1, Option.bind_some, m1, rdE_52 e, Option.bind_some, g1, Option.bind_some, X_takeN hd2 nb1, ← hν2, Option.bind_some, m2, nI_1]
      rfl
    obtain ⟨ξ0, hξ0⟩ : ∃ ξ0, ξ0 = sI (sI (sI (sI (sI ν2 0 3 (nI (m + 1))) 0 0 0) 141 1 0) 141 0 0) 141 24 (nI (m + 1)) := ⟨_, rfl⟩
    have A3 : Ag (fun a k => (a = 0 ∧ (k = 0 ∨ k = 3)) ∨ (a = 141 ∧ (k = 0 ∨ k = 1 ∨ k = 24))) ν2 ξ0 := by
      rw [hξ0]
      exact ((((Ag.sI (by omega)).tr (Ag.sI (by omega))).tr (Ag.sI (by omega))).tr (Ag.sI (by omega))).tr (Ag.sI (by omega))
    obtain ⟨ξ, hξ⟩ : ∃ ξ, ξ = putL (putA ξ0 146 (cpyA ξ0 0 (m + 1)) (400 * (m + 1)) 400) 149 (cpyL ξ0 0 (m + 1)) (5 * (m + 1)) 5 := ⟨_, rfl⟩
    have A4 : Ag (fun a k => (a = 146 ∧ 400 * (m + 1) ≤ k ∧ k < 400 * (m + 1) + 400) ∨ (a = 149 ∧ 5 * (m + 1) ≤ k ∧ k < 5 * (m + 1) + 5)) ξ0 ξ := by rw [hξ]; exact cp_ag
    have cA : ∀ k, k < 400 → mA ξ 146 (400 * (m + 1) + k) = mA ξ0 146 (400 * 0 + k) := fun k hk => by rw [hξ]; exact cp_A hk
    have cL : ∀ k, k < 5 → mL ξ 149 (5 * (m + 1) + k) = mL ξ0 149 (5 * 0 + k) := fun k hk => by rw [hξ]; exact cp_L hk
    have s24 : mI ξ 141 24 = nI (m + 1) := by rw [A4.i (by omega), hξ0]; rfl
    have s0 : mI ξ 141 0 = 0 := by rw [A4.i (by omega), hξ0]; rfl
    have s03 : mI ξ 0 3 = nI (m + 1) := by rw [A4.i (by omega), hξ0]; rfl
    have s00 : mI ξ 0 0 = 0 := by rw [A4.i (by omega), hξ0]; rfl
    have hM : f_X12_mark F (sI (sI ν2 0 3 (nI (m + 1))) 0 0 0) = some (nI (m + 1), ξ) := by
      have m24 : mI (sI (sI (sI (sI ν2 0 3 (nI (m + 1))) 0 0 0) 141 1 0) 141 0 0) 141 24 = nI m := by
        show mI ν2 141 24 = _
        rw [A12.i (by omega)]
        exact h24
      unfold f_X12_mark
      rw [m24, if_neg (fun z => by have q : m = 3 := (eqL (n := 3) (by omega) (by decide)).mp z; omega), nI_1, ← hξ0]
      have m24' : mI ξ0 141 24 = nI (m + 1) := by rw [hξ0]; rfl
      have mc := M_copy (F := F) (μ := ξ0) (m := 0) (m' := m + 1) (by omega) (by omega) (by omega) hF
      rw [nI_0] at mc
      rw [m24', mc, ← hξ, Option.bind_some, s24]
    refine ⟨nI (m + 1), _, ξ, hX, hM, ?_⟩
    have A0 : Ag (fun a k => (a = 0 ∧ (k = 0 ∨ k = 3)) ∨ (a = 141 ∧ (k = 0 ∨ k = 1 ∨ k = 24)) ∨ (53 + 18 * m ≤ a ∧ a < 53 + 18 * m + 18) ∨ (a = 146 ∧ 400 * (m + 1) ≤ k ∧ k < 400 * (m + 1) + 400) ∨ (a = 149 ∧ 5 * (m + 1) ≤ k ∧ k < 5 * (m + 1) + 5)) μ ξ := ((A12.mono (fun a k q => by omega)).tr (A3.mono (fun a k q => by omega))).tr (A4.mono (fun a k q => by omega))
    have A34 : Ag (fun a k => a = 0 ∨ a = 141 ∨ a = 146 ∨ a = 149) ν2 ξ := (A3.mono (fun a k q => by omega)).tr (A4.mono (fun a k q => by omega))
    refine ⟨rp_ag h.rp A0, rn_ag h.rn A0, rt_ag h.rt A0, by rw [s00, s0], eq_agJ h.top A0 (by omega) (by omega), eq_agJ h.bot A0 (by omega) (by omega), tr_ag h.tr A0 (fun a k q => by omega), tp_ag h.tp A0 (by omega) (by omega) (fun k => by omega) (fun k => by omega), eq_agI h.fk A0 (by omega) (by omega), eq_agI h.fa A0 (by omega) (by omega), sw_ag h.sw A0 (fun k => by omega), pg_ag h.pg A0 (fun i hi k => by omega) (fun k hk => by omega) (fun j hj k => by omega) (fun a ha => by omega), ⟨m + 1, by omega, s03, s24, fun i hi => ?_⟩, lv_ag h.lv A0 (fun k h1 h2 => by omega) (by omega) (fun k => by omega)⟩
    by_cases ei : i = m
    · subst ei
      refine ⟨β, nm, ω, σ, pg.cp (B1.ag (P := fun a k => 65 + 18 * i ≤ a ∧ a < 65 + 18 * i + 6 ∨ a = 0 ∨ a = 141 ∨ a = 146 ∨ a = 149) ((A2.mono (fun a k q => by omega)).tr (A34.mono (fun a k q => by omega))) (fun j hj k => by omega)) (fun k hk => ?_) (fun a ha => ?_) (fun a ha => ?_) (fun k hk => ?_) (fun j h1 h2 k hk => ?_)⟩
      · rw [cA k hk, A3.a (by omega), A12.a (by omega)]
      · rw [A34.l (by omega), A2.l (by omega), N1 a ha]
      · rw [cL a ha, A3.l (by omega), A12.l (by omega)]
      · rw [A34.i (by omega), f2 k hk]
      · rw [A34.a (by omega), r2 j h1 h2 k hk]
    · obtain ⟨β', nm', ω', σ', q⟩ := hk i (by omega)
      exact ⟨β', nm', ω', σ', q.ag A0 (fun j hj k => by omega) (fun k hk => by omega) (fun j hj k hk => by omega) (fun a ha => by omega)⟩
  · have e3 : m = 3 := by omega
    subst e3
    refine h.q 7 (-1) (by unfold f_X11_mark; rw [h03]; rfl) ?_
    unfold f_X12_mark
    have : mI (sI (sI (sI μ 0 0 7) 141 1 0) 141 0 0) 141 24 = nI 3 := h24
    rw [this]
    exact QM_r
theorem op_back (h : R μ) (hF : 2000000 ≤ F) : Sm f_X11_back (f_X12_back F) μ := by
  obtain ⟨m, hm, h03, h24, hk⟩ := h.mk
  have gb := h.gb
  have gn := h.gn
  have hrp := h.rp
  have hrn := h.rn
  unfold RefP at hrp
  unfold RefN at hrn
  by_cases e : m = 0
  · subst e
    refine h.q 8 (-1) (by unfold f_X11_back; rw [h03]; rfl) ?_
    unfold f_X12_back
    have : mI (sI (sI (sI μ 0 0 8) 141 1 0) 141 0 0) 141 24 = nI 0 := h24
    rw [this]
    exact QM_r
  · obtain ⟨n, rfl⟩ : ∃ n, m = n + 1 := ⟨m - 1, by omega⟩
    obtain ⟨β, nm, ω, σ, pg⟩ := hk n (by omega)
    have nb := pg.nr.b
    rw [← pg.w0 0 (by omega)] at nb
    have hd : mR μ 0 + 12 ≤ 53 + 18 * n ∨ 53 + 18 * n + 12 ≤ mR μ 0 := by omega
    have hd2 : mR μ 2 + 6 ≤ 65 + 18 * n ∨ 65 + 18 * n + 6 ≤ mR μ 2 := by omega
    obtain ⟨ν0, hν0⟩ : ∃ ν0, ν0 = sI μ 0 3 (nI n) := ⟨_, rfl⟩
    have A0' : Ag (fun a k => a = 0 ∧ k = 3) μ ν0 := by rw [hν0]; exact Ag.sI ⟨rfl, rfl⟩
    obtain ⟨ν1, hν1⟩ : ∃ ν1, ν1 = tk2 ν0 (mR μ 0) (53 + 18 * n) := ⟨_, rfl⟩
    have A1 : Ag (fun a _ => mR μ 0 ≤ a ∧ a < mR μ 0 + 11) ν0 ν1 := by rw [hν1]; exact tk2_ag
    have bx0 : BX ν0 (53 + 18 * n) β := pg.bx.ag A0' (fun i hi k => by omega)
    have B1 : BX ν1 (mR μ 0) β := by rw [hν1]; exact tk2_bx bx0 pg.wf hd
    have N1 : ∀ a, a < 5 → mL ν1 (mR μ 0 + 7) a = mL μ (53 + 18 * n + 7) a := fun a ha => by rw [hν1, tk2_n hd ha, A0'.l (by omega)]
    obtain ⟨ν2, hν2⟩ : ∃ ν2, ν2 = tkN ν1 (mR μ 2) (65 + 18 * n) := ⟨_, rfl⟩
    have A2 : Ag (fun a _ => mR μ 2 ≤ a ∧ a < mR μ 2 + 6) ν1 ν2 := by rw [hν2]; exact tkN_ag
    have f2 : ∀ k, k < 3 → mI ν2 (mR μ 2) k = mI μ (65 + 18 * n) k := fun k hk => by rw [hν2, tkN_f hk, A1.i (by omega), A0'.i (by omega)]
    have r2 : ∀ j, 1 ≤ j → j ≤ 5 → ∀ k, k < 60 → mA ν2 (mR μ 2 + j) k = mA μ (65 + 18 * n + j) k := fun j h1 h2 k hk => by rw [hν2, tkN_r hd2 h1 h2 hk, A1.a (by omega), A0'.a (by omega)]
    have A12 : Ag (fun a k => (a = 0 ∧ k = 3) ∨ (mR μ 0 ≤ a ∧ a < mR μ 0 + 11) ∨ (mR μ 2 ≤ a ∧ a < mR μ 2 + 6)) μ ν2 := ((A0'.mono (fun a k q => by omega)).tr (A1.mono (fun a k q => by omega))).tr (A2.mono (fun a k q => by omega))
    have n3 : mI ν2 0 3 = nI n := by
      rw [A2.i (by omega), A1.i (by omega), hν0]
      rfl
    have hX : f_X11_back μ = some (nI n, sI ν2 0 0 0) := by
      unfold f_X11_back
      have g0 : gBk (mR ν0 0) = some (mR μ 0) := by rw [A0'.2]; exact gb
      have g1 : gNt (mR ν1 2) = some (mR μ 2) := by rw [A1.2, A0'.2]; exact gn
      have m0 : mI ν0 0 3 = nI n := by rw [hν0]; rfl
      have m1 : mI ν1 0 3 = nI n := by rw [A1.i (by omega)]; exact m0
      have nb1 : mI ν1 (65 + 18 * n) 0 = 0 ∨ mI ν1 (65 + 18 * n) 0 = 1 := by rw [A1.i (by omega), A0'.i (by omega)]; exact nb
      rw [h03, if_pos ((Llt (n := 0) (by omega) (by decide)).mpr (by show 0 < n + 1; omega)), nI_pred, ← hν0, g0, Option.bind_some, m0, rdE_51 (by omega), Option.bind_some, X_takeFrom hd, ← hν1, Option.bind_some, g1, Option.bind_some, m1, rdE_52 (by omega), Option.bind_some, X_takeN hd2 nb1, ← hν2, Option.bind_some, n3]
      rfl
    obtain ⟨ξ0, hξ0⟩ : ∃ ξ0, ξ0 = sI (sI (sI ν2 0 0 0) 141 1 0) 141 0 0 := ⟨_, rfl⟩
    have A3 : Ag (fun a k => (a = 0 ∧ k = 0) ∨ (a = 141 ∧ (k = 0 ∨ k = 1))) ν2 ξ0 := by
      rw [hξ0]
      exact ((Ag.sI (by omega)).tr (Ag.sI (by omega))).tr (Ag.sI (by omega))
    obtain ⟨ξ1, hξ1⟩ : ∃ ξ1, ξ1 = putL (putA ξ0 146 (cpyA ξ0 (n + 1) 0) (400 * 0) 400) 149 (cpyL ξ0 (n + 1) 0) (5 * 0) 5 := ⟨_, rfl⟩
    have A4 : Ag (fun a k => (a = 146 ∧ 400 * 0 ≤ k ∧ k < 400 * 0 + 400) ∨ (a = 149 ∧ 5 * 0 ≤ k ∧ k < 5 * 0 + 5)) ξ0 ξ1 := by rw [hξ1]; exact cp_ag
    have cA : ∀ k, k < 400 → mA ξ1 146 (400 * 0 + k) = mA ξ0 146 (400 * (n + 1) + k) := fun k hk => by rw [hξ1]; exact cp_A hk
    have cL : ∀ k, k < 5 → mL ξ1 149 (5 * 0 + k) = mL ξ0 149 (5 * (n + 1) + k) := fun k hk => by rw [hξ1]; exact cp_L hk
    obtain ⟨ξ, hξ⟩ : ∃ ξ, ξ = sI ξ1 141 24 (nI n) := ⟨_, rfl⟩
    have A5 : Ag (fun a k => a = 141 ∧ k = 24) ξ1 ξ := by rw [hξ]; exact Ag.sI ⟨rfl, rfl⟩
    have m24 : mI ξ0 141 24 = nI (n + 1) := by rw [A3.i (by omega), A12.i (by omega)]; exact h24
    have s24 : mI ξ 141 24 = nI n := by rw [hξ]; rfl
    have s0 : mI ξ 141 0 = 0 := by rw [A5.i (by omega), A4.i (by omega), hξ0]; rfl
    have s00 : mI ξ 0 0 = 0 := by rw [A5.i (by omega), A4.i (by omega), hξ0]; rfl
    have s03 : mI ξ 0 3 = nI n := by rw [A5.i (by omega), A4.i (by omega), A3.i (by omega)]; exact n3
    have hM : f_X12_back F (sI ν2 0 0 0) = some (nI n, ξ) := by
      unfold f_X12_back
      rw [← hξ0, m24, if_neg (fun z => by have q : n + 1 = 0 := (eqL (n := 0) (by omega) (by decide)).mp z; omega)]
      have mc := M_copy (F := F) (μ := ξ0) (m := n + 1) (m' := 0) (by omega) (by omega) (by omega) hF
      rw [nI_0] at mc
      have e24 : mI ξ1 141 24 = nI (n + 1) := by rw [A4.i (by omega)]; exact m24
      rw [mc, ← hξ1, Option.bind_some, e24, nI_pred, ← hξ, s24]
    refine ⟨nI n, _, ξ, hX, hM, ?_⟩
    have A0 : Ag (fun a k => (a = 0 ∧ (k = 0 ∨ k = 3)) ∨ (a = 141 ∧ (k = 0 ∨ k = 1 ∨ k = 24)) ∨ (mR μ 0 ≤ a ∧ a < mR μ 0 + 11) ∨ (mR μ 2 ≤ a ∧ a < mR μ 2 + 6) ∨ (a = 146 ∧ k < 400) ∨ (a = 149 ∧ k < 5)) μ ξ := (((A12.mono (fun a k q => by omega)).tr (A3.mono (fun a k q => by omega))).tr (A4.mono (fun a k q => by omega))).tr (A5.mono (fun a k q => by omega))
    have A34 : Ag (fun a k => a = 0 ∨ a = 141 ∨ a = 146 ∨ a = 149) ν2 ξ := ((A3.mono (fun a k q => by omega)).tr (A4.mono (fun a k q => by omega))).tr (A5.mono (fun a k q => by omega))
    refine ⟨rp_ag h.rp A0, rn_ag h.rn A0, rt_ag h.rt A0, by rw [s00, s0], eq_agJ h.top A0 (by omega) (by omega), eq_agJ h.bot A0 (by omega) (by omega), tr_ag h.tr A0 (fun a k q => by omega), tp_ag h.tp A0 (by omega) (by omega) (fun k => by omega) (fun k => by omega), eq_agI h.fk A0 (by omega) (by omega), eq_agI h.fa A0 (by omega) (by omega), sw_ag h.sw A0 (fun k => by omega), ?_, ⟨n, by omega, s03, s24, fun i hi => ?_⟩, lv_ag h.lv A0 (fun k h1 h2 => by omega) (by omega) (fun k => by omega)⟩
    · rw [A0.2]
      refine ⟨β, nm, ω, σ, pg.cp (B1.ag (P := fun a k => (mR μ 2 ≤ a ∧ a < mR μ 2 + 6) ∨ a = 0 ∨ a = 141 ∨ a = 146 ∨ a = 149) ((A2.mono (fun a k q => by omega)).tr (A34.mono (fun a k q => by omega))) (fun j hj k => by omega)) (fun k hk => ?_) (fun a ha => ?_) (fun a ha => ?_) (fun k hk => ?_) (fun j h1 h2 k hk => ?_)⟩
      · rw [A5.a (by omega), cA k hk, A3.a (by omega), A12.a (by omega)]
      · rw [A34.l (by omega), A2.l (by omega), N1 a ha]
      · rw [A5.l (by omega), cL a ha, A3.l (by omega), A12.l (by omega)]
      · rw [A34.i (by omega), f2 k hk]
      · rw [A34.a (by omega), r2 j h1 h2 k hk]
    · obtain ⟨β', nm', ω', σ', q⟩ := hk i (by omega)
      exact ⟨β', nm', ω', σ', q.ag A0 (fun j hj k => by omega) (fun k hk => by omega) (fun j hj k hk => by omega) (fun a ha => by omega)⟩
end MARKS
