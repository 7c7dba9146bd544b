/-! ===== books copied; hours ahead ===== -/
def SM (a k : Nat) : Prop := (a = 141 ∧ (k = 0 ∨ k = 1 ∨ k = 9 ∨ (12 ≤ k ∧ k < 20) ∨ (25 ≤ k ∧ k < 40) ∨ 41 ≤ k)) ∨ (a = 146 ∧ (k < 128 ∨ 1600 ≤ k)) ∨ a = 147 ∨ a = 148 ∨ (a = 149 ∧ 20 ≤ k) ∨ (150 ≤ a ∧ a < 156)
theorem SM_S2 {μ : Mm} {a k : Nat} (h : SM a k) : S2 μ a k := by
  rcases h with ⟨rfl, hk⟩ | ⟨rfl, hk⟩ | rfl | rfl | ⟨rfl, hk⟩ | h
  · rcases hk with rfl | hk
    · exact Or.inl (Or.inr (Or.inr ⟨rfl, rfl⟩))
    · refine Or.inl (Or.inl ?_)
      unfold SC
      exact Or.inr (Or.inr (Or.inr (Or.inr (Or.inr (Or.inr (Or.inr (Or.inr (Or.inr (Or.inl ⟨rfl, hk⟩)))))))))
  · rcases hk with hk | hk
    · exact Or.inr (Or.inr (Or.inr ⟨rfl, hk⟩))
    · refine Or.inl (Or.inl ?_)
      unfold SC
      exact Or.inr (Or.inr (Or.inr (Or.inr (Or.inr (Or.inr (Or.inr (Or.inr (Or.inr (Or.inr (Or.inl ⟨rfl, hk⟩))))))))))
  · left; left; unfold SC; omega
  · left; left; unfold SC; omega
  · left; left; unfold SC; omega
  · left; left; unfold SC; omega
/-- a call: both sides, the book behind it being β' -/
theorem R.v {α : Type} {fx fm : Mm → Option (α × Mm)} {μ : Mm} (h : R μ) {β nm ω σ} (hg : PG μ (mR μ 0) (mR μ 2) 0 β nm ω σ) (c : Int32) (v : α) {ν : Mm} {β' : Nat → Nat} (hx : fx μ = some (v, sI ν 0 0 c)) (hb : BX ν (mR μ 0) β') (ha : Ag (S2 μ) μ ν) (hM : Ag (fun a _ => a < 141) μ ν) (hm : ∀ ξ, CB ξ β → ∃ ζ, fm ξ = some (v, ζ) ∧ mI ζ 141 0 = c ∧ CB ζ β' ∧ Ag SM ξ ζ) (hw : WF β') (h5 : β' 5 ≤ 9999) (h0 : β' 0 = β 0) (h2 : β' 2 = β 2) : Sm fx fm μ := by
  have hc : CB (sI ν 0 0 c) β := hg.c0.at (by rw [mA_sI, hM.A (fun _ => by omega)])
  obtain ⟨ζ, e1, e2, e3, e4⟩ := hm _ hc
  have hrp := h.rp
  have hrn := h.rn
  unfold RefP at hrp
  unfold RefN at hrn
  refine ⟨v, _, ζ, hx, e1, h.bk hg ((ha.tr (Ag.sI (Or.inl (Or.inr (Or.inl ⟨rfl, rfl⟩))))).tr (e4.mono (fun a k q => SM_S2 q))) ?_ ?_ e3 hw h5 h0 h2⟩
  · rw [e2, e4.i (by unfold SM; omega)]; rfl
  · refine (hb.ag (P := fun a k => a = 0 ∧ k = 0) (Ag.sI ⟨rfl, rfl⟩) ?_).ag e4 ?_
    · intro i hi k q; omega
    · intro i hi k q; unfold SM at q; omega
theorem cpA_5 {μ : Mm} {a0 a : Nat} : cpA μ a0 5 0 a 5 0 5 = some (rA μ a (va_cpy (mA μ a0) (mA μ a) 0 0 5)) := cpA_n (s := 0) (t := 0) (k := 5) (by omega) (by omega) (by omega) (by omega)
theorem cpA_10 {μ : Mm} {a0 a : Nat} : cpA μ a0 10 0 a 10 0 10 = some (rA μ a (va_cpy (mA μ a0) (mA μ a) 0 0 10)) := cpA_n (s := 0) (t := 0) (k := 10) (by omega) (by omega) (by omega) (by omega)
theorem cpA_25 {μ : Mm} {a0 a : Nat} : cpA μ a0 25 0 a 25 0 25 = some (rA μ a (va_cpy (mA μ a0) (mA μ a) 0 0 25)) := cpA_n (s := 0) (t := 0) (k := 25) (by omega) (by omega) (by omega) (by omega)
theorem cpA_60 {μ : Mm} {a0 a : Nat} : cpA μ a0 60 0 a 60 0 60 = some (rA μ a (va_cpy (mA μ a0) (mA μ a) 0 0 60)) := cpA_n (s := 0) (t := 0) (k := 60) (by omega) (by omega) (by omega) (by omega)
theorem cpL_5 {μ : Mm} {a0 a : Nat} : cpL μ a0 5 0 a 5 0 5 = some (rL μ a (va_cpy (mL μ a0) (mL μ a) 0 0 5)) := cpL_n (s := 0) (t := 0) (k := 5) (by omega) (by omega) (by omega) (by omega)
theorem cpy_at {α : Type} {f g : Nat → α} {n k : Nat} (h : k < n) : va_cpy f g 0 0 n k = f k := by rw [pk_cpy_in (by omega) (by omega)]; congr 1; omega
/-- a row copied -/
def cpR (μ : Mm) (a0 a n : Nat) : Mm := rA μ a (va_cpy (mA μ a0) (mA μ a) 0 0 n)
theorem cpR_at {μ : Mm} {a0 a n k : Nat} (h : k < n) : mA (cpR μ a0 a n) a k = mA μ a0 k := by unfold cpR; rw [mA_rA, if_pos rfl, cpy_at h]
theorem cpR_ne {μ : Mm} {a0 a n c : Nat} (h : c ≠ a) : mA (cpR μ a0 a n) c = mA μ c := mA_rne h
theorem cpR_I {μ : Mm} {a0 a n : Nat} : mI (cpR μ a0 a n) = mI μ := rfl
theorem cpR_L {μ : Mm} {a0 a n : Nat} : mL (cpR μ a0 a n) = mL μ := rfl
theorem cpR_ag {P : Nat → Nat → Prop} {μ : Mm} {a0 a n : Nat} (h : ∀ k, P a k) : Ag P μ (cpR μ a0 a n) := Ag.rA (fun k hk => absurd (h k) hk)
def cpQ (μ : Mm) (a0 a n : Nat) : Mm := rL μ a (va_cpy (mL μ a0) (mL μ a) 0 0 n)
theorem cpQ_at {μ : Mm} {a0 a n k : Nat} (h : k < n) : mL (cpQ μ a0 a n) a k = mL μ a0 k := by unfold cpQ; rw [mL_rL, if_pos rfl, cpy_at h]
theorem cpQ_I {μ : Mm} {a0 a n : Nat} : mI (cpQ μ a0 a n) = mI μ := rfl
theorem cpQ_A {μ : Mm} {a0 a n : Nat} : mA (cpQ μ a0 a n) = mA μ := rfl
theorem cpQ_ag {P : Nat → Nat → Prop} {μ : Mm} {a0 a n : Nat} (h : ∀ k, P a k) : Ag P μ (cpQ μ a0 a n) := Ag.rL (fun k hk => absurd (h k) hk)
/-- a book copied -/
def tk0 (μ : Mm) (b c : Nat) : Mm := sI (sI (sI (sI (sI (sI (sI μ b 0 (mI μ c 0)) b 1 (mI μ c 1)) b 2 (mI μ c 2)) b 3 (mI μ c 3)) b 4 (mI μ c 4)) b 5 (mI μ c 5)) b 6 (mI μ c 6)
def tk1 (μ : Mm) (b c : Nat) : Mm := cpR (cpR (cpR (cpR (sI (tk0 μ b c) (b + 1) 0 (mI μ (c + 1) 0)) (c + 2) (b + 2) 10) (c + 3) (b + 3) 10) (c + 4) (b + 4) 10) (c + 5) (b + 5) 10
def tk2 (μ : Mm) (b c : Nat) : Mm := cpR (cpR (cpR (cpQ (cpR (tk1 μ b c) (c + 6) (b + 6) 5) (c + 7) (b + 7) 5) (c + 8) (b + 8) 25) (c + 9) (b + 9) 25) (c + 10) (b + 10) 25
section OPS5
variable {μ : Mm} {b c : Nat} {β : Nat → Nat} {F : Nat}
theorem X_takeFrom (hd : b + 12 ≤ c ∨ c + 12 ≤ b) : f_X0_takeFrom b c μ = some (tk2 μ b c) := by
  have hne : c ≠ b := by omega
  have h1 : mI (tk0 μ b c) (c + 1) 0 = mI μ (c + 1) 0 := by
    unfold tk0
    simp (disch := omega) only [mI_ne]
  have e0 : f_X3_takeFrom (b + 1) (c + 1) (tk0 μ b c) = some (tk1 μ b c) := by
    unfold f_X3_takeFrom tk1
    rw [h1]
    simp only [cpA_10, Option.bind_some]
    rfl
  unfold f_X0_takeFrom
  simp (disch := omega) only [mI_ne hne]
  show (f_X3_takeFrom (b + 1) (c + 1) (tk0 μ b c)).bind _ = _
  rw [e0]
  simp only [cpA_5, cpL_5, cpA_25, Option.bind_some]
  rfl
theorem tk2_ag : Ag (fun a _ => b ≤ a ∧ a < b + 11) μ (tk2 μ b c) := by
  unfold tk2 tk1 tk0
  repeat' (first | exact Ag.rf | refine Ag.tr (ν := _) ?_ (cpR_ag (fun k => by omega)) | refine Ag.tr (ν := _) ?_ (cpQ_ag (fun k => by omega)) | refine Ag.tr (ν := _) ?_ (Ag.sI (by omega)))
theorem tk2_r (hd : b + 12 ≤ c ∨ c + 12 ≤ b) {j n : Nat} (hj : (j, n) ∈ [(2, 10), (3, 10), (4, 10), (5, 10), (6, 5), (8, 25), (9, 25), (10, 25)]) {k : Nat} (hk : k < n) : mA (tk2 μ b c) (b + j) k = mA μ (c + j) k := by
  simp only [List.mem_cons, Prod.mk.injEq, List.not_mem_nil, or_false] at hj
  unfold tk2 tk1
  rcases hj with ⟨rfl, rfl⟩ | ⟨rfl, rfl⟩ | ⟨rfl, rfl⟩ | ⟨rfl, rfl⟩ | ⟨rfl, rfl⟩ | ⟨rfl, rfl⟩ | ⟨rfl, rfl⟩ | ⟨rfl, rfl⟩
  · simp (disch := omega) only [cpR_ne, cpQ_A, cpR_at]; rfl
  · simp (disch := omega) only [cpR_ne, cpQ_A, cpR_at]; rfl
  · simp (disch := omega) only [cpR_ne, cpQ_A, cpR_at]; rfl
  · simp (disch := omega) only [cpR_ne, cpQ_A, cpR_at]; rfl
  · simp (disch := omega) only [cpR_ne, cpQ_A, cpR_at]; rfl
  · simp (disch := omega) only [cpR_ne, cpQ_A, cpR_at]; rfl
  · simp (disch := omega) only [cpR_ne, cpQ_A, cpR_at]; rfl
  · simp (disch := omega) only [cpR_ne, cpQ_A, cpR_at]; rfl
theorem tk2_f : ∀ k, k < 7 → mI (tk2 μ b c) b k = mI μ c k := by
  intro k hk
  have : mI (tk2 μ b c) b k = mI (tk0 μ b c) b k := by
    show mI (sI (tk0 μ b c) (b + 1) 0 (mI μ (c + 1) 0)) b k = _
    rw [mI_ne (by omega)]
  rw [this]
  unfold tk0
  have h7 : k = 0 ∨ k = 1 ∨ k = 2 ∨ k = 3 ∨ k = 4 ∨ k = 5 ∨ k = 6 := by omega
  rcases h7 with rfl | rfl | rfl | rfl | rfl | rfl | rfl <;> simp [mI_sI]
theorem tk2_l : mI (tk2 μ b c) (b + 1) 0 = mI μ (c + 1) 0 := by
  show mI (sI (tk0 μ b c) (b + 1) 0 (mI μ (c + 1) 0)) (b + 1) 0 = _
  rw [mI_sI, if_pos rfl, if_pos rfl]
theorem tk2_n (hd : b + 12 ≤ c ∨ c + 12 ≤ b) {k : Nat} (hk : k < 5) : mL (tk2 μ b c) (b + 7) k = mL μ (c + 7) k := by
  unfold tk2
  simp only [cpR_L]
  rw [cpQ_at hk]
  rfl
theorem tk2_bx (h : BX μ c β) (w : WF β) (hd : b + 12 ≤ c ∨ c + 12 ≤ b) : BX (tk2 μ b c) b β := by
  have w0 := w.1.1
  have w1 := w.1.2.2.2.1
  have wc := w.cl_le
  obtain ⟨q1, q2, q3, q4, q5, q6, q7, q8, q9, q10, q11, q12, q13, q14, q15, q16⟩ := h
  exact ⟨by rw [tk2_f 0 (by omega)]; exact q1, by rw [tk2_f 1 (by omega)]; exact q2, by rw [tk2_f 2 (by omega)]; exact q3, by rw [tk2_f 3 (by omega)]; exact q4, by rw [tk2_f 4 (by omega)]; exact q5, by rw [tk2_f 5 (by omega)]; exact q6, by rw [tk2_f 6 (by omega)]; exact q7, by rw [tk2_l]; exact q8,
    fun l hl => by rw [tk2_r hd (n := 10) (by simp) (by omega)]; exact q9 l hl,
    fun l hl => by rw [tk2_r hd (n := 10) (by simp) (by omega)]; exact q10 l hl,
    fun l hl => by rw [tk2_r hd (n := 10) (by simp) (by omega)]; exact q11 l hl,
    fun l hl => by rw [tk2_r hd (n := 10) (by simp) (by omega)]; exact q12 l hl,
    fun l hl => by rw [tk2_r hd (n := 5) (by simp) (by omega)]; exact q13 l hl,
    fun l hl => by rw [tk2_r hd (n := 25) (by simp) (by omega)]; exact q14 l hl,
    fun l hl => by rw [tk2_r hd (n := 25) (by simp) (by omega)]; exact q15 l hl,
    fun l hl => by rw [tk2_r hd (n := 25) (by simp) (by omega)]; exact q16 l hl⟩
/-- the spare book, n hours ahead -/
theorem X_spareAhead (h : R μ) (bx : BX μ (mR μ 0) β) (W : WF β) (hF : 2000000 ≤ F) {n : Nat} (hn : β 5 + n ≤ 20000) : ∃ ν, f_X11_spareAhead F (nI n) μ = some (mR μ 1, ν) ∧ BX ν (mR μ 1) (hrs β n) ∧ Ag (fun a _ => mR μ 1 ≤ a ∧ a < mR μ 1 + 12) μ ν := by
  have hrp := h.rp
  unfold RefP at hrp
  have hd : mR μ 1 + 12 ≤ mR μ 0 ∨ mR μ 0 + 12 ≤ mR μ 1 := by omega
  have hA := tk2_ag (μ := μ) (b := mR μ 1) (c := mR μ 0)
  obtain ⟨ν, x, e1, e2, e3, e4⟩ := X_passHours (F := F) (tk2_bx bx W hd) W hF (n := n) hn
  have g1 : gBk (mR (tk2 μ (mR μ 1) (mR μ 0)) 1) = some (mR μ 1) := by rw [hA.2]; exact h.gb1
  have g2 : gBk (mR ν 1) = some (mR μ 1) := by rw [e3.2, hA.2]; exact h.gb1
  refine ⟨ν, ?_, e2, (hA.mono (fun a k q => by omega)).tr (e3.mono (fun a k q => by omega))⟩
  unfold f_X11_spareAhead
  rw [h.gb1, h.gb]
  simp only [Option.bind_some, X_takeFrom hd, g1, e1, bd_some, g2]
theorem M_puts (h : CB μ β) (hF : 2000000 ≤ F) : f_X12_puts F μ = some (putA μ 147 (fun k => nI (β k)) 0 128) := by
  unfold f_X12_puts
  refine iter2 (L := L_X12_puts_2 F _) (fun i => nI i) (fun i => putA μ 147 (fun k => nI (β k)) 0 i) (N := 128) (by omega) (fun i hi n => ?_) (fun n => ?_)
  · have hc : CB (putA μ 147 (fun k => nI (β k)) 0 i) β := h.at ((putA_ag (P := fun a _ => a = 147) (fun _ _ _ => rfl)).A (fun _ => by omega))
    rw [L_X12_puts_2_s, putA_n, Nat.zero_add]
    simp (disch := omega) only [Option.bind_some, bd_some, eqL, leL, ltL, Lle, Llt, addL, Ladd, Lmul, mulL, nIle, nIlt, nIeq, nI_add, pk_mul, hc.rd, wrA_n]
    rw [if_neg (by omega)]
  · rw [L_X12_puts_2_s]
    simp (disch := omega) only [Option.bind_some, bd_some, eqL, leL, ltL, Lle, Llt, addL, Ladd, Lmul, mulL, nIle, nIlt, nIeq, nI_add, pk_mul]
    rw [if_pos (by omega)]
theorem M_gives (h : ∀ k, k < 128 → mA μ 147 k = nI (β k)) (hF : 2000000 ≤ F) : f_X12_gives F μ = some (putA μ 146 (fun k => nI (β k)) 0 128) := by
  unfold f_X12_gives
  refine iter2 (L := L_X12_gives_2 F _) (fun i => nI i) (fun i => putA μ 146 (fun k => nI (β k)) 0 i) (N := 128) (by omega) (fun i hi n => ?_) (fun n => ?_)
  · have hr : rdA (putA μ 146 (fun k => nI (β k)) 0 i) 147 128 (nI i) = some (nI (β i)) := by rw [rdA_n (by omega) (by omega), putA_mA, if_neg (by omega), h i hi]
    rw [L_X12_gives_2_s, putA_n, Nat.zero_add]
    simp (disch := omega) only [Option.bind_some, bd_some, eqL, leL, ltL, Lle, Llt, addL, Ladd, Lmul, mulL, nIle, nIlt, nIeq, nI_add, pk_mul, hr, wrA_n]
    rw [if_neg (by omega)]
  · rw [L_X12_gives_2_s]
    simp (disch := omega) only [Option.bind_some, bd_some, eqL, leL, ltL, Lle, Llt, addL, Ladd, Lmul, mulL, nIle, nIlt, nIeq, nI_add, pk_mul]
    rw [if_pos (by omega)]
theorem CB_put : CB (putA μ 146 (fun k => nI (β k)) 0 128) β := fun k hk => by rw [putA_mA, if_pos (by omega)]
theorem SM_put {n : Nat} (hn : n ≤ 128) : Ag SM μ (putA μ 146 (fun k => nI (β k)) 0 n) := putA_ag (fun k _ hk => Or.inr (Or.inl ⟨rfl, Or.inl (by omega)⟩))
theorem SM_put7 : Ag SM μ (putA μ 147 (fun k => nI (β k)) 0 128) := putA_ag (fun k _ hk => Or.inr (Or.inr (Or.inl rfl)))
theorem SM_hr {μ ν : Mm} (h : Ag (fun a k => (a = 146 ∧ k < 128) ∨ a = 150) μ ν) : Ag SM μ ν := h.mono (fun a k q => by
  rcases q with ⟨rfl, hk⟩ | rfl
  · exact Or.inr (Or.inl ⟨rfl, Or.inl hk⟩)
  · exact Or.inr (Or.inr (Or.inr (Or.inr (Or.inr ⟨by omega, by omega⟩)))))
theorem SM_0 {ν : Mm} : Ag SM ν (sI (sI ν 141 1 0) 141 0 0) := (Ag.sI (Or.inl ⟨rfl, by omega⟩)).tr (Ag.sI (Or.inl ⟨rfl, by omega⟩))
theorem SM_st {ν : Mm} {x : Int32} : Ag SM ν (sI ν 141 0 x) := Ag.sI (Or.inl ⟨rfl, by omega⟩)
/-- what a change of the spare book alone is to the rest -/
theorem spare_S2 {μ ν : Mm} (h : Ag (fun a _ => mR μ 1 ≤ a ∧ a < mR μ 1 + 12) μ ν) : Ag (S2 μ) μ ν := h.mono (fun a k q => Or.inl (Or.inl (Or.inl q)))
theorem spare_lt {μ ν : Mm} (hr : R μ) (h : Ag (fun a _ => mR μ 1 ≤ a ∧ a < mR μ 1 + 12) μ ν) : Ag (fun a _ => a < 141) μ ν := h.mono (fun a k q => by have := hr.rp; unfold RefP at this; omega)
theorem spare_bx {μ ν : Mm} (hr : R μ) (h : Ag (fun a _ => mR μ 1 ≤ a ∧ a < mR μ 1 + 12) μ ν) (bx : BX μ (mR μ 0) β) : BX ν (mR μ 0) β := bx.ag h (fun i hi k q => by have := hr.rp; unfold RefP at this; omega)
theorem op_digitIn (h : R μ) (hF : 2000000 ≤ F) (v u : Int32) : Sm (f_X11_digitIn F v u) (f_X12_digitIn F v u) μ := by
  obtain ⟨β, nm, ω, σ, pg⟩ := h.pg
  have W := pg.wf
  have bx := pg.bx
  have gb := h.gb
  have gb1 := h.gb1
  have hc : ∀ c, CB (V0 μ c) β := fun c => pg.c0.at rfl
  have hcl := W.cl_le
  have h5 := pg.hr
  by_cases e : inN v (cl β) = true
  · obtain ⟨k, hk, hk2, rfl⟩ := inN_of e
    by_cases e2 : inR u 0 300 = true
    · obtain ⟨j, hj1, hj2, hj3, rfl⟩ := inR_of e2
      obtain ⟨ν, x1, x2, x3⟩ := X_spareAhead h bx W hF (n := j) (by omega)
      have Wj := W.hrs j (by omega)
      have hrd := x2.rD Wj (k := k) (by rw [hrs_cl]; exact hk)
      refine h.v pg 0 (nI (hrs β j (13 + k))) (ν := ν) (β' := β) ?_ (spare_bx h x3 bx) (spare_S2 x3) (spare_lt h x3) (fun ξ hξ => ?_) W h5 rfl rfl
      · unfold f_X11_digitIn
        simp (disch := omega) only [Option.bind_some, bd_some, eqL, leL, ltL, Lle, Llt, addL, Ladd, Lmul, mulL, nIle, nIlt, nIeq, nI_add, pk_mul, gb, X_cells bx, X_hasCell bx W, X_hasAccount bx W, X_hasLaw bx W, bx.wide, bx.tap, bx.odds, bx.acc, bx.stand, bx.hour, bx.stolen, bx.laws, bx.rD W, bx.rT W, bx.rH W, bx.rK W, bx.rF W, bx.rS W, bx.rP W, bx.rB W, X_isWrong bx W, X_wrongs bx W hF, X_tappedSet bx W hF, X_surplus bx W hF, within_L, inN_k, eq_self, if_true, if_false, Bool.false_eq_true, ans_X, ref_X, ver_X, e2, x1, gb1, hrd]
      · have hc2 : CB (sI (sI ξ 141 1 0) 141 0 0) β := hξ.at rfl
        have hp : CB (putA (sI (sI ξ 141 1 0) 141 0 0) 147 (fun k => nI (β k)) 0 128) β := hc2.at ((putA_ag (P := fun a _ => a = 147) (fun _ _ _ => rfl)).A (fun _ => by omega))
        obtain ⟨ζ, z1, z2, z3⟩ := M_hours (L := L_X12_digitIn_43 F (nI k) (nI j) (fun μ7 => (rdA μ7 146 2000 ((13 : Int32) + nI k)).bind fun x8 => (f_X12_gives F μ7).bind fun μ10 => some (x8, μ10))) (hh := j) (fun n v μ => L_X12_digitIn_43_s ..) hp W hF (by omega)
        have z7 : ∀ i, i < 128 → mA ζ 147 i = nI (β i) := fun i hi => by rw [z3.A (fun _ => by omega), putA_mA, if_pos (by omega)]
        refine ⟨putA ζ 146 (fun k => nI (β k)) 0 128, ?_, ?_, CB_put, ((SM_0.tr SM_put7).tr (SM_hr z3)).tr (SM_put (by omega))⟩
        · have hah : f_X12_isAhead (nI j) (sI (sI ξ 141 1 0) 141 0 0) = some true := by unfold f_X12_isAhead; rw [isIn_L (by decide) (by decide), e2]; rfl
          unfold f_X12_digitIn
          simp (disch := omega) only [Option.bind_some, bd_some, M_isCellAt hc2 W, inN_k, eq_self, if_true, hah, M_puts hc2 hF]
          rw [z1]
          simp (disch := omega) only [Option.bind_some, z2.rd, Ladd, M_gives z7 hF]
        · rw [(putA_ag (P := fun a _ => a = 146) (fun _ _ _ => rfl)).i (by omega), z3.i (by omega), (putA_ag (P := fun a _ => a = 147) (fun _ _ _ => rfl)).i (by omega)]
          rfl
    · have e3 := inR_no e2
      exact h.q 5 (-1) (by unfold f_X11_digitIn; simp (disch := omega) only [Option.bind_some, bd_some, eqL, leL, ltL, Lle, Llt, addL, Ladd, Lmul, mulL, nIle, nIlt, nIeq, nI_add, pk_mul, gb, X_cells bx, X_hasCell bx W, X_hasAccount bx W, X_hasLaw bx W, bx.wide, bx.tap, bx.odds, bx.acc, bx.stand, bx.hour, bx.stolen, bx.laws, bx.rD W, bx.rT W, bx.rH W, bx.rK W, bx.rF W, bx.rS W, bx.rP W, bx.rB W, X_isWrong bx W, X_wrongs bx W hF, X_tappedSet bx W hF, X_surplus bx W hF, within_L, inN_k, eq_self, if_true, if_false, Bool.false_eq_true, ans_X, ref_X, ver_X, e3]) (by unfold f_X12_digitIn f_X12_isAhead; simp (disch := omega) only [Option.bind_some, bd_some, eqL, leL, ltL, Lle, Llt, addL, Ladd, Lmul, mulL, nIle, nIlt, nIeq, nI_add, pk_mul, M_cells (hc _), M_isCellAt (hc _) W, M_isAccountAt (hc _) W, M_isLawAt (hc _) W, (hc _).rd, (hc _).r0, M_isWrong (hc _) W, M_allWrong (hc _) W hF, M_tappedSet (hc _) W hF, M_balanced (hc _) W hF, M_isEven (hc _) W hF, isIn_L, inN_k, eq_self, if_true, if_false, Bool.false_eq_true, ans_M, no_M, e3]; exact QM_r)
  · have e3 := inN_no e
    exact h.q 2 (-1) (by unfold f_X11_digitIn; simp (disch := omega) only [Option.bind_some, bd_some, eqL, leL, ltL, Lle, Llt, addL, Ladd, Lmul, mulL, nIle, nIlt, nIeq, nI_add, pk_mul, gb, X_cells bx, X_hasCell bx W, X_hasAccount bx W, X_hasLaw bx W, bx.wide, bx.tap, bx.odds, bx.acc, bx.stand, bx.hour, bx.stolen, bx.laws, bx.rD W, bx.rT W, bx.rH W, bx.rK W, bx.rF W, bx.rS W, bx.rP W, bx.rB W, X_isWrong bx W, X_wrongs bx W hF, X_tappedSet bx W hF, X_surplus bx W hF, within_L, inN_k, eq_self, if_true, if_false, Bool.false_eq_true, ans_X, ref_X, ver_X, e3]) (by unfold f_X12_digitIn; simp (disch := omega) only [Option.bind_some, bd_some, eqL, leL, ltL, Lle, Llt, addL, Ladd, Lmul, mulL, nIle, nIlt, nIeq, nI_add, pk_mul, M_cells (hc _), M_isCellAt (hc _) W, M_isAccountAt (hc _) W, M_isLawAt (hc _) W, (hc _).rd, (hc _).r0, M_isWrong (hc _) W, M_allWrong (hc _) W hF, M_tappedSet (hc _) W hF, M_balanced (hc _) W hF, M_isEven (hc _) W hF, isIn_L, inN_k, eq_self, if_true, if_false, Bool.false_eq_true, ans_M, no_M, e3]; exact QM_r)
theorem op_wrongIn (h : R μ) (hF : 2000000 ≤ F) (u : Int32) : Sm (f_X11_wrongIn F u) (f_X12_wrongIn F u) μ := by
  obtain ⟨β, nm, ω, σ, pg⟩ := h.pg
  have W := pg.wf
  have bx := pg.bx
  have gb := h.gb
  have gb1 := h.gb1
  have hc : ∀ c, CB (V0 μ c) β := fun c => pg.c0.at rfl
  have hcl := W.cl_le
  have h5 := pg.hr
  by_cases e2 : inR u 0 300 = true
  · obtain ⟨j, hj1, hj2, hj3, rfl⟩ := inR_of e2
    obtain ⟨ν, x1, x2, x3⟩ := X_spareAhead h bx W hF (n := j) (by omega)
    have Wj := W.hrs j (by omega)
    refine h.v pg 0 (nI (wrongAll (hrs β j))) (ν := ν) (β' := β) ?_ (spare_bx h x3 bx) (spare_S2 x3) (spare_lt h x3) (fun ξ hξ => ?_) W h5 rfl rfl
    · unfold f_X11_wrongIn
      simp (disch := omega) only [Option.bind_some, bd_some, eqL, leL, ltL, Lle, Llt, addL, Ladd, Lmul, mulL, nIle, nIlt, nIeq, nI_add, pk_mul, gb, X_cells bx, X_hasCell bx W, X_hasAccount bx W, X_hasLaw bx W, bx.wide, bx.tap, bx.odds, bx.acc, bx.stand, bx.hour, bx.stolen, bx.laws, bx.rD W, bx.rT W, bx.rH W, bx.rK W, bx.rF W, bx.rS W, bx.rP W, bx.rB W, X_isWrong bx W, X_wrongs bx W hF, X_tappedSet bx W hF, X_surplus bx W hF, within_L, inN_k, eq_self, if_true, if_false, Bool.false_eq_true, ans_X, ref_X, ver_X, e2, x1, gb1, X_wrongs x2 Wj hF]
    · have hc2 : CB (sI (sI ξ 141 1 0) 141 0 0) β := hξ.at rfl
      have hp : CB (putA (sI (sI ξ 141 1 0) 141 0 0) 147 (fun k => nI (β k)) 0 128) β := hc2.at ((putA_ag (P := fun a _ => a = 147) (fun _ _ _ => rfl)).A (fun _ => by omega))
      obtain ⟨ζ, z1, z2, z3⟩ := M_hours (L := L_X12_wrongIn_29 F (nI j) (fun μ6 => (f_X12_allWrong F μ6).bind fun x7 => (f_X12_gives F μ6).bind fun μ9 => some (x7, μ9))) (hh := j) (fun n v μ => L_X12_wrongIn_29_s ..) hp W hF (by omega)
      have z7 : ∀ i, i < 128 → mA ζ 147 i = nI (β i) := fun i hi => by rw [z3.A (fun _ => by omega), putA_mA, if_pos (by omega)]
      refine ⟨putA ζ 146 (fun k => nI (β k)) 0 128, ?_, ?_, CB_put, ((SM_0.tr SM_put7).tr (SM_hr z3)).tr (SM_put (by omega))⟩
      · have hah : f_X12_isAhead (nI j) (sI (sI ξ 141 1 0) 141 0 0) = some true := by unfold f_X12_isAhead; rw [isIn_L (by decide) (by decide), e2]; rfl
        unfold f_X12_wrongIn
        simp (disch := omega) only [Option.bind_some, bd_some, eq_self, if_true, hah, M_puts hc2 hF]
        rw [z1]
        simp (disch := omega) only [Option.bind_some, M_allWrong z2 Wj hF, M_gives z7 hF]
      · rw [(putA_ag (P := fun a _ => a = 146) (fun _ _ _ => rfl)).i (by omega), z3.i (by omega), (putA_ag (P := fun a _ => a = 147) (fun _ _ _ => rfl)).i (by omega)]
        rfl
  · have e3 := inR_no e2
    exact h.q 5 (-1) (by unfold f_X11_wrongIn; simp (disch := omega) only [Option.bind_some, bd_some, eqL, leL, ltL, Lle, Llt, addL, Ladd, Lmul, mulL, nIle, nIlt, nIeq, nI_add, pk_mul, gb, X_cells bx, X_hasCell bx W, X_hasAccount bx W, X_hasLaw bx W, bx.wide, bx.tap, bx.odds, bx.acc, bx.stand, bx.hour, bx.stolen, bx.laws, bx.rD W, bx.rT W, bx.rH W, bx.rK W, bx.rF W, bx.rS W, bx.rP W, bx.rB W, X_isWrong bx W, X_wrongs bx W hF, X_tappedSet bx W hF, X_surplus bx W hF, within_L, inN_k, eq_self, if_true, if_false, Bool.false_eq_true, ans_X, ref_X, ver_X, e3]) (by unfold f_X12_wrongIn f_X12_isAhead; simp (disch := omega) only [Option.bind_some, bd_some, eqL, leL, ltL, Lle, Llt, addL, Ladd, Lmul, mulL, nIle, nIlt, nIeq, nI_add, pk_mul, M_cells (hc _), M_isCellAt (hc _) W, M_isAccountAt (hc _) W, M_isLawAt (hc _) W, (hc _).rd, (hc _).r0, M_isWrong (hc _) W, M_allWrong (hc _) W hF, M_tappedSet (hc _) W hF, M_balanced (hc _) W hF, M_isEven (hc _) W hF, isIn_L, inN_k, eq_self, if_true, if_false, Bool.false_eq_true, ans_M, no_M, e3]; exact QM_r)
end OPS5
