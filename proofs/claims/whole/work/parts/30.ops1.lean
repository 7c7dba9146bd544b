/-! ===== the calls: answers alike ===== -/
def Sm {α : Type} (fx fm : Mm → Option (α × Mm)) (μ : Mm) : Prop := ∃ x ν ξ, fx μ = some (x, ν) ∧ fm ν = some (x, ξ) ∧ R ξ
def Sm0 {α : Type} (fx : Mm → Option α) (fm : Mm → Option (α × Mm)) (μ : Mm) : Prop := ∃ x ξ, fx μ = some x ∧ fm μ = some (x, ξ) ∧ R ξ
def QM {α : Type} (r : Option (α × Mm)) (ν : Mm) (c : Int32) (v : α) : Prop := ∃ ξ, r = some (v, ξ) ∧ mI ξ 141 0 = c ∧ Ag (fun a k => a = 141 ∧ k < 2) ν ξ
theorem QM_a {α : Type} {ν : Mm} {v : α} : QM (some (v, sI (sI ν 141 1 0) 141 0 0)) ν 0 v := ⟨_, rfl, rfl, (Ag.sI ⟨rfl, by omega⟩).tr (Ag.sI ⟨rfl, by omega⟩)⟩
theorem QM_r {α : Type} {ν : Mm} {c : Int32} {v : α} : QM (some (v, sI (sI (sI ν 141 1 0) 141 0 0) 141 0 c)) ν c v := ⟨_, rfl, rfl, ((Ag.sI ⟨rfl, by omega⟩).tr (Ag.sI ⟨rfl, by omega⟩)).tr (Ag.sI ⟨rfl, by omega⟩)⟩
theorem QM_s {α : Type} {ν : Mm} {c : Int32} {v : α} : QM (some (v, sI (sI ν 141 1 0) 141 0 c)) ν c v := ⟨_, rfl, rfl, (Ag.sI ⟨rfl, by omega⟩).tr (Ag.sI ⟨rfl, by omega⟩)⟩
theorem R.q {α : Type} {fx fm : Mm → Option (α × Mm)} {μ : Mm} (h : R μ) (c : Int32) (v : α) (hx : fx μ = some (v, sI μ 0 0 c)) (hm : QM (fm (sI μ 0 0 c)) (sI μ 0 0 c) c v) : Sm fx fm μ := by
  obtain ⟨ξ, e1, e2, e3⟩ := hm
  refine ⟨v, sI μ 0 0 c, ξ, hx, e1, h.go (((Ag.sI (P := S1 μ) (Or.inr (Or.inl ⟨rfl, rfl⟩)))).tr (e3.mono ?_)) ?_⟩
  · rintro a k ⟨rfl, hk⟩
    have hk2 : k = 0 ∨ k = 1 := by omega
    rcases hk2 with rfl | rfl
    · exact Or.inr (Or.inr ⟨rfl, rfl⟩)
    · left; unfold SC; omega
  · rw [e2, e3.i (by omega)]; rfl
theorem R.gb {μ : Mm} (h : R μ) : gBk (mR μ 0) = some (mR μ 0) := by
  rcases h.rp with q | q <;> rw [q.1] <;> rfl
theorem R.gb1 {μ : Mm} (h : R μ) : gBk (mR μ 1) = some (mR μ 1) := by
  rcases h.rp with q | q <;> rw [q.2] <;> rfl
def inR (v : Int32) (lo hi : Nat) : Bool := decide ((lo : Int) ≤ v.toInt ∧ v.toInt ≤ hi)
theorem inR_of {v : Int32} {lo hi : Nat} (h : inR v lo hi = true) : ∃ k, lo ≤ k ∧ k ≤ hi ∧ k < 2147483648 ∧ v = nI k := by
  unfold inR at h
  have h2 := of_decide_eq_true h
  have hlt := fb_rng v
  refine ⟨v.toInt.toNat, by omega, by omega, by omega, ?_⟩
  apply Int32.toInt_inj.mp
  rw [nI_ti (by omega)]
  omega
theorem inR_k {k lo hi : Nat} (h1 : lo ≤ k) (h2 : k ≤ hi) (hk : k < 2147483648) : inR (nI k) lo hi = true := by
  unfold inR
  rw [nI_ti hk]
  simp
  omega
theorem inR_no {v : Int32} {lo hi : Nat} (h : ¬ inR v lo hi = true) : inR v lo hi = false := by cases hh : inR v lo hi; rfl; exact absurd hh h
theorem inR_ne {v : Int32} {lo hi k : Nat} (h : inR v lo hi = false) (h1 : lo ≤ k) (h2 : k ≤ hi) (hk : k < 2147483648) : ¬ v = nI k := by
  intro e
  rw [e, inR_k h1 h2 hk] at h
  cases h
theorem ne_L {v : Int32} {lo hi n : Nat} (h : inR v lo hi = false) (h1 : lo ≤ OfNat.ofNat n) (h2 : (OfNat.ofNat n : Nat) ≤ hi) (h3 : (OfNat.ofNat n : Nat) < 2147483648) : (v = (no_index (OfNat.ofNat n) : Int32)) = False := eq_false (inR_ne (k := n) h h1 h2 h3)
theorem within_L {v : Int32} {a b : Nat} {μ : Mm} (ha : (OfNat.ofNat a : Nat) < 1000000) (hb : (OfNat.ofNat b : Nat) < 1000000) : f_X11_within v (no_index (OfNat.ofNat a) : Int32) (no_index (OfNat.ofNat b) : Int32) μ = some (inR v (OfNat.ofNat a) (OfNat.ofNat b)) := within_c v a b ha hb μ
theorem isIn_L {v : Int32} {a b : Nat} {μ : Mm} (ha : (OfNat.ofNat a : Nat) < 1000000) (hb : (OfNat.ofNat b : Nat) < 1000000) : f_X12_isIn v.toInt64 (no_index (OfNat.ofNat a) : Int64) (no_index (OfNat.ofNat b) : Int64) μ = some (inR v (OfNat.ofNat a) (OfNat.ofNat b)) := isIn_c v a b ha hb μ
theorem CB.r0 {μ : Mm} {β : Nat → Nat} (h : CB μ β) {n : Nat} (hn : (OfNat.ofNat n : Nat) < 128) : rdA μ 146 2000 (no_index (OfNat.ofNat n) : Int32) = some (nI (β (OfNat.ofNat n))) := h.rl n hn
theorem ans_X {v : Int32} {μ : Mm} : f_X11_answer v μ = some (v, sI μ 0 0 0) := rfl
theorem ref_X {v : Int32} {μ : Mm} : f_X11_refuse v μ = some (-1, sI μ 0 0 v) := rfl
theorem ver_X {v : Int32} {μ : Mm} : f_X11_verdict v μ = some (decide (v = 0), sI μ 0 0 v) := by unfold f_X11_verdict; split <;> simp [*]
theorem ans_M {v : Int32} {μ : Mm} : f_X12_refuse v μ = some (-1, sI μ 141 0 v) := rfl
theorem no_M {v : Int32} {μ : Mm} : f_X12_no v μ = some (false, sI μ 141 0 v) := rfl
theorem X_hasLaw {μ : Mm} {b : Nat} {β : Nat → Nat} (h : BX μ b β) (w : WF β) (v : Int32) : f_X3_has (b + 1) v μ = some (inN v (β 1)) := by
  have := w.1.2.2.2.1
  unfold f_X3_has
  rw [h.laws, within_n v (by omega)]
  rfl
theorem PG.c0 {μ : Mm} {b N : Nat} {β : Nat → Nat} {nm : Nat → Int64} {ω : Nat → Nat → Int32} {σ : Nat → Int32} (h : PG μ b N 0 β nm ω σ) : CB μ β := fun k hk => by have := h.cb k hk; rw [show 400 * 0 + k = k by omega] at this; exact this
abbrev V0 (μ : Mm) (c : Int32) : Mm := sI (sI (sI μ 0 0 c) 141 1 0) 141 0 0
section OPS1
variable {μ : Mm} {F : Nat}
theorem op_status (h : R μ) : Sm0 f_X11_status f_X12_status μ := by
  refine ⟨_, _, rfl, ?_, h.go (ν := sI μ 141 1 0) (Ag.sI (P := S1 μ) (Or.inl (by unfold SC; omega))) h.st⟩
  unfold f_X12_status
  rw [h.st]
  rfl
theorem op_top (h : R μ) : Sm0 f_X11_top f_X12_top μ := by
  refine ⟨_, _, rfl, ?_, h.go (ν := sI μ 141 1 0) (Ag.sI (P := S1 μ) (Or.inl (by unfold SC; omega))) h.st⟩
  unfold f_X12_top
  rw [h.top]
  rfl
theorem op_bottom (h : R μ) : Sm0 f_X11_bottom f_X12_bottom μ := by
  refine ⟨_, _, rfl, ?_, h.go (ν := sI μ 141 1 0) (Ag.sI (P := S1 μ) (Or.inl (by unfold SC; omega))) h.st⟩
  unfold f_X12_bottom
  rw [h.bot]
  rfl
theorem op_fault (h : R μ) (v : Int32) : Sm0 (f_X11_fault v) (f_X12_fault v) μ := by
  refine ⟨if v = 0 then mI μ 9 2 else if v = 1 then mI μ 9 3 else -1, sI μ 141 1 0, ?_, ?_, h.go (ν := sI μ 141 1 0) (Ag.sI (P := S1 μ) (Or.inl (by unfold SC; omega))) h.st⟩
  · unfold f_X11_fault
    split <;> rfl
  · unfold f_X12_fault
    rw [h.fk, h.fa]
    rfl
theorem op_watch (h : R μ) (hF : 2000000 ≤ F) : Sm f_X11_watch f_X12_watch μ := by
  obtain ⟨β, nm, ω, σ, pg⟩ := h.pg
  have W := pg.wf
  have bx := pg.bx
  have gb := h.gb
  have hc : ∀ c, CB (V0 μ c) β := fun c => pg.c0.at rfl
  have w0 := W.1.1
  by_cases e : β 0 = 0
  · refine h.q 8 (-1) ?_ ?_
    · unfold f_X11_watch; simp (disch := omega) only [Option.bind_some, bd_some, eqL, leL, ltL, Lle, Llt, addL, Ladd, Lmul, mulL, nIle, nIlt, nIeq, nI_add, pk_mul, gb, X_cells bx, X_hasCell bx W, X_hasAccount bx W, X_hasLaw bx W, bx.wide, bx.tap, bx.odds, bx.acc, bx.stand, bx.hour, bx.stolen, bx.laws, bx.rD W, bx.rT W, bx.rH W, bx.rK W, bx.rF W, bx.rS W, bx.rP W, bx.rB W, X_isWrong bx W, X_wrongs bx W hF, X_tappedSet bx W hF, X_surplus bx W hF, within_L, inN_k, eq_self, if_true, if_false, Bool.false_eq_true, ans_X, ref_X, ver_X, e]
    · unfold f_X12_watch; simp (disch := omega) only [Option.bind_some, bd_some, eqL, leL, ltL, Lle, Llt, addL, Ladd, Lmul, mulL, nIle, nIlt, nIeq, nI_add, pk_mul, M_cells (hc _), M_isCellAt (hc _) W, M_isAccountAt (hc _) W, M_isLawAt (hc _) W, (hc _).rd, (hc _).r0, M_isWrong (hc _) W, M_allWrong (hc _) W hF, M_tappedSet (hc _) W hF, M_balanced (hc _) W hF, M_isEven (hc _) W hF, isIn_L, inN_k, eq_self, if_true, if_false, Bool.false_eq_true, ans_M, no_M, e]; exact QM_r
  · refine h.q 0 (nI (β 7)) ?_ ?_
    · unfold f_X11_watch; simp (disch := omega) only [Option.bind_some, bd_some, eqL, leL, ltL, Lle, Llt, addL, Ladd, Lmul, mulL, nIle, nIlt, nIeq, nI_add, pk_mul, gb, X_cells bx, X_hasCell bx W, X_hasAccount bx W, X_hasLaw bx W, bx.wide, bx.tap, bx.odds, bx.acc, bx.stand, bx.hour, bx.stolen, bx.laws, bx.rD W, bx.rT W, bx.rH W, bx.rK W, bx.rF W, bx.rS W, bx.rP W, bx.rB W, X_isWrong bx W, X_wrongs bx W hF, X_tappedSet bx W hF, X_surplus bx W hF, within_L, inN_k, eq_self, if_true, if_false, Bool.false_eq_true, ans_X, ref_X, ver_X, e]
    · unfold f_X12_watch; simp (disch := omega) only [Option.bind_some, bd_some, eqL, leL, ltL, Lle, Llt, addL, Ladd, Lmul, mulL, nIle, nIlt, nIeq, nI_add, pk_mul, M_cells (hc _), M_isCellAt (hc _) W, M_isAccountAt (hc _) W, M_isLawAt (hc _) W, (hc _).rd, (hc _).r0, M_isWrong (hc _) W, M_allWrong (hc _) W hF, M_tappedSet (hc _) W hF, M_balanced (hc _) W hF, M_isEven (hc _) W hF, isIn_L, inN_k, eq_self, if_true, if_false, Bool.false_eq_true, ans_M, no_M, e]; exact QM_a
theorem op_cell (h : R μ) (hF : 2000000 ≤ F) (v w : Int32) : Sm (f_X11_cell v w) (f_X12_cell v w) μ := by
  obtain ⟨β, nm, ω, σ, pg⟩ := h.pg
  have W := pg.wf
  have bx := pg.bx
  have gb := h.gb
  have hc : ∀ c, CB (V0 μ c) β := fun c => pg.c0.at rfl
  have hcl := W.cl_le
  by_cases e : inN v (cl β) = true
  · obtain ⟨k, hk, hk2, rfl⟩ := inN_of e
    by_cases e2 : inR w 0 3 = true
    · obtain ⟨j, hj1, hj2, hj3, rfl⟩ := inR_of e2
      have hj : j = 0 ∨ j = 1 ∨ j = 2 ∨ j = 3 := by omega
      rcases hj with rfl | rfl | rfl | rfl
      · refine h.q 0 (nI (β (13 + k))) ?_ ?_
        · unfold f_X11_cell; simp (disch := omega) only [Option.bind_some, bd_some, eqL, leL, ltL, Lle, Llt, addL, Ladd, Lmul, mulL, nIle, nIlt, nIeq, nI_add, pk_mul, gb, X_cells bx, X_hasCell bx W, X_hasAccount bx W, X_hasLaw bx W, bx.wide, bx.tap, bx.odds, bx.acc, bx.stand, bx.hour, bx.stolen, bx.laws, bx.rD W, bx.rT W, bx.rH W, bx.rK W, bx.rF W, bx.rS W, bx.rP W, bx.rB W, X_isWrong bx W, X_wrongs bx W hF, X_tappedSet bx W hF, X_surplus bx W hF, within_L, inN_k, eq_self, if_true, if_false, Bool.false_eq_true, ans_X, ref_X, ver_X]
        · unfold f_X12_cell; simp (disch := omega) only [Option.bind_some, bd_some, eqL, leL, ltL, Lle, Llt, addL, Ladd, Lmul, mulL, nIle, nIlt, nIeq, nI_add, pk_mul, M_cells (hc _), M_isCellAt (hc _) W, M_isAccountAt (hc _) W, M_isLawAt (hc _) W, (hc _).rd, (hc _).r0, M_isWrong (hc _) W, M_allWrong (hc _) W hF, M_tappedSet (hc _) W hF, M_balanced (hc _) W hF, M_isEven (hc _) W hF, isIn_L, inN_k, eq_self, if_true, if_false, Bool.false_eq_true, ans_M, no_M, e2]; exact QM_a
      · refine h.q 0 (nI (β (38 + k))) ?_ ?_
        · unfold f_X11_cell; simp (disch := omega) only [Option.bind_some, bd_some, eqL, leL, ltL, Lle, Llt, addL, Ladd, Lmul, mulL, nIle, nIlt, nIeq, nI_add, pk_mul, gb, X_cells bx, X_hasCell bx W, X_hasAccount bx W, X_hasLaw bx W, bx.wide, bx.tap, bx.odds, bx.acc, bx.stand, bx.hour, bx.stolen, bx.laws, bx.rD W, bx.rT W, bx.rH W, bx.rK W, bx.rF W, bx.rS W, bx.rP W, bx.rB W, X_isWrong bx W, X_wrongs bx W hF, X_tappedSet bx W hF, X_surplus bx W hF, within_L, inN_k, eq_self, if_true, if_false, Bool.false_eq_true, ans_X, ref_X, ver_X]; rfl
        · unfold f_X12_cell; simp (disch := omega) only [Option.bind_some, bd_some, eqL, leL, ltL, Lle, Llt, addL, Ladd, Lmul, mulL, nIle, nIlt, nIeq, nI_add, pk_mul, M_cells (hc _), M_isCellAt (hc _) W, M_isAccountAt (hc _) W, M_isLawAt (hc _) W, (hc _).rd, (hc _).r0, M_isWrong (hc _) W, M_allWrong (hc _) W hF, M_tappedSet (hc _) W hF, M_balanced (hc _) W hF, M_isEven (hc _) W hF, isIn_L, inN_k, eq_self, if_true, if_false, Bool.false_eq_true, ans_M, no_M, e2]; exact QM_a
      · refine h.q 0 (nI (β (63 + k))) ?_ ?_
        · unfold f_X11_cell; simp (disch := omega) only [Option.bind_some, bd_some, eqL, leL, ltL, Lle, Llt, addL, Ladd, Lmul, mulL, nIle, nIlt, nIeq, nI_add, pk_mul, gb, X_cells bx, X_hasCell bx W, X_hasAccount bx W, X_hasLaw bx W, bx.wide, bx.tap, bx.odds, bx.acc, bx.stand, bx.hour, bx.stolen, bx.laws, bx.rD W, bx.rT W, bx.rH W, bx.rK W, bx.rF W, bx.rS W, bx.rP W, bx.rB W, X_isWrong bx W, X_wrongs bx W hF, X_tappedSet bx W hF, X_surplus bx W hF, within_L, inN_k, eq_self, if_true, if_false, Bool.false_eq_true, ans_X, ref_X, ver_X]; rfl
        · unfold f_X12_cell; simp (disch := omega) only [Option.bind_some, bd_some, eqL, leL, ltL, Lle, Llt, addL, Ladd, Lmul, mulL, nIle, nIlt, nIeq, nI_add, pk_mul, M_cells (hc _), M_isCellAt (hc _) W, M_isAccountAt (hc _) W, M_isLawAt (hc _) W, (hc _).rd, (hc _).r0, M_isWrong (hc _) W, M_allWrong (hc _) W hF, M_tappedSet (hc _) W hF, M_balanced (hc _) W hF, M_isEven (hc _) W hF, isIn_L, inN_k, eq_self, if_true, if_false, Bool.false_eq_true, ans_M, no_M, e2]; exact QM_a
      · refine h.q 0 (if wrg β k = true then 1 else 0) ?_ ?_
        · unfold f_X11_cell; simp (disch := omega) only [Option.bind_some, bd_some, eqL, leL, ltL, Lle, Llt, addL, Ladd, Lmul, mulL, nIle, nIlt, nIeq, nI_add, pk_mul, gb, X_cells bx, X_hasCell bx W, X_hasAccount bx W, X_hasLaw bx W, bx.wide, bx.tap, bx.odds, bx.acc, bx.stand, bx.hour, bx.stolen, bx.laws, bx.rD W, bx.rT W, bx.rH W, bx.rK W, bx.rF W, bx.rS W, bx.rP W, bx.rB W, X_isWrong bx W, X_wrongs bx W hF, X_tappedSet bx W hF, X_surplus bx W hF, within_L, inN_k, eq_self, if_true, if_false, Bool.false_eq_true, ans_X, ref_X, ver_X]; rfl
        · unfold f_X12_cell; simp (disch := omega) only [Option.bind_some, bd_some, eqL, leL, ltL, Lle, Llt, addL, Ladd, Lmul, mulL, nIle, nIlt, nIeq, nI_add, pk_mul, M_cells (hc _), M_isCellAt (hc _) W, M_isAccountAt (hc _) W, M_isLawAt (hc _) W, (hc _).rd, (hc _).r0, M_isWrong (hc _) W, M_allWrong (hc _) W hF, M_tappedSet (hc _) W hF, M_balanced (hc _) W hF, M_isEven (hc _) W hF, isIn_L, inN_k, eq_self, if_true, if_false, Bool.false_eq_true, ans_M, no_M, e2]; exact QM_a
    · have e3 := inR_no e2
      refine h.q 5 (-1) ?_ ?_
      · unfold f_X11_cell; simp (disch := omega) only [Option.bind_some, bd_some, eqL, leL, ltL, Lle, Llt, addL, Ladd, Lmul, mulL, nIle, nIlt, nIeq, nI_add, pk_mul, gb, X_cells bx, X_hasCell bx W, X_hasAccount bx W, X_hasLaw bx W, bx.wide, bx.tap, bx.odds, bx.acc, bx.stand, bx.hour, bx.stolen, bx.laws, bx.rD W, bx.rT W, bx.rH W, bx.rK W, bx.rF W, bx.rS W, bx.rP W, bx.rB W, X_isWrong bx W, X_wrongs bx W hF, X_tappedSet bx W hF, X_surplus bx W hF, within_L, inN_k, eq_self, if_true, if_false, Bool.false_eq_true, ans_X, ref_X, ver_X, ne_L e3]
      · unfold f_X12_cell; simp (disch := omega) only [Option.bind_some, bd_some, eqL, leL, ltL, Lle, Llt, addL, Ladd, Lmul, mulL, nIle, nIlt, nIeq, nI_add, pk_mul, M_cells (hc _), M_isCellAt (hc _) W, M_isAccountAt (hc _) W, M_isLawAt (hc _) W, (hc _).rd, (hc _).r0, M_isWrong (hc _) W, M_allWrong (hc _) W hF, M_tappedSet (hc _) W hF, M_balanced (hc _) W hF, M_isEven (hc _) W hF, isIn_L, inN_k, eq_self, if_true, if_false, Bool.false_eq_true, ans_M, no_M, e3]; exact QM_r
  · have e3 := inN_no e
    refine h.q 2 (-1) ?_ ?_
    · unfold f_X11_cell; simp (disch := omega) only [Option.bind_some, bd_some, eqL, leL, ltL, Lle, Llt, addL, Ladd, Lmul, mulL, nIle, nIlt, nIeq, nI_add, pk_mul, gb, X_cells bx, X_hasCell bx W, X_hasAccount bx W, X_hasLaw bx W, bx.wide, bx.tap, bx.odds, bx.acc, bx.stand, bx.hour, bx.stolen, bx.laws, bx.rD W, bx.rT W, bx.rH W, bx.rK W, bx.rF W, bx.rS W, bx.rP W, bx.rB W, X_isWrong bx W, X_wrongs bx W hF, X_tappedSet bx W hF, X_surplus bx W hF, within_L, inN_k, eq_self, if_true, if_false, Bool.false_eq_true, ans_X, ref_X, ver_X, e3]
    · unfold f_X12_cell; simp (disch := omega) only [Option.bind_some, bd_some, eqL, leL, ltL, Lle, Llt, addL, Ladd, Lmul, mulL, nIle, nIlt, nIeq, nI_add, pk_mul, M_cells (hc _), M_isCellAt (hc _) W, M_isAccountAt (hc _) W, M_isLawAt (hc _) W, (hc _).rd, (hc _).r0, M_isWrong (hc _) W, M_allWrong (hc _) W hF, M_tappedSet (hc _) W hF, M_balanced (hc _) W hF, M_isEven (hc _) W hF, isIn_L, inN_k, eq_self, if_true, if_false, Bool.false_eq_true, ans_M, no_M, e3]; exact QM_r
theorem op_many (h : R μ) (hF : 2000000 ≤ F) (v : Int32) : Sm (f_X11_many F v) (f_X12_many F v) μ := by
  obtain ⟨β, nm, ω, σ, pg⟩ := h.pg
  have W := pg.wf
  have bx := pg.bx
  have gb := h.gb
  have hc : ∀ c, CB (V0 μ c) β := fun c => pg.c0.at rfl
  by_cases e : inR v 0 10 = true
  · obtain ⟨j, hj1, hj2, hj3, rfl⟩ := inR_of e
    have hj : j = 0 ∨ j = 1 ∨ j = 2 ∨ j = 3 ∨ j = 4 ∨ j = 5 ∨ j = 6 ∨ j = 7 ∨ j = 8 ∨ j = 9 ∨ j = 10 := by omega
    rcases hj with rfl | rfl | rfl | rfl | rfl | rfl | rfl | rfl | rfl | rfl | rfl
    · refine h.q 0 (nI (β 0)) (by unfold f_X11_many; simp (disch := omega) only [Option.bind_some, bd_some, eqL, leL, ltL, Lle, Llt, addL, Ladd, Lmul, mulL, nIle, nIlt, nIeq, nI_add, pk_mul, gb, X_cells bx, X_hasCell bx W, X_hasAccount bx W, X_hasLaw bx W, bx.wide, bx.tap, bx.odds, bx.acc, bx.stand, bx.hour, bx.stolen, bx.laws, bx.rD W, bx.rT W, bx.rH W, bx.rK W, bx.rF W, bx.rS W, bx.rP W, bx.rB W, X_isWrong bx W, X_wrongs bx W hF, X_tappedSet bx W hF, X_surplus bx W hF, within_L, inN_k, eq_self, if_true, if_false, Bool.false_eq_true, ans_X, ref_X, ver_X]) (by unfold f_X12_many; simp (disch := omega) only [Option.bind_some, bd_some, eqL, leL, ltL, Lle, Llt, addL, Ladd, Lmul, mulL, nIle, nIlt, nIeq, nI_add, pk_mul, M_cells (hc _), M_isCellAt (hc _) W, M_isAccountAt (hc _) W, M_isLawAt (hc _) W, (hc _).rd, (hc _).r0, M_isWrong (hc _) W, M_allWrong (hc _) W hF, M_tappedSet (hc _) W hF, M_balanced (hc _) W hF, M_isEven (hc _) W hF, isIn_L, inN_k, eq_self, if_true, if_false, Bool.false_eq_true, ans_M, no_M, e]; exact QM_a)
    · refine h.q 0 (nI (β 1)) (by unfold f_X11_many; simp (disch := omega) only [Option.bind_some, bd_some, eqL, leL, ltL, Lle, Llt, addL, Ladd, Lmul, mulL, nIle, nIlt, nIeq, nI_add, pk_mul, gb, X_cells bx, X_hasCell bx W, X_hasAccount bx W, X_hasLaw bx W, bx.wide, bx.tap, bx.odds, bx.acc, bx.stand, bx.hour, bx.stolen, bx.laws, bx.rD W, bx.rT W, bx.rH W, bx.rK W, bx.rF W, bx.rS W, bx.rP W, bx.rB W, X_isWrong bx W, X_wrongs bx W hF, X_tappedSet bx W hF, X_surplus bx W hF, within_L, inN_k, eq_self, if_true, if_false, Bool.false_eq_true, ans_X, ref_X, ver_X]; rfl) (by unfold f_X12_many; simp (disch := omega) only [Option.bind_some, bd_some, eqL, leL, ltL, Lle, Llt, addL, Ladd, Lmul, mulL, nIle, nIlt, nIeq, nI_add, pk_mul, M_cells (hc _), M_isCellAt (hc _) W, M_isAccountAt (hc _) W, M_isLawAt (hc _) W, (hc _).rd, (hc _).r0, M_isWrong (hc _) W, M_allWrong (hc _) W hF, M_tappedSet (hc _) W hF, M_balanced (hc _) W hF, M_isEven (hc _) W hF, isIn_L, inN_k, eq_self, if_true, if_false, Bool.false_eq_true, ans_M, no_M, e]; exact QM_a)
    · refine h.q 0 (nI (β 2)) (by unfold f_X11_many; simp (disch := omega) only [Option.bind_some, bd_some, eqL, leL, ltL, Lle, Llt, addL, Ladd, Lmul, mulL, nIle, nIlt, nIeq, nI_add, pk_mul, gb, X_cells bx, X_hasCell bx W, X_hasAccount bx W, X_hasLaw bx W, bx.wide, bx.tap, bx.odds, bx.acc, bx.stand, bx.hour, bx.stolen, bx.laws, bx.rD W, bx.rT W, bx.rH W, bx.rK W, bx.rF W, bx.rS W, bx.rP W, bx.rB W, X_isWrong bx W, X_wrongs bx W hF, X_tappedSet bx W hF, X_surplus bx W hF, within_L, inN_k, eq_self, if_true, if_false, Bool.false_eq_true, ans_X, ref_X, ver_X]; rfl) (by unfold f_X12_many; simp (disch := omega) only [Option.bind_some, bd_some, eqL, leL, ltL, Lle, Llt, addL, Ladd, Lmul, mulL, nIle, nIlt, nIeq, nI_add, pk_mul, M_cells (hc _), M_isCellAt (hc _) W, M_isAccountAt (hc _) W, M_isLawAt (hc _) W, (hc _).rd, (hc _).r0, M_isWrong (hc _) W, M_allWrong (hc _) W hF, M_tappedSet (hc _) W hF, M_balanced (hc _) W hF, M_isEven (hc _) W hF, isIn_L, inN_k, eq_self, if_true, if_false, Bool.false_eq_true, ans_M, no_M, e]; exact QM_a)
    · refine h.q 0 (nI (β 3)) (by unfold f_X11_many; simp (disch := omega) only [Option.bind_some, bd_some, eqL, leL, ltL, Lle, Llt, addL, Ladd, Lmul, mulL, nIle, nIlt, nIeq, nI_add, pk_mul, gb, X_cells bx, X_hasCell bx W, X_hasAccount bx W, X_hasLaw bx W, bx.wide, bx.tap, bx.odds, bx.acc, bx.stand, bx.hour, bx.stolen, bx.laws, bx.rD W, bx.rT W, bx.rH W, bx.rK W, bx.rF W, bx.rS W, bx.rP W, bx.rB W, X_isWrong bx W, X_wrongs bx W hF, X_tappedSet bx W hF, X_surplus bx W hF, within_L, inN_k, eq_self, if_true, if_false, Bool.false_eq_true, ans_X, ref_X, ver_X]; rfl) (by unfold f_X12_many; simp (disch := omega) only [Option.bind_some, bd_some, eqL, leL, ltL, Lle, Llt, addL, Ladd, Lmul, mulL, nIle, nIlt, nIeq, nI_add, pk_mul, M_cells (hc _), M_isCellAt (hc _) W, M_isAccountAt (hc _) W, M_isLawAt (hc _) W, (hc _).rd, (hc _).r0, M_isWrong (hc _) W, M_allWrong (hc _) W hF, M_tappedSet (hc _) W hF, M_balanced (hc _) W hF, M_isEven (hc _) W hF, isIn_L, inN_k, eq_self, if_true, if_false, Bool.false_eq_true, ans_M, no_M, e]; exact QM_a)
    · refine h.q 0 (nI (β 4)) (by unfold f_X11_many; simp (disch := omega) only [Option.bind_some, bd_some, eqL, leL, ltL, Lle, Llt, addL, Ladd, Lmul, mulL, nIle, nIlt, nIeq, nI_add, pk_mul, gb, X_cells bx, X_hasCell bx W, X_hasAccount bx W, X_hasLaw bx W, bx.wide, bx.tap, bx.odds, bx.acc, bx.stand, bx.hour, bx.stolen, bx.laws, bx.rD W, bx.rT W, bx.rH W, bx.rK W, bx.rF W, bx.rS W, bx.rP W, bx.rB W, X_isWrong bx W, X_wrongs bx W hF, X_tappedSet bx W hF, X_surplus bx W hF, within_L, inN_k, eq_self, if_true, if_false, Bool.false_eq_true, ans_X, ref_X, ver_X]; rfl) (by unfold f_X12_many; simp (disch := omega) only [Option.bind_some, bd_some, eqL, leL, ltL, Lle, Llt, addL, Ladd, Lmul, mulL, nIle, nIlt, nIeq, nI_add, pk_mul, M_cells (hc _), M_isCellAt (hc _) W, M_isAccountAt (hc _) W, M_isLawAt (hc _) W, (hc _).rd, (hc _).r0, M_isWrong (hc _) W, M_allWrong (hc _) W hF, M_tappedSet (hc _) W hF, M_balanced (hc _) W hF, M_isEven (hc _) W hF, isIn_L, inN_k, eq_self, if_true, if_false, Bool.false_eq_true, ans_M, no_M, e]; exact QM_a)
    · refine h.q 0 (nI (β 5)) (by unfold f_X11_many; simp (disch := omega) only [Option.bind_some, bd_some, eqL, leL, ltL, Lle, Llt, addL, Ladd, Lmul, mulL, nIle, nIlt, nIeq, nI_add, pk_mul, gb, X_cells bx, X_hasCell bx W, X_hasAccount bx W, X_hasLaw bx W, bx.wide, bx.tap, bx.odds, bx.acc, bx.stand, bx.hour, bx.stolen, bx.laws, bx.rD W, bx.rT W, bx.rH W, bx.rK W, bx.rF W, bx.rS W, bx.rP W, bx.rB W, X_isWrong bx W, X_wrongs bx W hF, X_tappedSet bx W hF, X_surplus bx W hF, within_L, inN_k, eq_self, if_true, if_false, Bool.false_eq_true, ans_X, ref_X, ver_X]; rfl) (by unfold f_X12_many; simp (disch := omega) only [Option.bind_some, bd_some, eqL, leL, ltL, Lle, Llt, addL, Ladd, Lmul, mulL, nIle, nIlt, nIeq, nI_add, pk_mul, M_cells (hc _), M_isCellAt (hc _) W, M_isAccountAt (hc _) W, M_isLawAt (hc _) W, (hc _).rd, (hc _).r0, M_isWrong (hc _) W, M_allWrong (hc _) W hF, M_tappedSet (hc _) W hF, M_balanced (hc _) W hF, M_isEven (hc _) W hF, isIn_L, inN_k, eq_self, if_true, if_false, Bool.false_eq_true, ans_M, no_M, e]; exact QM_a)
    · refine h.q 0 (nI (cl β)) (by unfold f_X11_many; simp (disch := omega) only [Option.bind_some, bd_some, eqL, leL, ltL, Lle, Llt, addL, Ladd, Lmul, mulL, nIle, nIlt, nIeq, nI_add, pk_mul, gb, X_cells bx, X_hasCell bx W, X_hasAccount bx W, X_hasLaw bx W, bx.wide, bx.tap, bx.odds, bx.acc, bx.stand, bx.hour, bx.stolen, bx.laws, bx.rD W, bx.rT W, bx.rH W, bx.rK W, bx.rF W, bx.rS W, bx.rP W, bx.rB W, X_isWrong bx W, X_wrongs bx W hF, X_tappedSet bx W hF, X_surplus bx W hF, within_L, inN_k, eq_self, if_true, if_false, Bool.false_eq_true, ans_X, ref_X, ver_X]; rfl) (by unfold f_X12_many; simp (disch := omega) only [Option.bind_some, bd_some, eqL, leL, ltL, Lle, Llt, addL, Ladd, Lmul, mulL, nIle, nIlt, nIeq, nI_add, pk_mul, M_cells (hc _), M_isCellAt (hc _) W, M_isAccountAt (hc _) W, M_isLawAt (hc _) W, (hc _).rd, (hc _).r0, M_isWrong (hc _) W, M_allWrong (hc _) W hF, M_tappedSet (hc _) W hF, M_balanced (hc _) W hF, M_isEven (hc _) W hF, isIn_L, inN_k, eq_self, if_true, if_false, Bool.false_eq_true, ans_M, no_M, e]; exact QM_a)
    · refine h.q 0 (nI (wrongAll β)) (by unfold f_X11_many; simp (disch := omega) only [Option.bind_some, bd_some, eqL, leL, ltL, Lle, Llt, addL, Ladd, Lmul, mulL, nIle, nIlt, nIeq, nI_add, pk_mul, gb, X_cells bx, X_hasCell bx W, X_hasAccount bx W, X_hasLaw bx W, bx.wide, bx.tap, bx.odds, bx.acc, bx.stand, bx.hour, bx.stolen, bx.laws, bx.rD W, bx.rT W, bx.rH W, bx.rK W, bx.rF W, bx.rS W, bx.rP W, bx.rB W, X_isWrong bx W, X_wrongs bx W hF, X_tappedSet bx W hF, X_surplus bx W hF, within_L, inN_k, eq_self, if_true, if_false, Bool.false_eq_true, ans_X, ref_X, ver_X]; rfl) (by unfold f_X12_many; simp (disch := omega) only [Option.bind_some, bd_some, eqL, leL, ltL, Lle, Llt, addL, Ladd, Lmul, mulL, nIle, nIlt, nIeq, nI_add, pk_mul, M_cells (hc _), M_isCellAt (hc _) W, M_isAccountAt (hc _) W, M_isLawAt (hc _) W, (hc _).rd, (hc _).r0, M_isWrong (hc _) W, M_allWrong (hc _) W hF, M_tappedSet (hc _) W hF, M_balanced (hc _) W hF, M_isEven (hc _) W hF, isIn_L, inN_k, eq_self, if_true, if_false, Bool.false_eq_true, ans_M, no_M, e]; exact QM_a)
    · refine h.q 0 (tapSet β) (by unfold f_X11_many; simp (disch := omega) only [Option.bind_some, bd_some, eqL, leL, ltL, Lle, Llt, addL, Ladd, Lmul, mulL, nIle, nIlt, nIeq, nI_add, pk_mul, gb, X_cells bx, X_hasCell bx W, X_hasAccount bx W, X_hasLaw bx W, bx.wide, bx.tap, bx.odds, bx.acc, bx.stand, bx.hour, bx.stolen, bx.laws, bx.rD W, bx.rT W, bx.rH W, bx.rK W, bx.rF W, bx.rS W, bx.rP W, bx.rB W, X_isWrong bx W, X_wrongs bx W hF, X_tappedSet bx W hF, X_surplus bx W hF, within_L, inN_k, eq_self, if_true, if_false, Bool.false_eq_true, ans_X, ref_X, ver_X]; rfl) (by unfold f_X12_many; simp (disch := omega) only [Option.bind_some, bd_some, eqL, leL, ltL, Lle, Llt, addL, Ladd, Lmul, mulL, nIle, nIlt, nIeq, nI_add, pk_mul, M_cells (hc _), M_isCellAt (hc _) W, M_isAccountAt (hc _) W, M_isLawAt (hc _) W, (hc _).rd, (hc _).r0, M_isWrong (hc _) W, M_allWrong (hc _) W hF, M_tappedSet (hc _) W hF, M_balanced (hc _) W hF, M_isEven (hc _) W hF, isIn_L, inN_k, eq_self, if_true, if_false, Bool.false_eq_true, ans_M, no_M, e]; exact QM_a)
    · refine h.q 0 (nI (β 6)) (by unfold f_X11_many; simp (disch := omega) only [Option.bind_some, bd_some, eqL, leL, ltL, Lle, Llt, addL, Ladd, Lmul, mulL, nIle, nIlt, nIeq, nI_add, pk_mul, gb, X_cells bx, X_hasCell bx W, X_hasAccount bx W, X_hasLaw bx W, bx.wide, bx.tap, bx.odds, bx.acc, bx.stand, bx.hour, bx.stolen, bx.laws, bx.rD W, bx.rT W, bx.rH W, bx.rK W, bx.rF W, bx.rS W, bx.rP W, bx.rB W, X_isWrong bx W, X_wrongs bx W hF, X_tappedSet bx W hF, X_surplus bx W hF, within_L, inN_k, eq_self, if_true, if_false, Bool.false_eq_true, ans_X, ref_X, ver_X]; rfl) (by unfold f_X12_many; simp (disch := omega) only [Option.bind_some, bd_some, eqL, leL, ltL, Lle, Llt, addL, Ladd, Lmul, mulL, nIle, nIlt, nIeq, nI_add, pk_mul, M_cells (hc _), M_isCellAt (hc _) W, M_isAccountAt (hc _) W, M_isLawAt (hc _) W, (hc _).rd, (hc _).r0, M_isWrong (hc _) W, M_allWrong (hc _) W hF, M_tappedSet (hc _) W hF, M_balanced (hc _) W hF, M_isEven (hc _) W hF, isIn_L, inN_k, eq_self, if_true, if_false, Bool.false_eq_true, ans_M, no_M, e]; exact QM_a)
    · refine h.q 0 (if bal β = 0 then 1 else 0) (by unfold f_X11_many; simp (disch := omega) only [Option.bind_some, bd_some, eqL, leL, ltL, Lle, Llt, addL, Ladd, Lmul, mulL, nIle, nIlt, nIeq, nI_add, pk_mul, gb, X_cells bx, X_hasCell bx W, X_hasAccount bx W, X_hasLaw bx W, bx.wide, bx.tap, bx.odds, bx.acc, bx.stand, bx.hour, bx.stolen, bx.laws, bx.rD W, bx.rT W, bx.rH W, bx.rK W, bx.rF W, bx.rS W, bx.rP W, bx.rB W, X_isWrong bx W, X_wrongs bx W hF, X_tappedSet bx W hF, X_surplus bx W hF, within_L, inN_k, eq_self, if_true, if_false, Bool.false_eq_true, ans_X, ref_X, ver_X]; rfl) (by unfold f_X12_many; simp (disch := omega) only [Option.bind_some, bd_some, eqL, leL, ltL, Lle, Llt, addL, Ladd, Lmul, mulL, nIle, nIlt, nIeq, nI_add, pk_mul, M_cells (hc _), M_isCellAt (hc _) W, M_isAccountAt (hc _) W, M_isLawAt (hc _) W, (hc _).rd, (hc _).r0, M_isWrong (hc _) W, M_allWrong (hc _) W hF, M_tappedSet (hc _) W hF, M_balanced (hc _) W hF, M_isEven (hc _) W hF, isIn_L, inN_k, eq_self, if_true, if_false, Bool.false_eq_true, ans_M, no_M, e, decide_eq_true_eq]; exact QM_a)
  · have e3 := inR_no e
    exact h.q 5 (-1) (by unfold f_X11_many; simp (disch := omega) only [Option.bind_some, bd_some, eqL, leL, ltL, Lle, Llt, addL, Ladd, Lmul, mulL, nIle, nIlt, nIeq, nI_add, pk_mul, gb, X_cells bx, X_hasCell bx W, X_hasAccount bx W, X_hasLaw bx W, bx.wide, bx.tap, bx.odds, bx.acc, bx.stand, bx.hour, bx.stolen, bx.laws, bx.rD W, bx.rT W, bx.rH W, bx.rK W, bx.rF W, bx.rS W, bx.rP W, bx.rB W, X_isWrong bx W, X_wrongs bx W hF, X_tappedSet bx W hF, X_surplus bx W hF, within_L, inN_k, eq_self, if_true, if_false, Bool.false_eq_true, ans_X, ref_X, ver_X, ne_L e3]) (by unfold f_X12_many; simp (disch := omega) only [Option.bind_some, bd_some, eqL, leL, ltL, Lle, Llt, addL, Ladd, Lmul, mulL, nIle, nIlt, nIeq, nI_add, pk_mul, M_cells (hc _), M_isCellAt (hc _) W, M_isAccountAt (hc _) W, M_isLawAt (hc _) W, (hc _).rd, (hc _).r0, M_isWrong (hc _) W, M_allWrong (hc _) W hF, M_tappedSet (hc _) W hF, M_balanced (hc _) W hF, M_isEven (hc _) W hF, isIn_L, inN_k, eq_self, if_true, if_false, Bool.false_eq_true, ans_M, no_M, e3]; exact QM_r)
theorem op_account (h : R μ) (hF : 2000000 ≤ F) (v w : Int32) : Sm (f_X11_account F v w) (f_X12_account F v w) μ := by
  obtain ⟨β, nm, ω, σ, pg⟩ := h.pg
  have W := pg.wf
  have bx := pg.bx
  have gb := h.gb
  have hc : ∀ c, CB (V0 μ c) β := fun c => pg.c0.at rfl
  have w0 := W.1.1
  have w2 := W.1.2.2.1
  by_cases e : inN v (β 0) = true
  · obtain ⟨k, hk, hk2, rfl⟩ := inN_of e
    have hb : β 2 * k ≤ 5 * 4 := Nat.mul_le_mul w2 (by omega)
    by_cases e2 : inR w 0 3 = true
    · obtain ⟨j, hj1, hj2, hj3, rfl⟩ := inR_of e2
      have hj : j = 0 ∨ j = 1 ∨ j = 2 ∨ j = 3 := by omega
      rcases hj with rfl | rfl | rfl | rfl
      · exact h.q 0 (nI (β (8 + k))) (by unfold f_X11_account; simp (disch := omega) only [Option.bind_some, bd_some, eqL, leL, ltL, Lle, Llt, addL, Ladd, Lmul, mulL, nIle, nIlt, nIeq, nI_add, pk_mul, gb, X_cells bx, X_hasCell bx W, X_hasAccount bx W, X_hasLaw bx W, bx.wide, bx.tap, bx.odds, bx.acc, bx.stand, bx.hour, bx.stolen, bx.laws, bx.rD W, bx.rT W, bx.rH W, bx.rK W, bx.rF W, bx.rS W, bx.rP W, bx.rB W, X_isWrong bx W, X_wrongs bx W hF, X_tappedSet bx W hF, X_surplus bx W hF, within_L, inN_k, eq_self, if_true, if_false, Bool.false_eq_true, ans_X, ref_X, ver_X]) (by unfold f_X12_account; simp (disch := omega) only [Option.bind_some, bd_some, eqL, leL, ltL, Lle, Llt, addL, Ladd, Lmul, mulL, nIle, nIlt, nIeq, nI_add, pk_mul, M_cells (hc _), M_isCellAt (hc _) W, M_isAccountAt (hc _) W, M_isLawAt (hc _) W, (hc _).rd, (hc _).r0, M_isWrong (hc _) W, M_allWrong (hc _) W hF, M_tappedSet (hc _) W hF, M_balanced (hc _) W hF, M_isEven (hc _) W hF, isIn_L, inN_k, eq_self, if_true, if_false, Bool.false_eq_true, ans_M, no_M, e2]; exact QM_a)
      · exact h.q 0 (nI (sumN β 13 k)) (by unfold f_X11_account; simp (disch := omega) only [Option.bind_some, bd_some, eqL, leL, ltL, Lle, Llt, addL, Ladd, Lmul, mulL, nIle, nIlt, nIeq, nI_add, pk_mul, gb, X_cells bx, X_hasCell bx W, X_hasAccount bx W, X_hasLaw bx W, bx.wide, bx.tap, bx.odds, bx.acc, bx.stand, bx.hour, bx.stolen, bx.laws, bx.rD W, bx.rT W, bx.rH W, bx.rK W, bx.rF W, bx.rS W, bx.rP W, bx.rB W, X_isWrong bx W, X_wrongs bx W hF, X_tappedSet bx W hF, X_surplus bx W hF, within_L, inN_k, eq_self, if_true, if_false, Bool.false_eq_true, ans_X, ref_X, ver_X, X_sumOf bx W hF bx.rowD]; rfl) (by unfold f_X12_account; simp (disch := omega) only [Option.bind_some, bd_some, eqL, leL, ltL, Lle, Llt, addL, Ladd, Lmul, mulL, nIle, nIlt, nIeq, nI_add, pk_mul, M_cells (hc _), M_isCellAt (hc _) W, M_isAccountAt (hc _) W, M_isLawAt (hc _) W, (hc _).rd, (hc _).r0, M_isWrong (hc _) W, M_allWrong (hc _) W hF, M_tappedSet (hc _) W hF, M_balanced (hc _) W hF, M_isEven (hc _) W hF, isIn_L, inN_k, eq_self, if_true, if_false, Bool.false_eq_true, ans_M, no_M, e2]; rw [show (13 : Int32) = nI 13 from rfl, M_sumOf (hc 0) W hF (by omega) (Or.inl rfl)]; exact QM_a)
      · exact h.q 0 (nI (sumN β 38 k)) (by unfold f_X11_account; simp (disch := omega) only [Option.bind_some, bd_some, eqL, leL, ltL, Lle, Llt, addL, Ladd, Lmul, mulL, nIle, nIlt, nIeq, nI_add, pk_mul, gb, X_cells bx, X_hasCell bx W, X_hasAccount bx W, X_hasLaw bx W, bx.wide, bx.tap, bx.odds, bx.acc, bx.stand, bx.hour, bx.stolen, bx.laws, bx.rD W, bx.rT W, bx.rH W, bx.rK W, bx.rF W, bx.rS W, bx.rP W, bx.rB W, X_isWrong bx W, X_wrongs bx W hF, X_tappedSet bx W hF, X_surplus bx W hF, within_L, inN_k, eq_self, if_true, if_false, Bool.false_eq_true, ans_X, ref_X, ver_X, X_sumOf bx W hF bx.rowT]; rfl) (by unfold f_X12_account; simp (disch := omega) only [Option.bind_some, bd_some, eqL, leL, ltL, Lle, Llt, addL, Ladd, Lmul, mulL, nIle, nIlt, nIeq, nI_add, pk_mul, M_cells (hc _), M_isCellAt (hc _) W, M_isAccountAt (hc _) W, M_isLawAt (hc _) W, (hc _).rd, (hc _).r0, M_isWrong (hc _) W, M_allWrong (hc _) W hF, M_tappedSet (hc _) W hF, M_balanced (hc _) W hF, M_isEven (hc _) W hF, isIn_L, inN_k, eq_self, if_true, if_false, Bool.false_eq_true, ans_M, no_M, e2]; rw [if_neg (by decide), if_neg (by decide), if_neg (by decide), show (38 : Int32) = nI 38 from rfl, M_sumOf (hc 0) W hF (by omega) (Or.inr rfl)]; exact QM_a)
      · exact h.q 0 (tgR β 13 (β 2 * k) (β 2) 1) (by unfold f_X11_account; simp (disch := omega) only [Option.bind_some, bd_some, eqL, leL, ltL, Lle, Llt, addL, Ladd, Lmul, mulL, nIle, nIlt, nIeq, nI_add, pk_mul, gb, X_cells bx, X_hasCell bx W, X_hasAccount bx W, X_hasLaw bx W, bx.wide, bx.tap, bx.odds, bx.acc, bx.stand, bx.hour, bx.stolen, bx.laws, bx.rD W, bx.rT W, bx.rH W, bx.rK W, bx.rF W, bx.rS W, bx.rP W, bx.rB W, X_isWrong bx W, X_wrongs bx W hF, X_tappedSet bx W hF, X_surplus bx W hF, within_L, inN_k, eq_self, if_true, if_false, Bool.false_eq_true, ans_X, ref_X, ver_X, X_togetherInRow bx W hF bx.rowD]; rfl) (by unfold f_X12_account; simp (disch := omega) only [Option.bind_some, bd_some, eqL, leL, ltL, Lle, Llt, addL, Ladd, Lmul, mulL, nIle, nIlt, nIeq, nI_add, pk_mul, M_cells (hc _), M_isCellAt (hc _) W, M_isAccountAt (hc _) W, M_isLawAt (hc _) W, (hc _).rd, (hc _).r0, M_isWrong (hc _) W, M_allWrong (hc _) W hF, M_tappedSet (hc _) W hF, M_balanced (hc _) W hF, M_isEven (hc _) W hF, isIn_L, inN_k, eq_self, if_true, if_false, Bool.false_eq_true, ans_M, no_M, e2]; rw [show (13 : Int32) = nI 13 from rfl, show (1 : Int32) = nI 1 from rfl, M_together (hc 0) hF (by omega) (fun i hi => by omega)]; exact QM_a)
    · have e3 := inR_no e2
      exact h.q 5 (-1) (by unfold f_X11_account; simp (disch := omega) only [Option.bind_some, bd_some, eqL, leL, ltL, Lle, Llt, addL, Ladd, Lmul, mulL, nIle, nIlt, nIeq, nI_add, pk_mul, gb, X_cells bx, X_hasCell bx W, X_hasAccount bx W, X_hasLaw bx W, bx.wide, bx.tap, bx.odds, bx.acc, bx.stand, bx.hour, bx.stolen, bx.laws, bx.rD W, bx.rT W, bx.rH W, bx.rK W, bx.rF W, bx.rS W, bx.rP W, bx.rB W, X_isWrong bx W, X_wrongs bx W hF, X_tappedSet bx W hF, X_surplus bx W hF, within_L, inN_k, eq_self, if_true, if_false, Bool.false_eq_true, ans_X, ref_X, ver_X, ne_L e3]) (by unfold f_X12_account; simp (disch := omega) only [Option.bind_some, bd_some, eqL, leL, ltL, Lle, Llt, addL, Ladd, Lmul, mulL, nIle, nIlt, nIeq, nI_add, pk_mul, M_cells (hc _), M_isCellAt (hc _) W, M_isAccountAt (hc _) W, M_isLawAt (hc _) W, (hc _).rd, (hc _).r0, M_isWrong (hc _) W, M_allWrong (hc _) W hF, M_tappedSet (hc _) W hF, M_balanced (hc _) W hF, M_isEven (hc _) W hF, isIn_L, inN_k, eq_self, if_true, if_false, Bool.false_eq_true, ans_M, no_M, e3]; exact QM_r)
  · have e3 := inN_no e
    exact h.q 2 (-1) (by unfold f_X11_account; simp (disch := omega) only [Option.bind_some, bd_some, eqL, leL, ltL, Lle, Llt, addL, Ladd, Lmul, mulL, nIle, nIlt, nIeq, nI_add, pk_mul, gb, X_cells bx, X_hasCell bx W, X_hasAccount bx W, X_hasLaw bx W, bx.wide, bx.tap, bx.odds, bx.acc, bx.stand, bx.hour, bx.stolen, bx.laws, bx.rD W, bx.rT W, bx.rH W, bx.rK W, bx.rF W, bx.rS W, bx.rP W, bx.rB W, X_isWrong bx W, X_wrongs bx W hF, X_tappedSet bx W hF, X_surplus bx W hF, within_L, inN_k, eq_self, if_true, if_false, Bool.false_eq_true, ans_X, ref_X, ver_X, e3]) (by unfold f_X12_account; simp (disch := omega) only [Option.bind_some, bd_some, eqL, leL, ltL, Lle, Llt, addL, Ladd, Lmul, mulL, nIle, nIlt, nIeq, nI_add, pk_mul, M_cells (hc _), M_isCellAt (hc _) W, M_isAccountAt (hc _) W, M_isLawAt (hc _) W, (hc _).rd, (hc _).r0, M_isWrong (hc _) W, M_allWrong (hc _) W hF, M_tappedSet (hc _) W hF, M_balanced (hc _) W hF, M_isEven (hc _) W hF, isIn_L, inN_k, eq_self, if_true, if_false, Bool.false_eq_true, ans_M, no_M, e3]; exact QM_r)
theorem op_law (h : R μ) (hF : 2000000 ≤ F) (v w : Int32) : Sm (f_X11_law v w) (f_X12_law v w) μ := by
  obtain ⟨β, nm, ω, σ, pg⟩ := h.pg
  have W := pg.wf
  have bx := pg.bx
  have gb := h.gb
  have hc : ∀ c, CB (V0 μ c) β := fun c => pg.c0.at rfl
  have w1 := W.1.2.2.2.1
  by_cases e : inN v (β 1) = true
  · obtain ⟨k, hk, hk2, rfl⟩ := inN_of e
    by_cases e2 : inR w 0 3 = true
    · obtain ⟨j, hj1, hj2, hj3, rfl⟩ := inR_of e2
      have hj : j = 0 ∨ j = 1 ∨ j = 2 ∨ j = 3 := by omega
      rcases hj with rfl | rfl | rfl | rfl
      · exact h.q 0 (nI (β (88 + k))) (by unfold f_X11_law; simp (disch := omega) only [Option.bind_some, bd_some, eqL, leL, ltL, Lle, Llt, addL, Ladd, Lmul, mulL, nIle, nIlt, nIeq, nI_add, pk_mul, gb, X_cells bx, X_hasCell bx W, X_hasAccount bx W, X_hasLaw bx W, bx.wide, bx.tap, bx.odds, bx.acc, bx.stand, bx.hour, bx.stolen, bx.laws, bx.rD W, bx.rT W, bx.rH W, bx.rK W, bx.rF W, bx.rS W, bx.rP W, bx.rB W, X_isWrong bx W, X_wrongs bx W hF, X_tappedSet bx W hF, X_surplus bx W hF, within_L, inN_k, eq_self, if_true, if_false, Bool.false_eq_true, ans_X, ref_X, ver_X]) (by unfold f_X12_law; simp (disch := omega) only [Option.bind_some, bd_some, eqL, leL, ltL, Lle, Llt, addL, Ladd, Lmul, mulL, nIle, nIlt, nIeq, nI_add, pk_mul, M_cells (hc _), M_isCellAt (hc _) W, M_isAccountAt (hc _) W, M_isLawAt (hc _) W, (hc _).rd, (hc _).r0, M_isWrong (hc _) W, M_allWrong (hc _) W hF, M_tappedSet (hc _) W hF, M_balanced (hc _) W hF, M_isEven (hc _) W hF, isIn_L, inN_k, eq_self, if_true, if_false, Bool.false_eq_true, ans_M, no_M, e2]; exact QM_a)
      · exact h.q 0 (nI (β (98 + k))) (by unfold f_X11_law; simp (disch := omega) only [Option.bind_some, bd_some, eqL, leL, ltL, Lle, Llt, addL, Ladd, Lmul, mulL, nIle, nIlt, nIeq, nI_add, pk_mul, gb, X_cells bx, X_hasCell bx W, X_hasAccount bx W, X_hasLaw bx W, bx.wide, bx.tap, bx.odds, bx.acc, bx.stand, bx.hour, bx.stolen, bx.laws, bx.rD W, bx.rT W, bx.rH W, bx.rK W, bx.rF W, bx.rS W, bx.rP W, bx.rB W, X_isWrong bx W, X_wrongs bx W hF, X_tappedSet bx W hF, X_surplus bx W hF, within_L, inN_k, eq_self, if_true, if_false, Bool.false_eq_true, ans_X, ref_X, ver_X]; rfl) (by unfold f_X12_law; simp (disch := omega) only [Option.bind_some, bd_some, eqL, leL, ltL, Lle, Llt, addL, Ladd, Lmul, mulL, nIle, nIlt, nIeq, nI_add, pk_mul, M_cells (hc _), M_isCellAt (hc _) W, M_isAccountAt (hc _) W, M_isLawAt (hc _) W, (hc _).rd, (hc _).r0, M_isWrong (hc _) W, M_allWrong (hc _) W hF, M_tappedSet (hc _) W hF, M_balanced (hc _) W hF, M_isEven (hc _) W hF, isIn_L, inN_k, eq_self, if_true, if_false, Bool.false_eq_true, ans_M, no_M, e2]; exact QM_a)
      · exact h.q 0 (nI (β (108 + k))) (by unfold f_X11_law; simp (disch := omega) only [Option.bind_some, bd_some, eqL, leL, ltL, Lle, Llt, addL, Ladd, Lmul, mulL, nIle, nIlt, nIeq, nI_add, pk_mul, gb, X_cells bx, X_hasCell bx W, X_hasAccount bx W, X_hasLaw bx W, bx.wide, bx.tap, bx.odds, bx.acc, bx.stand, bx.hour, bx.stolen, bx.laws, bx.rD W, bx.rT W, bx.rH W, bx.rK W, bx.rF W, bx.rS W, bx.rP W, bx.rB W, X_isWrong bx W, X_wrongs bx W hF, X_tappedSet bx W hF, X_surplus bx W hF, within_L, inN_k, eq_self, if_true, if_false, Bool.false_eq_true, ans_X, ref_X, ver_X]; rfl) (by unfold f_X12_law; simp (disch := omega) only [Option.bind_some, bd_some, eqL, leL, ltL, Lle, Llt, addL, Ladd, Lmul, mulL, nIle, nIlt, nIeq, nI_add, pk_mul, M_cells (hc _), M_isCellAt (hc _) W, M_isAccountAt (hc _) W, M_isLawAt (hc _) W, (hc _).rd, (hc _).r0, M_isWrong (hc _) W, M_allWrong (hc _) W hF, M_tappedSet (hc _) W hF, M_balanced (hc _) W hF, M_isEven (hc _) W hF, isIn_L, inN_k, eq_self, if_true, if_false, Bool.false_eq_true, ans_M, no_M, e2]; exact QM_a)
      · exact h.q 0 (nI (β (118 + k))) (by unfold f_X11_law; simp (disch := omega) only [Option.bind_some, bd_some, eqL, leL, ltL, Lle, Llt, addL, Ladd, Lmul, mulL, nIle, nIlt, nIeq, nI_add, pk_mul, gb, X_cells bx, X_hasCell bx W, X_hasAccount bx W, X_hasLaw bx W, bx.wide, bx.tap, bx.odds, bx.acc, bx.stand, bx.hour, bx.stolen, bx.laws, bx.rD W, bx.rT W, bx.rH W, bx.rK W, bx.rF W, bx.rS W, bx.rP W, bx.rB W, X_isWrong bx W, X_wrongs bx W hF, X_tappedSet bx W hF, X_surplus bx W hF, within_L, inN_k, eq_self, if_true, if_false, Bool.false_eq_true, ans_X, ref_X, ver_X]; rfl) (by unfold f_X12_law; simp (disch := omega) only [Option.bind_some, bd_some, eqL, leL, ltL, Lle, Llt, addL, Ladd, Lmul, mulL, nIle, nIlt, nIeq, nI_add, pk_mul, M_cells (hc _), M_isCellAt (hc _) W, M_isAccountAt (hc _) W, M_isLawAt (hc _) W, (hc _).rd, (hc _).r0, M_isWrong (hc _) W, M_allWrong (hc _) W hF, M_tappedSet (hc _) W hF, M_balanced (hc _) W hF, M_isEven (hc _) W hF, isIn_L, inN_k, eq_self, if_true, if_false, Bool.false_eq_true, ans_M, no_M, e2]; exact QM_a)
    · have e3 := inR_no e2
      exact h.q 5 (-1) (by unfold f_X11_law; simp (disch := omega) only [Option.bind_some, bd_some, eqL, leL, ltL, Lle, Llt, addL, Ladd, Lmul, mulL, nIle, nIlt, nIeq, nI_add, pk_mul, gb, X_cells bx, X_hasCell bx W, X_hasAccount bx W, X_hasLaw bx W, bx.wide, bx.tap, bx.odds, bx.acc, bx.stand, bx.hour, bx.stolen, bx.laws, bx.rD W, bx.rT W, bx.rH W, bx.rK W, bx.rF W, bx.rS W, bx.rP W, bx.rB W, X_isWrong bx W, X_wrongs bx W hF, X_tappedSet bx W hF, X_surplus bx W hF, within_L, inN_k, eq_self, if_true, if_false, Bool.false_eq_true, ans_X, ref_X, ver_X, ne_L e3]) (by unfold f_X12_law; simp (disch := omega) only [Option.bind_some, bd_some, eqL, leL, ltL, Lle, Llt, addL, Ladd, Lmul, mulL, nIle, nIlt, nIeq, nI_add, pk_mul, M_cells (hc _), M_isCellAt (hc _) W, M_isAccountAt (hc _) W, M_isLawAt (hc _) W, (hc _).rd, (hc _).r0, M_isWrong (hc _) W, M_allWrong (hc _) W hF, M_tappedSet (hc _) W hF, M_balanced (hc _) W hF, M_isEven (hc _) W hF, isIn_L, inN_k, eq_self, if_true, if_false, Bool.false_eq_true, ans_M, no_M, e3]; exact QM_r)
  · have e3 := inN_no e
    exact h.q 2 (-1) (by unfold f_X11_law; simp (disch := omega) only [Option.bind_some, bd_some, eqL, leL, ltL, Lle, Llt, addL, Ladd, Lmul, mulL, nIle, nIlt, nIeq, nI_add, pk_mul, gb, X_cells bx, X_hasCell bx W, X_hasAccount bx W, X_hasLaw bx W, bx.wide, bx.tap, bx.odds, bx.acc, bx.stand, bx.hour, bx.stolen, bx.laws, bx.rD W, bx.rT W, bx.rH W, bx.rK W, bx.rF W, bx.rS W, bx.rP W, bx.rB W, X_isWrong bx W, X_wrongs bx W hF, X_tappedSet bx W hF, X_surplus bx W hF, within_L, inN_k, eq_self, if_true, if_false, Bool.false_eq_true, ans_X, ref_X, ver_X, e3]) (by unfold f_X12_law; simp (disch := omega) only [Option.bind_some, bd_some, eqL, leL, ltL, Lle, Llt, addL, Ladd, Lmul, mulL, nIle, nIlt, nIeq, nI_add, pk_mul, M_cells (hc _), M_isCellAt (hc _) W, M_isAccountAt (hc _) W, M_isLawAt (hc _) W, (hc _).rd, (hc _).r0, M_isWrong (hc _) W, M_allWrong (hc _) W hF, M_tappedSet (hc _) W hF, M_balanced (hc _) W hF, M_isEven (hc _) W hF, isIn_L, inN_k, eq_self, if_true, if_false, Bool.false_eq_true, ans_M, no_M, e3]; exact QM_r)
theorem op_balance (h : R μ) (hF : 2000000 ≤ F) : Sm (f_X11_balance F) (f_X12_balance F) μ := by
  obtain ⟨β, nm, ω, σ, pg⟩ := h.pg
  have W := pg.wf
  have bx := pg.bx
  have gb := h.gb
  have hc : ∀ c, CB (V0 μ c) β := fun c => pg.c0.at rfl
  exact h.q 0 (bal β) (by unfold f_X11_balance; simp (disch := omega) only [Option.bind_some, bd_some, eqL, leL, ltL, Lle, Llt, addL, Ladd, Lmul, mulL, nIle, nIlt, nIeq, nI_add, pk_mul, gb, X_cells bx, X_hasCell bx W, X_hasAccount bx W, X_hasLaw bx W, bx.wide, bx.tap, bx.odds, bx.acc, bx.stand, bx.hour, bx.stolen, bx.laws, bx.rD W, bx.rT W, bx.rH W, bx.rK W, bx.rF W, bx.rS W, bx.rP W, bx.rB W, X_isWrong bx W, X_wrongs bx W hF, X_tappedSet bx W hF, X_surplus bx W hF, within_L, inN_k, eq_self, if_true, if_false, Bool.false_eq_true, ans_X, ref_X, ver_X]) (by unfold f_X12_balance; simp (disch := omega) only [Option.bind_some, bd_some, eqL, leL, ltL, Lle, Llt, addL, Ladd, Lmul, mulL, nIle, nIlt, nIeq, nI_add, pk_mul, M_cells (hc _), M_isCellAt (hc _) W, M_isAccountAt (hc _) W, M_isLawAt (hc _) W, (hc _).rd, (hc _).r0, M_isWrong (hc _) W, M_allWrong (hc _) W hF, M_tappedSet (hc _) W hF, M_balanced (hc _) W hF, M_isEven (hc _) W hF, isIn_L, inN_k, eq_self, if_true, if_false, Bool.false_eq_true, ans_M, no_M]; exact QM_a)
theorem WF.st_lt {β : Nat → Nat} (w : WF β) : β 7 < 25 := by
  have := w.cl_le
  rcases w.1.2.2.2.2.2.2.2.2 with q | q <;> omega
theorem op_far (h : R μ) (hF : 2000000 ≤ F) (v : Int32) : Sm (f_X11_far v) (f_X12_far v) μ := by
  obtain ⟨β, nm, ω, σ, pg⟩ := h.pg
  have W := pg.wf
  have bx := pg.bx
  have gb := h.gb
  have hc : ∀ c, CB (V0 μ c) β := fun c => pg.c0.at rfl
  have hcl := W.cl_le
  have hst := W.st_lt
  by_cases e : inN v (cl β) = true
  · obtain ⟨k, hk, hk2, rfl⟩ := inN_of e
    exact h.q 0 (nI (farN β (β 7) k)) (by unfold f_X11_far; simp (disch := omega) only [Option.bind_some, bd_some, eqL, leL, ltL, Lle, Llt, addL, Ladd, Lmul, mulL, nIle, nIlt, nIeq, nI_add, pk_mul, gb, X_cells bx, X_hasCell bx W, X_hasAccount bx W, X_hasLaw bx W, bx.wide, bx.tap, bx.odds, bx.acc, bx.stand, bx.hour, bx.stolen, bx.laws, bx.rD W, bx.rT W, bx.rH W, bx.rK W, bx.rF W, bx.rS W, bx.rP W, bx.rB W, X_isWrong bx W, X_wrongs bx W hF, X_tappedSet bx W hF, X_surplus bx W hF, within_L, inN_k, eq_self, if_true, if_false, Bool.false_eq_true, ans_X, ref_X, ver_X, X_stepsBetween bx W]) (by unfold f_X12_far; simp (disch := omega) only [Option.bind_some, bd_some, eqL, leL, ltL, Lle, Llt, addL, Ladd, Lmul, mulL, nIle, nIlt, nIeq, nI_add, pk_mul, M_cells (hc _), M_isCellAt (hc _) W, M_isAccountAt (hc _) W, M_isLawAt (hc _) W, (hc _).rd, (hc _).r0, M_isWrong (hc _) W, M_allWrong (hc _) W hF, M_tappedSet (hc _) W hF, M_balanced (hc _) W hF, M_isEven (hc _) W hF, isIn_L, inN_k, eq_self, if_true, if_false, Bool.false_eq_true, ans_M, no_M, M_farOf (hc _) W]; exact QM_a)
  · have e3 := inN_no e
    exact h.q 2 (-1) (by unfold f_X11_far; simp (disch := omega) only [Option.bind_some, bd_some, eqL, leL, ltL, Lle, Llt, addL, Ladd, Lmul, mulL, nIle, nIlt, nIeq, nI_add, pk_mul, gb, X_cells bx, X_hasCell bx W, X_hasAccount bx W, X_hasLaw bx W, bx.wide, bx.tap, bx.odds, bx.acc, bx.stand, bx.hour, bx.stolen, bx.laws, bx.rD W, bx.rT W, bx.rH W, bx.rK W, bx.rF W, bx.rS W, bx.rP W, bx.rB W, X_isWrong bx W, X_wrongs bx W hF, X_tappedSet bx W hF, X_surplus bx W hF, within_L, inN_k, eq_self, if_true, if_false, Bool.false_eq_true, ans_X, ref_X, ver_X, e3]) (by unfold f_X12_far; simp (disch := omega) only [Option.bind_some, bd_some, eqL, leL, ltL, Lle, Llt, addL, Ladd, Lmul, mulL, nIle, nIlt, nIeq, nI_add, pk_mul, M_cells (hc _), M_isCellAt (hc _) W, M_isAccountAt (hc _) W, M_isLawAt (hc _) W, (hc _).rd, (hc _).r0, M_isWrong (hc _) W, M_allWrong (hc _) W hF, M_tappedSet (hc _) W hF, M_balanced (hc _) W hF, M_isEven (hc _) W hF, isIn_L, inN_k, eq_self, if_true, if_false, Bool.false_eq_true, ans_M, no_M, e3]; exact QM_r)
theorem op_bears (h : R μ) (hF : 2000000 ≤ F) (v : Int32) : Sm (f_X11_bears F v) (f_X12_bears F v) μ := by
  obtain ⟨β, nm, ω, σ, pg⟩ := h.pg
  have W := pg.wf
  have bx := pg.bx
  have gb := h.gb
  have hc : ∀ c, CB (V0 μ c) β := fun c => pg.c0.at rfl
  have hcl := W.cl_le
  have w1 := W.1.2.2.2.1
  by_cases e : inN v (cl β) = true
  · obtain ⟨k, hk, hk2, rfl⟩ := inN_of e
    have xb := X_bearing bx W hF bx.rowD (fun k hk => (W.2.2.1 k (by omega)).1) hk
    have mb : ∀ c, f_X12_lawOn F (nI k) (V0 μ c) = some (oI (lawOf β (dgs β) k)) := fun c => M_lawOn (hc c) W hF hk
    have xb2 : f_X0_bearing F (mR μ 0) (mR μ 0 + 8) (nI k) μ = some (oI (lawOf β (dgs β) k)) := xb
    cases hl : lawOf β (dgs β) k with
    | none =>
      rw [hl] at xb2 mb
      exact h.q 8 (-1) (by unfold f_X11_bears; simp (disch := omega) only [Option.bind_some, bd_some, eqL, leL, ltL, Lle, Llt, addL, Ladd, Lmul, mulL, nIle, nIlt, nIeq, nI_add, pk_mul, gb, X_cells bx, X_hasCell bx W, X_hasAccount bx W, X_hasLaw bx W, bx.wide, bx.tap, bx.odds, bx.acc, bx.stand, bx.hour, bx.stolen, bx.laws, bx.rD W, bx.rT W, bx.rH W, bx.rK W, bx.rF W, bx.rS W, bx.rP W, bx.rB W, X_isWrong bx W, X_wrongs bx W hF, X_tappedSet bx W hF, X_surplus bx W hF, within_L, inN_k, eq_self, if_true, if_false, Bool.false_eq_true, ans_X, ref_X, ver_X, xb2]; rfl) (by unfold f_X12_bears; simp (disch := omega) only [Option.bind_some, bd_some, eqL, leL, ltL, Lle, Llt, addL, Ladd, Lmul, mulL, nIle, nIlt, nIeq, nI_add, pk_mul, M_cells (hc _), M_isCellAt (hc _) W, M_isAccountAt (hc _) W, M_isLawAt (hc _) W, (hc _).rd, (hc _).r0, M_isWrong (hc _) W, M_allWrong (hc _) W hF, M_tappedSet (hc _) W hF, M_balanced (hc _) W hF, M_isEven (hc _) W hF, isIn_L, inN_k, eq_self, if_true, if_false, Bool.false_eq_true, ans_M, no_M, mb]; exact QM_r)
    | some l =>
      have hll := lawOf_lt hl
      rw [hl] at xb2 mb
      exact h.q 0 (nI l) (by unfold f_X11_bears; simp (disch := omega) only [Option.bind_some, bd_some, eqL, leL, ltL, Lle, Llt, addL, Ladd, Lmul, mulL, nIle, nIlt, nIeq, nI_add, pk_mul, gb, X_cells bx, X_hasCell bx W, X_hasAccount bx W, X_hasLaw bx W, bx.wide, bx.tap, bx.odds, bx.acc, bx.stand, bx.hour, bx.stolen, bx.laws, bx.rD W, bx.rT W, bx.rH W, bx.rK W, bx.rF W, bx.rS W, bx.rP W, bx.rB W, X_isWrong bx W, X_wrongs bx W hF, X_tappedSet bx W hF, X_surplus bx W hF, within_L, inN_k, eq_self, if_true, if_false, Bool.false_eq_true, ans_X, ref_X, ver_X, xb2, oI_some, neg_ne]) (by unfold f_X12_bears; simp (disch := omega) only [Option.bind_some, bd_some, eqL, leL, ltL, Lle, Llt, addL, Ladd, Lmul, mulL, nIle, nIlt, nIeq, nI_add, pk_mul, M_cells (hc _), M_isCellAt (hc _) W, M_isAccountAt (hc _) W, M_isLawAt (hc _) W, (hc _).rd, (hc _).r0, M_isWrong (hc _) W, M_allWrong (hc _) W hF, M_tappedSet (hc _) W hF, M_balanced (hc _) W hF, M_isEven (hc _) W hF, isIn_L, inN_k, eq_self, if_true, if_false, Bool.false_eq_true, ans_M, no_M, mb, oI_some]; exact QM_a)
  · have e3 := inN_no e
    exact h.q 2 (-1) (by unfold f_X11_bears; simp (disch := omega) only [Option.bind_some, bd_some, eqL, leL, ltL, Lle, Llt, addL, Ladd, Lmul, mulL, nIle, nIlt, nIeq, nI_add, pk_mul, gb, X_cells bx, X_hasCell bx W, X_hasAccount bx W, X_hasLaw bx W, bx.wide, bx.tap, bx.odds, bx.acc, bx.stand, bx.hour, bx.stolen, bx.laws, bx.rD W, bx.rT W, bx.rH W, bx.rK W, bx.rF W, bx.rS W, bx.rP W, bx.rB W, X_isWrong bx W, X_wrongs bx W hF, X_tappedSet bx W hF, X_surplus bx W hF, within_L, inN_k, eq_self, if_true, if_false, Bool.false_eq_true, ans_X, ref_X, ver_X, e3]) (by unfold f_X12_bears; simp (disch := omega) only [Option.bind_some, bd_some, eqL, leL, ltL, Lle, Llt, addL, Ladd, Lmul, mulL, nIle, nIlt, nIeq, nI_add, pk_mul, M_cells (hc _), M_isCellAt (hc _) W, M_isAccountAt (hc _) W, M_isLawAt (hc _) W, (hc _).rd, (hc _).r0, M_isWrong (hc _) W, M_allWrong (hc _) W hF, M_tappedSet (hc _) W hF, M_balanced (hc _) W hF, M_isEven (hc _) W hF, isIn_L, inN_k, eq_self, if_true, if_false, Bool.false_eq_true, ans_M, no_M, e3]; exact QM_r)
theorem op_may (h : R μ) (hF : 2000000 ≤ F) (v : Int32) : Sm (f_X11_may F v) (f_X12_may F v) μ := by
  obtain ⟨β, nm, ω, σ, pg⟩ := h.pg
  have W := pg.wf
  have bx := pg.bx
  have gb := h.gb
  have hc : ∀ c, CB (V0 μ c) β := fun c => pg.c0.at rfl
  by_cases e : inR v 0 9 = true
  · obtain ⟨j, hj1, hj2, hj3, rfl⟩ := inR_of e
    exact h.q 0 (mayS β j) (by unfold f_X11_may; simp (disch := omega) only [Option.bind_some, bd_some, eqL, leL, ltL, Lle, Llt, addL, Ladd, Lmul, mulL, nIle, nIlt, nIeq, nI_add, pk_mul, gb, X_cells bx, X_hasCell bx W, X_hasAccount bx W, X_hasLaw bx W, bx.wide, bx.tap, bx.odds, bx.acc, bx.stand, bx.hour, bx.stolen, bx.laws, bx.rD W, bx.rT W, bx.rH W, bx.rK W, bx.rF W, bx.rS W, bx.rP W, bx.rB W, X_isWrong bx W, X_wrongs bx W hF, X_tappedSet bx W hF, X_surplus bx W hF, within_L, inN_k, eq_self, if_true, if_false, Bool.false_eq_true, ans_X, ref_X, ver_X, e, X_reach bx W hF]) (by unfold f_X12_may; simp (disch := omega) only [Option.bind_some, bd_some, eqL, leL, ltL, Lle, Llt, addL, Ladd, Lmul, mulL, nIle, nIlt, nIeq, nI_add, pk_mul, M_cells (hc _), M_isCellAt (hc _) W, M_isAccountAt (hc _) W, M_isLawAt (hc _) W, (hc _).rd, (hc _).r0, M_isWrong (hc _) W, M_allWrong (hc _) W hF, M_tappedSet (hc _) W hF, M_balanced (hc _) W hF, M_isEven (hc _) W hF, isIn_L, inN_k, eq_self, if_true, if_false, Bool.false_eq_true, ans_M, no_M, e, M_mayOf (hc _) W hF]; exact QM_a)
  · have e3 := inR_no e
    exact h.q 5 (-1) (by unfold f_X11_may; simp (disch := omega) only [Option.bind_some, bd_some, eqL, leL, ltL, Lle, Llt, addL, Ladd, Lmul, mulL, nIle, nIlt, nIeq, nI_add, pk_mul, gb, X_cells bx, X_hasCell bx W, X_hasAccount bx W, X_hasLaw bx W, bx.wide, bx.tap, bx.odds, bx.acc, bx.stand, bx.hour, bx.stolen, bx.laws, bx.rD W, bx.rT W, bx.rH W, bx.rK W, bx.rF W, bx.rS W, bx.rP W, bx.rB W, X_isWrong bx W, X_wrongs bx W hF, X_tappedSet bx W hF, X_surplus bx W hF, within_L, inN_k, eq_self, if_true, if_false, Bool.false_eq_true, ans_X, ref_X, ver_X, e3]) (by unfold f_X12_may; simp (disch := omega) only [Option.bind_some, bd_some, eqL, leL, ltL, Lle, Llt, addL, Ladd, Lmul, mulL, nIle, nIlt, nIeq, nI_add, pk_mul, M_cells (hc _), M_isCellAt (hc _) W, M_isAccountAt (hc _) W, M_isLawAt (hc _) W, (hc _).rd, (hc _).r0, M_isWrong (hc _) W, M_allWrong (hc _) W hF, M_tappedSet (hc _) W hF, M_balanced (hc _) W hF, M_isEven (hc _) W hF, isIn_L, inN_k, eq_self, if_true, if_false, Bool.false_eq_true, ans_M, no_M, e3]; exact QM_r)
theorem op_theft (h : R μ) (hF : 2000000 ≤ F) : Sm (f_X11_theft F) (f_X12_theft F) μ := by
  obtain ⟨β, nm, ω, σ, pg⟩ := h.pg
  have W := pg.wf
  have bx := pg.bx
  have gb := h.gb
  have hc : ∀ c, CB (V0 μ c) β := fun c => pg.c0.at rfl
  have hcl := W.cl_le
  refine h.q 0 (theftS β) ?_ ?_
  · unfold f_X11_theft
    refine iter2 (L := L_X11_theft_4 F _ μ) (fun i => foldF (fun k x => x ||| (if bit (mayS β (β (38 + k))) (β (13 + k)) = true then (0 : Int32) else ((1 : Int32) <<< (nI k &&& 31)))) 0 i 0) (fun i => nI i) (N := cl β) (by omega) (fun i hi n => ?_) (fun n => ?_)
    · rw [L_X11_theft_4_s]
      simp (disch := omega) only [Option.bind_some, bd_some, eqL, leL, ltL, Lle, Llt, addL, Ladd, Lmul, mulL, nIle, nIlt, nIeq, nI_add, pk_mul, gb, X_cells bx, X_hasCell bx W, X_hasAccount bx W, X_hasLaw bx W, bx.wide, bx.tap, bx.odds, bx.acc, bx.stand, bx.hour, bx.stolen, bx.laws, bx.rD W, bx.rT W, bx.rH W, bx.rK W, bx.rF W, bx.rS W, bx.rP W, bx.rB W, X_isWrong bx W, X_wrongs bx W hF, X_tappedSet bx W hF, X_surplus bx W hF, within_L, inN_k, eq_self, if_true, if_false, Bool.false_eq_true, ans_X, ref_X, ver_X, X_reach bx W hF]
      rw [if_neg (by omega), foldF_n, Nat.zero_add]
      congr 1
      by_cases q : bit (mayS β (β (38 + i))) (β (13 + i)) = true
      · rw [if_neg (fun z => by rw [(bit_n0 _ _).mp z] at q; cases q), if_pos q, Int32.or_zero]
      · rw [if_pos ((bit_n0 _ _).mpr (by cases hh : bit (mayS β (β (38 + i))) (β (13 + i)); rfl; exact absurd hh q)), if_neg q]
    · rw [L_X11_theft_4_s]
      simp (disch := omega) only [Option.bind_some, bd_some, eqL, leL, ltL, Lle, Llt, addL, Ladd, Lmul, mulL, nIle, nIlt, nIeq, nI_add, pk_mul, gb, X_cells bx, X_hasCell bx W, X_hasAccount bx W, X_hasLaw bx W, bx.wide, bx.tap, bx.odds, bx.acc, bx.stand, bx.hour, bx.stolen, bx.laws, bx.rD W, bx.rT W, bx.rH W, bx.rK W, bx.rF W, bx.rS W, bx.rP W, bx.rB W, X_isWrong bx W, X_wrongs bx W hF, X_tappedSet bx W hF, X_surplus bx W hF, within_L, inN_k, eq_self, if_true, if_false, Bool.false_eq_true, ans_X, ref_X, ver_X]
      rw [if_pos (by omega)]
      rfl
  · have : f_X12_theft F (sI μ 0 0 0) = some (theftS β, V0 μ 0) := by
      unfold f_X12_theft
      refine iter2 (L := L_X12_theft_14 F _ (V0 μ 0)) (fun i => foldF (fun k x => x ||| (if bit (mayS β (β (38 + k))) (β (13 + k)) = true then (0 : Int32) else ((1 : Int32) <<< (nI k &&& 31)))) 0 i 0) (fun i => nI i) (N := cl β) (by omega) (fun i hi n => ?_) (fun n => ?_)
      · rw [L_X12_theft_14_s]
        simp (disch := omega) only [Option.bind_some, bd_some, eqL, leL, ltL, Lle, Llt, addL, Ladd, Lmul, mulL, nIle, nIlt, nIeq, nI_add, pk_mul, M_cells (hc _), M_isCellAt (hc _) W, M_isAccountAt (hc _) W, M_isLawAt (hc _) W, (hc _).rd, (hc _).r0, M_isWrong (hc _) W, M_allWrong (hc _) W hF, M_tappedSet (hc _) W hF, M_balanced (hc _) W hF, M_isEven (hc _) W hF, isIn_L, inN_k, eq_self, if_true, if_false, Bool.false_eq_true, ans_M, no_M, M_mayOf (hc _) W hF, has_eq]
        rw [if_neg (by omega), foldF_n, Nat.zero_add]
        rfl
      · rw [L_X12_theft_14_s]
        simp (disch := omega) only [Option.bind_some, bd_some, eqL, leL, ltL, Lle, Llt, addL, Ladd, Lmul, mulL, nIle, nIlt, nIeq, nI_add, pk_mul, M_cells (hc _), M_isCellAt (hc _) W, M_isAccountAt (hc _) W, M_isLawAt (hc _) W, (hc _).rd, (hc _).r0, M_isWrong (hc _) W, M_allWrong (hc _) W hF, M_tappedSet (hc _) W hF, M_balanced (hc _) W hF, M_isEven (hc _) W hF, isIn_L, inN_k, eq_self, if_true, if_false, Bool.false_eq_true, ans_M, no_M]
        rw [if_pos (by omega)]
        rfl
    rw [this]
    exact QM_a
end OPS1
