/-! ===== told, rubbed, lived ===== -/
def tol1 (p : Nat → Bool) (a : Nat) (q : Nat × Nat) : Nat × Nat := if p a = true then (a, q.2 + 1) else q
def tolN (p : Nat → Bool) (n : Nat) : Nat × Nat := foldF (tol1 p) 0 n (0, 0)
def tolA (q : Nat × Nat) : Int32 := if q.2 = 0 then -1 else nI q.1
theorem tolN_s {p : Nat → Bool} {n : Nat} : tolN p (n + 1) = tol1 p n (tolN p n) := by unfold tolN; rw [foldF_n, Nat.zero_add]
theorem tolN_lt {p : Nat → Bool} : ∀ {n : Nat}, (tolN p n).2 ≤ n ∧ ((tolN p n).2 ≠ 0 → (tolN p n).1 < n)
  | 0 => ⟨Nat.le_refl _, fun h => absurd rfl h⟩
  | n + 1 => by
    obtain ⟨h1, h2⟩ := tolN_lt (p := p) (n := n)
    rw [tolN_s]
    unfold tol1
    split
    · exact ⟨by show _ + 1 ≤ _; omega, fun _ => by show n < n + 1; omega⟩
    · exact ⟨by omega, fun q => by have := h2 q; omega⟩
theorem tolA_s {p : Nat → Bool} {n : Nat} : tolA (tolN p (n + 1)) = if p n = true then nI n else tolA (tolN p n) := by
  rw [tolN_s]
  unfold tol1
  split
  · unfold tolA; rw [if_neg (by show ¬ _ + 1 = 0; omega)]
  · rfl
theorem tolB_s {p : Nat → Bool} {n : Nat} : nI (tolN p (n + 1)).2 = if p n = true then nI ((tolN p n).2 + 1) else nI (tolN p n).2 := by
  rw [tolN_s]
  unfold tol1
  split <;> rfl
def rowU (β : Nat → Nat) (a : Nat) : Bool := decide (tgR β 13 (β 2 * a) (β 2) 1 ≠ tgR β 38 (β 2 * a) (β 2) 1)
def colU (β : Nat → Nat) (p : Nat) : Bool := decide (tgR β 13 p (β 0) (β 2) ≠ tgR β 38 p (β 0) (β 2))
theorem rowU_t {β : Nat → Nat} {a : Nat} (h : tgR β 13 (β 2 * a) (β 2) 1 = tgR β 38 (β 2 * a) (β 2) 1) : ¬ rowU β a = true := by unfold rowU; simp [h]
theorem rowU_f {β : Nat → Nat} {a : Nat} (h : ¬ tgR β 13 (β 2 * a) (β 2) 1 = tgR β 38 (β 2 * a) (β 2) 1) : rowU β a = true := by unfold rowU; simp [h]
theorem colU_t {β : Nat → Nat} {p : Nat} (h : tgR β 13 p (β 0) (β 2) = tgR β 38 p (β 0) (β 2)) : ¬ colU β p = true := by unfold colU; simp [h]
theorem colU_f {β : Nat → Nat} {p : Nat} (h : ¬ tgR β 13 p (β 0) (β 2) = tgR β 38 p (β 0) (β 2)) : colU β p = true := by unfold colU; simp [h]
def mm0 : Mm := (fun _ _ => 0, fun _ _ => 0, fun _ _ => 0, fun _ _ => 0, fun _ _ => 0, fun _ => 0)
def toldV (β : Nat → Nat) : Option Nat := if (tolN (rowU β) (β 0)).2 = 1 then (if (tolN (colU β) (β 2)).2 = 1 then (if tgR β 13 (β 2 * (tolN (rowU β) (β 0)).1) (β 2) 1 - tgR β 38 (β 2 * (tolN (rowU β) (β 0)).1) (β 2) 1 = tgR β 13 (tolN (colU β) (β 2)).1 (β 0) (β 2) - tgR β 38 (tolN (colU β) (β 2)).1 (β 0) (β 2) then some ((tolN (rowU β) (β 0)).1 * β 2 + (tolN (colU β) (β 2)).1) else none) else none) else none
theorem i32_sub0 {x y : Int32} : (x - y = 0) ↔ x = y := by
  constructor
  · intro h
    have : x - y + y = 0 + y := by rw [h]
    rw [Int32.sub_add_cancel, Int32.zero_add] at this
    exact this
  · intro h; rw [h, Int32.sub_self]
section OPS2
variable {μ : Mm} {b : Nat} {β : Nat → Nat} {F : Nat}
theorem X_cellBySums (h : BX μ b β) (w : WF β) (hF : 2000000 ≤ F) : f_X0_cellBySums F b μ = some (oI (toldV β)) := by
  have w0 := w.1.1
  have w2 := w.1.2.2.1
  obtain ⟨r1, r2⟩ := tolN_lt (p := rowU β) (n := β 0)
  obtain ⟨c1, c2⟩ := tolN_lt (p := colU β) (n := β 2)
  unfold f_X0_cellBySums
  refine iter3 (L := L_X0_cellBySums_6 F b _ μ) (fun i => tolA (tolN (rowU β) i)) (fun i => nI (tolN (rowU β) i).2) (fun i => nI i) (N := β 0) (by omega) (fun i hi n => ?_) (fun n => ?_)
  · rw [L_X0_cellBySums_6_s, h.acc]
    simp (disch := omega) only [Option.bind_some, bd_some, eqL, leL, ltL, Lle, Llt, addL, Ladd, Lmul, mulL, nIle, nIlt, nIeq, nI_add, pk_mul, X_togetherInRow h w hF h.rowD hi, X_togetherInRow h w hF h.rowT hi]
    rw [if_neg (by omega), tolA_s, tolB_s]
    by_cases e : tgR β 13 (β 2 * i) (β 2) 1 = tgR β 38 (β 2 * i) (β 2) 1
    · rw [if_pos e, if_pos e, if_neg (rowU_t e), if_neg (rowU_t e)]
    · rw [if_neg e, if_neg e, if_pos (rowU_f e), if_pos (rowU_f e)]
  · rw [L_X0_cellBySums_6_s, h.acc]
    simp (disch := omega) only [Option.bind_some, bd_some, eqL, leL, ltL, Lle, Llt, addL, Ladd, Lmul, mulL, nIle, nIlt, nIeq, nI_add, pk_mul]
    rw [if_pos (by omega)]
    refine iter3 (L := L_X0_cellBySums_54 F b _ _ _ μ) (fun i => tolA (tolN (colU β) i)) (fun i => nI (tolN (colU β) i).2) (fun i => nI i) (N := β 2) (by omega) (fun i hi n => ?_) (fun n => ?_)
    · rw [L_X0_cellBySums_54_s, h.wide]
      simp (disch := omega) only [Option.bind_some, bd_some, eqL, leL, ltL, Lle, Llt, addL, Ladd, Lmul, mulL, nIle, nIlt, nIeq, nI_add, pk_mul, X_togetherInColumn h w hF h.rowD hi, X_togetherInColumn h w hF h.rowT hi]
      rw [if_neg (by omega), tolA_s, tolB_s]
      by_cases e : tgR β 13 i (β 0) (β 2) = tgR β 38 i (β 0) (β 2)
      · rw [if_pos e, if_pos e, if_neg (colU_t e), if_neg (colU_t e)]
      · rw [if_neg e, if_neg e, if_pos (colU_f e), if_pos (colU_f e)]
    · rw [L_X0_cellBySums_54_s, h.wide]
      simp (disch := omega) only [Option.bind_some, bd_some, eqL, leL, ltL, Lle, Llt, addL, Ladd, Lmul, mulL, nIle, nIlt, nIeq, nI_add, pk_mul]
      rw [if_pos (by omega)]
      unfold toldV
      by_cases e1 : (tolN (rowU β) (β 0)).2 = 1
      · rw [if_pos e1, if_pos e1]
        by_cases e2 : (tolN (colU β) (β 2)).2 = 1
        · rw [if_pos e2, if_pos e2]
          have hr := r2 (by omega)
          have hcc := c2 (by omega)
          have t1 : tolA (tolN (rowU β) (β 0)) = nI (tolN (rowU β) (β 0)).1 := if_neg (by omega)
          have t2 : tolA (tolN (colU β) (β 2)) = nI (tolN (colU β) (β 2)).1 := if_neg (by omega)
          rw [t1, t2, X_togetherInRow h w hF h.rowD hr, X_togetherInRow h w hF h.rowT hr, X_togetherInColumn h w hF h.rowD hcc, X_togetherInColumn h w hF h.rowT hcc]
          simp (disch := omega) only [Option.bind_some, bd_some, eqL, leL, ltL, Lle, Llt, addL, Ladd, Lmul, mulL, nIle, nIlt, nIeq, nI_add, pk_mul]
          rw [oI_ite]
          rfl
        · rw [if_neg e2, if_neg e2]; rfl
      · rw [if_neg e1, if_neg e1]; rfl
theorem M_over (h : CB μ β) (hF : 2000000 ≤ F) {fr many by_ : Nat} (hm : many < 1000) (hb : ∀ i, i < many → 38 + fr + by_ * i < 128) : f_X12_over F (nI fr) (nI many) (nI by_) μ = some (tgR β 13 fr many by_ - tgR β 38 fr many by_) := by
  unfold f_X12_over
  rw [show (13 : Int32) = nI 13 from rfl, show (38 : Int32) = nI 38 from rfl, M_together h hF hm (fun i hi => by have := hb i hi; omega), M_together h hF hm hb]
  rfl
theorem M_told (h : CB (sI (sI μ 141 1 0) 141 0 0) β) (w : WF β) (hF : 2000000 ≤ F) : f_X12_told F μ = (match toldV β with | none => some (-1, sI (sI (sI μ 141 1 0) 141 0 0) 141 0 8) | some k => some (nI k, sI (sI μ 141 1 0) 141 0 0)) := by
  have w0 := w.1.1
  have w1 := w.1.2.1
  have w2 := w.1.2.2.1
  obtain ⟨r1, r2⟩ := tolN_lt (p := rowU β) (n := β 0)
  obtain ⟨c1, c2⟩ := tolN_lt (p := colU β) (n := β 2)
  have hbr : ∀ a, a < β 0 → ∀ i, i < β 2 → 38 + β 2 * a + 1 * i < 128 := by
    intro a ha i hi
    have : β 2 * a ≤ 5 * 4 := Nat.mul_le_mul w2 (by omega)
    omega
  have hbc : ∀ p, p < β 2 → ∀ i, i < β 0 → 38 + p + β 2 * i < 128 := by
    intro p hp i hi
    have : β 2 * i ≤ 5 * 4 := Nat.mul_le_mul w2 (by omega)
    omega
  have ho1 : ∀ a, a < β 0 → f_X12_over F (nI (β 2 * a)) (nI (β 2)) 1 (sI (sI μ 141 1 0) 141 0 0) = some (tgR β 13 (β 2 * a) (β 2) 1 - tgR β 38 (β 2 * a) (β 2) 1) := fun a ha => M_over h hF (by omega) (hbr a ha)
  have ho2 : ∀ p, p < β 2 → f_X12_over F (nI p) (nI (β 0)) (nI (β 2)) (sI (sI μ 141 1 0) 141 0 0) = some (tgR β 13 p (β 0) (β 2) - tgR β 38 p (β 0) (β 2)) := fun p hp => M_over h hF (by omega) (hbc p hp)
  unfold f_X12_told
  refine iter3 (L := L_X12_told_22 F _ _ _ _) (fun i => tolA (tolN (rowU β) i)) (fun i => nI (tolN (rowU β) i).2) (fun i => nI i) (N := β 0) (by omega) (fun i hi n => ?_) (fun n => ?_)
  · rw [L_X12_told_22_s]
    simp (disch := omega) only [Option.bind_some, bd_some, eqL, leL, ltL, Lle, Llt, addL, Ladd, Lmul, mulL, nIle, nIlt, nIeq, nI_add, pk_mul, h.r0, ho1, i32_sub0]
    rw [if_neg (by omega), tolA_s, tolB_s]
    by_cases e : tgR β 13 (β 2 * i) (β 2) 1 = tgR β 38 (β 2 * i) (β 2) 1
    · rw [if_pos e, if_pos e, if_neg (rowU_t e), if_neg (rowU_t e)]
    · rw [if_neg e, if_neg e, if_pos (rowU_f e), if_pos (rowU_f e)]
  · rw [L_X12_told_22_s]
    simp (disch := omega) only [Option.bind_some, bd_some, eqL, leL, ltL, Lle, Llt, addL, Ladd, Lmul, mulL, nIle, nIlt, nIeq, nI_add, pk_mul, h.r0]
    rw [if_pos (by omega)]
    refine iter3 (L := L_X12_told_74 F _ _ _ _) (fun i => tolA (tolN (colU β) i)) (fun i => nI (tolN (colU β) i).2) (fun i => nI i) (N := β 2) (by omega) (fun i hi n => ?_) (fun n => ?_)
    · rw [L_X12_told_74_s]
      simp (disch := omega) only [Option.bind_some, bd_some, eqL, leL, ltL, Lle, Llt, addL, Ladd, Lmul, mulL, nIle, nIlt, nIeq, nI_add, pk_mul, h.r0, ho2, i32_sub0]
      rw [if_neg (by omega), tolA_s, tolB_s]
      by_cases e : tgR β 13 i (β 0) (β 2) = tgR β 38 i (β 0) (β 2)
      · rw [if_pos e, if_pos e, if_neg (colU_t e), if_neg (colU_t e)]
      · rw [if_neg e, if_neg e, if_pos (colU_f e), if_pos (colU_f e)]
    · rw [L_X12_told_74_s]
      simp (disch := omega) only [Option.bind_some, bd_some, eqL, leL, ltL, Lle, Llt, addL, Ladd, Lmul, mulL, nIle, nIlt, nIeq, nI_add, pk_mul, h.r0]
      rw [if_pos (by omega)]
      unfold toldV
      by_cases e1 : (tolN (rowU β) (β 0)).2 = 1
      · rw [if_pos e1, if_pos e1]
        by_cases e2 : (tolN (colU β) (β 2)).2 = 1
        · rw [if_pos e2, if_pos e2]
          have hr := r2 (by omega)
          have hcc := c2 (by omega)
          have t1 : tolA (tolN (rowU β) (β 0)) = nI (tolN (rowU β) (β 0)).1 := if_neg (by omega)
          have t2 : tolA (tolN (colU β) (β 2)) = nI (tolN (colU β) (β 2)).1 := if_neg (by omega)
          rw [t1, t2]
          simp (disch := omega) only [Option.bind_some, bd_some, eqL, leL, ltL, Lle, Llt, addL, Ladd, Lmul, mulL, nIle, nIlt, nIeq, nI_add, pk_mul, ho1, ho2]
          by_cases e3 : tgR β 13 (β 2 * (tolN (rowU β) (β 0)).1) (β 2) 1 - tgR β 38 (β 2 * (tolN (rowU β) (β 0)).1) (β 2) 1 = tgR β 13 (tolN (colU β) (β 2)).1 (β 0) (β 2) - tgR β 38 (tolN (colU β) (β 2)).1 (β 0) (β 2)
          · rw [if_pos e3, if_pos e3, Nat.mul_comm (β 2)]
          · rw [if_neg e3, if_neg e3]; rfl
        · rw [if_neg e2, if_neg e2]; rfl
      · rw [if_neg e1, if_neg e1]; rfl
theorem op_told (h : R μ) (hF : 2000000 ≤ F) : Sm (f_X11_told F) (f_X12_told F) μ := by
  obtain ⟨β, nm, ω, σ, pg⟩ := h.pg
  have W := pg.wf
  have bx := pg.bx
  have gb := h.gb
  have hc : ∀ c, CB (V0 μ c) β := fun c => pg.c0.at rfl
  have hx := X_cellBySums bx W hF
  have hm : ∀ c, f_X12_told F (sI μ 0 0 c) = _ := fun c => M_told (hc c) W hF
  cases ht : toldV β with
  | none =>
    rw [ht] at hx hm
    exact h.q 8 (-1) (by unfold f_X11_told; simp (disch := omega) only [Option.bind_some, bd_some, eqL, leL, ltL, Lle, Llt, addL, Ladd, Lmul, mulL, nIle, nIlt, nIeq, nI_add, pk_mul, gb, X_cells bx, X_hasCell bx W, X_hasAccount bx W, X_hasLaw bx W, bx.wide, bx.tap, bx.odds, bx.acc, bx.stand, bx.hour, bx.stolen, bx.laws, bx.rD W, bx.rT W, bx.rH W, bx.rK W, bx.rF W, bx.rS W, bx.rP W, bx.rB W, X_isWrong bx W, X_wrongs bx W hF, X_tappedSet bx W hF, X_surplus bx W hF, within_L, inN_k, eq_self, if_true, if_false, Bool.false_eq_true, ans_X, ref_X, ver_X, hx]; rfl) (by rw [hm]; exact QM_r)
  | some k =>
    rw [ht] at hx hm
    have hk : k < 2147483648 := by
      unfold toldV at ht
      have w0 := W.1.1
      have w2 := W.1.2.2.1
      obtain ⟨r1, r2⟩ := tolN_lt (p := rowU β) (n := β 0)
      obtain ⟨c1, c2⟩ := tolN_lt (p := colU β) (n := β 2)
      split at ht
      · split at ht
        · split at ht
          · cases ht
            have hq : (tolN (rowU β) (β 0)).1 * β 2 ≤ 5 * 5 := Nat.mul_le_mul (by have := r2 (by omega); omega) w2
            have := c2 (by omega)
            omega
          · cases ht
        · cases ht
      · cases ht
    exact h.q 0 (nI k) (by unfold f_X11_told; simp (disch := omega) only [Option.bind_some, bd_some, eqL, leL, ltL, Lle, Llt, addL, Ladd, Lmul, mulL, nIle, nIlt, nIeq, nI_add, pk_mul, gb, X_cells bx, X_hasCell bx W, X_hasAccount bx W, X_hasLaw bx W, bx.wide, bx.tap, bx.odds, bx.acc, bx.stand, bx.hour, bx.stolen, bx.laws, bx.rD W, bx.rT W, bx.rH W, bx.rK W, bx.rF W, bx.rS W, bx.rP W, bx.rB W, X_isWrong bx W, X_wrongs bx W hF, X_tappedSet bx W hF, X_surplus bx W hF, within_L, inN_k, eq_self, if_true, if_false, Bool.false_eq_true, ans_X, ref_X, ver_X, hx, oI_some, neg_ne]) (by rw [hm]; exact QM_a)
/-! rubbed -/
theorem rubO_cases (w : WF β) : rubO β = some (-1) ∨ rubO β = some 0 ∨ (∃ k, k < 25 ∧ rubO β = some ((1 : Int32) <<< (nI k &&& 31))) ∨ (∃ k e, k < 25 ∧ e < 25 ∧ k ≠ e ∧ rubO β = some (((1 : Int32) <<< (nI k &&& 31)) ||| ((1 : Int32) <<< (nI e &&& 31)))) := by
  have hc := w.cl_le
  unfold rubO
  split
  · exact Or.inr (Or.inl rfl)
  · cases h1 : fndF (fun k => evB β k (bal β)) 0 (cl β) with
    | some k =>
      have := (fndF_some h1).2.1
      exact Or.inr (Or.inr (Or.inl ⟨k, by omega, rfl⟩))
    | none =>
      show rub2 β (bal β) = _ ∨ rub2 β (bal β) = _ ∨ (∃ k, k < 25 ∧ rub2 β (bal β) = _) ∨ (∃ k e, k < 25 ∧ e < 25 ∧ k ≠ e ∧ rub2 β (bal β) = _)
      cases h2 : fndF (fun e => (fndF (fun k => evX β k e (bal β)) 0 e).isSome) 1 (cl β - 1) with
      | none => exact Or.inl (by unfold rub2; rw [h2])
      | some e =>
        obtain ⟨q1, q2, q3⟩ := fndF_some h2
        cases h3 : fndF (fun k => evX β k e (bal β)) 0 e with
        | none => rw [h3] at q3; cases q3
        | some k =>
          have := (fndF_some h3).2.1
          exact Or.inr (Or.inr (Or.inr ⟨k, e, by omega, by omega, by omega, by unfold rub2; rw [h2]; show (match fndF (fun k => evX β k e (bal β)) 0 e with | none => none | some k => _) = _; rw [h3]⟩))
def bcnt (s : Int32) : Nat := cntF (bit s) 0 25
theorem M_rubbedL (s : Int32) (hF : 2000000 ≤ F) {kk : Int32 → Option (Int32 × Mm)} : L_X12_rubbed_19 F s kk μ F 0 0 = kk (nI (bcnt s)) := by
  refine iter2 (L := L_X12_rubbed_19 F s kk μ) (fun i => nI (cntF (bit s) 0 i)) (fun i => nI i) (N := 25) (by omega) (fun i hi n => ?_) (fun n => ?_)
  · rw [L_X12_rubbed_19_s]
    simp (disch := omega) only [Option.bind_some, bd_some, eqL, leL, ltL, Lle, Llt, addL, Ladd, Lmul, mulL, nIle, nIlt, nIeq, nI_add, pk_mul, has_eq]
    rw [if_neg (by omega), cntF_n, Nat.zero_add]
    show L_X12_rubbed_19 F s kk μ n (nI (cntF (bit s) 0 i) + if bit s i = true then 1 else 0) (nI (i + 1)) = _
    by_cases e : bit s i = true
    · rw [if_pos e, if_pos e, addL]
    · rw [if_neg e, if_neg e, Int32.add_zero]; rfl
  · rw [L_X12_rubbed_19_s]
    simp (disch := omega) only [Option.bind_some, bd_some, eqL, leL, ltL, Lle, Llt, addL, Ladd, Lmul, mulL, nIle, nIlt, nIeq, nI_add, pk_mul]
    rw [if_pos (by omega)]
    rfl
theorem bc1 : ∀ k, k < 25 → f_J6_bitCount_0f7a4 ((1 : Int32) <<< (nI k &&& 31)) μ = some (nI (bcnt ((1 : Int32) <<< (nI k &&& 31)))) ∧ (1 : Int32) <<< (nI k &&& 31) ≠ -1 ∧ 0 ≤ (1 : Int32) <<< (nI k &&& 31) := by
  unfold f_J6_bitCount_0f7a4
  simp only [Option.some.injEq]
  decide +kernel
theorem bc2 : ∀ k, k < 25 → ∀ e, e < 25 → f_J6_bitCount_0f7a4 (((1 : Int32) <<< (nI k &&& 31)) ||| ((1 : Int32) <<< (nI e &&& 31))) μ = some (nI (bcnt (((1 : Int32) <<< (nI k &&& 31)) ||| ((1 : Int32) <<< (nI e &&& 31))))) ∧ ((1 : Int32) <<< (nI k &&& 31)) ||| ((1 : Int32) <<< (nI e &&& 31)) ≠ -1 ∧ 0 ≤ ((1 : Int32) <<< (nI k &&& 31)) ||| ((1 : Int32) <<< (nI e &&& 31)) := by
  unfold f_J6_bitCount_0f7a4
  simp only [Option.some.injEq]
  decide +kernel
theorem bc0 : f_J6_bitCount_0f7a4 0 μ = some (nI (bcnt 0)) ∧ (0 : Int32) ≠ -1 ∧ (0 : Int32) ≤ 0 := by
  unfold f_J6_bitCount_0f7a4
  simp only [Option.some.injEq]
  decide +kernel
theorem rubO_all (w : WF β) : rubO β = some (-1) ∨ ∃ s, rubO β = some s ∧ (∀ μ, f_J6_bitCount_0f7a4 s μ = some (nI (bcnt s))) ∧ s ≠ -1 ∧ 0 ≤ s := by
  rcases rubO_cases w with h | h | ⟨k, hk, h⟩ | ⟨k, e, hk, he, -, h⟩
  · exact Or.inl h
  · exact Or.inr ⟨0, h, fun μ => bc0.1, by decide, by decide⟩
  · exact Or.inr ⟨_, h, fun μ => (bc1 k hk).1, (bc1 (μ := mm0) k hk).2⟩
  · exact Or.inr ⟨_, h, fun μ => (bc2 k hk e he).1, (bc2 (μ := mm0) k hk e he).2⟩
theorem op_rubbed (h : R μ) (hF : 2000000 ≤ F) : Sm (f_X11_rubbed F) (f_X12_rubbed F) μ := by
  obtain ⟨β, nm, ω, σ, pg⟩ := h.pg
  have W := pg.wf
  have bx := pg.bx
  have gb := h.gb
  have hc : ∀ c, CB (V0 μ c) β := fun c => pg.c0.at rfl
  have hx := X_leastRubbed bx W hF
  have hm : ∀ c, f_X12_rubs F (V0 μ c) = rubO β := fun c => M_rubs (hc c) W hF
  rcases rubO_all W with e | ⟨s, e, e1, e2, e3⟩
  · rw [e] at hx hm
    exact h.q 8 (-1) (by unfold f_X11_rubbed; simp (disch := omega) only [Option.bind_some, bd_some, eqL, leL, ltL, Lle, Llt, addL, Ladd, Lmul, mulL, nIle, nIlt, nIeq, nI_add, pk_mul, gb, X_cells bx, X_hasCell bx W, X_hasAccount bx W, X_hasLaw bx W, bx.wide, bx.tap, bx.odds, bx.acc, bx.stand, bx.hour, bx.stolen, bx.laws, bx.rD W, bx.rT W, bx.rH W, bx.rK W, bx.rF W, bx.rS W, bx.rP W, bx.rB W, X_isWrong bx W, X_wrongs bx W hF, X_tappedSet bx W hF, X_surplus bx W hF, within_L, inN_k, eq_self, if_true, if_false, Bool.false_eq_true, ans_X, ref_X, ver_X, hx]) (by unfold f_X12_rubbed; rw [hm, Option.bind_some, M_rubbedL _ hF]; exact QM_r)
  · rw [e] at hx hm
    exact h.q 0 (nI (bcnt s)) (by unfold f_X11_rubbed; simp (disch := omega) only [Option.bind_some, bd_some, eqL, leL, ltL, Lle, Llt, addL, Ladd, Lmul, mulL, nIle, nIlt, nIeq, nI_add, pk_mul, gb, X_cells bx, X_hasCell bx W, X_hasAccount bx W, X_hasLaw bx W, bx.wide, bx.tap, bx.odds, bx.acc, bx.stand, bx.hour, bx.stolen, bx.laws, bx.rD W, bx.rT W, bx.rH W, bx.rK W, bx.rF W, bx.rS W, bx.rP W, bx.rB W, X_isWrong bx W, X_wrongs bx W hF, X_tappedSet bx W hF, X_surplus bx W hF, within_L, inN_k, eq_self, if_true, if_false, Bool.false_eq_true, ans_X, ref_X, ver_X, hx, e1]; rw [if_neg e2]) (by unfold f_X12_rubbed; rw [hm, Option.bind_some, M_rubbedL _ hF, if_pos e3]; exact QM_a)
theorem op_rubbedSet (h : R μ) (hF : 2000000 ≤ F) : Sm (f_X11_rubbedSet F) (f_X12_rubbedSet F) μ := by
  obtain ⟨β, nm, ω, σ, pg⟩ := h.pg
  have W := pg.wf
  have bx := pg.bx
  have gb := h.gb
  have hc : ∀ c, CB (V0 μ c) β := fun c => pg.c0.at rfl
  have hx := X_leastRubbed bx W hF
  have hm : ∀ c, f_X12_rubs F (V0 μ c) = rubO β := fun c => M_rubs (hc c) W hF
  rcases rubO_all W with e | ⟨s, e, e1, e2, e3⟩
  · rw [e] at hx hm
    exact h.q 8 (-1) (by unfold f_X11_rubbedSet; simp (disch := omega) only [Option.bind_some, bd_some, eqL, leL, ltL, Lle, Llt, addL, Ladd, Lmul, mulL, nIle, nIlt, nIeq, nI_add, pk_mul, gb, X_cells bx, X_hasCell bx W, X_hasAccount bx W, X_hasLaw bx W, bx.wide, bx.tap, bx.odds, bx.acc, bx.stand, bx.hour, bx.stolen, bx.laws, bx.rD W, bx.rT W, bx.rH W, bx.rK W, bx.rF W, bx.rS W, bx.rP W, bx.rB W, X_isWrong bx W, X_wrongs bx W hF, X_tappedSet bx W hF, X_surplus bx W hF, within_L, inN_k, eq_self, if_true, if_false, Bool.false_eq_true, ans_X, ref_X, ver_X, hx]) (by unfold f_X12_rubbedSet; rw [hm, Option.bind_some]; exact QM_r)
  · rw [e] at hx hm
    exact h.q 0 s (by unfold f_X11_rubbedSet; simp (disch := omega) only [Option.bind_some, bd_some, eqL, leL, ltL, Lle, Llt, addL, Ladd, Lmul, mulL, nIle, nIlt, nIeq, nI_add, pk_mul, gb, X_cells bx, X_hasCell bx W, X_hasAccount bx W, X_hasLaw bx W, bx.wide, bx.tap, bx.odds, bx.acc, bx.stand, bx.hour, bx.stolen, bx.laws, bx.rD W, bx.rT W, bx.rH W, bx.rK W, bx.rF W, bx.rS W, bx.rP W, bx.rB W, X_isWrong bx W, X_wrongs bx W hF, X_tappedSet bx W hF, X_surplus bx W hF, within_L, inN_k, eq_self, if_true, if_false, Bool.false_eq_true, ans_X, ref_X, ver_X, hx]; rw [if_neg e2]) (by unfold f_X12_rubbedSet; rw [hm, Option.bind_some, if_pos e3]; exact QM_a)
theorem op_lived (h : R μ) (v : Int32) : Sm (f_X11_lived v) (f_X12_lived v) μ := by
  obtain ⟨l1, l2⟩ := h.lv
  have ld : ∀ c, mI (V0 μ c) 141 40 = mI μ 137 0 := fun c => by rw [l1]; rfl
  have lx : ∀ c j, j < 5 → rdA (V0 μ c) 156 5 (nI j) = some (mI μ 137 (2 + j)) := fun c j hj => by rw [rdA_n (by omega) (by omega), l2 j hj]; rfl
  by_cases e : inR v 0 4 = true
  · by_cases z : mI μ 137 0 = 0
    · exact h.q 8 (-1) (by unfold f_X11_lived; rw [within_L (by decide) (by decide), e, Option.bind_some, if_pos rfl, if_pos z]; rfl) (by unfold f_X12_lived; rw [isIn_L (by decide) (by decide), e, Option.bind_some, if_pos rfl, ld, if_pos z]; exact QM_r)
    · obtain ⟨j, hj1, hj2, hj3, rfl⟩ := inR_of e
      refine h.q 0 (mI μ 137 (2 + j)) ?_ (by unfold f_X12_lived; rw [isIn_L (by decide) (by decide), e, Option.bind_some, if_pos rfl, ld, if_neg z, lx 0 j (by omega), Option.bind_some]; exact QM_a)
      unfold f_X11_lived
      rw [within_L (by decide) (by decide), e, Option.bind_some, if_pos rfl, if_neg z]
      have hj : j = 0 ∨ j = 1 ∨ j = 2 ∨ j = 3 ∨ j = 4 := by omega
      rcases hj with rfl | rfl | rfl | rfl | rfl <;> rfl
  · have e3 := inR_no e
    exact h.q 5 (-1) (by unfold f_X11_lived; rw [within_L (by decide) (by decide), e3]; rfl) (by unfold f_X12_lived; rw [isIn_L (by decide) (by decide), e3]; exact QM_r)
end OPS2
