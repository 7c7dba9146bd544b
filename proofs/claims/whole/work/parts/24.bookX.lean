/-! ===== the class's book ===== -/
abbrev BX (μ : Mm) (b : Nat) (β : Nat → Nat) : Prop := (mI μ b 0 = nI (β 2)) ∧ (mI μ b 1 = nI (β 3)) ∧ (mI μ b 2 = nI (β 4)) ∧ (mI μ b 3 = nI (β 0)) ∧ (mI μ b 4 = nI (β 7)) ∧ (mI μ b 5 = nI (β 5)) ∧ (mI μ b 6 = nI (β 6)) ∧ (mI μ (b + 1) 0 = nI (β 1)) ∧ (∀ l, l < β 1 → mA μ (b + 2) l = nI (β (88 + l))) ∧ (∀ l, l < β 1 → mA μ (b + 3) l = nI (β (98 + l))) ∧ (∀ l, l < β 1 → mA μ (b + 4) l = nI (β (108 + l))) ∧ (∀ l, l < β 1 → mA μ (b + 5) l = nI (β (118 + l))) ∧ (∀ a, a < β 0 → mA μ (b + 6) a = nI (β (8 + a))) ∧ (∀ k, k < cl β → mA μ (b + 8) k = nI (β (13 + k))) ∧ (∀ k, k < cl β → mA μ (b + 9) k = nI (β (38 + k))) ∧ (∀ k, k < cl β → mA μ (b + 10) k = nI (β (63 + k)))
theorem BX.wide {μ : Mm} {b : Nat} {β : Nat → Nat} (h : BX μ b β) : mI μ b 0 = nI (β 2) := h.1
theorem BX.tap {μ : Mm} {b : Nat} {β : Nat → Nat} (h : BX μ b β) : mI μ b 1 = nI (β 3) := h.2.1
theorem BX.odds {μ : Mm} {b : Nat} {β : Nat → Nat} (h : BX μ b β) : mI μ b 2 = nI (β 4) := h.2.2.1
theorem BX.acc {μ : Mm} {b : Nat} {β : Nat → Nat} (h : BX μ b β) : mI μ b 3 = nI (β 0) := h.2.2.2.1
theorem BX.stand {μ : Mm} {b : Nat} {β : Nat → Nat} (h : BX μ b β) : mI μ b 4 = nI (β 7) := h.2.2.2.2.1
theorem BX.hour {μ : Mm} {b : Nat} {β : Nat → Nat} (h : BX μ b β) : mI μ b 5 = nI (β 5) := h.2.2.2.2.2.1
theorem BX.stolen {μ : Mm} {b : Nat} {β : Nat → Nat} (h : BX μ b β) : mI μ b 6 = nI (β 6) := h.2.2.2.2.2.2.1
theorem BX.laws {μ : Mm} {b : Nat} {β : Nat → Nat} (h : BX μ b β) : mI μ (b + 1) 0 = nI (β 1) := h.2.2.2.2.2.2.2.1
theorem BX.firsts {μ : Mm} {b : Nat} {β : Nat → Nat} (h : BX μ b β) : ∀ l, l < β 1 → mA μ (b + 2) l = nI (β (88 + l)) := h.2.2.2.2.2.2.2.2.1
theorem BX.seconds {μ : Mm} {b : Nat} {β : Nat → Nat} (h : BX μ b β) : ∀ l, l < β 1 → mA μ (b + 3) l = nI (β (98 + l)) := h.2.2.2.2.2.2.2.2.2.1
theorem BX.places {μ : Mm} {b : Nat} {β : Nat → Nat} (h : BX μ b β) : ∀ l, l < β 1 → mA μ (b + 4) l = nI (β (108 + l)) := h.2.2.2.2.2.2.2.2.2.2.1
theorem BX.besides {μ : Mm} {b : Nat} {β : Nat → Nat} (h : BX μ b β) : ∀ l, l < β 1 → mA μ (b + 5) l = nI (β (118 + l)) := h.2.2.2.2.2.2.2.2.2.2.2.1
theorem BX.kinds {μ : Mm} {b : Nat} {β : Nat → Nat} (h : BX μ b β) : ∀ a, a < β 0 → mA μ (b + 6) a = nI (β (8 + a)) := h.2.2.2.2.2.2.2.2.2.2.2.2.1
theorem BX.digits {μ : Mm} {b : Nat} {β : Nat → Nat} (h : BX μ b β) : ∀ k, k < cl β → mA μ (b + 8) k = nI (β (13 + k)) := h.2.2.2.2.2.2.2.2.2.2.2.2.2.1
theorem BX.truths {μ : Mm} {b : Nat} {β : Nat → Nat} (h : BX μ b β) : ∀ k, k < cl β → mA μ (b + 9) k = nI (β (38 + k)) := h.2.2.2.2.2.2.2.2.2.2.2.2.2.2.1
theorem BX.taps {μ : Mm} {b : Nat} {β : Nat → Nat} (h : BX μ b β) : ∀ k, k < cl β → mA μ (b + 10) k = nI (β (63 + k)) := h.2.2.2.2.2.2.2.2.2.2.2.2.2.2.2
theorem BX.ag {μ ν : Mm} {b : Nat} {β : Nat → Nat} {P : Nat → Nat → Prop} (h : BX μ b β) (e : Ag P μ ν) (hS : ∀ i, i ≤ 10 → ∀ k, ¬ P (b + i) k) : BX ν b β := by
  have i0 := e.I (hS 0 (by omega))
  have i1 := e.I (hS 1 (by omega))
  have a2 := e.A (hS 2 (by omega))
  have a3 := e.A (hS 3 (by omega))
  have a4 := e.A (hS 4 (by omega))
  have a5 := e.A (hS 5 (by omega))
  have a6 := e.A (hS 6 (by omega))
  have a8 := e.A (hS 8 (by omega))
  have a9 := e.A (hS 9 (by omega))
  have a10 := e.A (hS 10 (by omega))
  rw [Nat.add_zero] at i0
  obtain ⟨q1, q2, q3, q4, q5, q6, q7, q8, q9, q10, q11, q12, q13, q14, q15, q16⟩ := h
  exact ⟨by rw [i0]; exact q1, by rw [i0]; exact q2, by rw [i0]; exact q3, by rw [i0]; exact q4, by rw [i0]; exact q5, by rw [i0]; exact q6, by rw [i0]; exact q7, by rw [i1]; exact q8, by rw [a2]; exact q9, by rw [a3]; exact q10, by rw [a4]; exact q11, by rw [a5]; exact q12, by rw [a6]; exact q13, by rw [a8]; exact q14, by rw [a9]; exact q15, by rw [a10]; exact q16⟩
section BXs
variable {μ : Mm} {b : Nat} {β : Nat → Nat} {F : Nat}
theorem BX.rF (h : BX μ b β) (w : WF β) {l : Nat} (hl : l < β 1) : rdA μ (b + 2) 10 (nI l) = some (nI (β (88 + l))) := by rw [rdA_n (by have := w.1.2.2.2.1; omega) (by omega), h.firsts l hl]
theorem BX.rS (h : BX μ b β) (w : WF β) {l : Nat} (hl : l < β 1) : rdA μ (b + 3) 10 (nI l) = some (nI (β (98 + l))) := by rw [rdA_n (by have := w.1.2.2.2.1; omega) (by omega), h.seconds l hl]
theorem BX.rP (h : BX μ b β) (w : WF β) {l : Nat} (hl : l < β 1) : rdA μ (b + 4) 10 (nI l) = some (nI (β (108 + l))) := by rw [rdA_n (by have := w.1.2.2.2.1; omega) (by omega), h.places l hl]
theorem BX.rB (h : BX μ b β) (w : WF β) {l : Nat} (hl : l < β 1) : rdA μ (b + 5) 10 (nI l) = some (nI (β (118 + l))) := by rw [rdA_n (by have := w.1.2.2.2.1; omega) (by omega), h.besides l hl]
theorem BX.rK (h : BX μ b β) (w : WF β) {a : Nat} (ha : a < β 0) : rdA μ (b + 6) 5 (nI a) = some (nI (β (8 + a))) := by rw [rdA_n (by have := w.1.1; omega) (by omega), h.kinds a ha]
theorem BX.rD (h : BX μ b β) (w : WF β) {k : Nat} (hk : k < cl β) : rdA μ (b + 8) 25 (nI k) = some (nI (β (13 + k))) := by rw [rdA_n (by have := w.cl_le; omega) (by omega), h.digits k hk]
theorem BX.rT (h : BX μ b β) (w : WF β) {k : Nat} (hk : k < cl β) : rdA μ (b + 9) 25 (nI k) = some (nI (β (38 + k))) := by rw [rdA_n (by have := w.cl_le; omega) (by omega), h.truths k hk]
theorem BX.rH (h : BX μ b β) (w : WF β) {k : Nat} (hk : k < cl β) : rdA μ (b + 10) 25 (nI k) = some (nI (β (63 + k))) := by rw [rdA_n (by have := w.cl_le; omega) (by omega), h.taps k hk]
theorem X_cells (h : BX μ b β) : f_X0_cells b μ = some (nI (cl β)) := by
  unfold f_X0_cells
  rw [h.acc, h.wide, pk_mul]
  rfl
theorem X_hasCell (h : BX μ b β) (w : WF β) (v : Int32) : f_X0_hasCell b v μ = some (inN v (cl β)) := by
  have := w.cl_le
  unfold f_X0_hasCell
  rw [X_cells h, Option.bind_some, within_n v (by omega)]
  rfl
theorem X_hasAccount (h : BX μ b β) (w : WF β) (v : Int32) : f_X0_hasAccount b v μ = some (inN v (β 0)) := by
  have := w.1.1
  unfold f_X0_hasAccount
  rw [h.acc, within_n v (by omega)]
  rfl
theorem X_isWrong (h : BX μ b β) (w : WF β) {k : Nat} (hk : k < cl β) : f_X0_isWrong b (nI k) μ = some (wrg β k) := by
  have hc := w.cl_le
  obtain ⟨b1, b2, -⟩ := w.2.2.1 k (by omega)
  unfold f_X0_isWrong wrg
  simp (disch := omega) only [Option.bind_some, bd_some, eqL, leL, ltL, Lle, Llt, addL, Ladd, Lmul, mulL, nIle, nIlt, nIeq, nI_add, pk_mul, h.rD w, h.rT w]
  by_cases e : β (13 + k) = β (38 + k) <;> simp [e]
theorem X_wrongs (h : BX μ b β) (w : WF β) (hF : 2000000 ≤ F) : f_X0_wrongs F b μ = some (nI (wrongAll β)) := by
  have hc := w.cl_le
  unfold f_X0_wrongs
  refine iter2 (L := L_X0_wrongs_4 F b _ μ) (fun i => nI (cntF (wrg β) 0 i)) (fun i => nI i) (N := cl β) (by omega) (fun i hi n => ?_) (fun n => ?_)
  · rw [L_X0_wrongs_4_s]
    simp (disch := omega) only [Option.bind_some, bd_some, eqL, leL, ltL, Lle, Llt, addL, Ladd, Lmul, mulL, nIle, nIlt, nIeq, nI_add, pk_mul, X_cells h, X_isWrong h w]
    rw [if_neg (by omega), cntF_n, Nat.zero_add]
    by_cases e : wrg β i = true
    · rw [if_pos e, if_pos e, addL]
    · rw [if_neg e, if_neg e, Int32.add_zero]; rfl
  · rw [L_X0_wrongs_4_s]
    simp (disch := omega) only [Option.bind_some, bd_some, eqL, leL, ltL, Lle, Llt, addL, Ladd, Lmul, mulL, nIle, nIlt, nIeq, nI_add, pk_mul, X_cells h]
    rw [if_pos (by omega)]
    rfl
theorem X_tappedSet (h : BX μ b β) (w : WF β) (hF : 2000000 ≤ F) : f_X0_tappedSet F b μ = some (tapSet β) := by
  have hc := w.cl_le
  unfold f_X0_tappedSet
  refine iter2 (L := L_X0_tappedSet_4 F b _ μ) (fun i => foldF (fun k x => x ||| (if β (63 + k) = 0 then (0 : Int32) else (1 : Int32) <<< (nI k &&& 31))) 0 i 0) (fun i => nI i) (N := cl β) (by omega) (fun i hi n => ?_) (fun n => ?_)
  · have hb := (w.2.2.1 i (by omega)).2.2
    rw [L_X0_tappedSet_4_s]
    simp (disch := omega) only [Option.bind_some, bd_some, eqL, leL, ltL, Lle, Llt, addL, Ladd, Lmul, mulL, nIle, nIlt, nIeq, nI_add, pk_mul, X_cells h, h.rH w]
    rw [if_neg (by omega), foldF_n, Nat.zero_add]
    simp only [Nat.le_zero_eq]
  · rw [L_X0_tappedSet_4_s]
    simp (disch := omega) only [Option.bind_some, bd_some, eqL, leL, ltL, Lle, Llt, addL, Ladd, Lmul, mulL, nIle, nIlt, nIeq, nI_add, pk_mul, X_cells h]
    rw [if_pos (by omega)]
    rfl
/-- a row of the memory -/
def Row (μ : Mm) (r n : Nat) (d : Nat → Nat) : Prop := ∀ k, k < n → mA μ r k = nI (d k)
theorem Row.rd {μ : Mm} {r n : Nat} {d : Nat → Nat} (h : Row μ r n d) (hn : n ≤ 25) {k : Nat} (hk : k < n) : rdA μ r 25 (nI k) = some (nI (d k)) := by rw [rdA_n (by omega) (by omega), h k hk]
theorem X_sumOf (h : BX μ b β) (w : WF β) (hF : 2000000 ≤ F) {r s a : Nat} (hr : Row μ r (cl β) (fun k => β (s + k))) (ha : a < β 0) : f_X0_sumOf F b r (nI a) μ = some (nI (sumN β s a)) := by
  have hc := w.cl_le
  have hw := w.1.2.2.1
  unfold f_X0_sumOf
  refine iter2 (L := L_X0_sumOf_5 F b r (nI a) _ μ) (fun i => nI (foldF (fun p x => 10 * x + β (s + (β 2 * a + p))) 0 i 0)) (fun i => nI i) (N := β 2) (by omega) (fun i hi n => ?_) (fun n => ?_)
  · have hq : a * β 2 + i < cl β := by
      unfold cl
      calc a * β 2 + i < a * β 2 + β 2 := by omega
        _ = (a + 1) * β 2 := by rw [Nat.succ_mul]
        _ ≤ β 0 * β 2 := Nat.mul_le_mul_right _ (by omega)
    rw [L_X0_sumOf_5_s, h.wide]
    simp (disch := omega) only [Option.bind_some, bd_some, eqL, leL, ltL, Lle, Llt, addL, Ladd, Lmul, mulL, nIle, nIlt, nIeq, nI_add, pk_mul, hr.rd hc]
    rw [if_neg (by omega), foldF_n, Nat.zero_add, Nat.mul_comm 10, Nat.mul_comm (β 2)]
  · rw [L_X0_sumOf_5_s, h.wide]
    simp (disch := omega) only [Option.bind_some, bd_some, eqL, leL, ltL, Lle, Llt, addL, Ladd, Lmul, mulL, nIle, nIlt, nIeq, nI_add, pk_mul]
    rw [if_pos (by omega)]
    rfl
theorem BX.rowD (h : BX μ b β) : Row μ (b + 8) (cl β) (fun k => β (13 + k)) := h.digits
theorem BX.rowT (h : BX μ b β) : Row μ (b + 9) (cl β) (fun k => β (38 + k)) := h.truths
theorem X_surplus (h : BX μ b β) (w : WF β) (hF : 2000000 ≤ F) : f_X0_surplus F b μ = some (bal β) := by
  have hw := w.1.1
  unfold f_X0_surplus
  refine iter2 (L := L_X0_surplus_4 F b _ μ) (fun i => foldF (fun a x => x + (if β (8 + a) = 0 then nI (sumN β 13 a) else -nI (sumN β 13 a))) 0 i 0) (fun i => nI i) (N := β 0) (by omega) (fun i hi n => ?_) (fun n => ?_)
  · have hb := w.2.1 i (by omega)
    rw [L_X0_surplus_4_s, h.acc]
    simp (disch := omega) only [Option.bind_some, bd_some, eqL, leL, ltL, Lle, Llt, addL, Ladd, Lmul, mulL, nIle, nIlt, nIeq, nI_add, pk_mul, X_sumOf h w hF h.rowD hi, h.rK w]
    rw [if_neg (by omega), foldF_n, Nat.zero_add]
  · rw [L_X0_surplus_4_s, h.acc]
    simp (disch := omega) only [Option.bind_some, bd_some, eqL, leL, ltL, Lle, Llt, addL, Ladd, Lmul, mulL, nIle, nIlt, nIeq, nI_add, pk_mul]
    rw [if_pos (by omega)]
    rfl
/-- the cell to which a way leads -/
def wayF (β : Nat → Nat) (k v : Nat) : Option Nat := if v = 4 then some k else bes β k (if v = 0 then 3 else if v = 1 then 4 else v - 1)
theorem wayF_lt (w : WF β) {k v j : Nat} (hk : k < cl β) (h : wayF β k v = some j) : j < cl β := by
  unfold wayF at h
  by_cases e : v = 4
  · rw [if_pos e] at h; cases h; exact hk
  · rw [if_neg e] at h; exact bes_lt w hk h
theorem oI_some {k : Nat} : oI (some k) = nI k := rfl
theorem oI_none : oI none = -1 := rfl
theorem oI_ite {c : Prop} [Decidable c] {x y : Option Nat} : oI (if c then x else y) = if c then oI x else oI y := by split <;> rfl
theorem X_gone (h : BX μ b β) (w : WF β) {k v : Nat} (hk : k < cl β) (hv : v ≤ 4) : f_X0_gone b (nI k) (nI v) μ = some (oI (wayF β k v)) := by
  have hc := w.cl_le
  obtain ⟨⟨w0, w1, w2, -⟩, -⟩ := id w
  have hm : k % β 2 < β 2 := Nat.mod_lt _ (by omega)
  have hcl : β 0 * β 2 = cl β := rfl
  unfold f_X0_gone
  rw [h.wide, h.acc, pk_mul, hcl]
  simp (disch := omega) only [Option.bind_some, bd_some, eqL, leL, ltL, Lle, Llt, addL, Ladd, Lmul, mulL, nIle, nIlt, nIeq, nI_add, pk_mul, subL, rem_n]
  rw [if_neg (by omega), if_neg (by omega), if_pos (by omega), if_neg (by omega)]
  unfold wayF bes
  have hv5 : v = 0 ∨ v = 1 ∨ v = 2 ∨ v = 3 ∨ v = 4 := by omega
  rcases hv5 with e | e | e | e | e <;> subst e
  · simp only [oI_ite, oI_some, oI_none, if_true, if_false, Nat.reduceEqDiff]
    by_cases q : k < β 2
    · simp [q]
    · simp only [q, if_false]; rw [nIsub (by omega)]
  · simp only [oI_ite, oI_some, oI_none, if_true, if_false, Nat.reduceEqDiff]
    by_cases q : k + β 2 < cl β
    · rw [if_neg (by omega), if_pos q]
    · rw [if_pos (by omega), if_neg q]
  · simp only [oI_ite, oI_some, oI_none, if_true, if_false, Nat.reduceEqDiff, Nat.reduceSub]
    by_cases q : k % β 2 = 0
    · simp [q]
    · have hk0 : 0 < k := Nat.pos_of_ne_zero (fun z => q (by rw [z]; exact Nat.zero_mod _))
      rw [subL (by omega)]
      simp [q]
  · simp only [oI_ite, oI_some, oI_none, if_true, if_false, Nat.reduceEqDiff, Nat.reduceSub]
    by_cases q : k % β 2 = β 2 - 1
    · simp [q]
    · have : ¬ β 2 - 1 ≤ k % β 2 := by omega
      simp [q, this]
  · simp [oI_some]
end BXs
