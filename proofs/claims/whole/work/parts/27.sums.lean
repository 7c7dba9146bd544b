/-! ===== sums, reach, rubbed, far: class and reference ===== -/
theorem fnd_iff {p : Nat → Bool} {i m : Nat} : (fndF p i m).isSome = true ↔ ∃ j, i ≤ j ∧ j < i + m ∧ p j = true := by
  cases h : fndF p i m with
  | none =>
    constructor
    · intro q; cases q
    · rintro ⟨j, h1, h2, h3⟩; rw [fndF_none h j h1 h2] at h3; cases h3
  | some l => exact ⟨fun _ => ⟨l, fndF_some h⟩, fun _ => rfl⟩
def tgR (β : Nat → Nat) (s fr many by_ : Nat) : Int32 := foldF (fun i x => x + nI (β (s + fr + by_ * i))) 0 many 0
section SUMS
variable {μ : Mm} {b : Nat} {β : Nat → Nat} {F : Nat}
theorem cl_row {a i : Nat} (ha : a < β 0) (hi : i < β 2) : a * β 2 + i < cl β := by
  unfold cl
  calc a * β 2 + i < a * β 2 + β 2 := by omega
    _ = (a + 1) * β 2 := by rw [Nat.succ_mul]
    _ ≤ β 0 * β 2 := Nat.mul_le_mul_right _ (by omega)
theorem M_together (h : CB μ β) (hF : 2000000 ≤ F) {s fr many by_ : Nat} (hm : many < 1000) (hb : ∀ i, i < many → s + fr + by_ * i < 128) : f_X12_together F (nI s) (nI fr) (nI many) (nI by_) μ = some (tgR β s fr many by_) := by
  unfold f_X12_together
  refine iter2 (L := L_X12_together_6 F _ _ _ _ _ μ) (fun i => foldF (fun i x => x + nI (β (s + fr + by_ * i))) 0 i 0) (fun i => nI i) (N := many) (by omega) (fun i hi n => ?_) (fun n => ?_)
  · have := hb i hi
    rw [L_X12_together_6_s]
    simp (disch := omega) only [Option.bind_some, bd_some, eqL, leL, ltL, Lle, Llt, addL, Ladd, Lmul, mulL, nIle, nIlt, nIeq, nI_add, pk_mul, h.rd]
    rw [if_neg (by omega), foldF_n, Nat.zero_add]
  · rw [L_X12_together_6_s]
    simp (disch := omega) only [Option.bind_some, bd_some, eqL, leL, ltL, Lle, Llt, addL, Ladd, Lmul, mulL, nIle, nIlt, nIeq, nI_add, pk_mul]
    rw [if_pos (by omega)]
    rfl
theorem X_togetherInRow (h : BX μ b β) (w : WF β) (hF : 2000000 ≤ F) {r s a : Nat} (hr : Row μ r (cl β) (fun k => β (s + k))) (ha : a < β 0) : f_X0_togetherInRow F b r (nI a) μ = some (tgR β s (β 2 * a) (β 2) 1) := by
  have hc := w.cl_le
  have hw := w.1.2.2.1
  unfold f_X0_togetherInRow
  refine iter2 (L := L_X0_togetherInRow_5 F b r (nI a) _ μ) (fun i => foldF (fun i x => x + nI (β (s + β 2 * a + 1 * i))) 0 i 0) (fun i => nI i) (N := β 2) (by omega) (fun i hi n => ?_) (fun n => ?_)
  · have hq := cl_row ha hi
    rw [L_X0_togetherInRow_5_s, h.wide]
    simp (disch := omega) only [Option.bind_some, bd_some, eqL, leL, ltL, Lle, Llt, addL, Ladd, Lmul, mulL, nIle, nIlt, nIeq, nI_add, pk_mul, hr.rd hc]
    rw [if_neg (by omega), foldF_n, Nat.zero_add, Nat.one_mul, Nat.mul_comm (β 2), Nat.add_assoc]
  · rw [L_X0_togetherInRow_5_s, h.wide]
    simp (disch := omega) only [Option.bind_some, bd_some, eqL, leL, ltL, Lle, Llt, addL, Ladd, Lmul, mulL, nIle, nIlt, nIeq, nI_add, pk_mul]
    rw [if_pos (by omega)]
    rfl
theorem X_togetherInColumn (h : BX μ b β) (w : WF β) (hF : 2000000 ≤ F) {r s p : Nat} (hr : Row μ r (cl β) (fun k => β (s + k))) (hp : p < β 2) : f_X0_togetherInColumn F b r (nI p) μ = some (tgR β s p (β 0) (β 2)) := by
  have hc := w.cl_le
  have hw := w.1.1
  unfold f_X0_togetherInColumn
  refine iter2 (L := L_X0_togetherInColumn_5 F b r (nI p) _ μ) (fun i => foldF (fun i x => x + nI (β (s + p + β 2 * i))) 0 i 0) (fun i => nI i) (N := β 0) (by omega) (fun i hi n => ?_) (fun n => ?_)
  · have hq := cl_row hi hp
    rw [L_X0_togetherInColumn_5_s, h.wide, h.acc]
    simp (disch := omega) only [Option.bind_some, bd_some, eqL, leL, ltL, Lle, Llt, addL, Ladd, Lmul, mulL, nIle, nIlt, nIeq, nI_add, pk_mul, hr.rd hc]
    rw [if_neg (by omega), foldF_n, Nat.zero_add, Nat.mul_comm (β 2), Nat.add_assoc, Nat.add_comm (i * β 2)]
  · rw [L_X0_togetherInColumn_5_s, h.acc]
    simp (disch := omega) only [Option.bind_some, bd_some, eqL, leL, ltL, Lle, Llt, addL, Ladd, Lmul, mulL, nIle, nIlt, nIeq, nI_add, pk_mul]
    rw [if_pos (by omega)]
    rfl
/-! what a digit may become -/
def may1 (β : Nat → Nat) (l : Nat) (s : Int32) : Int32 := if bit s (β (88 + l)) = true then s ||| ((1 : Int32) <<< (nI (β (98 + l)) &&& 31)) else s
def mayS (β : Nat → Nat) (d : Nat) : Int32 := foldF (fun _ s => foldF (may1 β) 0 (β 1) s) 0 10 ((1 : Int32) <<< (nI d &&& 31))
theorem X_reach (h : BX μ b β) (w : WF β) (hF : 2000000 ≤ F) {d : Nat} : f_X3_reach F (b + 1) (nI d) μ = some (mayS β d) := by
  have hw := w.1.2.2.2.1
  unfold f_X3_reach
  refine iter2 (L := L_X3_reach_6 F (b + 1) _ μ) (fun i => foldF (fun _ s => foldF (may1 β) 0 (β 1) s) 0 i ((1 : Int32) <<< (nI d &&& 31))) (fun i => nI i) (N := 10) (by omega) (fun i hi n => ?_) (fun n => ?_)
  · rw [L_X3_reach_6_s]
    simp (disch := omega) only [Option.bind_some, bd_some, eqL, leL, ltL, Lle, Llt, addL, Ladd, Lmul, mulL, nIle, nIlt, nIeq, nI_add, pk_mul]
    rw [if_neg (by omega), foldF_n]
    generalize foldF (fun _ s => foldF (may1 β) 0 (β 1) s) 0 i ((1 : Int32) <<< (nI d &&& 31)) = s0
    refine iter2 (L := L_X3_reach_15 F (b + 1) _ _ μ) (fun l => foldF (may1 β) 0 l s0) (fun l => nI l) (N := β 1) (by omega) (fun l hl n => ?_) (fun n => ?_)
    · rw [L_X3_reach_15_s, h.laws]
      simp (disch := omega) only [Option.bind_some, bd_some, eqL, leL, ltL, Lle, Llt, addL, Ladd, Lmul, mulL, nIle, nIlt, nIeq, nI_add, pk_mul, h.rF w, h.rS w]
      rw [if_neg (by omega), foldF_n, Nat.zero_add]
      by_cases e : bit (foldF (may1 β) 0 l s0) (β (88 + l)) = true
      · rw [if_neg (fun q => by rw [(bit_n0 _ _).mp q] at e; cases e), show may1 β l (foldF (may1 β) 0 l s0) = _ from if_pos e]
      · rw [if_pos ((bit_n0 _ _).mpr (by cases hh : bit (foldF (may1 β) 0 l s0) (β (88 + l)); rfl; exact absurd hh e)), show may1 β l (foldF (may1 β) 0 l s0) = _ from if_neg e]
    · rw [L_X3_reach_15_s, h.laws]
      simp (disch := omega) only [Option.bind_some, bd_some, eqL, leL, ltL, Lle, Llt, addL, Ladd, Lmul, mulL, nIle, nIlt, nIeq, nI_add, pk_mul]
      rw [if_pos (by omega)]
  · rw [L_X3_reach_6_s]
    simp (disch := omega) only [Option.bind_some, bd_some, eqL, leL, ltL, Lle, Llt, addL, Ladd, Lmul, mulL, nIle, nIlt, nIeq, nI_add, pk_mul]
    rw [if_pos (by omega)]
    rfl
theorem M_mayOf (h : CB μ β) (w : WF β) (hF : 2000000 ≤ F) {d : Nat} : f_X12_mayOf F (nI d) μ = some (mayS β d) := by
  have hw := w.1.2.2.2.1
  unfold f_X12_mayOf
  refine iter2 (L := L_X12_mayOf_6 F _ μ) (fun i => foldF (fun _ s => foldF (may1 β) 0 (β 1) s) 0 i ((1 : Int32) <<< (nI d &&& 31))) (fun i => nI i) (N := 10) (by omega) (fun i hi n => ?_) (fun n => ?_)
  · rw [L_X12_mayOf_6_s]
    simp (disch := omega) only [Option.bind_some, bd_some, eqL, leL, ltL, Lle, Llt, addL, Ladd, Lmul, mulL, nIle, nIlt, nIeq, nI_add, pk_mul]
    rw [if_neg (by omega), foldF_n]
    generalize foldF (fun _ s => foldF (may1 β) 0 (β 1) s) 0 i ((1 : Int32) <<< (nI d &&& 31)) = s0
    refine iter2 (L := L_X12_mayOf_15 F _ _ μ) (fun l => foldF (may1 β) 0 l s0) (fun l => nI l) (N := β 1) (by omega) (fun l hl n => ?_) (fun n => ?_)
    · rw [L_X12_mayOf_15_s, h.rl 1 (by omega)]
      simp (disch := omega) only [Option.bind_some, bd_some, eqL, leL, ltL, Lle, Llt, addL, Ladd, Lmul, mulL, nIle, nIlt, nIeq, nI_add, pk_mul, h.rd, has_eq]
      rw [if_neg (by omega), foldF_n, Nat.zero_add]
      show (if bit (foldF (may1 β) 0 l s0) (β (88 + l)) = true then _ else _) = _
      by_cases e : bit (foldF (may1 β) 0 l s0) (β (88 + l)) = true
      · rw [if_pos e, show may1 β l (foldF (may1 β) 0 l s0) = _ from if_pos e]
      · rw [if_neg e, show may1 β l (foldF (may1 β) 0 l s0) = _ from if_neg e]
    · rw [L_X12_mayOf_15_s, h.rl 1 (by omega)]
      simp (disch := omega) only [Option.bind_some, bd_some, eqL, leL, ltL, Lle, Llt, addL, Ladd, Lmul, mulL, nIle, nIlt, nIeq, nI_add, pk_mul]
      rw [if_pos (by omega)]
  · rw [L_X12_mayOf_6_s]
    simp (disch := omega) only [Option.bind_some, bd_some, eqL, leL, ltL, Lle, Llt, addL, Ladd, Lmul, mulL, nIle, nIlt, nIeq, nI_add, pk_mul]
    rw [if_pos (by omega)]
    rfl
def theftS (β : Nat → Nat) : Int32 := foldF (fun k x => x ||| (if bit (mayS β (β (38 + k))) (β (13 + k)) = true then (0 : Int32) else ((1 : Int32) <<< (nI k &&& 31)))) 0 (cl β) 0
/-! how far -/
def absN (a b : Nat) : Nat := if a < b then b - a else a - b
theorem abs_n {a b : Nat} (ha : a < 1000000) (hb : b < 1000000) : f_J9_abs_0f7a4 (nI a - nI b) μ = some (nI (absN a b)) := by
  unfold f_J9_abs_0f7a4 absN
  congr 1
  by_cases h : a < b
  · have hs : (nI a - nI b).toInt = (a : Int) - b := pk_sub_toInt (by omega) (by omega)
    have h0 : ¬ (0 : Int32) ≤ nI a - nI b := by rw [fa_le, hs, show (0 : Int32).toInt = 0 by decide]; omega
    rw [if_neg h0, if_pos h, Int32.neg_sub, nIsub (by omega)]
  · rw [if_neg h, nIsub (by omega), if_pos (nI_pos' (by omega))]
theorem rem_q {k d : Nat} : nI k - nI (k / d * d) = nI (k % d) := by rw [nIsub (Nat.div_mul_le_self k d)]; congr 1; have := Nat.div_add_mod k d; rw [Nat.mul_comm] at this; omega
def farN (β : Nat → Nat) (s k : Nat) : Nat := absN (k / β 2) (s / β 2) + absN (k % β 2) (s % β 2)
theorem absN_comm (a b : Nat) : absN a b = absN b a := by unfold absN; split <;> split <;> omega
theorem absN_lt {a b n : Nat} (ha : a < n) (hb : b < n) : absN a b < n := by unfold absN; split <;> omega
theorem M_farOf (h : CB μ β) (w : WF β) {k : Nat} (hk : k < 1000) (hs : β 7 < 1000) : f_X12_farOf (nI k) μ = some (nI (farN β (β 7) k)) := by
  obtain ⟨⟨w0, w1, w2, -⟩, -⟩ := id w
  have h1 : k / β 2 ≤ k := Nat.div_le_self _ _
  have h2 : β 7 / β 2 ≤ β 7 := Nat.div_le_self _ _
  have h3 : k % β 2 ≤ k := Nat.mod_le _ _
  have h4 : β 7 % β 2 ≤ β 7 := Nat.mod_le _ _
  unfold f_X12_farOf
  rw [h.rl 2 (by omega), h.rl 7 (by omega)]
  simp (disch := omega) only [Option.bind_some, bd_some, eqL, leL, ltL, Lle, Llt, addL, Ladd, Lmul, mulL, nIle, nIlt, nIeq, nI_add, pk_mul, pk_div, rem_q, abs_n]
  rw [if_neg (by omega), if_neg (by omega), if_neg (by omega), if_neg (by omega)]
  rfl
theorem X_stepsBetween (h : BX μ b β) (w : WF β) {s k : Nat} (hk : k < 1000) (hs : s < 1000) : f_X0_stepsBetween b (nI s) (nI k) μ = some (nI (farN β s k)) := by
  obtain ⟨⟨w0, w1, w2, -⟩, -⟩ := id w
  have h1 : k / β 2 ≤ k := Nat.div_le_self _ _
  have h2 : s / β 2 ≤ s := Nat.div_le_self _ _
  have h3 : k % β 2 ≤ k := Nat.mod_le _ _
  have h4 : s % β 2 ≤ s := Nat.mod_le _ _
  have hr : ∀ q, q < 1000 → f_X0_rowOf b (nI q) μ = some (nI (q / β 2)) := by
    intro q hq
    unfold f_X0_rowOf
    rw [h.wide]
    simp (disch := omega) only [Option.bind_some, bd_some, eqL, leL, ltL, Lle, Llt, addL, Ladd, Lmul, mulL, nIle, nIlt, nIeq, nI_add, pk_mul, pk_div]
    rw [if_neg (by omega), if_neg (by omega)]
  have hc : ∀ q, q < 1000 → f_X0_columnOf b (nI q) μ = some (nI (q % β 2)) := by
    intro q hq
    unfold f_X0_columnOf
    rw [h.wide]
    simp (disch := omega) only [Option.bind_some, bd_some, eqL, leL, ltL, Lle, Llt, addL, Ladd, Lmul, mulL, nIle, nIlt, nIeq, nI_add, pk_mul, rem_n]
    rw [if_neg (by omega), if_neg (by omega)]
  unfold f_X0_stepsBetween
  rw [hr s hs, hr k hk, hc s hs, hc k hk]
  simp (disch := omega) only [Option.bind_some, bd_some, eqL, leL, ltL, Lle, Llt, addL, Ladd, Lmul, mulL, nIle, nIlt, nIeq, nI_add, pk_mul, abs_n]
  unfold farN
  rw [absN_comm (k / β 2), absN_comm (k % β 2)]
/-! which digits must be rubbed -/
theorem xT_at : ∀ i, i < 6 → xT i = nI (10 ^ i) := by decide +kernel
def wt (β : Nat → Nat) (k : Nat) : Int32 := if β (8 + k / β 2) = 0 then nI (10 ^ (β 2 - 1 - k % β 2)) else -nI (10 ^ (β 2 - 1 - k % β 2))
theorem row_lt (w : WF β) {k : Nat} (hk : k < cl β) : k / β 2 < β 0 := Nat.div_lt_of_lt_mul (by unfold cl at hk; rw [Nat.mul_comm]; exact hk)
theorem X_weightOf (h : BX μ b β) (w : WF β) {k : Nat} (hk : k < cl β) : f_X0_weightOf b (nI k) μ = some (wt β k) := by
  have hcc := w.cl_le
  obtain ⟨⟨w0, w1, w2, -⟩, wk, -⟩ := id w
  have hm : k % β 2 < β 2 := Nat.mod_lt _ (by omega)
  have hrow := row_lt w hk
  have hkk := wk (k / β 2) (by omega)
  have hr : f_X0_rowOf b (nI k) μ = some (nI (k / β 2)) := by
    unfold f_X0_rowOf
    rw [h.wide]
    simp (disch := omega) only [Option.bind_some, bd_some, eqL, leL, ltL, Lle, Llt, addL, Ladd, Lmul, mulL, nIle, nIlt, nIeq, nI_add, pk_mul, pk_div]
    rw [if_neg (by omega), if_neg (by omega)]
  have hc : f_X0_columnOf b (nI k) μ = some (nI (k % β 2)) := by
    unfold f_X0_columnOf
    rw [h.wide]
    simp (disch := omega) only [Option.bind_some, bd_some, eqL, leL, ltL, Lle, Llt, addL, Ladd, Lmul, mulL, nIle, nIlt, nIeq, nI_add, pk_mul, rem_n]
    rw [if_neg (by omega), if_neg (by omega)]
  unfold f_X0_weightOf wt
  rw [hr, hc, h.wide]
  simp (disch := omega) only [Option.bind_some, bd_some, eqL, leL, ltL, Lle, Llt, addL, Ladd, Lmul, mulL, nIle, nIlt, nIeq, nI_add, pk_mul, subL, nIsub, rdX_n, h.rK w, xT_at]
theorem M_worthOf (h : CB μ β) (w : WF β) (hF : 2000000 ≤ F) {k : Nat} (hk : k < cl β) : f_X12_worthOf F (nI k) μ = some (wt β k) := by
  have hcc := w.cl_le
  obtain ⟨⟨w0, w1, w2, -⟩, wk, -⟩ := id w
  have hm : k % β 2 < β 2 := Nat.mod_lt _ (by omega)
  have hrow := row_lt w hk
  have hkk := wk (k / β 2) (by omega)
  unfold f_X12_worthOf wt
  rw [h.rl 2 (by omega)]
  simp (disch := omega) only [Option.bind_some, bd_some, eqL, leL, ltL, Lle, Llt, addL, Ladd, Lmul, mulL, nIle, nIlt, nIeq, nI_add, pk_mul, pk_div, rem_q, h.rd]
  rw [if_neg (by omega), if_neg (by omega)]
  have key : ∀ s0 : Int32, L_X12_worthOf_34 F (fun u7 => some u7) μ F s0 (nI (k % β 2)) = some (s0 * nI (10 ^ (β 2 - 1 - k % β 2))) := by
    intro s0
    have := iter2 (L := L_X12_worthOf_34 F (fun u7 => some u7) μ) (K := some (s0 * nI (10 ^ (β 2 - 1 - k % β 2)))) (F := F) (fun i => s0 * nI (10 ^ i)) (fun i => nI (k % β 2 + i)) (N := β 2 - 1 - k % β 2) (by omega) (fun i hi n => ?_) (fun n => ?_)
    · rw [show s0 * nI (10 ^ 0) = s0 from Int32.mul_one s0] at this
      exact this
    · rw [L_X12_worthOf_34_s, h.rl 2 (by omega)]
      simp (disch := omega) only [Option.bind_some, bd_some, eqL, leL, ltL, Lle, Llt, addL, Ladd, Lmul, mulL, nIle, nIlt, nIeq, nI_add, pk_mul, subL]
      rw [if_neg (by omega), Int32.mul_assoc]
      simp (disch := omega) only [Option.bind_some, bd_some, eqL, leL, ltL, Lle, Llt, addL, Ladd, Lmul, mulL, nIle, nIlt, nIeq, nI_add, pk_mul]
      rfl
    · rw [L_X12_worthOf_34_s, h.rl 2 (by omega)]
      simp (disch := omega) only [Option.bind_some, bd_some, eqL, leL, ltL, Lle, Llt, addL, Ladd, Lmul, mulL, nIle, nIlt, nIeq, nI_add, pk_mul, subL]
      rw [if_pos (by omega)]
  rw [key]
  by_cases e : β (8 + k / β 2) = 0
  · rw [if_pos e, if_pos e, Int32.one_mul]
  · rw [if_neg e, if_neg e, Int32.neg_mul, Int32.one_mul]
def evB (β : Nat → Nat) (k : Nat) (s : Int32) : Bool := (fndF (fun d => decide (d ≠ β (13 + k)) && decide (s + wt β k * (nI d - nI (β (13 + k))) = 0)) 0 10).isSome
theorem seekB {L : Nat → Int32 → Option Bool} {F N : Nat} (p : Nat → Bool) (hF : N < F) (hs : ∀ i, i < N → ∀ n, L (n + 1) (nI i) = if p i = true then some true else L n (nI (i + 1))) (he : ∀ n, L (n + 1) (nI N) = some false) : L F 0 = some ((fndF p 0 N).isSome) := by
  have := seek1 (L := L) (K := some false) (G := fun _ => some true) (F := F) (N := N) p 0 hF (fun i hi n => by rw [Nat.zero_add]; exact hs i hi n) (fun n => by rw [Nat.zero_add]; exact he n)
  rw [nI_0] at this
  rw [this]
  cases fndF p 0 N <;> rfl
theorem sub0 {a b : Nat} (ha : a < 1000) (hb : b < 1000) : (nI a - nI b = 0) ↔ a = b := by
  rw [fa_eq, pk_sub_toInt (by omega) (by omega), show (0 : Int32).toInt = 0 by decide]
  omega
theorem X_evensOut (h : BX μ b β) (w : WF β) (hF : 2000000 ≤ F) {k : Nat} (hk : k < cl β) (s : Int32) : f_X0_evensOut F b (nI k) s μ = some (evB β k s) := by
  have hcc := w.cl_le
  have hd := (w.2.2.1 k (by omega)).1
  unfold f_X0_evensOut evB
  rw [X_weightOf h w hk, Option.bind_some]
  refine seekB (L := L_X0_evensOut_9 F b (nI k) s (wt β k) (some false) μ) _ (by omega) (fun i hi n => ?_) (fun n => ?_)
  · rw [L_X0_evensOut_9_s]
    simp (disch := omega) only [Option.bind_some, bd_some, eqL, leL, ltL, Lle, Llt, addL, Ladd, Lmul, mulL, nIle, nIlt, nIeq, nI_add, pk_mul, h.rD w, sub0]
    rw [if_neg (by omega), Int32.mul_comm]
    by_cases e : i = β (13 + k)
    · rw [if_pos e]; simp [e]
    · rw [if_neg e]; simp [e]
  · rw [L_X0_evensOut_9_s]
    rfl
theorem M_isEvenBy (h : CB μ β) (w : WF β) (hF : 2000000 ≤ F) {k : Nat} (hk : k < cl β) (s : Int32) : f_X12_isEvenBy F (nI k) s μ = some (evB β k s) := by
  have hcc := w.cl_le
  have hd := (w.2.2.1 k (by omega)).1
  unfold f_X12_isEvenBy evB
  refine seekB (L := L_X12_isEvenBy_2 F (nI k) s (some false) μ) _ (by omega) (fun i hi n => ?_) (fun n => ?_)
  · rw [L_X12_isEvenBy_2_s]
    simp (disch := omega) only [Option.bind_some, bd_some, eqL, leL, ltL, Lle, Llt, addL, Ladd, Lmul, mulL, nIle, nIlt, nIeq, nI_add, pk_mul, h.rd, M_worthOf h w hF hk]
    rw [if_neg (by omega)]
    by_cases e : i = β (13 + k)
    · rw [if_pos e]; simp [e]
    · rw [if_neg e]; simp [e]
  · rw [L_X12_isEvenBy_2_s]
    rfl
def evX (β : Nat → Nat) (k e : Nat) (s : Int32) : Bool := (fndF (fun d => decide (d ≠ β (13 + e)) && evB β k (s + wt β e * (nI d - nI (β (13 + e))))) 0 10).isSome
theorem ev_iff {k : Nat} {s : Int32} : evB β k s = true ↔ ∃ d, d < 10 ∧ d ≠ β (13 + k) ∧ s + wt β k * (nI d - nI (β (13 + k))) = 0 := by
  unfold evB
  rw [fnd_iff]
  constructor
  · rintro ⟨d, -, h2, h3⟩
    rw [Bool.and_eq_true] at h3
    exact ⟨d, by omega, of_decide_eq_true h3.1, of_decide_eq_true h3.2⟩
  · rintro ⟨d, h1, h2, h3⟩
    exact ⟨d, by omega, by omega, by rw [Bool.and_eq_true]; exact ⟨decide_eq_true h2, decide_eq_true h3⟩⟩
theorem evX_iff {k e : Nat} {s : Int32} : evX β k e s = true ↔ ∃ d, d < 10 ∧ d ≠ β (13 + e) ∧ evB β k (s + wt β e * (nI d - nI (β (13 + e)))) = true := by
  unfold evX
  rw [fnd_iff]
  constructor
  · rintro ⟨d, -, h2, h3⟩
    rw [Bool.and_eq_true] at h3
    exact ⟨d, by omega, of_decide_eq_true h3.1, h3.2⟩
  · rintro ⟨d, h1, h2, h3⟩
    exact ⟨d, by omega, by omega, by rw [Bool.and_eq_true]; exact ⟨decide_eq_true h2, h3⟩⟩
theorem evX_sw {k e : Nat} {s : Int32} : evX β k e s = evX β e k s := by
  have key : ∀ k e, evX β k e s = true → evX β e k s = true := by
    intro k e h
    obtain ⟨d, h1, h2, h3⟩ := evX_iff.mp h
    obtain ⟨d', q1, q2, q3⟩ := ev_iff.mp h3
    refine evX_iff.mpr ⟨d', q1, q2, ev_iff.mpr ⟨d, h1, h2, ?_⟩⟩
    rw [← q3, Int32.add_assoc, Int32.add_assoc, Int32.add_comm (wt β k * _)]
  cases h : evX β k e s with
  | true => exact (key k e h).symm
  | false =>
    cases h2 : evX β e k s with
    | true => rw [key e k h2] at h; exact h.symm
    | false => rfl
theorem X_evenOut (h : BX μ b β) (w : WF β) (hF : 2000000 ≤ F) {k e : Nat} (hk : k < cl β) (he : e < cl β) (s : Int32) : f_X0_evenOut F b (nI k) (nI e) s μ = some (evX β k e s) := by
  have hcc := w.cl_le
  have hd := (w.2.2.1 e (by omega)).1
  unfold f_X0_evenOut evX
  rw [X_weightOf h w he, Option.bind_some]
  refine seekB (L := L_X0_evenOut_10 F b (nI k) (nI e) s (wt β e) (some false) μ) _ (by omega) (fun i hi n => ?_) (fun n => ?_)
  · rw [L_X0_evenOut_10_s]
    simp (disch := omega) only [Option.bind_some, bd_some, eqL, leL, ltL, Lle, Llt, addL, Ladd, Lmul, mulL, nIle, nIlt, nIeq, nI_add, pk_mul, h.rD w, sub0, X_evensOut h w hF hk]
    rw [if_neg (by omega), Int32.mul_comm]
    by_cases q : i = β (13 + e)
    · rw [if_pos q]; simp [q]
    · rw [if_neg q]; simp [q]
  · rw [L_X0_evenOut_10_s]
    rfl
theorem M_isEvenByTwo (h : CB μ β) (w : WF β) (hF : 2000000 ≤ F) {k e : Nat} (hk : k < cl β) (he : e < cl β) (s : Int32) : f_X12_isEvenByTwo F (nI k) (nI e) s μ = some (evX β k e s) := by
  have hcc := w.cl_le
  have hd := (w.2.2.1 k (by omega)).1
  rw [evX_sw]
  unfold f_X12_isEvenByTwo evX
  refine seekB (L := L_X12_isEvenByTwo_3 F (nI k) (nI e) s (some false) μ) _ (by omega) (fun i hi n => ?_) (fun n => ?_)
  · rw [L_X12_isEvenByTwo_3_s]
    simp (disch := omega) only [Option.bind_some, bd_some, eqL, leL, ltL, Lle, Llt, addL, Ladd, Lmul, mulL, nIle, nIlt, nIeq, nI_add, pk_mul, h.rd, M_worthOf h w hF hk, M_isEvenBy h w hF he]
    rw [if_neg (by omega)]
    by_cases q : i = β (13 + k)
    · rw [if_pos q]; simp [q]
    · rw [if_neg q]; simp [q]
  · rw [L_X12_isEvenByTwo_3_s]
    rfl
/-- two cells, the higher one first -/
def rub2 (β : Nat → Nat) (s : Int32) : Option Int32 := match fndF (fun e => (fndF (fun k => evX β k e s) 0 e).isSome) 1 (cl β - 1) with
  | none => some (-1)
  | some e => match fndF (fun k => evX β k e s) 0 e with
    | none => none
    | some k => some (((1 : Int32) <<< (nI k &&& 31)) ||| ((1 : Int32) <<< (nI e &&& 31)))
def rubO (β : Nat → Nat) : Option Int32 := if bal β = 0 then some 0 else match fndF (fun k => evB β k (bal β)) 0 (cl β) with
  | some k => some ((1 : Int32) <<< (nI k &&& 31))
  | none => rub2 β (bal β)
theorem X_leastRubbed (h : BX μ b β) (w : WF β) (hF : 2000000 ≤ F) : f_X0_leastRubbed F b μ = rubO β := by
  have hcc := w.cl_le
  unfold f_X0_leastRubbed rubO
  rw [X_surplus h w hF, Option.bind_some]
  split
  · rfl
  · have h2 : L_X0_leastRubbed_42 F b (bal β) (some (-1)) μ F 1 = rub2 β (bal β) := by
      unfold rub2
      have := seek1 (L := L_X0_leastRubbed_42 F b (bal β) (some (-1)) μ) (K := some (-1)) (F := F) (N := cl β - 1) (G := fun e => match fndF (fun k => evX β k e (bal β)) 0 e with
        | none => none
        | some k => some (((1 : Int32) <<< (nI k &&& 31)) ||| ((1 : Int32) <<< (nI e &&& 31)))) (fun e => (fndF (fun k => evX β k e (bal β)) 0 e).isSome) 1 (by omega) (fun i hi n => ?_) (fun n => ?_)
      · exact this
      · rw [L_X0_leastRubbed_42_s, X_cells h]
        simp (disch := omega) only [Option.bind_some, bd_some, eqL, leL, ltL, Lle, Llt, addL, Ladd, Lmul, mulL, nIle, nIlt, nIeq, nI_add, pk_mul]
        rw [if_neg (by omega)]
        have q := seek1 (L := L_X0_leastRubbed_52 F b (bal β) (nI (1 + i)) (L_X0_leastRubbed_42 F b (bal β) (some (-1)) μ n (nI (1 + i + 1))) μ) (K := L_X0_leastRubbed_42 F b (bal β) (some (-1)) μ n (nI (1 + i + 1))) (F := F) (N := 1 + i) (G := fun k => some (((1 : Int32) <<< (nI k &&& 31)) ||| ((1 : Int32) <<< (nI (1 + i) &&& 31)))) (fun k => evX β k (1 + i) (bal β)) 0 (by omega) (fun k hk n => ?_) (fun n => ?_)
        · rw [nI_0] at q
          rw [q]
          cases fndF (fun k => evX β k (1 + i) (bal β)) 0 (1 + i) <;> rfl
        · rw [L_X0_leastRubbed_52_s]
          simp (disch := omega) only [Option.bind_some, bd_some, eqL, leL, ltL, Lle, Llt, addL, Ladd, Lmul, mulL, nIle, nIlt, nIeq, nI_add, pk_mul, Nat.zero_add, X_evenOut h w hF]
          rw [if_neg (by omega)]
        · rw [L_X0_leastRubbed_52_s]
          simp (disch := omega) only [Option.bind_some, bd_some, eqL, leL, ltL, Lle, Llt, addL, Ladd, Lmul, mulL, nIle, nIlt, nIeq, nI_add, pk_mul, Nat.zero_add]
          rw [if_pos (by omega)]
      · rw [L_X0_leastRubbed_42_s, X_cells h]
        simp (disch := omega) only [Option.bind_some, bd_some, eqL, leL, ltL, Lle, Llt, addL, Ladd, Lmul, mulL, nIle, nIlt, nIeq, nI_add, pk_mul]
        rw [if_pos (by omega)]
    rw [h2]
    have := seek1 (L := L_X0_leastRubbed_13 F b (bal β) (rub2 β (bal β)) μ) (K := rub2 β (bal β)) (F := F) (N := cl β) (G := fun k => some ((1 : Int32) <<< (nI k &&& 31))) (fun k => evB β k (bal β)) 0 (by omega) (fun i hi n => ?_) (fun n => ?_)
    · rw [nI_0] at this
      rw [this]
      cases fndF (fun k => evB β k (bal β)) 0 (cl β) <;> rfl
    · rw [L_X0_leastRubbed_13_s, X_cells h]
      simp (disch := omega) only [Option.bind_some, bd_some, eqL, leL, ltL, Lle, Llt, addL, Ladd, Lmul, mulL, nIle, nIlt, nIeq, nI_add, pk_mul, Nat.zero_add, X_evensOut h w hF]
      rw [if_neg (by omega)]
    · rw [L_X0_leastRubbed_13_s, X_cells h]
      simp (disch := omega) only [Option.bind_some, bd_some, eqL, leL, ltL, Lle, Llt, addL, Ladd, Lmul, mulL, nIle, nIlt, nIeq, nI_add, pk_mul, Nat.zero_add]
      rw [if_pos (by omega)]
theorem M_rubs (h : CB μ β) (w : WF β) (hF : 2000000 ≤ F) : f_X12_rubs F μ = rubO β := by
  have hcc := w.cl_le
  unfold f_X12_rubs rubO
  rw [M_balanced h w hF, Option.bind_some]
  split
  · rfl
  · have h2 : L_X12_rubs_42 F (bal β) (some (-1)) μ F 1 = rub2 β (bal β) := by
      unfold rub2
      have := seek1 (L := L_X12_rubs_42 F (bal β) (some (-1)) μ) (K := some (-1)) (F := F) (N := cl β - 1) (G := fun e => match fndF (fun k => evX β k e (bal β)) 0 e with
        | none => none
        | some k => some (((1 : Int32) <<< (nI k &&& 31)) ||| ((1 : Int32) <<< (nI e &&& 31)))) (fun e => (fndF (fun k => evX β k e (bal β)) 0 e).isSome) 1 (by omega) (fun i hi n => ?_) (fun n => ?_)
      · exact this
      · rw [L_X12_rubs_42_s, M_cells h]
        simp (disch := omega) only [Option.bind_some, bd_some, eqL, leL, ltL, Lle, Llt, addL, Ladd, Lmul, mulL, nIle, nIlt, nIeq, nI_add, pk_mul]
        rw [if_neg (by omega)]
        have q := seek1 (L := L_X12_rubs_52 F (bal β) (nI (1 + i)) (L_X12_rubs_42 F (bal β) (some (-1)) μ n (nI (1 + i + 1))) μ) (K := L_X12_rubs_42 F (bal β) (some (-1)) μ n (nI (1 + i + 1))) (F := F) (N := 1 + i) (G := fun k => some (((1 : Int32) <<< (nI k &&& 31)) ||| ((1 : Int32) <<< (nI (1 + i) &&& 31)))) (fun k => evX β k (1 + i) (bal β)) 0 (by omega) (fun k hk n => ?_) (fun n => ?_)
        · rw [nI_0] at q
          rw [q]
          cases fndF (fun k => evX β k (1 + i) (bal β)) 0 (1 + i) <;> rfl
        · rw [L_X12_rubs_52_s]
          simp (disch := omega) only [Option.bind_some, bd_some, eqL, leL, ltL, Lle, Llt, addL, Ladd, Lmul, mulL, nIle, nIlt, nIeq, nI_add, pk_mul, Nat.zero_add, M_isEvenByTwo h w hF]
          rw [if_neg (by omega)]
        · rw [L_X12_rubs_52_s]
          simp (disch := omega) only [Option.bind_some, bd_some, eqL, leL, ltL, Lle, Llt, addL, Ladd, Lmul, mulL, nIle, nIlt, nIeq, nI_add, pk_mul, Nat.zero_add]
          rw [if_pos (by omega)]
      · rw [L_X12_rubs_42_s, M_cells h]
        simp (disch := omega) only [Option.bind_some, bd_some, eqL, leL, ltL, Lle, Llt, addL, Ladd, Lmul, mulL, nIle, nIlt, nIeq, nI_add, pk_mul]
        rw [if_pos (by omega)]
    rw [h2]
    have := seek1 (L := L_X12_rubs_13 F (bal β) (rub2 β (bal β)) μ) (K := rub2 β (bal β)) (F := F) (N := cl β) (G := fun k => some ((1 : Int32) <<< (nI k &&& 31))) (fun k => evB β k (bal β)) 0 (by omega) (fun i hi n => ?_) (fun n => ?_)
    · rw [nI_0] at this
      rw [this]
      cases fndF (fun k => evB β k (bal β)) 0 (cl β) <;> rfl
    · rw [L_X12_rubs_13_s, M_cells h]
      simp (disch := omega) only [Option.bind_some, bd_some, eqL, leL, ltL, Lle, Llt, addL, Ladd, Lmul, mulL, nIle, nIlt, nIeq, nI_add, pk_mul, Nat.zero_add, M_isEvenBy h w hF]
      rw [if_neg (by omega)]
    · rw [L_X12_rubs_13_s, M_cells h]
      simp (disch := omega) only [Option.bind_some, bd_some, eqL, leL, ltL, Lle, Llt, addL, Ladd, Lmul, mulL, nIle, nIlt, nIeq, nI_add, pk_mul, Nat.zero_add]
      rw [if_pos (by omega)]
end SUMS
