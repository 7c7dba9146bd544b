/-! ===== hours ===== -/
theorem updN_eq {f : Nat → Nat} {k x : Nat} : updN f k x k = x := by unfold updN; rw [if_pos rfl]
theorem updN_ne {f : Nat → Nat} {k x j : Nat} (h : j ≠ k) : updN f k x j = f j := by unfold updN; rw [if_neg h]
theorem mI_nk {μ : Mm} {a b j k : Nat} {x : Int32} (h : j ≠ k) : mI (sI μ a k x) b j = mI μ b j := by rw [mI_sI]; split <;> simp [h]
def hrs (β : Nat → Nat) : Nat → Nat → Nat
  | 0 => β
  | n + 1 => hourB (hrs β n)
section HRS
variable {μ : Mm} {b : Nat} {β : Nat → Nat} {F : Nat}
theorem hourB_lo {j : Nat} (h5 : j ≠ 5) (h : j < 13) : hourB β j = β j := by unfold hourB; rw [if_neg h5, if_neg (by omega), if_neg (by omega)]
theorem hourB_5 : hourB β 5 = β 5 + 1 := by unfold hourB; rw [if_pos rfl]
theorem hourB_dg {k : Nat} (h : k < cl β) : hourB β (13 + k) = drf β k := by unfold hourB; rw [if_neg (by omega), if_pos (by omega)]; congr 1; omega
theorem hourB_tp (hc : cl β ≤ 25) {k : Nat} (h : k < cl β) : hourB β (63 + k) = β (63 + k) - 1 := by unfold hourB; rw [if_neg (by omega), if_neg (by omega), if_pos (by omega)]
theorem hourB_tr (hc : cl β ≤ 25) {k : Nat} (h : k < 25) : hourB β (38 + k) = β (38 + k) := by unfold hourB; rw [if_neg (by omega), if_neg (by omega), if_neg (by omega)]
theorem hourB_hi (hc : cl β ≤ 25) {j : Nat} (h : 88 ≤ j) : hourB β j = β j := by unfold hourB; rw [if_neg (by omega), if_neg (by omega), if_neg (by omega)]
theorem hourB_cl : cl (hourB β) = cl β := by unfold cl; rw [hourB_lo (by omega) (by omega), hourB_lo (by omega) (by omega)]
theorem WF.hour (w : WF β) (h5 : β 5 + 1 ≤ 20000) : WF (hourB β) := by
  have hc := w.cl_le
  obtain ⟨⟨w0, w1, w2, w3, w4, w5, w6, w7, w8⟩, wk, wd, wl⟩ := id w
  refine ⟨⟨?_, ?_, ?_, ?_, ?_, ?_, ?_, ?_, ?_⟩, ?_, ?_, ?_⟩
  · rw [hourB_lo (by omega) (by omega)]; exact w0
  · rw [hourB_lo (by omega) (by omega)]; exact w1
  · rw [hourB_lo (by omega) (by omega)]; exact w2
  · rw [hourB_lo (by omega) (by omega)]; exact w3
  · rw [hourB_lo (by omega) (by omega)]; exact w4
  · rw [hourB_lo (by omega) (by omega)]; exact w5
  · rw [hourB_lo (by omega) (by omega)]; exact w6
  · rw [hourB_5]; exact h5
  · rw [hourB_cl, hourB_lo (by omega) (by omega), hourB_lo (by omega) (by omega)]; exact w8
  · intro a ha; rw [hourB_lo (by omega) (by omega)]; exact wk a ha
  · intro k hk
    obtain ⟨d1, d2, d3⟩ := wd k hk
    refine ⟨?_, ?_, ?_⟩
    · unfold hourB
      rw [if_neg (by omega)]
      split
      · rw [show 13 + k - 13 = k by omega]; exact drf_le w hk
      · rw [if_neg (by omega)]; exact d1
    · rw [hourB_tr hc hk]; exact d2
    · unfold hourB
      rw [if_neg (by omega), if_neg (by omega)]
      split
      · omega
      · exact d3
  · intro l hl
    rw [hourB_hi hc (by omega), hourB_hi hc (by omega), hourB_hi hc (by omega), hourB_hi hc (by omega)]
    exact wl l hl
theorem hrs_5 : ∀ n, hrs β n 5 = β 5 + n
  | 0 => rfl
  | n + 1 => by show hourB (hrs β n) 5 = _; rw [hourB_5, hrs_5 n]; omega
theorem hrs_lo {j : Nat} (h5 : j ≠ 5) (h : j < 13) : ∀ n, hrs β n j = β j
  | 0 => rfl
  | n + 1 => by show hourB (hrs β n) j = _; rw [hourB_lo h5 h, hrs_lo h5 h n]
theorem hrs_cl (n : Nat) : cl (hrs β n) = cl β := by unfold cl; rw [hrs_lo (by omega) (by omega), hrs_lo (by omega) (by omega)]
theorem WF.hrs (w : WF β) : ∀ n, β 5 + n ≤ 20000 → WF (hrs β n)
  | 0, _ => w
  | n + 1, h => (WF.hrs w n (by omega)).hour (by rw [hrs_5]; omega)
/-! nothing reads the hour -/
theorem upd5_cl {x : Nat} : cl (updN β 5 x) = cl β := rfl
theorem upd5_bes {x k p : Nat} : bes (updN β 5 x) k p = bes β k p := rfl
theorem upd5_brs {x l k : Nat} {d : Nat → Nat} : brs (updN β 5 x) d l k = brs β d l k := by
  unfold brs
  rw [updN_ne (by omega), updN_ne (by omega), updN_ne (by omega), upd5_bes]
theorem upd5_law {x k : Nat} {d : Nat → Nat} : lawOf (updN β 5 x) d k = lawOf β d k := fndF_cong (fun j _ _ => upd5_brs)
theorem upd5_bec {x k : Nat} {d : Nat → Nat} : becomes (updN β 5 x) d k = becomes β d k := by
  unfold becomes
  rw [upd5_law]
  cases lawOf β d k with
  | none => rfl
  | some l => exact updN_ne (by omega)
theorem upd5_dgs {x : Nat} : dgs (updN β 5 x) = dgs β := funext fun k => updN_ne (by omega)
theorem upd5_drf {x k : Nat} : drf (updN β 5 x) k = drf β k := by
  unfold drf
  rw [updN_ne (by omega), updN_ne (by omega), upd5_dgs, upd5_bec]
theorem upd5_hour {x : Nat} : hourB (updN β 5 x) = updN (hourB β) 5 (x + 1) := by
  funext j
  unfold hourB
  rw [upd5_cl]
  by_cases e : j = 5
  · subst e; rw [if_pos rfl, updN_eq, updN_eq]
  · rw [if_neg e, updN_ne e, updN_ne e, upd5_drf, if_neg e]
theorem upd5_twice {x y : Nat} : updN (updN β 5 x) 5 y = updN β 5 y := by
  funext j
  by_cases e : j = 5
  · subst e; rw [updN_eq, updN_eq]
  · rw [updN_ne e, updN_ne e, updN_ne e]
theorem upd5_self {x : Nat} (h : β 5 = x) : updN β 5 x = β := by
  funext j
  by_cases e : j = 5
  · subst e; rw [updN_eq, h]
  · rw [updN_ne e]
theorem upd5_hrs {x : Nat} : ∀ n, hrs (updN β 5 x) n = updN (hrs β n) 5 (x + n)
  | 0 => rfl
  | n + 1 => by show hourB (hrs (updN β 5 x) n) = _; rw [upd5_hrs n, upd5_hour]; rfl
theorem upd5_moved {x : Nat} : moved (updN β 5 x) = moved β := by
  unfold moved
  rw [upd5_cl]
  exact foldF_cong (fun j y _ _ => by unfold moves; rw [upd5_drf, updN_ne (by omega)])
theorem WF.u5 (w : WF β) {x : Nat} (hx : x ≤ 20000) : WF (updN β 5 x) := by
  obtain ⟨⟨w0, w1, w2, w3, w4, w5, w6, w7, w8⟩, wk, wd, wl⟩ := id w
  refine ⟨⟨w0, w1, w2, w3, w4, w5, w6, hx, w8⟩, ?_, ?_, ?_⟩
  · intro a ha; rw [updN_ne (by omega)]; exact wk a ha
  · intro k hk; rw [updN_ne (by omega), updN_ne (by omega), updN_ne (by omega)]; exact wd k hk
  · intro l hl; rw [updN_ne (by omega), updN_ne (by omega), updN_ne (by omega), updN_ne (by omega)]; exact wl l hl
/-! what stands still -/
theorem foldF_or {p : Nat → Bool} : ∀ {m i : Nat} {v : Bool}, foldF (fun k x => x || p k) i m v = (v || (fndF p i m).isSome)
  | 0, i, v => by show v = _; rw [show fndF p i 0 = none from rfl]; simp
  | m + 1, i, v => by
    rw [foldF_s, foldF_or, fndF_s]
    cases p i <;> simp
theorem fold_no {p : Nat → Bool} {n : Nat} (h : foldF (fun k x => x || p k) 0 n false = false) {k : Nat} (hk : k < n) : p k = false := by
  rw [foldF_or, Bool.false_or] at h
  cases hf : fndF p 0 n with
  | some j => rw [hf] at h; cases h
  | none => exact fndF_none hf k (by omega) (by omega)
theorem tap_no (w : WF β) (h : tapSet β = 0) {k : Nat} (hk : k < cl β) : β (63 + k) = 0 := by
  have hc := w.cl_le
  have hb : bit (tapSet β) k = false := by rw [h]; exact bit_z (by omega)
  unfold tapSet at hb
  rw [bit_fold (q := fun j => decide (β (63 + j) ≠ 0) && decide (k = j)) (by omega) (fun j h1 h2 => ?_), bit_z (by omega), Bool.false_or] at hb
  · cases hf : fndF (fun j => decide (β (63 + j) ≠ 0) && decide (k = j)) 0 (cl β) with
    | some j => rw [hf] at hb; cases hb
    | none =>
      have := fndF_none hf k (by omega) (by omega)
      simpa using this
  · by_cases e : β (63 + j) = 0
    · rw [if_pos e, bit_z (by omega)]; simp [e]
    · rw [if_neg e, bit_sh (by omega) (by omega)]; simp [e]
theorem still1 (w : WF β) (hm : moved β = false) (ht : tapSet β = 0) : hourB β = updN β 5 (β 5 + 1) := by
  funext j
  unfold hourB
  by_cases e : j = 5
  · rw [if_pos e, e, updN_eq]
  · rw [if_neg e, updN_ne e]
    split
    · rename_i q
      have := fold_no (p := moves β) hm (k := j - 13) (by omega)
      unfold moves at this
      have h2 := of_decide_eq_false this
      rw [show 13 + (j - 13) = j by omega] at h2
      exact Decidable.of_not_not h2
    · split
      · rename_i q
        have := tap_no w ht (k := j - 63) (by omega)
        rw [show 63 + (j - 63) = j by omega] at this
        rw [this]
      · rfl
theorem upd5_tap {x : Nat} : tapSet (updN β 5 x) = tapSet β := by
  unfold tapSet
  rw [upd5_cl]
  exact foldF_cong (fun j y _ _ => by rw [updN_ne (by omega)])
theorem still (w : WF β) (hm : moved β = false) (ht : tapSet β = 0) : ∀ n, β 5 + n ≤ 20000 → hrs β n = updN β 5 (β 5 + n)
  | 0, _ => (upd5_self rfl).symm
  | n + 1, h => by
    show hourB (hrs β n) = _
    rw [still w hm ht n (by omega), still1 (w.u5 (by omega)) (by rw [upd5_moved]; exact hm) (by rw [upd5_tap]; exact ht), upd5_twice, updN_eq]
    rfl
/-! the class's hours -/
theorem max0' {a : Nat} (h : a < 2147483648) : (if nI a - 1 < (0 : Int32) then 0 else nI a - 1) = nI (a - 1) := by
  cases a with
  | zero => decide
  | succ a =>
    rw [show nI (a + 1) - 1 = nI a from nI_pred a, if_neg (nI_n0 (by omega))]
    rfl
theorem X_lessenTaps (h : BX μ b β) (w : WF β) (hF : 2000000 ≤ F) : f_X0_lessenTaps F b μ = some (putA μ (b + 10) (fun k => nI (β (63 + k) - 1)) 0 (cl β)) := by
  have hc := w.cl_le
  unfold f_X0_lessenTaps
  have hcc : ∀ i, f_X0_cells b (putA μ (b + 10) (fun k => nI (β (63 + k) - 1)) 0 i) = some (nI (cl β)) := by
    intro i
    have hA : Ag (fun a _ => a = b + 10) μ (putA μ (b + 10) (fun k => nI (β (63 + k) - 1)) 0 i) := putA_ag (P := fun a _ => a = b + 10) (fun _ _ _ => rfl)
    unfold f_X0_cells
    rw [hA.I (fun _ => by omega), h.acc, h.wide, pk_mul]
    rfl
  refine iter2 (L := L_X0_lessenTaps_2 F b _) (fun i => nI i) (fun i => putA μ (b + 10) (fun k => nI (β (63 + k) - 1)) 0 i) (N := cl β) (by omega) (fun i hi n => ?_) (fun n => ?_)
  · have hb := (w.2.2.1 i (by omega)).2.2
    have hr : rdA (putA μ (b + 10) (fun k => nI (β (63 + k) - 1)) 0 i) (b + 10) 25 (nI i) = some (nI (β (63 + i))) := by rw [rdA_n (by omega) (by omega), putA_mA, if_neg (by omega), h.taps i hi]
    rw [L_X0_lessenTaps_2_s, hcc, putA_n, Nat.zero_add]
    simp (disch := omega) only [Option.bind_some, bd_some, eqL, leL, ltL, Lle, Llt, addL, Ladd, Lmul, mulL, nIle, nIlt, nIeq, nI_add, pk_mul, hr, max_eq, max0', wrA_n]
    rw [if_neg (by omega)]
  · rw [L_X0_lessenTaps_2_s, hcc]
    simp (disch := omega) only [Option.bind_some, bd_some, eqL, leL, ltL, Lle, Llt, addL, Ladd, Lmul, mulL, nIle, nIlt, nIeq, nI_add, pk_mul]
    rw [if_pos (by omega)]
/-- the digits have gone on, the taps not yet -/
def midD (β : Nat → Nat) (j : Nat) : Nat := if 13 ≤ j ∧ j < 13 + cl β then drf β (j - 13) else β j
theorem midD_in {k : Nat} (h : k < cl β) : midD β (13 + k) = drf β k := by unfold midD; rw [if_pos (by omega), show 13 + k - 13 = k by omega]
theorem midD_no {j : Nat} (h : ¬ (13 ≤ j ∧ j < 13 + cl β)) : midD β j = β j := by unfold midD; rw [if_neg h]
theorem midD_cl : cl (midD β) = cl β := rfl
/-- behind one turn of the class's loop -/
def hourX (μ : Mm) (b : Nat) (β : Nat → Nat) : Mm := putA (rA (putA μ (b + 11) (fun k => nI (drf β k)) 0 (cl β)) (b + 8) (va_cpy (mA (putA μ (b + 11) (fun k => nI (drf β k)) 0 (cl β)) (b + 11)) (mA (putA μ (b + 11) (fun k => nI (drf β k)) 0 (cl β)) (b + 8)) 0 0 (cl β))) (b + 10) (fun k => nI (β (63 + k) - 1)) 0 (cl β)
theorem hourX_ag : Ag (fun a _ => a = b + 8 ∨ a = b + 10 ∨ a = b + 11) μ (hourX μ b β) := by
  unfold hourX
  refine ((putA_ag (fun _ _ _ => Or.inr (Or.inr rfl))).tr (Ag.rA (fun k hk => absurd (Or.inl rfl) hk))).tr (putA_ag (fun _ _ _ => Or.inr (Or.inl rfl)))
theorem X_hour1 (h : BX μ b β) (w : WF β) : BX (rA (putA μ (b + 11) (fun k => nI (drf β k)) 0 (cl β)) (b + 8) (va_cpy (mA (putA μ (b + 11) (fun k => nI (drf β k)) 0 (cl β)) (b + 11)) (mA (putA μ (b + 11) (fun k => nI (drf β k)) 0 (cl β)) (b + 8)) 0 0 (cl β))) b (midD β) := by
  have hc := w.cl_le
  have hA : Ag (fun a _ => a = b + 11) μ (putA μ (b + 11) (fun k => nI (drf β k)) 0 (cl β)) := putA_ag (P := fun a _ => a = b + 11) (fun _ _ _ => rfl)
  have h' : BX (putA μ (b + 11) (fun k => nI (drf β k)) 0 (cl β)) b β := h.ag hA (fun j hj _ e => by omega)
  have hd : ∀ k, k < cl β → mA (putA μ (b + 11) (fun k => nI (drf β k)) 0 (cl β)) (b + 11) k = nI (drf β k) := fun k hk => by rw [putA_mA, if_pos (by omega)]
  generalize putA μ (b + 11) (fun k => nI (drf β k)) 0 (cl β) = ξ at *
  have hcl : cl (midD β) = cl β := midD_cl
  obtain ⟨q1, q2, q3, q4, q5, q6, q7, q8, q9, q10, q11, q12, q13, q14, q15, q16⟩ := h'
  have hl : β 1 ≤ 10 := w.1.2.2.2.1
  have ha : β 0 ≤ 5 := w.1.1
  refine ⟨q1, q2, q3, q4, q5, q6, q7, q8, ?_, ?_, ?_, ?_, ?_, ?_, ?_, ?_⟩
  · intro l hl2; rw [mA_rne (by omega), q9 l hl2, midD_no (by omega)]
  · intro l hl2; rw [mA_rne (by omega), q10 l hl2, midD_no (by omega)]
  · intro l hl2; rw [mA_rne (by omega), q11 l hl2, midD_no (by omega)]
  · intro l hl2; rw [mA_rne (by omega), q12 l hl2, midD_no (by omega)]
  · intro a ha2
    have : a < β 0 := ha2
    rw [mA_rne (by omega), q13 a ha2, midD_no (by omega)]
  · intro k hk
    rw [hcl] at hk
    rw [mA_rA, if_pos rfl]
    unfold va_cpy
    rw [if_pos (by omega), show 0 + (k - 0) = k by omega, hd k hk, midD_in hk]
  · intro k hk
    rw [hcl] at hk
    rw [mA_rne (by omega), q15 k hk, midD_no (by omega)]
  · intro k hk
    rw [hcl] at hk
    rw [mA_rne (by omega), q16 k hk, midD_no (by omega)]
theorem X_hour2 (h : BX μ b β) (w : WF β) : BX (hourX μ b β) b (updN (hourB β) 5 (β 5)) := by
  have hc := w.cl_le
  have h1 := X_hour1 h w
  unfold hourX
  generalize rA (putA μ (b + 11) (fun k => nI (drf β k)) 0 (cl β)) (b + 8) (va_cpy (mA (putA μ (b + 11) (fun k => nI (drf β k)) 0 (cl β)) (b + 11)) (mA (putA μ (b + 11) (fun k => nI (drf β k)) 0 (cl β)) (b + 8)) 0 0 (cl β)) = ξ at *
  have hA : Ag (fun a _ => a = b + 10) ξ (putA ξ (b + 10) (fun k => nI (β (63 + k) - 1)) 0 (cl β)) := putA_ag (P := fun a _ => a = b + 10) (fun _ _ _ => rfl)
  have hcl : cl (midD β) = cl β := midD_cl
  have hcl2 : cl (updN (hourB β) 5 (β 5)) = cl β := by rw [upd5_cl, hourB_cl]
  obtain ⟨q1, q2, q3, q4, q5, q6, q7, q8, q9, q10, q11, q12, q13, q14, q15, q16⟩ := h1
  rw [hcl] at q14 q15 q16
  have i0 := hA.I (a := b) (fun _ => by omega)
  have i1 := hA.I (a := b + 1) (fun _ => by omega)
  have hl : β 1 ≤ 10 := w.1.2.2.2.1
  have ha : β 0 ≤ 5 := w.1.1
  refine ⟨by rw [i0]; exact q1, by rw [i0]; exact q2, by rw [i0]; exact q3, by rw [i0]; exact q4, by rw [i0]; exact q5, by rw [i0]; exact q6, by rw [i0]; exact q7, by rw [i1]; exact q8, ?_, ?_, ?_, ?_, ?_, ?_, ?_, ?_⟩
  · intro l hl2
    have : l < β 1 := hl2
    rw [hA.A (fun _ => by omega), q9 l this, updN_ne (by omega), hourB_hi hc (by omega), midD_no (by omega)]
  · intro l hl2
    have : l < β 1 := hl2
    rw [hA.A (fun _ => by omega), q10 l this, updN_ne (by omega), hourB_hi hc (by omega), midD_no (by omega)]
  · intro l hl2
    have : l < β 1 := hl2
    rw [hA.A (fun _ => by omega), q11 l this, updN_ne (by omega), hourB_hi hc (by omega), midD_no (by omega)]
  · intro l hl2
    have : l < β 1 := hl2
    rw [hA.A (fun _ => by omega), q12 l this, updN_ne (by omega), hourB_hi hc (by omega), midD_no (by omega)]
  · intro a ha2
    have : a < β 0 := ha2
    rw [hA.A (fun _ => by omega), q13 a this, updN_ne (by omega), hourB_lo (by omega) (by omega), midD_no (by omega)]
  · intro k hk
    rw [hcl2] at hk
    rw [hA.A (fun _ => by omega), q14 k hk, updN_ne (by omega), hourB_dg hk, midD_in hk]
  · intro k hk
    rw [hcl2] at hk
    rw [hA.A (fun _ => by omega), q15 k hk, updN_ne (by omega), hourB_tr hc (by omega), midD_no (by omega)]
  · intro k hk
    rw [hcl2] at hk
    rw [putA_mA, if_pos (by omega), updN_ne (by omega), hourB_tp hc hk]
theorem WF.mid (w : WF β) : WF (midD β) := by
  have hc := w.cl_le
  obtain ⟨⟨w0, w1, w2, w3, w4, w5, w6, w7, w8⟩, wk, wd, wl⟩ := id w
  refine ⟨⟨w0, w1, w2, w3, w4, w5, w6, w7, w8⟩, ?_, ?_, ?_⟩
  · intro a ha; rw [midD_no (by omega)]; exact wk a ha
  · intro k hk
    obtain ⟨d1, d2, d3⟩ := wd k hk
    refine ⟨?_, ?_, ?_⟩
    · by_cases q : k < cl β
      · rw [midD_in q]; exact drf_le w hk
      · rw [midD_no (by omega)]; exact d1
    · rw [midD_no (by omega)]; exact d2
    · rw [midD_no (by omega)]; exact d3
  · intro l hl; rw [midD_no (by omega), midD_no (by omega), midD_no (by omega), midD_no (by omega)]; exact wl l hl
/-- one turn of the class's loop -/
theorem X_turn (h : BX μ b β) (w : WF β) (hF : 2000000 ≤ F) {v1 : Int32} {kk : Int32 → Mm → Option (Bool × Mm)} {n i : Nat} {mo : Bool} (hi : nI i < v1) (hi2 : i < 1000000) : L_X0_passHours_7 F b v1 kk (n + 1) (bI mo) 1 (nI i) μ = L_X0_passHours_7 F b v1 kk n (bI (mo || moved β)) (bI (moved β || decide (tapSet β ≠ 0))) (nI (i + 1)) (hourX μ b β) := by
  have hc := w.cl_le
  have hdr := X_drift (F := F) (r := b + 8) (s := b + 10) (o := b + 11) h w hF h.rowD (fun k hk => (w.2.2.1 k (by omega)).1) (t := fun k => β (63 + k)) h.taps (fun k hk => (w.2.2.1 k (by omega)).2.2) (by omega) (by omega) (fun i hi => by omega)
  have h1 := X_hour1 h w
  have hcl : cl (midD β) = cl β := midD_cl
  have hA : Ag (fun a _ => a = b + 11) μ (putA μ (b + 11) (fun k => nI (drf β k)) 0 (cl β)) := putA_ag (P := fun a _ => a = b + 11) (fun _ _ _ => rfl)
  have h' : BX (putA μ (b + 11) (fun k => nI (drf β k)) 0 (cl β)) b β := h.ag hA (fun j hj _ e => by omega)
  have hdr2 : f_X0_drift F b (b + 8) (b + 10) (b + 11) μ = some (moved β, putA μ (b + 11) (fun k => nI (drf β k)) 0 (cl β)) := hdr
  have hts := X_tappedSet (F := F) h1 w.mid hF
  have htse : tapSet (midD β) = tapSet β := by
    unfold tapSet
    rw [hcl]
    exact foldF_cong (fun j y _ _ => by rw [midD_no (by omega)])
  rw [htse] at hts
  have hls := X_lessenTaps (F := F) h1 w.mid hF
  rw [hcl] at hls
  have hls2 : f_X0_lessenTaps F b (rA (putA μ (b + 11) (fun k => nI (drf β k)) 0 (cl β)) (b + 8) (va_cpy (mA (putA μ (b + 11) (fun k => nI (drf β k)) 0 (cl β)) (b + 11)) (mA (putA μ (b + 11) (fun k => nI (drf β k)) 0 (cl β)) (b + 8)) 0 0 (cl β))) = some (hourX μ b β) := by
    rw [hls]
    unfold hourX putA
    congr 1
    exact foldF_cong (fun j y _ _ => by show sA y _ j (nI (midD β (63 + j) - 1)) = _; rw [midD_no (by omega)])
  have hcp : cpA (putA μ (b + 11) (fun k => nI (drf β k)) 0 (cl β)) (b + 11) 25 0 (b + 8) 25 0 (nI (cl β)) = some (rA (putA μ (b + 11) (fun k => nI (drf β k)) 0 (cl β)) (b + 8) (va_cpy (mA (putA μ (b + 11) (fun k => nI (drf β k)) 0 (cl β)) (b + 11)) (mA (putA μ (b + 11) (fun k => nI (drf β k)) 0 (cl β)) (b + 8)) 0 0 (cl β))) := by
    rw [show (0 : Int32) = nI 0 from rfl, cpA_n (by omega) (by omega) (by omega) (by omega)]
  rw [L_X0_passHours_7_s]
  unfold jn
  rw [if_neg (fun q => (fa_of_lt hi).2.1 q), if_neg (by decide), hdr2, bd_some, X_cells h', Option.bind_some, hcp, Option.bind_some, hls2, hts]
  simp only [Option.bind_some, addL]
  have hmo : (if bI mo = 0 then (if moved β = true then (1 : Int32) else 0) else 1) = bI (mo || moved β) := by
    cases mo <;> cases moved β <;> rfl
  rw [hmo]
  by_cases e : moved β = true
  · rw [if_pos e, e]; rfl
  · have e2 : moved β = false := by cases hh : moved β; rfl; exact absurd hh e
    rw [if_neg e, e2, Bool.false_or]
    by_cases e3 : tapSet β = 0
    · rw [if_pos e3]; simp [e3, bI]
    · rw [if_neg e3]; simp [e3, bI]
theorem X_passL (w : WF β) (hF : 2000000 ≤ F) {kk : Int32 → Mm → Option (Bool × Mm)} {hh : Nat} (h5 : β 5 + hh ≤ 20000) : ∀ (m i n : Nat) (mo : Bool) (μ : Mm), i + m = hh → m < n → BX μ b (updN (hrs β i) 5 (β 5)) → ∃ ν mo', L_X0_passHours_7 F b (nI hh) kk n (bI mo) 1 (nI i) μ = kk (bI mo') ν ∧ BX ν b (updN (hrs β hh) 5 (β 5)) ∧ Ag (fun a _ => a = b + 8 ∨ a = b + 10 ∨ a = b + 11) μ ν ∧ (m = 1 → mo' = (mo || moved (hrs β i))) := by
  intro m
  induction m with
  | zero =>
    intro i n mo μ hi hn h
    obtain ⟨n, rfl⟩ : ∃ q, n = q + 1 := ⟨n - 1, by omega⟩
    refine ⟨μ, mo, ?_, ?_, Ag.rf, fun q => by omega⟩
    · rw [L_X0_passHours_7_s, if_pos ((nIle (by omega) (by omega)).mpr (by omega))]
    · rw [← show i = hh by omega]; exact h
  | succ m ih =>
    intro i n mo μ hi hn h
    obtain ⟨n, rfl⟩ : ∃ q, n = q + 1 := ⟨n - 1, by omega⟩
    have wi : WF (hrs β i) := w.hrs i (by omega)
    have wi5 : WF (updN (hrs β i) 5 (β 5)) := wi.u5 (by omega)
    have e1 := X_turn (F := F) (v1 := nI hh) (kk := kk) (n := n) (i := i) (mo := mo) h wi5 hF ((nIlt (by omega) (by omega)).mpr (by omega)) (by omega)
    rw [upd5_moved, upd5_tap] at e1
    have h2 := X_hour2 h wi5
    rw [upd5_hour, updN_eq, upd5_twice] at h2
    have h2' : BX (hourX μ b (updN (hrs β i) 5 (β 5))) b (updN (hrs β (i + 1)) 5 (β 5)) := h2
    have hA := hourX_ag (μ := μ) (b := b) (β := updN (hrs β i) 5 (β 5))
    rw [e1]
    cases hg : (moved (hrs β i) || decide (tapSet (hrs β i) ≠ 0)) with
    | true =>
      obtain ⟨ν, mo', q1, q2, q3, q4⟩ := ih (i + 1) n (mo || moved (hrs β i)) _ (by omega) (by omega) h2'
      by_cases hm : m = 0
      · refine ⟨hourX μ b (updN (hrs β i) 5 (β 5)), (mo || moved (hrs β i)), ?_, ?_, hA, fun _ => rfl⟩
        · obtain ⟨n, rfl⟩ : ∃ q, n = q + 1 := ⟨n - 1, by omega⟩
          rw [L_X0_passHours_7_s, if_pos ((nIle (by omega) (by omega)).mpr (by omega))]
        · rw [← show i + 1 = hh by omega]; exact h2'
      · exact ⟨ν, mo', q1, q2, hA.tr q3, fun q => absurd (show m = 0 by omega) hm⟩
    | false =>
      rw [Bool.or_eq_false_iff] at hg
      have hg2 : tapSet (hrs β i) = 0 := Decidable.of_not_not (of_decide_eq_false hg.2)
      refine ⟨hourX μ b (updN (hrs β i) 5 (β 5)), (mo || moved (hrs β i)), ?_, ?_, hA, fun _ => rfl⟩
      · obtain ⟨n, rfl⟩ : ∃ q, n = q + 1 := ⟨n - 1, by omega⟩
        rw [L_X0_passHours_7_s, if_pos (show bI false = 0 from rfl)]
        split <;> rfl
      · have key : ∀ k, i + k ≤ hh → updN (hrs β (i + k)) 5 (β 5) = updN (hrs β i) 5 (β 5) := by
          intro k hk
          have hadd : ∀ k, hrs β (i + k) = hrs (hrs β i) k := by
            intro k
            induction k with
            | zero => rfl
            | succ k ihk => show hourB (hrs β (i + k)) = hourB (hrs (hrs β i) k); rw [ihk]
          rw [hadd, still wi hg.1 hg2 k (by rw [hrs_5]; omega), upd5_twice]
        have k1 := key 1 (by omega)
        have k2 := key (m + 1) (by omega)
        have k3 : updN (hrs β hh) 5 (β 5) = updN (hrs β (i + 1)) 5 (β 5) := by rw [← show i + (m + 1) = hh by omega, k2, k1]
        rw [k3]
        exact h2'
/-- the class's hours are hours -/
theorem X_passHours (h : BX μ b β) (w : WF β) (hF : 2000000 ≤ F) {n : Nat} (hn : β 5 + n ≤ 20000) : ∃ ν x, f_X0_passHours F b (nI n) μ = some (x, ν) ∧ BX ν b (hrs β n) ∧ Ag (fun a k => a = b + 8 ∨ a = b + 10 ∨ a = b + 11 ∨ (a = b ∧ k = 5)) μ ν ∧ (n = 1 → x = moved β) := by
  unfold f_X0_passHours
  obtain ⟨ν, mo, e1, e2, e3, e4⟩ := X_passL (b := b) (F := F) (kk := (fun u16 μ17 => (if u16 = 0 then some (false, (sI μ17 b 5 ((mI μ17 b 5) + nI n))) else if u16 = 1 then some (true, (sI μ17 b 5 ((mI μ17 b 5) + nI n))) else none))) w hF (hh := n) hn n 0 F false μ (by omega) (by omega) (by rw [show hrs β 0 = β from rfl, upd5_self rfl]; exact h)
  refine ⟨sI ν b 5 (mI ν b 5 + nI n), mo, ?_, ?_, ?_, ?_⟩
  · rw [show (0 : Int32) = nI 0 from rfl]
    refine e1.trans ?_
    exact bI_ret _ _
  · have hh : mI ν b 5 = nI (β 5) := by rw [e2.hour, updN_eq]
    rw [hh, nI_add]
    obtain ⟨q1, q2, q3, q4, q5, q6, q7, q8, q9, q10, q11, q12, q13, q14, q15, q16⟩ := e2
    have hw := w.cl_le
    have hc2 : cl (updN (hrs β n) 5 (β 5)) = cl (hrs β n) := rfl
    rw [hc2] at q14 q15 q16
    refine ⟨(mI_nk (by omega)).trans q1, (mI_nk (by omega)).trans q2, (mI_nk (by omega)).trans q3, (mI_nk (by omega)).trans q4, (mI_nk (by omega)).trans q5, ?_, (mI_nk (by omega)).trans q7, ?_, ?_, ?_, ?_, ?_, ?_, ?_, ?_, ?_⟩
    · rw [mI_sI, if_pos rfl, if_pos rfl, hrs_5]
    · rw [mI_ne (by omega)]; exact q8
    · intro l hl; rw [mA_sI, q9 l hl, updN_ne (by omega)]
    · intro l hl; rw [mA_sI, q10 l hl, updN_ne (by omega)]
    · intro l hl; rw [mA_sI, q11 l hl, updN_ne (by omega)]
    · intro l hl; rw [mA_sI, q12 l hl, updN_ne (by omega)]
    · intro a ha; rw [mA_sI, q13 a ha, updN_ne (by omega)]
    · intro k hk; rw [mA_sI, q14 k hk, updN_ne (by omega)]
    · intro k hk; rw [mA_sI, q15 k hk, updN_ne (by omega)]
    · intro k hk; rw [mA_sI, q16 k hk, updN_ne (by omega)]
  · refine (e3.mono (fun a k q => ?_)).tr (Ag.sI (Or.inr (Or.inr (Or.inr ⟨rfl, rfl⟩))))
    rcases q with q | q | q
    · exact Or.inl q
    · exact Or.inr (Or.inl q)
    · exact Or.inr (Or.inr (Or.inl q))
  · intro q
    rw [e4 q]
    rfl
end HRS
