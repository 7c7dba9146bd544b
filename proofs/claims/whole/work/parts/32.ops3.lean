/-! ===== the book is written: mend, steal, scratch, vouch, rule, enact, repeal, step, doze ===== -/
theorem BX.u_tap {μ : Mm} {b : Nat} {β : Nat → Nat} (h : BX μ b β) (w : WF β) {x : Nat} : BX (sI μ b 1 (nI x)) b (updN β 3 x) := by
  have w0 := w.1.1
  have w1 := w.1.2.2.2.1
  have wc := w.cl_le
  obtain ⟨q1, q2, q3, q4, q5, q6, q7, q8, q9, q10, q11, q12, q13, q14, q15, q16⟩ := h
  have hc : cl (updN β 3 x) = cl β := by unfold cl; rw [updN_ne (by omega), updN_ne (by omega)]
  have h0 : updN β 3 x 0 = β 0 := updN_ne (by omega)
  have h1 : updN β 3 x 1 = β 1 := updN_ne (by omega)
  refine ⟨by rw [mI_nk (by omega), updN_ne (by omega)]; exact q1, by rw [mI_sI, if_pos rfl, if_pos rfl, updN_eq], by rw [mI_nk (by omega), updN_ne (by omega)]; exact q3, by rw [mI_nk (by omega), updN_ne (by omega)]; exact q4, by rw [mI_nk (by omega), updN_ne (by omega)]; exact q5, by rw [mI_nk (by omega), updN_ne (by omega)]; exact q6, by rw [mI_nk (by omega), updN_ne (by omega)]; exact q7, by rw [mI_ne (by omega), h1]; exact q8, ?_, ?_, ?_, ?_, ?_, ?_, ?_, ?_⟩
  · intro j hj; rw [h1] at hj; rw [mA_sI, updN_ne (by omega)]; exact q9 j hj
  · intro j hj; rw [h1] at hj; rw [mA_sI, updN_ne (by omega)]; exact q10 j hj
  · intro j hj; rw [h1] at hj; rw [mA_sI, updN_ne (by omega)]; exact q11 j hj
  · intro j hj; rw [h1] at hj; rw [mA_sI, updN_ne (by omega)]; exact q12 j hj
  · intro j hj; rw [h0] at hj; rw [mA_sI, updN_ne (by omega)]; exact q13 j hj
  · intro j hj; rw [hc] at hj; rw [mA_sI, updN_ne (by omega)]; exact q14 j hj
  · intro j hj; rw [hc] at hj; rw [mA_sI, updN_ne (by omega)]; exact q15 j hj
  · intro j hj; rw [hc] at hj; rw [mA_sI, updN_ne (by omega)]; exact q16 j hj
theorem BX.u_odds {μ : Mm} {b : Nat} {β : Nat → Nat} (h : BX μ b β) (w : WF β) {x : Nat} : BX (sI μ b 2 (nI x)) b (updN β 4 x) := by
  have w0 := w.1.1
  have w1 := w.1.2.2.2.1
  have wc := w.cl_le
  obtain ⟨q1, q2, q3, q4, q5, q6, q7, q8, q9, q10, q11, q12, q13, q14, q15, q16⟩ := h
  have hc : cl (updN β 4 x) = cl β := by unfold cl; rw [updN_ne (by omega), updN_ne (by omega)]
  have h0 : updN β 4 x 0 = β 0 := updN_ne (by omega)
  have h1 : updN β 4 x 1 = β 1 := updN_ne (by omega)
  refine ⟨by rw [mI_nk (by omega), updN_ne (by omega)]; exact q1, by rw [mI_nk (by omega), updN_ne (by omega)]; exact q2, by rw [mI_sI, if_pos rfl, if_pos rfl, updN_eq], by rw [mI_nk (by omega), updN_ne (by omega)]; exact q4, by rw [mI_nk (by omega), updN_ne (by omega)]; exact q5, by rw [mI_nk (by omega), updN_ne (by omega)]; exact q6, by rw [mI_nk (by omega), updN_ne (by omega)]; exact q7, by rw [mI_ne (by omega), h1]; exact q8, ?_, ?_, ?_, ?_, ?_, ?_, ?_, ?_⟩
  · intro j hj; rw [h1] at hj; rw [mA_sI, updN_ne (by omega)]; exact q9 j hj
  · intro j hj; rw [h1] at hj; rw [mA_sI, updN_ne (by omega)]; exact q10 j hj
  · intro j hj; rw [h1] at hj; rw [mA_sI, updN_ne (by omega)]; exact q11 j hj
  · intro j hj; rw [h1] at hj; rw [mA_sI, updN_ne (by omega)]; exact q12 j hj
  · intro j hj; rw [h0] at hj; rw [mA_sI, updN_ne (by omega)]; exact q13 j hj
  · intro j hj; rw [hc] at hj; rw [mA_sI, updN_ne (by omega)]; exact q14 j hj
  · intro j hj; rw [hc] at hj; rw [mA_sI, updN_ne (by omega)]; exact q15 j hj
  · intro j hj; rw [hc] at hj; rw [mA_sI, updN_ne (by omega)]; exact q16 j hj
theorem BX.u_stand {μ : Mm} {b : Nat} {β : Nat → Nat} (h : BX μ b β) (w : WF β) {x : Nat} : BX (sI μ b 4 (nI x)) b (updN β 7 x) := by
  have w0 := w.1.1
  have w1 := w.1.2.2.2.1
  have wc := w.cl_le
  obtain ⟨q1, q2, q3, q4, q5, q6, q7, q8, q9, q10, q11, q12, q13, q14, q15, q16⟩ := h
  have hc : cl (updN β 7 x) = cl β := by unfold cl; rw [updN_ne (by omega), updN_ne (by omega)]
  have h0 : updN β 7 x 0 = β 0 := updN_ne (by omega)
  have h1 : updN β 7 x 1 = β 1 := updN_ne (by omega)
  refine ⟨by rw [mI_nk (by omega), updN_ne (by omega)]; exact q1, by rw [mI_nk (by omega), updN_ne (by omega)]; exact q2, by rw [mI_nk (by omega), updN_ne (by omega)]; exact q3, by rw [mI_nk (by omega), updN_ne (by omega)]; exact q4, by rw [mI_sI, if_pos rfl, if_pos rfl, updN_eq], by rw [mI_nk (by omega), updN_ne (by omega)]; exact q6, by rw [mI_nk (by omega), updN_ne (by omega)]; exact q7, by rw [mI_ne (by omega), h1]; exact q8, ?_, ?_, ?_, ?_, ?_, ?_, ?_, ?_⟩
  · intro j hj; rw [h1] at hj; rw [mA_sI, updN_ne (by omega)]; exact q9 j hj
  · intro j hj; rw [h1] at hj; rw [mA_sI, updN_ne (by omega)]; exact q10 j hj
  · intro j hj; rw [h1] at hj; rw [mA_sI, updN_ne (by omega)]; exact q11 j hj
  · intro j hj; rw [h1] at hj; rw [mA_sI, updN_ne (by omega)]; exact q12 j hj
  · intro j hj; rw [h0] at hj; rw [mA_sI, updN_ne (by omega)]; exact q13 j hj
  · intro j hj; rw [hc] at hj; rw [mA_sI, updN_ne (by omega)]; exact q14 j hj
  · intro j hj; rw [hc] at hj; rw [mA_sI, updN_ne (by omega)]; exact q15 j hj
  · intro j hj; rw [hc] at hj; rw [mA_sI, updN_ne (by omega)]; exact q16 j hj
theorem BX.u_hour {μ : Mm} {b : Nat} {β : Nat → Nat} (h : BX μ b β) (w : WF β) {x : Nat} : BX (sI μ b 5 (nI x)) b (updN β 5 x) := by
  have w0 := w.1.1
  have w1 := w.1.2.2.2.1
  have wc := w.cl_le
  obtain ⟨q1, q2, q3, q4, q5, q6, q7, q8, q9, q10, q11, q12, q13, q14, q15, q16⟩ := h
  have hc : cl (updN β 5 x) = cl β := by unfold cl; rw [updN_ne (by omega), updN_ne (by omega)]
  have h0 : updN β 5 x 0 = β 0 := updN_ne (by omega)
  have h1 : updN β 5 x 1 = β 1 := updN_ne (by omega)
  refine ⟨by rw [mI_nk (by omega), updN_ne (by omega)]; exact q1, by rw [mI_nk (by omega), updN_ne (by omega)]; exact q2, by rw [mI_nk (by omega), updN_ne (by omega)]; exact q3, by rw [mI_nk (by omega), updN_ne (by omega)]; exact q4, by rw [mI_nk (by omega), updN_ne (by omega)]; exact q5, by rw [mI_sI, if_pos rfl, if_pos rfl, updN_eq], by rw [mI_nk (by omega), updN_ne (by omega)]; exact q7, by rw [mI_ne (by omega), h1]; exact q8, ?_, ?_, ?_, ?_, ?_, ?_, ?_, ?_⟩
  · intro j hj; rw [h1] at hj; rw [mA_sI, updN_ne (by omega)]; exact q9 j hj
  · intro j hj; rw [h1] at hj; rw [mA_sI, updN_ne (by omega)]; exact q10 j hj
  · intro j hj; rw [h1] at hj; rw [mA_sI, updN_ne (by omega)]; exact q11 j hj
  · intro j hj; rw [h1] at hj; rw [mA_sI, updN_ne (by omega)]; exact q12 j hj
  · intro j hj; rw [h0] at hj; rw [mA_sI, updN_ne (by omega)]; exact q13 j hj
  · intro j hj; rw [hc] at hj; rw [mA_sI, updN_ne (by omega)]; exact q14 j hj
  · intro j hj; rw [hc] at hj; rw [mA_sI, updN_ne (by omega)]; exact q15 j hj
  · intro j hj; rw [hc] at hj; rw [mA_sI, updN_ne (by omega)]; exact q16 j hj
theorem BX.u_stolen {μ : Mm} {b : Nat} {β : Nat → Nat} (h : BX μ b β) (w : WF β) {x : Nat} : BX (sI μ b 6 (nI x)) b (updN β 6 x) := by
  have w0 := w.1.1
  have w1 := w.1.2.2.2.1
  have wc := w.cl_le
  obtain ⟨q1, q2, q3, q4, q5, q6, q7, q8, q9, q10, q11, q12, q13, q14, q15, q16⟩ := h
  have hc : cl (updN β 6 x) = cl β := by unfold cl; rw [updN_ne (by omega), updN_ne (by omega)]
  have h0 : updN β 6 x 0 = β 0 := updN_ne (by omega)
  have h1 : updN β 6 x 1 = β 1 := updN_ne (by omega)
  refine ⟨by rw [mI_nk (by omega), updN_ne (by omega)]; exact q1, by rw [mI_nk (by omega), updN_ne (by omega)]; exact q2, by rw [mI_nk (by omega), updN_ne (by omega)]; exact q3, by rw [mI_nk (by omega), updN_ne (by omega)]; exact q4, by rw [mI_nk (by omega), updN_ne (by omega)]; exact q5, by rw [mI_nk (by omega), updN_ne (by omega)]; exact q6, by rw [mI_sI, if_pos rfl, if_pos rfl, updN_eq], by rw [mI_ne (by omega), h1]; exact q8, ?_, ?_, ?_, ?_, ?_, ?_, ?_, ?_⟩
  · intro j hj; rw [h1] at hj; rw [mA_sI, updN_ne (by omega)]; exact q9 j hj
  · intro j hj; rw [h1] at hj; rw [mA_sI, updN_ne (by omega)]; exact q10 j hj
  · intro j hj; rw [h1] at hj; rw [mA_sI, updN_ne (by omega)]; exact q11 j hj
  · intro j hj; rw [h1] at hj; rw [mA_sI, updN_ne (by omega)]; exact q12 j hj
  · intro j hj; rw [h0] at hj; rw [mA_sI, updN_ne (by omega)]; exact q13 j hj
  · intro j hj; rw [hc] at hj; rw [mA_sI, updN_ne (by omega)]; exact q14 j hj
  · intro j hj; rw [hc] at hj; rw [mA_sI, updN_ne (by omega)]; exact q15 j hj
  · intro j hj; rw [hc] at hj; rw [mA_sI, updN_ne (by omega)]; exact q16 j hj
theorem BX.u_digits {μ : Mm} {b : Nat} {β : Nat → Nat} (h : BX μ b β) (w : WF β) {x k : Nat} (hk : k < 25) : BX (sA μ (b + 8) k (nI x)) b (updN β (13 + k) x) := by
  have w0 := w.1.1
  have w1 := w.1.2.2.2.1
  have wc := w.cl_le
  obtain ⟨q1, q2, q3, q4, q5, q6, q7, q8, q9, q10, q11, q12, q13, q14, q15, q16⟩ := h
  have hc : cl (updN β (13 + k) x) = cl β := by unfold cl; rw [updN_ne (by omega), updN_ne (by omega)]
  have h0 : updN β (13 + k) x 0 = β 0 := updN_ne (by omega)
  have h1 : updN β (13 + k) x 1 = β 1 := updN_ne (by omega)
  refine ⟨by rw [mI_sA, updN_ne (by omega)]; exact q1, by rw [mI_sA, updN_ne (by omega)]; exact q2, by rw [mI_sA, updN_ne (by omega)]; exact q3, by rw [mI_sA, updN_ne (by omega)]; exact q4, by rw [mI_sA, updN_ne (by omega)]; exact q5, by rw [mI_sA, updN_ne (by omega)]; exact q6, by rw [mI_sA, updN_ne (by omega)]; exact q7, by rw [mI_sA, h1]; exact q8, ?_, ?_, ?_, ?_, ?_, ?_, ?_, ?_⟩
  · intro j hj; rw [h1] at hj; rw [mA_ne (by omega), updN_ne (by omega)]; exact q9 j hj
  · intro j hj; rw [h1] at hj; rw [mA_ne (by omega), updN_ne (by omega)]; exact q10 j hj
  · intro j hj; rw [h1] at hj; rw [mA_ne (by omega), updN_ne (by omega)]; exact q11 j hj
  · intro j hj; rw [h1] at hj; rw [mA_ne (by omega), updN_ne (by omega)]; exact q12 j hj
  · intro j hj; rw [h0] at hj; rw [mA_ne (by omega), updN_ne (by omega)]; exact q13 j hj
  · intro j hj; rw [hc] at hj; rw [mA_sA, if_pos rfl]
    by_cases e : j = k
    · rw [if_pos e, e, updN_eq]
    · rw [if_neg e, updN_ne (by omega)]; exact q14 j hj
  · intro j hj; rw [hc] at hj; rw [mA_ne (by omega), updN_ne (by omega)]; exact q15 j hj
  · intro j hj; rw [hc] at hj; rw [mA_ne (by omega), updN_ne (by omega)]; exact q16 j hj
theorem BX.u_truths {μ : Mm} {b : Nat} {β : Nat → Nat} (h : BX μ b β) (w : WF β) {x k : Nat} (hk : k < 25) : BX (sA μ (b + 9) k (nI x)) b (updN β (38 + k) x) := by
  have w0 := w.1.1
  have w1 := w.1.2.2.2.1
  have wc := w.cl_le
  obtain ⟨q1, q2, q3, q4, q5, q6, q7, q8, q9, q10, q11, q12, q13, q14, q15, q16⟩ := h
  have hc : cl (updN β (38 + k) x) = cl β := by unfold cl; rw [updN_ne (by omega), updN_ne (by omega)]
  have h0 : updN β (38 + k) x 0 = β 0 := updN_ne (by omega)
  have h1 : updN β (38 + k) x 1 = β 1 := updN_ne (by omega)
  refine ⟨by rw [mI_sA, updN_ne (by omega)]; exact q1, by rw [mI_sA, updN_ne (by omega)]; exact q2, by rw [mI_sA, updN_ne (by omega)]; exact q3, by rw [mI_sA, updN_ne (by omega)]; exact q4, by rw [mI_sA, updN_ne (by omega)]; exact q5, by rw [mI_sA, updN_ne (by omega)]; exact q6, by rw [mI_sA, updN_ne (by omega)]; exact q7, by rw [mI_sA, h1]; exact q8, ?_, ?_, ?_, ?_, ?_, ?_, ?_, ?_⟩
  · intro j hj; rw [h1] at hj; rw [mA_ne (by omega), updN_ne (by omega)]; exact q9 j hj
  · intro j hj; rw [h1] at hj; rw [mA_ne (by omega), updN_ne (by omega)]; exact q10 j hj
  · intro j hj; rw [h1] at hj; rw [mA_ne (by omega), updN_ne (by omega)]; exact q11 j hj
  · intro j hj; rw [h1] at hj; rw [mA_ne (by omega), updN_ne (by omega)]; exact q12 j hj
  · intro j hj; rw [h0] at hj; rw [mA_ne (by omega), updN_ne (by omega)]; exact q13 j hj
  · intro j hj; rw [hc] at hj; rw [mA_ne (by omega), updN_ne (by omega)]; exact q14 j hj
  · intro j hj; rw [hc] at hj; rw [mA_sA, if_pos rfl]
    by_cases e : j = k
    · rw [if_pos e, e, updN_eq]
    · rw [if_neg e, updN_ne (by omega)]; exact q15 j hj
  · intro j hj; rw [hc] at hj; rw [mA_ne (by omega), updN_ne (by omega)]; exact q16 j hj
theorem BX.u_taps {μ : Mm} {b : Nat} {β : Nat → Nat} (h : BX μ b β) (w : WF β) {x k : Nat} (hk : k < 25) : BX (sA μ (b + 10) k (nI x)) b (updN β (63 + k) x) := by
  have w0 := w.1.1
  have w1 := w.1.2.2.2.1
  have wc := w.cl_le
  obtain ⟨q1, q2, q3, q4, q5, q6, q7, q8, q9, q10, q11, q12, q13, q14, q15, q16⟩ := h
  have hc : cl (updN β (63 + k) x) = cl β := by unfold cl; rw [updN_ne (by omega), updN_ne (by omega)]
  have h0 : updN β (63 + k) x 0 = β 0 := updN_ne (by omega)
  have h1 : updN β (63 + k) x 1 = β 1 := updN_ne (by omega)
  refine ⟨by rw [mI_sA, updN_ne (by omega)]; exact q1, by rw [mI_sA, updN_ne (by omega)]; exact q2, by rw [mI_sA, updN_ne (by omega)]; exact q3, by rw [mI_sA, updN_ne (by omega)]; exact q4, by rw [mI_sA, updN_ne (by omega)]; exact q5, by rw [mI_sA, updN_ne (by omega)]; exact q6, by rw [mI_sA, updN_ne (by omega)]; exact q7, by rw [mI_sA, h1]; exact q8, ?_, ?_, ?_, ?_, ?_, ?_, ?_, ?_⟩
  · intro j hj; rw [h1] at hj; rw [mA_ne (by omega), updN_ne (by omega)]; exact q9 j hj
  · intro j hj; rw [h1] at hj; rw [mA_ne (by omega), updN_ne (by omega)]; exact q10 j hj
  · intro j hj; rw [h1] at hj; rw [mA_ne (by omega), updN_ne (by omega)]; exact q11 j hj
  · intro j hj; rw [h1] at hj; rw [mA_ne (by omega), updN_ne (by omega)]; exact q12 j hj
  · intro j hj; rw [h0] at hj; rw [mA_ne (by omega), updN_ne (by omega)]; exact q13 j hj
  · intro j hj; rw [hc] at hj; rw [mA_ne (by omega), updN_ne (by omega)]; exact q14 j hj
  · intro j hj; rw [hc] at hj; rw [mA_ne (by omega), updN_ne (by omega)]; exact q15 j hj
  · intro j hj; rw [hc] at hj; rw [mA_sA, if_pos rfl]
    by_cases e : j = k
    · rw [if_pos e, e, updN_eq]
    · rw [if_neg e, updN_ne (by omega)]; exact q16 j hj
section WFU
variable {β : Nat → Nat}
theorem WF.u_d (w : WF β) {k x : Nat} (hk : k < 25) (hx : x ≤ 9) : WF (updN β (13 + k) x) := by
  obtain ⟨⟨w0, w1, w2, w3, w4, w5, w6, w7, w8⟩, wk, wd, wl⟩ := id w
  have hc : cl (updN β (13 + k) x) = cl β := by unfold cl; rw [updN_ne (by omega), updN_ne (by omega)]
  refine ⟨⟨by rw [updN_ne (by omega)]; exact w0, by rw [updN_ne (by omega)]; exact w1, by rw [updN_ne (by omega)]; exact w2, by rw [updN_ne (by omega)]; exact w3, by rw [updN_ne (by omega)]; exact w4, by rw [updN_ne (by omega)]; exact w5, by rw [updN_ne (by omega)]; exact w6, by rw [updN_ne (by omega)]; exact w7, by rw [hc, updN_ne (by omega), updN_ne (by omega)]; exact w8⟩, ?_, ?_, ?_⟩
  · intro a ha; rw [updN_ne (by omega)]; exact wk a ha
  · intro j hj
    obtain ⟨d1, d2, d3⟩ := wd j hj
    refine ⟨?_, by rw [updN_ne (by omega)]; exact d2, by rw [updN_ne (by omega)]; exact d3⟩
    by_cases e : j = k
    · rw [e, updN_eq]; exact hx
    · rw [updN_ne (by omega)]; exact d1
  · intro l hl; rw [updN_ne (by omega), updN_ne (by omega), updN_ne (by omega), updN_ne (by omega)]; exact wl l hl
theorem WF.u_t (w : WF β) {k x : Nat} (hk : k < 25) (hx : x ≤ 9) : WF (updN β (38 + k) x) := by
  obtain ⟨⟨w0, w1, w2, w3, w4, w5, w6, w7, w8⟩, wk, wd, wl⟩ := id w
  have hc : cl (updN β (38 + k) x) = cl β := by unfold cl; rw [updN_ne (by omega), updN_ne (by omega)]
  refine ⟨⟨by rw [updN_ne (by omega)]; exact w0, by rw [updN_ne (by omega)]; exact w1, by rw [updN_ne (by omega)]; exact w2, by rw [updN_ne (by omega)]; exact w3, by rw [updN_ne (by omega)]; exact w4, by rw [updN_ne (by omega)]; exact w5, by rw [updN_ne (by omega)]; exact w6, by rw [updN_ne (by omega)]; exact w7, by rw [hc, updN_ne (by omega), updN_ne (by omega)]; exact w8⟩, ?_, ?_, ?_⟩
  · intro a ha; rw [updN_ne (by omega)]; exact wk a ha
  · intro j hj
    obtain ⟨d1, d2, d3⟩ := wd j hj
    refine ⟨by rw [updN_ne (by omega)]; exact d1, ?_, by rw [updN_ne (by omega)]; exact d3⟩
    by_cases e : j = k
    · rw [e, updN_eq]; exact hx
    · rw [updN_ne (by omega)]; exact d2
  · intro l hl; rw [updN_ne (by omega), updN_ne (by omega), updN_ne (by omega), updN_ne (by omega)]; exact wl l hl
theorem WF.u_h (w : WF β) {k x : Nat} (hk : k < 25) (hx : x ≤ 9) : WF (updN β (63 + k) x) := by
  obtain ⟨⟨w0, w1, w2, w3, w4, w5, w6, w7, w8⟩, wk, wd, wl⟩ := id w
  have hc : cl (updN β (63 + k) x) = cl β := by unfold cl; rw [updN_ne (by omega), updN_ne (by omega)]
  refine ⟨⟨by rw [updN_ne (by omega)]; exact w0, by rw [updN_ne (by omega)]; exact w1, by rw [updN_ne (by omega)]; exact w2, by rw [updN_ne (by omega)]; exact w3, by rw [updN_ne (by omega)]; exact w4, by rw [updN_ne (by omega)]; exact w5, by rw [updN_ne (by omega)]; exact w6, by rw [updN_ne (by omega)]; exact w7, by rw [hc, updN_ne (by omega), updN_ne (by omega)]; exact w8⟩, ?_, ?_, ?_⟩
  · intro a ha; rw [updN_ne (by omega)]; exact wk a ha
  · intro j hj
    obtain ⟨d1, d2, d3⟩ := wd j hj
    refine ⟨by rw [updN_ne (by omega)]; exact d1, by rw [updN_ne (by omega)]; exact d2, ?_⟩
    by_cases e : j = k
    · rw [e, updN_eq]; exact hx
    · rw [updN_ne (by omega)]; exact d3
  · intro l hl; rw [updN_ne (by omega), updN_ne (by omega), updN_ne (by omega), updN_ne (by omega)]; exact wl l hl
theorem WF.u_f (w : WF β) {j x : Nat} (h3 : j = 3 → 1 ≤ x ∧ x ≤ 9) (h4 : j = 4 → x ≤ 16) (h7 : j = 7 → x < cl β) (hj : j = 3 ∨ j = 4 ∨ j = 6 ∨ j = 7) : WF (updN β j x) := by
  obtain ⟨⟨w0, w1, w2, w3, w4, w5, w6, w7, w8⟩, wk, wd, wl⟩ := id w
  have hc : cl (updN β j x) = cl β := by unfold cl; rw [updN_ne (by omega), updN_ne (by omega)]
  refine ⟨⟨by rw [updN_ne (by omega)]; exact w0, by rw [updN_ne (by omega)]; exact w1, by rw [updN_ne (by omega)]; exact w2, by rw [updN_ne (by omega)]; exact w3, ?_, ?_, ?_, by rw [updN_ne (by omega)]; exact w7, ?_⟩, ?_, ?_, ?_⟩
  · by_cases e : j = 3
    · subst e; rw [updN_eq]; exact (h3 rfl).1
    · rw [updN_ne (by omega)]; exact w4
  · by_cases e : j = 3
    · subst e; rw [updN_eq]; exact (h3 rfl).2
    · rw [updN_ne (by omega)]; exact w5
  · by_cases e : j = 4
    · subst e; rw [updN_eq]; exact h4 rfl
    · rw [updN_ne (by omega)]; exact w6
  · rw [hc]
    by_cases e : j = 7
    · subst e; rw [updN_eq]; exact Or.inl (h7 rfl)
    · rw [updN_ne (by omega), updN_ne (by omega)]; exact w8
  · intro a ha; rw [updN_ne (by omega)]; exact wk a ha
  · intro k hk; rw [updN_ne (by omega), updN_ne (by omega), updN_ne (by omega)]; exact wd k hk
  · intro l hl; rw [updN_ne (by omega), updN_ne (by omega), updN_ne (by omega), updN_ne (by omega)]; exact wl l hl
end WFU
/-- a call that writes the book: what must be shown of both sides -/
theorem R.w {α : Type} {fx fm : Mm → Option (α × Mm)} {μ : Mm} (h : R μ) {β nm ω σ} (hg : PG μ (mR μ 0) (mR μ 2) 0 β nm ω σ) (v : α) {ν : Mm} {β' : Nat → Nat} (hx : fx μ = some (v, sI ν 0 0 0)) (hb : BX ν (mR μ 0) β') (ha : Ag (S2 μ) μ ν) (hm : ∀ ξ, CB ξ β → ∃ ζ, fm ξ = some (v, ζ) ∧ mI ζ 141 0 = 0 ∧ CB ζ β' ∧ Ag (fun a k => (a = 141 ∧ k < 2) ∨ (a = 146 ∧ k < 128) ∨ a = 150) ξ ζ) (hM : Ag (fun a _ => a < 141) μ ν) (hw : WF β') (h5 : β' 5 ≤ 9999) (h0 : β' 0 = β 0) (h2 : β' 2 = β 2) : Sm fx fm μ := by
  have hc : CB (sI ν 0 0 0) β := hg.c0.at (by rw [mA_sI, hM.A (fun _ => by omega)])
  obtain ⟨ζ, e1, e2, e3, e4⟩ := hm _ hc
  have hrp := h.rp
  have hrn := h.rn
  unfold RefP at hrp
  unfold RefN at hrn
  refine ⟨v, _, ζ, hx, e1, h.bk hg ((ha.tr (Ag.sI (Or.inl (Or.inr (Or.inl ⟨rfl, rfl⟩))))).tr (e4.mono ?_)) ?_ ?_ e3 hw h5 h0 h2⟩
  · rintro a k (⟨rfl, hk⟩ | q | rfl)
    · have hk2 : k = 0 ∨ k = 1 := by omega
      rcases hk2 with rfl | rfl
      · exact Or.inl (Or.inr (Or.inr ⟨rfl, rfl⟩))
      · left; left; unfold SC; omega
    · exact Or.inr (Or.inr (Or.inr q))
    · left; left; unfold SC; omega
  · rw [e2, e4.i (by omega)]; rfl
  · refine (hb.ag (P := fun a k => a = 0 ∧ k = 0) (Ag.sI ⟨rfl, rfl⟩) ?_).ag e4 ?_
    · intro i hi k q; omega
    · intro i hi k q; omega
section OPS3
variable {μ : Mm} {F : Nat}
theorem op_mend (h : R μ) (hF : 2000000 ≤ F) (v : Int32) : Sm (f_X11_mend v) (f_X12_mend v) μ := by
  obtain ⟨β, nm, ω, σ, pg⟩ := h.pg
  have W := pg.wf
  have bx := pg.bx
  have gb := h.gb
  have hc : ∀ c, CB (V0 μ c) β := fun c => pg.c0.at rfl
  have hcl := W.cl_le
  have hrp := h.rp
  unfold RefP at hrp
  by_cases e : inN v (cl β) = true
  · obtain ⟨k, hk, hk2, rfl⟩ := inN_of e
    by_cases q : wrg β k = true
    · refine h.w pg (nI (β (13 + k))) (ν := sA μ (mR μ 0 + 8) k (nI (β (38 + k)))) (β' := updN β (13 + k) (β (38 + k))) ?_ (bx.u_digits W (by omega)) (Ag.sA (by unfold S2; omega)) ?_ (Ag.sA (by omega)) (W.u_d (by omega) (W.2.2.1 k (by omega)).2.1) (by rw [updN_ne (by omega)]; exact pg.hr) (updN_ne (by omega)) (updN_ne (by omega))
      · unfold f_X11_mend f_X0_putDigit
        simp (disch := omega) only [Option.bind_some, bd_some, eqL, leL, ltL, Lle, Llt, addL, Ladd, Lmul, mulL, nIle, nIlt, nIeq, nI_add, pk_mul, gb, X_cells bx, X_hasCell bx W, X_hasAccount bx W, X_hasLaw bx W, bx.wide, bx.tap, bx.odds, bx.acc, bx.stand, bx.hour, bx.stolen, bx.laws, bx.rD W, bx.rT W, bx.rH W, bx.rK W, bx.rF W, bx.rS W, bx.rP W, bx.rB W, X_isWrong bx W, X_wrongs bx W hF, X_tappedSet bx W hF, X_surplus bx W hF, within_L, inN_k, eq_self, if_true, if_false, Bool.false_eq_true, ans_X, ref_X, ver_X, q, wrA_n]
      · intro ξ hξ
        have hc2 : CB (sI (sI ξ 141 1 0) 141 0 0) β := hξ.at rfl
        refine ⟨sA (sI (sI ξ 141 1 0) 141 0 0) 146 (13 + k) (nI (β (38 + k))), ?_, rfl, hc2.wr (by omega) _, ((Ag.sI (Or.inl ⟨rfl, by omega⟩)).tr (Ag.sI (Or.inl ⟨rfl, by omega⟩))).tr (Ag.sA (Or.inr (Or.inl ⟨rfl, by omega⟩)))⟩
        unfold f_X12_mend f_X12_mends
        simp (disch := omega) only [Option.bind_some, bd_some, M_isCellAt hc2 W, M_isWrong hc2 W, hc2.rd, inN_k, eq_self, if_true, q, Ladd, wrA_n]
    · have q2 : wrg β k = false := by cases hh : wrg β k; rfl; exact absurd hh q
      exact h.q 9 (-1) (by unfold f_X11_mend; simp (disch := omega) only [Option.bind_some, bd_some, eqL, leL, ltL, Lle, Llt, addL, Ladd, Lmul, mulL, nIle, nIlt, nIeq, nI_add, pk_mul, gb, X_cells bx, X_hasCell bx W, X_hasAccount bx W, X_hasLaw bx W, bx.wide, bx.tap, bx.odds, bx.acc, bx.stand, bx.hour, bx.stolen, bx.laws, bx.rD W, bx.rT W, bx.rH W, bx.rK W, bx.rF W, bx.rS W, bx.rP W, bx.rB W, X_isWrong bx W, X_wrongs bx W hF, X_tappedSet bx W hF, X_surplus bx W hF, within_L, inN_k, eq_self, if_true, if_false, Bool.false_eq_true, ans_X, ref_X, ver_X, q2]) (by unfold f_X12_mend; simp (disch := omega) only [Option.bind_some, bd_some, eqL, leL, ltL, Lle, Llt, addL, Ladd, Lmul, mulL, nIle, nIlt, nIeq, nI_add, pk_mul, M_cells (hc _), M_isCellAt (hc _) W, M_isAccountAt (hc _) W, M_isLawAt (hc _) W, (hc _).rd, (hc _).r0, M_isWrong (hc _) W, M_allWrong (hc _) W hF, M_tappedSet (hc _) W hF, M_balanced (hc _) W hF, M_isEven (hc _) W hF, isIn_L, inN_k, eq_self, if_true, if_false, Bool.false_eq_true, ans_M, no_M, q2]; exact QM_r)
  · have e3 := inN_no e
    exact h.q 2 (-1) (by unfold f_X11_mend; simp (disch := omega) only [Option.bind_some, bd_some, eqL, leL, ltL, Lle, Llt, addL, Ladd, Lmul, mulL, nIle, nIlt, nIeq, nI_add, pk_mul, gb, X_cells bx, X_hasCell bx W, X_hasAccount bx W, X_hasLaw bx W, bx.wide, bx.tap, bx.odds, bx.acc, bx.stand, bx.hour, bx.stolen, bx.laws, bx.rD W, bx.rT W, bx.rH W, bx.rK W, bx.rF W, bx.rS W, bx.rP W, bx.rB W, X_isWrong bx W, X_wrongs bx W hF, X_tappedSet bx W hF, X_surplus bx W hF, within_L, inN_k, eq_self, if_true, if_false, Bool.false_eq_true, ans_X, ref_X, ver_X, e3]) (by unfold f_X12_mend; simp (disch := omega) only [Option.bind_some, bd_some, eqL, leL, ltL, Lle, Llt, addL, Ladd, Lmul, mulL, nIle, nIlt, nIeq, nI_add, pk_mul, M_cells (hc _), M_isCellAt (hc _) W, M_isAccountAt (hc _) W, M_isLawAt (hc _) W, (hc _).rd, (hc _).r0, M_isWrong (hc _) W, M_allWrong (hc _) W hF, M_tappedSet (hc _) W hF, M_balanced (hc _) W hF, M_isEven (hc _) W hF, isIn_L, inN_k, eq_self, if_true, if_false, Bool.false_eq_true, ans_M, no_M, e3]; exact QM_r)
theorem op_scratch (h : R μ) (hF : 2000000 ≤ F) (v u : Int32) : Sm (f_X11_scratch v u) (f_X12_scratch v u) μ := by
  obtain ⟨β, nm, ω, σ, pg⟩ := h.pg
  have W := pg.wf
  have bx := pg.bx
  have gb := h.gb
  have hc : ∀ c, CB (V0 μ c) β := fun c => pg.c0.at rfl
  have hcl := W.cl_le
  have hrp := h.rp
  unfold RefP at hrp
  by_cases e : inN v (cl β) = true
  · obtain ⟨k, hk, hk2, rfl⟩ := inN_of e
    have hd := (W.2.2.1 k (by omega)).1
    by_cases e2 : inR u 0 9 = true
    · obtain ⟨j, hj1, hj2, hj3, rfl⟩ := inR_of e2
      by_cases q : β (13 + k) = j
      · exact h.q 9 (-1) (by unfold f_X11_scratch; simp (disch := omega) only [Option.bind_some, bd_some, eqL, leL, ltL, Lle, Llt, addL, Ladd, Lmul, mulL, nIle, nIlt, nIeq, nI_add, pk_mul, gb, X_cells bx, X_hasCell bx W, X_hasAccount bx W, X_hasLaw bx W, bx.wide, bx.tap, bx.odds, bx.acc, bx.stand, bx.hour, bx.stolen, bx.laws, bx.rD W, bx.rT W, bx.rH W, bx.rK W, bx.rF W, bx.rS W, bx.rP W, bx.rB W, X_isWrong bx W, X_wrongs bx W hF, X_tappedSet bx W hF, X_surplus bx W hF, within_L, inN_k, eq_self, if_true, if_false, Bool.false_eq_true, ans_X, ref_X, ver_X, e2, q]) (by unfold f_X12_scratch; simp (disch := omega) only [Option.bind_some, bd_some, eqL, leL, ltL, Lle, Llt, addL, Ladd, Lmul, mulL, nIle, nIlt, nIeq, nI_add, pk_mul, M_cells (hc _), M_isCellAt (hc _) W, M_isAccountAt (hc _) W, M_isLawAt (hc _) W, (hc _).rd, (hc _).r0, M_isWrong (hc _) W, M_allWrong (hc _) W hF, M_tappedSet (hc _) W hF, M_balanced (hc _) W hF, M_isEven (hc _) W hF, isIn_L, inN_k, eq_self, if_true, if_false, Bool.false_eq_true, ans_M, no_M, e2, q]; exact QM_r)
      · refine h.w pg (nI (β (13 + k))) (ν := sA μ (mR μ 0 + 8) k (nI j)) (β' := updN β (13 + k) j) ?_ (bx.u_digits W (by omega)) (Ag.sA (by unfold S2; omega)) ?_ (Ag.sA (by omega)) (W.u_d (by omega) hj2) (by rw [updN_ne (by omega)]; exact pg.hr) (updN_ne (by omega)) (updN_ne (by omega))
        · unfold f_X11_scratch f_X0_putDigit
          simp (disch := omega) only [Option.bind_some, bd_some, eqL, leL, ltL, Lle, Llt, addL, Ladd, Lmul, mulL, nIle, nIlt, nIeq, nI_add, pk_mul, gb, X_cells bx, X_hasCell bx W, X_hasAccount bx W, X_hasLaw bx W, bx.wide, bx.tap, bx.odds, bx.acc, bx.stand, bx.hour, bx.stolen, bx.laws, bx.rD W, bx.rT W, bx.rH W, bx.rK W, bx.rF W, bx.rS W, bx.rP W, bx.rB W, X_isWrong bx W, X_wrongs bx W hF, X_tappedSet bx W hF, X_surplus bx W hF, within_L, inN_k, eq_self, if_true, if_false, Bool.false_eq_true, ans_X, ref_X, ver_X, e2, q, wrA_n]
        · intro ξ hξ
          have hc2 : CB (sI (sI ξ 141 1 0) 141 0 0) β := hξ.at rfl
          refine ⟨sA (sI (sI ξ 141 1 0) 141 0 0) 146 (13 + k) (nI j), ?_, rfl, hc2.wr (by omega) _, ((Ag.sI (Or.inl ⟨rfl, by omega⟩)).tr (Ag.sI (Or.inl ⟨rfl, by omega⟩))).tr (Ag.sA (Or.inr (Or.inl ⟨rfl, by omega⟩)))⟩
          unfold f_X12_scratch
          simp (disch := omega) only [Option.bind_some, bd_some, M_isCellAt hc2 W, isIn_L, hc2.rd, inN_k, eq_self, if_true, if_false, e2, q, Ladd, nIeq, wrA_n]
    · have e3 := inR_no e2
      exact h.q 5 (-1) (by unfold f_X11_scratch; simp (disch := omega) only [Option.bind_some, bd_some, eqL, leL, ltL, Lle, Llt, addL, Ladd, Lmul, mulL, nIle, nIlt, nIeq, nI_add, pk_mul, gb, X_cells bx, X_hasCell bx W, X_hasAccount bx W, X_hasLaw bx W, bx.wide, bx.tap, bx.odds, bx.acc, bx.stand, bx.hour, bx.stolen, bx.laws, bx.rD W, bx.rT W, bx.rH W, bx.rK W, bx.rF W, bx.rS W, bx.rP W, bx.rB W, X_isWrong bx W, X_wrongs bx W hF, X_tappedSet bx W hF, X_surplus bx W hF, within_L, inN_k, eq_self, if_true, if_false, Bool.false_eq_true, ans_X, ref_X, ver_X, e3]) (by unfold f_X12_scratch; simp (disch := omega) only [Option.bind_some, bd_some, eqL, leL, ltL, Lle, Llt, addL, Ladd, Lmul, mulL, nIle, nIlt, nIeq, nI_add, pk_mul, M_cells (hc _), M_isCellAt (hc _) W, M_isAccountAt (hc _) W, M_isLawAt (hc _) W, (hc _).rd, (hc _).r0, M_isWrong (hc _) W, M_allWrong (hc _) W hF, M_tappedSet (hc _) W hF, M_balanced (hc _) W hF, M_isEven (hc _) W hF, isIn_L, inN_k, eq_self, if_true, if_false, Bool.false_eq_true, ans_M, no_M, e3]; exact QM_r)
  · have e3 := inN_no e
    exact h.q 2 (-1) (by unfold f_X11_scratch; simp (disch := omega) only [Option.bind_some, bd_some, eqL, leL, ltL, Lle, Llt, addL, Ladd, Lmul, mulL, nIle, nIlt, nIeq, nI_add, pk_mul, gb, X_cells bx, X_hasCell bx W, X_hasAccount bx W, X_hasLaw bx W, bx.wide, bx.tap, bx.odds, bx.acc, bx.stand, bx.hour, bx.stolen, bx.laws, bx.rD W, bx.rT W, bx.rH W, bx.rK W, bx.rF W, bx.rS W, bx.rP W, bx.rB W, X_isWrong bx W, X_wrongs bx W hF, X_tappedSet bx W hF, X_surplus bx W hF, within_L, inN_k, eq_self, if_true, if_false, Bool.false_eq_true, ans_X, ref_X, ver_X, e3]) (by unfold f_X12_scratch; simp (disch := omega) only [Option.bind_some, bd_some, eqL, leL, ltL, Lle, Llt, addL, Ladd, Lmul, mulL, nIle, nIlt, nIeq, nI_add, pk_mul, M_cells (hc _), M_isCellAt (hc _) W, M_isAccountAt (hc _) W, M_isLawAt (hc _) W, (hc _).rd, (hc _).r0, M_isWrong (hc _) W, M_allWrong (hc _) W hF, M_tappedSet (hc _) W hF, M_balanced (hc _) W hF, M_isEven (hc _) W hF, isIn_L, inN_k, eq_self, if_true, if_false, Bool.false_eq_true, ans_M, no_M, e3]; exact QM_r)
theorem op_steal (h : R μ) (hF : 2000000 ≤ F) (v : Int32) : Sm (f_X11_steal v) (f_X12_steal v) μ := by
  obtain ⟨β, nm, ω, σ, pg⟩ := h.pg
  have W := pg.wf
  have bx := pg.bx
  have gb := h.gb
  have hc : ∀ c, CB (V0 μ c) β := fun c => pg.c0.at rfl
  have hcl := W.cl_le
  have hrp := h.rp
  unfold RefP at hrp
  by_cases e : inN v (cl β) = true
  · obtain ⟨k, hk, hk2, rfl⟩ := inN_of e
    have hd := (W.2.2.1 k (by omega)).1
    by_cases q : β (13 + k) = 0
    · exact h.q 9 (-1) (by unfold f_X11_steal; simp (disch := omega) only [Option.bind_some, bd_some, eqL, leL, ltL, Lle, Llt, addL, Ladd, Lmul, mulL, nIle, nIlt, nIeq, nI_add, pk_mul, gb, X_cells bx, X_hasCell bx W, X_hasAccount bx W, X_hasLaw bx W, bx.wide, bx.tap, bx.odds, bx.acc, bx.stand, bx.hour, bx.stolen, bx.laws, bx.rD W, bx.rT W, bx.rH W, bx.rK W, bx.rF W, bx.rS W, bx.rP W, bx.rB W, X_isWrong bx W, X_wrongs bx W hF, X_tappedSet bx W hF, X_surplus bx W hF, within_L, inN_k, eq_self, if_true, if_false, Bool.false_eq_true, ans_X, ref_X, ver_X, q]) (by unfold f_X12_steal; simp (disch := omega) only [Option.bind_some, bd_some, eqL, leL, ltL, Lle, Llt, addL, Ladd, Lmul, mulL, nIle, nIlt, nIeq, nI_add, pk_mul, M_cells (hc _), M_isCellAt (hc _) W, M_isAccountAt (hc _) W, M_isLawAt (hc _) W, (hc _).rd, (hc _).r0, M_isWrong (hc _) W, M_allWrong (hc _) W hF, M_tappedSet (hc _) W hF, M_balanced (hc _) W hF, M_isEven (hc _) W hF, isIn_L, inN_k, eq_self, if_true, if_false, Bool.false_eq_true, ans_M, no_M, q]; exact QM_r)
    · have W1 := W.u_d (k := k) (x := 0) (by omega) (by omega)
      have e6 : updN β (13 + k) 0 6 = β 6 := updN_ne (by omega)
      refine h.w pg (nI (β (13 + k))) (ν := sI (sA μ (mR μ 0 + 8) k (nI 0)) (mR μ 0) 6 (nI (β 6 + β (13 + k)))) (β' := updN (updN β (13 + k) 0) 6 (β 6 + β (13 + k))) ?_ ((bx.u_digits W (by omega)).u_stolen W1) ((Ag.sA (by unfold S2; omega)).tr (Ag.sI (by unfold S2; omega))) ?_ ((Ag.sA (by omega)).tr (Ag.sI (by omega))) (W1.u_f (by omega) (by omega) (by omega) (by omega)) (by rw [updN_ne (by omega), updN_ne (by omega)]; exact pg.hr) (by rw [updN_ne (by omega), updN_ne (by omega)]) (by rw [updN_ne (by omega), updN_ne (by omega)])
      · unfold f_X11_steal f_X0_takeAway f_X0_putDigit
        simp (disch := omega) only [Option.bind_some, bd_some, eqL, leL, ltL, Lle, Llt, addL, Ladd, Lmul, mulL, nIle, nIlt, nIeq, nI_add, pk_mul, gb, X_cells bx, X_hasCell bx W, X_hasAccount bx W, X_hasLaw bx W, bx.wide, bx.tap, bx.odds, bx.acc, bx.stand, bx.hour, bx.stolen, bx.laws, bx.rD W, bx.rT W, bx.rH W, bx.rK W, bx.rF W, bx.rS W, bx.rP W, bx.rB W, X_isWrong bx W, X_wrongs bx W hF, X_tappedSet bx W hF, X_surplus bx W hF, within_L, inN_k, eq_self, if_true, if_false, Bool.false_eq_true, ans_X, ref_X, ver_X, q, wrA_n, mI_sA]
        rfl
      · intro ξ hξ
        have hc2 : CB (sI (sI ξ 141 1 0) 141 0 0) β := hξ.at rfl
        have hc3 := hc2.wr (k := 13 + k) (by omega) 0
        refine ⟨sA (sA (sI (sI ξ 141 1 0) 141 0 0) 146 (13 + k) (nI 0)) 146 6 (nI (β 6 + β (13 + k))), ?_, rfl, hc3.wr (by omega) _, (((Ag.sI (Or.inl ⟨rfl, by omega⟩)).tr (Ag.sI (Or.inl ⟨rfl, by omega⟩))).tr (Ag.sA (Or.inr (Or.inl ⟨rfl, by omega⟩)))).tr (Ag.sA (Or.inr (Or.inl ⟨rfl, by omega⟩)))⟩
        have r6 : rdA (sA (sI (sI ξ 141 1 0) 141 0 0) 146 (13 + k) 0) 146 2000 6 = some (nI (β 6)) := by
          have := hc3.rl 6 (by omega)
          rw [e6] at this
          exact this
        have w6 : wrA (sA (sI (sI ξ 141 1 0) 141 0 0) 146 (13 + k) 0) 146 2000 6 (nI (β 6 + β (13 + k))) = some (sA (sA (sI (sI ξ 141 1 0) 141 0 0) 146 (13 + k) (nI 0)) 146 6 (nI (β 6 + β (13 + k)))) := wrA_n (k := 6) (by omega) (by omega)
        unfold f_X12_steal f_X12_takes
        simp (disch := omega) only [Option.bind_some, bd_some, M_isCellAt hc2 W, hc2.rd, inN_k, eq_self, if_true, if_false, eqL, q, Ladd, wrA_n, r6, nI_add, w6]
  · have e3 := inN_no e
    exact h.q 2 (-1) (by unfold f_X11_steal; simp (disch := omega) only [Option.bind_some, bd_some, eqL, leL, ltL, Lle, Llt, addL, Ladd, Lmul, mulL, nIle, nIlt, nIeq, nI_add, pk_mul, gb, X_cells bx, X_hasCell bx W, X_hasAccount bx W, X_hasLaw bx W, bx.wide, bx.tap, bx.odds, bx.acc, bx.stand, bx.hour, bx.stolen, bx.laws, bx.rD W, bx.rT W, bx.rH W, bx.rK W, bx.rF W, bx.rS W, bx.rP W, bx.rB W, X_isWrong bx W, X_wrongs bx W hF, X_tappedSet bx W hF, X_surplus bx W hF, within_L, inN_k, eq_self, if_true, if_false, Bool.false_eq_true, ans_X, ref_X, ver_X, e3]) (by unfold f_X12_steal; simp (disch := omega) only [Option.bind_some, bd_some, eqL, leL, ltL, Lle, Llt, addL, Ladd, Lmul, mulL, nIle, nIlt, nIeq, nI_add, pk_mul, M_cells (hc _), M_isCellAt (hc _) W, M_isAccountAt (hc _) W, M_isLawAt (hc _) W, (hc _).rd, (hc _).r0, M_isWrong (hc _) W, M_allWrong (hc _) W hF, M_tappedSet (hc _) W hF, M_balanced (hc _) W hF, M_isEven (hc _) W hF, isIn_L, inN_k, eq_self, if_true, if_false, Bool.false_eq_true, ans_M, no_M, e3]; exact QM_r)
theorem op_vouch (h : R μ) (hF : 2000000 ≤ F) (v : Int32) : Sm (f_X11_vouch v) (f_X12_vouch v) μ := by
  obtain ⟨β, nm, ω, σ, pg⟩ := h.pg
  have W := pg.wf
  have bx := pg.bx
  have gb := h.gb
  have hc : ∀ c, CB (V0 μ c) β := fun c => pg.c0.at rfl
  have hcl := W.cl_le
  have hrp := h.rp
  unfold RefP at hrp
  by_cases e : inN v (cl β) = true
  · obtain ⟨k, hk, hk2, rfl⟩ := inN_of e
    by_cases q : wrg β k = true
    · refine h.w pg (nI (β (38 + k))) (ν := sA μ (mR μ 0 + 9) k (nI (β (13 + k)))) (β' := updN β (38 + k) (β (13 + k))) ?_ (bx.u_truths W (by omega)) (Ag.sA (by unfold S2; omega)) ?_ (Ag.sA (by omega)) (W.u_t (by omega) (W.2.2.1 k (by omega)).1) (by rw [updN_ne (by omega)]; exact pg.hr) (updN_ne (by omega)) (updN_ne (by omega))
      · unfold f_X11_vouch
        simp (disch := omega) only [Option.bind_some, bd_some, eqL, leL, ltL, Lle, Llt, addL, Ladd, Lmul, mulL, nIle, nIlt, nIeq, nI_add, pk_mul, gb, X_cells bx, X_hasCell bx W, X_hasAccount bx W, X_hasLaw bx W, bx.wide, bx.tap, bx.odds, bx.acc, bx.stand, bx.hour, bx.stolen, bx.laws, bx.rD W, bx.rT W, bx.rH W, bx.rK W, bx.rF W, bx.rS W, bx.rP W, bx.rB W, X_isWrong bx W, X_wrongs bx W hF, X_tappedSet bx W hF, X_surplus bx W hF, within_L, inN_k, eq_self, if_true, if_false, Bool.false_eq_true, ans_X, ref_X, ver_X, q, wrA_n]
      · intro ξ hξ
        have hc2 : CB (sI (sI ξ 141 1 0) 141 0 0) β := hξ.at rfl
        refine ⟨sA (sI (sI ξ 141 1 0) 141 0 0) 146 (38 + k) (nI (β (13 + k))), ?_, rfl, hc2.wr (by omega) _, ((Ag.sI (Or.inl ⟨rfl, by omega⟩)).tr (Ag.sI (Or.inl ⟨rfl, by omega⟩))).tr (Ag.sA (Or.inr (Or.inl ⟨rfl, by omega⟩)))⟩
        unfold f_X12_vouch
        simp (disch := omega) only [Option.bind_some, bd_some, M_isCellAt hc2 W, M_isWrong hc2 W, hc2.rd, inN_k, eq_self, if_true, q, Ladd, wrA_n]
    · have q2 : wrg β k = false := by cases hh : wrg β k; rfl; exact absurd hh q
      exact h.q 9 (-1) (by unfold f_X11_vouch; simp (disch := omega) only [Option.bind_some, bd_some, eqL, leL, ltL, Lle, Llt, addL, Ladd, Lmul, mulL, nIle, nIlt, nIeq, nI_add, pk_mul, gb, X_cells bx, X_hasCell bx W, X_hasAccount bx W, X_hasLaw bx W, bx.wide, bx.tap, bx.odds, bx.acc, bx.stand, bx.hour, bx.stolen, bx.laws, bx.rD W, bx.rT W, bx.rH W, bx.rK W, bx.rF W, bx.rS W, bx.rP W, bx.rB W, X_isWrong bx W, X_wrongs bx W hF, X_tappedSet bx W hF, X_surplus bx W hF, within_L, inN_k, eq_self, if_true, if_false, Bool.false_eq_true, ans_X, ref_X, ver_X, q2]) (by unfold f_X12_vouch; simp (disch := omega) only [Option.bind_some, bd_some, eqL, leL, ltL, Lle, Llt, addL, Ladd, Lmul, mulL, nIle, nIlt, nIeq, nI_add, pk_mul, M_cells (hc _), M_isCellAt (hc _) W, M_isAccountAt (hc _) W, M_isLawAt (hc _) W, (hc _).rd, (hc _).r0, M_isWrong (hc _) W, M_allWrong (hc _) W hF, M_tappedSet (hc _) W hF, M_balanced (hc _) W hF, M_isEven (hc _) W hF, isIn_L, inN_k, eq_self, if_true, if_false, Bool.false_eq_true, ans_M, no_M, q2]; exact QM_r)
  · have e3 := inN_no e
    exact h.q 2 (-1) (by unfold f_X11_vouch; simp (disch := omega) only [Option.bind_some, bd_some, eqL, leL, ltL, Lle, Llt, addL, Ladd, Lmul, mulL, nIle, nIlt, nIeq, nI_add, pk_mul, gb, X_cells bx, X_hasCell bx W, X_hasAccount bx W, X_hasLaw bx W, bx.wide, bx.tap, bx.odds, bx.acc, bx.stand, bx.hour, bx.stolen, bx.laws, bx.rD W, bx.rT W, bx.rH W, bx.rK W, bx.rF W, bx.rS W, bx.rP W, bx.rB W, X_isWrong bx W, X_wrongs bx W hF, X_tappedSet bx W hF, X_surplus bx W hF, within_L, inN_k, eq_self, if_true, if_false, Bool.false_eq_true, ans_X, ref_X, ver_X, e3]) (by unfold f_X12_vouch; simp (disch := omega) only [Option.bind_some, bd_some, eqL, leL, ltL, Lle, Llt, addL, Ladd, Lmul, mulL, nIle, nIlt, nIeq, nI_add, pk_mul, M_cells (hc _), M_isCellAt (hc _) W, M_isAccountAt (hc _) W, M_isLawAt (hc _) W, (hc _).rd, (hc _).r0, M_isWrong (hc _) W, M_allWrong (hc _) W hF, M_tappedSet (hc _) W hF, M_balanced (hc _) W hF, M_isEven (hc _) W hF, isIn_L, inN_k, eq_self, if_true, if_false, Bool.false_eq_true, ans_M, no_M, e3]; exact QM_r)
end OPS3
