/-! ===== the reference's words ===== -/
section WRDM
variable {μ : Mm} {U : Nat → Nat} {e p F : Nat}
theorem sp_0 : f_X12_spelled 119 105 100 101 0 0 μ = some (swT 0) := by unfold f_X12_spelled; decide +kernel
theorem sp_1 : f_X12_spelled 116 97 112 0 0 0 μ = some (swT 1) := by unfold f_X12_spelled; decide +kernel
theorem sp_2 : f_X12_spelled 111 100 100 115 0 0 μ = some (swT 2) := by unfold f_X12_spelled; decide +kernel
theorem sp_3 : f_X12_spelled 97 99 99 111 117 110 μ = some (lN (swN 3 / 32)) := by unfold f_X12_spelled; decide +kernel
theorem sq_3 : lN (swN 3 / 32) * 32 + 20 = swT 3 := by decide +kernel
theorem sp_4 : f_X12_spelled 100 101 98 105 116 0 μ = some (swT 4) := by unfold f_X12_spelled; decide +kernel
theorem sp_5 : f_X12_spelled 99 114 101 100 105 116 μ = some (swT 5) := by unfold f_X12_spelled; decide +kernel
theorem sp_6 : f_X12_spelled 108 97 119 0 0 0 μ = some (swT 6) := by unfold f_X12_spelled; decide +kernel
theorem sp_7 : f_X12_spelled 98 101 99 111 109 101 μ = some (lN (swN 7 / 32)) := by unfold f_X12_spelled; decide +kernel
theorem sq_7 : lN (swN 7 / 32) * 32 + 19 = swT 7 := by decide +kernel
theorem sp_8 : f_X12_spelled 108 101 102 116 0 0 μ = some (swT 8) := by unfold f_X12_spelled; decide +kernel
theorem sp_9 : f_X12_spelled 114 105 103 104 116 0 μ = some (swT 9) := by unfold f_X12_spelled; decide +kernel
theorem sp_10 : f_X12_spelled 97 98 111 118 101 0 μ = some (swT 10) := by unfold f_X12_spelled; decide +kernel
theorem sp_11 : f_X12_spelled 98 101 108 111 119 0 μ = some (swT 11) := by unfold f_X12_spelled; decide +kernel
theorem sp_12 : f_X12_spelled 119 97 116 99 104 0 μ = some (swT 12) := by unfold f_X12_spelled; decide +kernel
theorem sp_13 : f_X12_spelled 115 116 101 112 0 0 μ = some (swT 13) := by unfold f_X12_spelled; decide +kernel
theorem sp_14 : f_X12_spelled 117 112 0 0 0 0 μ = some (swT 14) := by unfold f_X12_spelled; decide +kernel
theorem sp_15 : f_X12_spelled 100 111 119 110 0 0 μ = some (swT 15) := by unfold f_X12_spelled; decide +kernel
theorem sp_16 : f_X12_spelled 115 116 97 121 0 0 μ = some (swT 16) := by unfold f_X12_spelled; decide +kernel
theorem sp_17 : f_X12_spelled 100 111 122 101 0 0 μ = some (swT 17) := by unfold f_X12_spelled; decide +kernel
theorem sp_18 : f_X12_spelled 109 101 110 100 0 0 μ = some (swT 18) := by unfold f_X12_spelled; decide +kernel
theorem sp_19 : f_X12_spelled 115 116 101 97 108 0 μ = some (swT 19) := by unfold f_X12_spelled; decide +kernel
theorem sp_20 : f_X12_spelled 97 110 121 0 0 0 μ = some (swT 20) := by unfold f_X12_spelled; decide +kernel
theorem sp_21 : f_X12_spelled 119 104 101 110 0 0 μ = some (swT 21) := by unfold f_X12_spelled; decide +kernel
theorem sp_22 : f_X12_spelled 119 114 111 110 103 0 μ = some (swT 22) := by unfold f_X12_spelled; decide +kernel
theorem sp_23 : f_X12_spelled 100 105 103 105 116 0 μ = some (swT 23) := by unfold f_X12_spelled; decide +kernel
theorem sp_24 : f_X12_spelled 101 118 101 110 0 0 μ = some (swT 24) := by unfold f_X12_spelled; decide +kernel
theorem sp_25 : f_X12_spelled 108 111 111 112 0 0 μ = some (swT 25) := by unfold f_X12_spelled; decide +kernel
theorem sp_26 : f_X12_spelled 101 110 100 0 0 0 μ = some (swT 26) := by unfold f_X12_spelled; decide +kernel
theorem sp_27 : f_X12_spelled 115 116 111 112 0 0 μ = some (swT 27) := by unfold f_X12_spelled; decide +kernel
theorem M_isWide (h : TkM μ U e p) : f_X12_isWide μ = some (decide (tO U e p = some 0)) := by unfold f_X12_isWide; simp only [sp_0, Option.bind_some, M_isWord h (i := 0) (by omega) rfl]
theorem M_isTap (h : TkM μ U e p) : f_X12_isTap μ = some (decide (tO U e p = some 1)) := by unfold f_X12_isTap; simp only [sp_1, Option.bind_some, M_isWord h (i := 1) (by omega) rfl]
theorem M_isOdds (h : TkM μ U e p) : f_X12_isOdds μ = some (decide (tO U e p = some 2)) := by unfold f_X12_isOdds; simp only [sp_2, Option.bind_some, M_isWord h (i := 2) (by omega) rfl]
theorem M_isAccount (h : TkM μ U e p) : f_X12_isAccount μ = some (decide (tO U e p = some 3)) := by unfold f_X12_isAccount; simp only [sp_3, sq_3, Option.bind_some, M_isWord h (i := 3) (by omega) rfl]
theorem M_isLaw (h : TkM μ U e p) : f_X12_isLaw μ = some (decide (tO U e p = some 6)) := by unfold f_X12_isLaw; simp only [sp_6, Option.bind_some, M_isWord h (i := 6) (by omega) rfl]
theorem M_isBecomes (h : TkM μ U e p) : f_X12_isBecomes μ = some (decide (tO U e p = some 7)) := by unfold f_X12_isBecomes; simp only [sp_7, sq_7, Option.bind_some, M_isWord h (i := 7) (by omega) rfl]
theorem M_isWatch (h : TkM μ U e p) : f_X12_isWatch μ = some (decide (tO U e p = some 12)) := by unfold f_X12_isWatch; simp only [sp_12, Option.bind_some, M_isWord h (i := 12) (by omega) rfl]
theorem M_isEnd (h : TkM μ U e p) : f_X12_isEnd μ = some (decide (tO U e p = some 26)) := by unfold f_X12_isEnd; simp only [sp_26, Option.bind_some, M_isWord h (i := 26) (by omega) rfl]
theorem M_kindWord (h : TkM μ U e p) : f_X12_kindWord μ = some (if tO U e p = some 4 then 0 else if tO U e p = some 5 then 1 else -1 : Int32) := by
  unfold f_X12_kindWord
  simp only [sp_4, sp_5, Option.bind_some, M_isWord h (i := 4) (by omega) rfl, M_isWord h (i := 5) (by omega) rfl, decide_eq_true_eq]
  (repeat' split) <;> first | rfl | contradiction
theorem M_placeWord (h : TkM μ U e p) : f_X12_placeWord μ = some (if tO U e p = some 8 then 1 else if tO U e p = some 9 then 2 else if tO U e p = some 10 then 3 else if tO U e p = some 11 then 4 else -1 : Int32) := by
  unfold f_X12_placeWord
  simp only [sp_8, sp_9, sp_10, sp_11, Option.bind_some, M_isWord h (i := 8) (by omega) rfl, M_isWord h (i := 9) (by omega) rfl, M_isWord h (i := 10) (by omega) rfl, M_isWord h (i := 11) (by omega) rfl, decide_eq_true_eq]
  (repeat' split) <;> first | rfl | contradiction
theorem M_orderWord (h : TkM μ U e p) : f_X12_orderWord μ = some (if tO U e p = some 13 then 0 else if tO U e p = some 17 then 1 else if tO U e p = some 18 then 2 else if tO U e p = some 19 then 3 else if tO U e p = some 20 then 4 else if tO U e p = some 21 then 5 else if tO U e p = some 25 then 6 else if tO U e p = some 27 then 7 else -1 : Int32) := by
  unfold f_X12_orderWord
  simp only [sp_13, sp_17, sp_18, sp_19, sp_20, sp_21, sp_25, sp_27, Option.bind_some, M_isWord h (i := 13) (by omega) rfl, M_isWord h (i := 17) (by omega) rfl, M_isWord h (i := 18) (by omega) rfl, M_isWord h (i := 19) (by omega) rfl, M_isWord h (i := 20) (by omega) rfl, M_isWord h (i := 21) (by omega) rfl, M_isWord h (i := 25) (by omega) rfl, M_isWord h (i := 27) (by omega) rfl, decide_eq_true_eq]
  (repeat' split) <;> first | rfl | contradiction
theorem M_testWord (h : TkM μ U e p) : f_X12_testWord μ = some (if tO U e p = some 22 then 0 else if tO U e p = some 23 then 1 else if tO U e p = some 24 then 2 else -1 : Int32) := by
  unfold f_X12_testWord
  simp only [sp_22, sp_23, sp_24, Option.bind_some, M_isWord h (i := 22) (by omega) rfl, M_isWord h (i := 23) (by omega) rfl, M_isWord h (i := 24) (by omega) rfl, decide_eq_true_eq]
  (repeat' split) <;> first | rfl | contradiction
theorem M_wayWord (h : TkM μ U e p) : f_X12_wayWord μ = some (if tO U e p = some 14 then 0 else if tO U e p = some 15 then 1 else if tO U e p = some 8 then 2 else if tO U e p = some 9 then 3 else if tO U e p = some 16 then 4 else -1 : Int32) := by
  unfold f_X12_wayWord
  simp only [sp_14, sp_15, sp_16, Option.bind_some, M_placeWord h, M_isWord h (i := 14) (by omega) rfl, M_isWord h (i := 15) (by omega) rfl, M_isWord h (i := 16) (by omega) rfl, decide_eq_true_eq]
  cases ho : tO U e p with
  | none => decide
  | some i =>
    have key : ∀ i, i < 28 → (if some i = some 14 then some (0 : Int32) else if some i = some 15 then some 1 else if (if some i = some 8 then (1 : Int32) else if some i = some 9 then 2 else if some i = some 10 then 3 else if some i = some 11 then 4 else -1) = 1 then some ((if some i = some 8 then (1 : Int32) else if some i = some 9 then 2 else if some i = some 10 then 3 else if some i = some 11 then 4 else -1) + 1) else if (if some i = some 8 then (1 : Int32) else if some i = some 9 then 2 else if some i = some 10 then 3 else if some i = some 11 then 4 else -1) = 2 then some ((if some i = some 8 then (1 : Int32) else if some i = some 9 then 2 else if some i = some 10 then 3 else if some i = some 11 then 4 else -1) + 1) else some (if some i = some 16 then (4 : Int32) else -1)) = some (if some i = some 14 then (0 : Int32) else if some i = some 15 then 1 else if some i = some 8 then 2 else if some i = some 9 then 3 else if some i = some 16 then 4 else -1) := by decide +kernel
    exact key i (tO_lt ho).1
theorem M_isKept (h : TkM μ U e p) : f_X12_isKept μ = some (tO U e p).isSome := by
  unfold f_X12_isKept
  simp only [M_isWide h, M_isTap h, M_isOdds h, M_isAccount h, M_isLaw h, M_isBecomes h, M_isWatch h, M_kindWord h, M_placeWord h, M_wayWord h, M_orderWord h, M_testWord h, M_isEnd h, Option.bind_some, decide_eq_true_eq]
  cases ho : tO U e p with
  | none => rfl
  | some i =>
    have hi := (tO_lt ho).1
    revert hi
    clear ho
    revert i
    decide +kernel
theorem M_isName (h : TkM μ U e p) (hL : tL U e p ≤ 900) : f_X12_isName μ = some (tM U e p) := by
  unfold f_X12_isName tM
  rw [h.2.2.1]
  have := tK_le (U := U) (e := e) (p := p)
  by_cases z : tK U e p = 1
  · rw [if_pos ((eqL (n := 1) (by omega) (by decide)).mpr z), (h.2.2.2.1 z).2, M_isKept h, Option.bind_some]
    by_cases hl : tL U e p < 2147483648
    · by_cases z8 : tL U e p ≤ 8
      · rw [if_neg (fun y => by have y2 : 8 < tL U e p := (Llt (n := 8) hl (by decide)).mp y; omega)]
        have ho : tO U e p = swI (tW U e p) := by unfold tO; rw [if_pos ⟨z, z8⟩]
        rw [ho]
        cases hs : swI (tW U e p) with
        | none => rw [decide_eq_true ⟨z, z8, rfl⟩]; rfl
        | some i => rw [decide_eq_false (fun y => by cases y.2.2)]; rfl
      · rw [if_pos ((Llt (n := 8) hl (by decide)).mpr (by show 8 < tL U e p; omega)), decide_eq_false (fun y => z8 y.2.1)]
    · exact absurd (show tL U e p < 2147483648 by have := hL; omega) hl
  · rw [if_neg (fun y => z ((eqL (n := 1) (by omega) (by decide)).mp y)), decide_eq_false (fun y => z y.1)]
end WRDM
