/-! ===== the reference's tape ===== -/
def TkM0 (μ : Mm) (U : Nat → Nat) (e : Nat) : Prop := e ≤ 900 ∧ mI μ 141 9 = nI e ∧ (∀ k, k < e → mB μ 145 k &&& 255 = nI (U k) ∧ U k < 256)
def TkM (μ : Mm) (U : Nat → Nat) (e p : Nat) : Prop := mI μ 141 15 = nI (tS U e p) ∧ mI μ 141 16 = nI (tN U e p) ∧ mI μ 141 14 = nI (tK U e p) ∧ (tK U e p = 1 → (mJ μ 141 19 = if tL U e p ≤ 8 then lN (tW U e p) else -1) ∧ mI μ 141 18 = nI (tL U e p)) ∧ (tK U e p = 2 ∨ tK U e p = 3 → mI μ 141 17 = nI (tV U e p))
abbrev PB (a k : Nat) : Prop := a = 141 ∧ 14 ≤ k ∧ k ≤ 19
def uL (U : Nat → Nat) (e q : Nat) : Nat := if q < e then U q else 0
section TOKM
variable {μ : Mm} {U : Nat → Nat} {e p F : Nat}
theorem TkM0_ag {ν : Mm} {P : Nat → Nat → Prop} (h : TkM0 μ U e) (a : Ag P μ ν) (h1 : ¬ P 141 9) (h2 : ∀ k, ¬ P 145 k) : TkM0 ν U e := ⟨h.1, by rw [a.i h1]; exact h.2.1, fun k hk => by rw [a.b (h2 k)]; exact h.2.2 k hk⟩
theorem TkM_ag {ν : Mm} {P : Nat → Nat → Prop} (h : TkM μ U e p) (a : Ag P μ ν) (h1 : ∀ k, 14 ≤ k → k ≤ 19 → ¬ P 141 k) : TkM ν U e p := by
  obtain ⟨q1, q2, q3, q4, q5⟩ := h
  exact ⟨by rw [a.i (h1 15 (by omega) (by omega))]; exact q1, by rw [a.i (h1 16 (by omega) (by omega))]; exact q2, by rw [a.i (h1 14 (by omega) (by omega))]; exact q3, fun z => by rw [a.i (h1 18 (by omega) (by omega)), a.j (h1 19 (by omega) (by omega))]; exact q4 z, fun z => by rw [a.i (h1 17 (by omega) (by omega))]; exact q5 z⟩
theorem M_look (h : TkM0 μ U e) {q : Nat} (hq : q ≤ e) : f_X12_look2 (nI q) μ = some (nI (uL U e q)) := by
  have he := h.1
  unfold f_X12_look2 uL
  rw [h.2.1]
  by_cases z : q < e
  · rw [if_neg (fun y => by have := (nIle (by omega) (by omega)).mp y; omega), rdB_n (by omega) (by omega), Option.bind_some, (h.2.2 q z).1, if_pos z]
  · rw [if_pos ((nIle (by omega) (by omega)).mpr (by omega)), if_neg z]; rfl
theorem M_isL {u : Nat} (hu : u < 256) : f_X12_isLetter (nI u) μ = some (isLt u) := by
  unfold f_X12_isLetter isLt
  simp (disch := omega) only [Option.bind_some, bd_some, eqL, leL, ltL, Lle, Llt, addL, Ladd, Lmul, mulL, nIle, nIlt, nIeq, nI_add, pk_mul]
  by_cases z : u < 97
  · rw [if_pos z, decide_eq_false (by omega)]
  · rw [if_neg z]
    by_cases y : 122 < u
    · rw [if_pos y, decide_eq_false (by omega)]
    · rw [if_neg y, decide_eq_true (by omega)]
theorem M_isD {u : Nat} (hu : u < 256) : f_X12_isDigit (nI u) μ = some (isDg u) := by
  unfold f_X12_isDigit isDg
  simp (disch := omega) only [Option.bind_some, bd_some, eqL, leL, ltL, Lle, Llt, addL, Ladd, Lmul, mulL, nIle, nIlt, nIeq, nI_add, pk_mul]
  by_cases z : u < 48
  · rw [if_pos z, decide_eq_false (by omega)]
  · rw [if_neg z]
    by_cases y : 57 < u
    · rw [if_pos y, decide_eq_false (by omega)]
    · rw [if_neg y, decide_eq_true (by omega)]
theorem M_isS {u : Nat} (hu : u < 256) : f_X12_isSignByte (nI u) μ = some (isSg u) := by
  unfold f_X12_isSignByte isSg
  simp (disch := omega) only [Option.bind_some, bd_some, eqL, leL, ltL, Lle, Llt, addL, Ladd, Lmul, mulL, nIle, nIlt, nIeq, nI_add, pk_mul]
  by_cases z1 : u = 59
  · rw [if_pos z1, decide_eq_true (Or.inl z1)]
  · rw [if_neg z1]
    by_cases z2 : u = 60
    · rw [if_pos z2, decide_eq_true (Or.inr (Or.inl z2))]
    · rw [if_neg z2]
      by_cases z3 : u = 62
      · rw [if_pos z3, decide_eq_true (Or.inr (Or.inr (Or.inl z3)))]
      · rw [if_neg z3]
        by_cases z4 : u = 61
        · rw [if_pos z4, decide_eq_true (Or.inr (Or.inr (Or.inr z4)))]
        · rw [if_neg z4, decide_eq_false (by omega)]
theorem uL_lt (h : TkM0 μ U e) {q : Nat} : uL U e q < 256 := by
  unfold uL
  split
  · rename_i z; exact (h.2.2 q z).2
  · omega
theorem M_word (h : TkM0 μ U e) (hF : 2000000 ≤ F) {s : Nat} (hs : s < e) (h9 : mI μ 141 15 = nI s) (h10 : mI μ 141 16 = nI s) (hw : mJ μ 141 19 = 0) (KK : Mm → Option Mm) : ∃ ν, L_X12_advance_109 F KK F μ = KK ν ∧ mI ν 141 16 = nI (stp isLt U (e - s) s) ∧ (mJ ν 141 19 = if stp isLt U (e - s) s - s ≤ 8 then lN (wrd U s (stp isLt U (e - s) s - s)) else -1) ∧ Ag (fun a k => a = 141 ∧ (k = 16 ∨ k = 19)) μ ν := by
  have he := h.1
  have hb := stp_b (q := isLt) (U := U) (n := e - s) (p := s)
  have hin : ∀ j, s ≤ j → j < stp isLt U (e - s) s → isLt (U j) = true := fun j h1 h2 => stp_in h1 h2
  have hno : stp isLt U (e - s) s < s + (e - s) → ¬ isLt (U (stp isLt U (e - s) s)) = true := stp_no
  generalize stp isLt U (e - s) s = q at hb hin hno ⊢
  let wX : Nat → Int64 := fun j => if j ≤ 8 then lN (wrd U s j) else -1
  have step : ∀ j ν, j < q - s → (mI ν 141 16 = nI (s + j) ∧ mJ ν 141 19 = wX j ∧ Ag (fun a k => a = 141 ∧ (k = 16 ∨ k = 19)) μ ν) → ∃ ν', (mI ν' 141 16 = nI (s + (j + 1)) ∧ mJ ν' 141 19 = wX (j + 1) ∧ Ag (fun a k => a = 141 ∧ (k = 16 ∨ k = 19)) μ ν') ∧ ∀ n, L_X12_advance_109 F KK (n + 1) ν = L_X12_advance_109 F KK n ν' := by
    rintro j ν hj ⟨i1, i3, i2⟩
    have hl0 := hin (s + j) (by omega) (by omega)
    have hl := of_decide_eq_true hl0
    have hν : TkM0 ν U e := TkM0_ag h i2 (by omega) (fun k => by omega)
    have n9 : mI ν 141 15 = nI s := by rw [i2.i (by omega)]; exact h9
    have lk := M_look hν (q := s + j) (by omega)
    have u1 : uL U e (s + j) = U (s + j) := by unfold uL; rw [if_pos (by omega)]
    rw [u1] at lk
    refine ⟨sI (sJ ν 141 19 (wX (j + 1))) 141 16 (nI (s + (j + 1))), ⟨rfl, rfl, (i2.tr (Ag.sJ ⟨rfl, Or.inr rfl⟩)).tr (Ag.sI ⟨rfl, Or.inl rfl⟩)⟩, fun n => ?_⟩
    have m16 : ∀ x : Int64, mI (sJ ν 141 19 x) 141 16 + 1 = nI (s + (j + 1)) := fun x => by
      have : mI (sJ ν 141 19 x) 141 16 = nI (s + j) := i1
      rw [this, nI_1]; rfl
    rw [L_X12_advance_109_s, i1, lk, Option.bind_some, M_isL (by omega), Option.bind_some, if_pos hl0]
    simp only [jn]
    rw [n9, nIsub (by omega), show s + j - s = j by omega, i3, Option.bind_some]
    by_cases q8 : 8 ≤ j
    · rw [if_pos ((Lle (n := 8) (by omega) (by decide)).mpr q8), m16]
      show _ = L_X12_advance_109 F KK n (sI (sJ ν 141 19 (if j + 1 ≤ 8 then lN (wrd U s (j + 1)) else -1)) 141 16 (nI (s + (j + 1))))
      rw [if_neg (by omega)]
    · rw [if_neg (fun z => q8 ((Lle (n := 8) (by omega) (by decide)).mp z)), m16]
      show L_X12_advance_109 F KK n (sI (sJ ν 141 19 ((if j ≤ 8 then lN (wrd U s j) else -1) * 32 + (nI (U (s + j))).toInt64 - 96)) 141 16 (nI (s + (j + 1)))) = L_X12_advance_109 F KK n (sI (sJ ν 141 19 (if j + 1 ≤ 8 then lN (wrd U s (j + 1)) else -1)) 141 16 (nI (s + (j + 1))))
      rw [if_pos (by omega), if_pos (by omega), nI_L (by omega), wrd_n, show (32 : Int64) = lN 32 from rfl, show (96 : Int64) = lN 96 from rfl, lN_mul, lN_add, lN_sub (by omega), show wrd U s j * 32 + U (s + j) - 96 = 32 * wrd U s j + (U (s + j) - 96) by omega]
  obtain ⟨ν, n, ⟨y1, y2, y3⟩, ee⟩ := iterI (L := L_X12_advance_109 F KK) (F := F) (N := q - s) (fun j ν => mI ν 141 16 = nI (s + j) ∧ mJ ν 141 19 = wX j ∧ Ag (fun a k => a = 141 ∧ (k = 16 ∨ k = 19)) μ ν) (by omega) step (a := μ) ⟨h10, by rw [hw]; rfl, Ag.rf⟩
  rw [show s + (q - s) = q by omega] at y1
  refine ⟨ν, ?_, y1, y2, y3⟩
  have hν : TkM0 ν U e := TkM0_ag h y3 (by omega) (fun k => by omega)
  have nl : isLt (uL U e q) = false := by
    unfold uL
    by_cases z : q < e
    · rw [if_pos z]; exact bf (hno (by omega))
    · rw [if_neg z]; rfl
  rw [ee, L_X12_advance_109_s, y1, M_look hν (by omega), Option.bind_some, M_isL (uL_lt h), Option.bind_some, nl, if_neg (by decide)]
theorem M_num (h : TkM0 μ U e) (hF : 2000000 ≤ F) {s : Nat} (hs : s < e) (h9 : mI μ 141 15 = nI s) (h10 : mI μ 141 16 = nI s) (hw : mI μ 141 17 = 0) (KK : Mm → Option Mm) : ∃ ν, L_X12_advance_210 F KK F μ = KK ν ∧ mI ν 141 16 = nI (stp isDg U (e - s) s) ∧ mI ν 141 17 = nI (nmb U s (min (stp isDg U (e - s) s - s) 4)) ∧ Ag (fun a k => a = 141 ∧ (k = 16 ∨ k = 17)) μ ν := by
  have he := h.1
  have hb := stp_b (q := isDg) (U := U) (n := e - s) (p := s)
  have hin : ∀ j, s ≤ j → j < stp isDg U (e - s) s → isDg (U j) = true := fun j h1 h2 => stp_in h1 h2
  have hno : stp isDg U (e - s) s < s + (e - s) → ¬ isDg (U (stp isDg U (e - s) s)) = true := stp_no
  generalize stp isDg U (e - s) s = q at hb hin hno ⊢
  have step : ∀ j ν, j < q - s → (mI ν 141 16 = nI (s + j) ∧ mI ν 141 17 = nI (nmb U s (min j 4)) ∧ Ag (fun a k => a = 141 ∧ (k = 16 ∨ k = 17)) μ ν) → ∃ ν', (mI ν' 141 16 = nI (s + (j + 1)) ∧ mI ν' 141 17 = nI (nmb U s (min (j + 1) 4)) ∧ Ag (fun a k => a = 141 ∧ (k = 16 ∨ k = 17)) μ ν') ∧ ∀ n, L_X12_advance_210 F KK (n + 1) ν = L_X12_advance_210 F KK n ν' := by
    rintro j ν hj ⟨i1, i3, i2⟩
    have hl0 := hin (s + j) (by omega) (by omega)
    have hl := of_decide_eq_true hl0
    have hν : TkM0 ν U e := TkM0_ag h i2 (by omega) (fun k => by omega)
    have n9 : mI ν 141 15 = nI s := by rw [i2.i (by omega)]; exact h9
    have lk := M_look hν (q := s + j) (by omega)
    have u1 : uL U e (s + j) = U (s + j) := by unfold uL; rw [if_pos (by omega)]
    rw [u1] at lk
    by_cases q4 : 4 ≤ j
    · refine ⟨sI ν 141 16 (nI (s + (j + 1))), ⟨rfl, ?_, i2.tr (Ag.sI ⟨rfl, Or.inl rfl⟩)⟩, fun n => ?_⟩
      · show mI ν 141 17 = _
        rw [i3, Nat.min_eq_right q4, Nat.min_eq_right (show 4 ≤ j + 1 by omega)]
      · rw [L_X12_advance_210_s, i1, lk, Option.bind_some, M_isD (by omega), Option.bind_some, if_pos hl0, n9, nIsub (by omega), show s + j - s = j by omega, if_pos ((Lle (n := 4) (by omega) (by decide)).mpr q4), nI_1]
        rfl
    · refine ⟨sI (sI ν 141 17 (nI (nmb U s (min (j + 1) 4)))) 141 16 (nI (s + (j + 1))), ⟨rfl, rfl, (i2.tr (Ag.sI ⟨rfl, Or.inr rfl⟩)).tr (Ag.sI ⟨rfl, Or.inl rfl⟩)⟩, fun n => ?_⟩
      have m16 : ∀ x : Int32, mI (sI ν 141 17 x) 141 16 + 1 = nI (s + (j + 1)) := fun x => by
        have : mI (sI ν 141 17 x) 141 16 = nI (s + j) := i1
        rw [this, nI_1]; rfl
      rw [L_X12_advance_210_s, i1, lk, Option.bind_some, M_isD (by omega), Option.bind_some, if_pos hl0, n9, nIsub (by omega), show s + j - s = j by omega, if_neg (fun z => q4 ((Lle (n := 4) (by omega) (by decide)).mp z)), Option.bind_some, m16, i3, Nat.min_eq_left (show j ≤ 4 by omega), Nat.min_eq_left (show j + 1 ≤ 4 by omega), nmb_n, Lmul, nI_add, subL (by show 48 ≤ _; omega)]
      show L_X12_advance_210 F KK n (sI (sI ν 141 17 (nI (10 * nmb U s j + U (s + j) - 48))) 141 16 (nI (s + (j + 1)))) = _
      rw [show 10 * nmb U s j + U (s + j) - 48 = 10 * nmb U s j + (U (s + j) - 48) by omega]
  obtain ⟨ν, n, ⟨y1, y2, y3⟩, ee⟩ := iterI (L := L_X12_advance_210 F KK) (F := F) (N := q - s) (fun j ν => mI ν 141 16 = nI (s + j) ∧ mI ν 141 17 = nI (nmb U s (min j 4)) ∧ Ag (fun a k => a = 141 ∧ (k = 16 ∨ k = 17)) μ ν) (by omega) step (a := μ) ⟨h10, by rw [hw]; rfl, Ag.rf⟩
  rw [show s + (q - s) = q by omega] at y1
  refine ⟨ν, ?_, y1, y2, y3⟩
  have hν : TkM0 ν U e := TkM0_ag h y3 (by omega) (fun k => by omega)
  have nl : isDg (uL U e q) = false := by
    unfold uL
    by_cases z : q < e
    · rw [if_pos z]; exact bf (hno (by omega))
    · rw [if_neg z]; rfl
  rw [ee, L_X12_advance_210_s, y1, M_look hν (by omega), Option.bind_some, M_isD (uL_lt h), Option.bind_some, nl, if_neg (by decide)]
theorem M_advance (h : TkM0 μ U e) (hF : 2000000 ≤ F) (hp : p ≤ e) (h16 : mI μ 141 16 = nI p) : ∃ ν, f_X12_advance F μ = some ν ∧ TkM ν U e p ∧ Ag PB μ ν := by
  have he := h.1
  have hin : ∀ j, p ≤ j → j < tS U e p → isSp (U j) = true := fun j h1 h2 => stp_in h1 h2
  have hno : tS U e p < p + (e - p) → ¬ isSp (U (tS U e p)) = true := stp_no
  have hsb := tS_b (U := U) (e := e) (p := p)
  have step : ∀ (KK : Mm → Option Mm) j ν, j < tS U e p - p → (mI ν 141 15 = nI (p + j) ∧ Ag PB μ ν) → ∃ ν', (mI ν' 141 15 = nI (p + (j + 1)) ∧ Ag PB μ ν') ∧ ∀ n, L_X12_advance_8 F KK (n + 1) ν = L_X12_advance_8 F KK n ν' := by
    rintro KK j ν hj ⟨i1, i2⟩
    have hl := of_decide_eq_true (hin (p + j) (by omega) (by omega))
    have hν : TkM0 ν U e := TkM0_ag h i2 (by omega) (fun k => by omega)
    have lk := M_look hν (q := p + j) (by omega)
    have u1 : uL U e (p + j) = U (p + j) := by unfold uL; rw [if_pos (by omega)]
    rw [u1] at lk
    have u2 := (h.2.2 (p + j) (by omega)).2
    refine ⟨sI ν 141 15 (nI (p + (j + 1))), ⟨rfl, i2.tr (Ag.sI ⟨rfl, by omega⟩)⟩, fun n => ?_⟩
    rw [L_X12_advance_8_s, hν.2.1, i1, if_neg (fun z => by have := (nIle (by omega) (by omega)).mp z; omega), lk, Option.bind_some, nI_1]
    by_cases z : U (p + j) = 10
    · rw [if_pos ((eqL (n := 10) (by omega) (by decide)).mpr z)]; rfl
    · rw [if_neg (fun y => z ((eqL (n := 10) (by omega) (by decide)).mp y)), Option.bind_some, if_pos ((eqL (n := 32) (by omega) (by decide)).mpr (by show U (p + j) = 32; omega))]; rfl
  unfold f_X12_advance
  rw [h16]
  obtain ⟨KK, hKK⟩ : ∃ KK : Mm → Option Mm, KK = (fun μ3 => (if (mI (sI μ3 141 16 (mI μ3 141 15)) 141 15) < (mI (sI μ3 141 16 (mI μ3 141 15)) 141 9) then (f_X12_look2 (mI (sI μ3 141 16 (mI μ3 141 15)) 141 15) (sI μ3 141 16 (mI μ3 141 15))).bind fun x4 => (f_X12_isLetter x4 (sI μ3 141 16 (mI μ3 141 15))).bind fun x5 => (if x5 = true then L_X12_advance_109 F (fun μ28 => some (sI μ28 141 18 ((mI μ28 141 16) - (mI μ28 141 15)))) F (sJ (sI (sI μ3 141 16 (mI μ3 141 15)) 141 14 1) 141 19 0) else (f_X12_isDigit x4 (sI μ3 141 16 (mI μ3 141 15))).bind fun x7 => (if x7 = true then L_X12_advance_210 F (fun μ17 => some (sI μ17 141 14 (if ((mI μ17 141 16) - (mI μ17 141 15)) ≤ 4 then (2 : Int32) else 4))) F (sI (sI μ3 141 16 (mI μ3 141 15)) 141 17 0) else (f_X12_isSignByte x4 (sI (sI (sI μ3 141 16 (mI μ3 141 15)) 141 16 ((mI (sI μ3 141 16 (mI μ3 141 15)) 141 15) + (1 : Int32))) 141 17 x4)).bind fun x9 => some (sI (sI (sI (sI μ3 141 16 (mI μ3 141 15)) 141 16 ((mI (sI μ3 141 16 (mI μ3 141 15)) 141 15) + (1 : Int32))) 141 17 x4) 141 14 (if x9 = true then (3 : Int32) else 4)))) else some (sI (sI μ3 141 16 (mI μ3 141 15)) 141 14 0))) := ⟨_, rfl⟩
  rw [← hKK]
  obtain ⟨ν, n, ⟨y1, y2⟩, ee⟩ := iterI (L := L_X12_advance_8 F KK) (F := F) (N := tS U e p - p) (fun j ν => mI ν 141 15 = nI (p + j) ∧ Ag PB μ ν) (by omega) (step _) (a := sI μ 141 15 (nI p)) ⟨rfl, Ag.sI ⟨rfl, by omega⟩⟩
  rw [show p + (tS U e p - p) = tS U e p by omega] at y1
  have hν : TkM0 ν U e := TkM0_ag h y2 (by omega) (fun k => by omega)
  have fin : L_X12_advance_8 F KK (n + 1) ν = KK ν := by
    rw [L_X12_advance_8_s, hν.2.1, y1]
    by_cases qe : tS U e p = e
    · rw [if_pos ((nIle (by omega) (by omega)).mpr (by omega))]
    · have hn := hno (by omega)
      have hn2 : ¬ (U (tS U e p) = 32 ∨ U (tS U e p) = 10) := fun z => hn (decide_eq_true z)
      have lk := M_look hν (q := tS U e p) (by omega)
      have u1 : uL U e (tS U e p) = U (tS U e p) := by unfold uL; rw [if_pos (by omega)]
      rw [u1] at lk
      have u2 := (h.2.2 (tS U e p) (by omega)).2
      rw [if_neg (fun z => by have := (nIle (by omega) (by omega)).mp z; omega), lk, Option.bind_some, if_neg (fun y => hn2 (Or.inr ((eqL (n := 10) (by omega) (by decide)).mp y))), Option.bind_some, if_neg (fun y => hn2 (Or.inl ((eqL (n := 32) (by omega) (by decide)).mp y)))]
  rw [ee, fin, hKK]
  obtain ⟨μ4, hμ4⟩ : ∃ μ4, μ4 = sI ν 141 16 (nI (tS U e p)) := ⟨_, rfl⟩
  have A4 : Ag PB μ μ4 := by rw [hμ4]; exact y2.tr (Ag.sI ⟨rfl, by omega⟩)
  have T4 : TkM0 μ4 U e := TkM0_ag h A4 (by omega) (fun k => by omega)
  have m9 : mI μ4 141 15 = nI (tS U e p) := by rw [hμ4]; exact y1
  have m10 : mI μ4 141 16 = nI (tS U e p) := by rw [hμ4]; rfl
  dsimp only
  rw [y1, ← hμ4, m9, T4.2.1]
  by_cases c0 : e ≤ tS U e p
  · rw [if_neg (fun z => by have := (nIlt (by omega) (by omega)).mp z; omega)]
    have k0 : tK U e p = 0 := by unfold tK; rw [if_pos c0]
    have n0 : tN U e p = tS U e p := by unfold tN; rw [if_pos c0]
    exact ⟨_, rfl, ⟨m9, by rw [n0]; exact m10, by rw [k0]; rfl, fun z => by omega, fun z => by omega⟩, A4.tr (Ag.sI ⟨rfl, by omega⟩)⟩
  · have lk := M_look T4 (q := tS U e p) (by omega)
    have u1 : uL U e (tS U e p) = U (tS U e p) := by unfold uL; rw [if_pos (by omega)]
    rw [u1] at lk
    have u2 := (h.2.2 (tS U e p) (by omega)).2
    rw [if_pos ((nIlt (by omega) (by omega)).mpr (by omega)), lk, Option.bind_some, M_isL u2, Option.bind_some]
    by_cases c1 : isLt (U (tS U e p)) = true
    · have B1 : Ag PB μ4 (sJ (sI μ4 141 14 1) 141 19 0) := (Ag.sI ⟨rfl, by omega⟩).tr (Ag.sJ ⟨rfl, by omega⟩)
      obtain ⟨ξ, x1, x2, x3, x4⟩ := M_word (s := tS U e p) (TkM0_ag T4 B1 (by omega) (fun k => by omega)) hF (by omega) (show mI (sJ (sI μ4 141 14 1) 141 19 0) 141 15 = _ from m9) (show mI (sJ (sI μ4 141 14 1) 141 19 0) 141 16 = _ from m10) rfl (fun μ28 => some (sI μ28 141 18 ((mI μ28 141 16) - (mI μ28 141 15))))
      have k1 : tK U e p = 1 := by unfold tK; rw [if_neg c0, if_pos c1]
      have n1 : tN U e p = stp isLt U (e - tS U e p) (tS U e p) := by unfold tN; rw [if_neg c0, if_pos c1]
      have l1 : tL U e p = stp isLt U (e - tS U e p) (tS U e p) - tS U e p := by unfold tL; rw [n1]
      have nb := tN_b (U := U) (e := e) (p := p) hp
      rw [if_pos c1, x1]
      have z15 : mI ξ 141 15 = nI (tS U e p) := by rw [x4.i (by omega)]; exact m9
      rw [← n1] at x2
      refine ⟨_, rfl, ⟨z15, x2, ?_, fun _ => ⟨?_, ?_⟩, fun z => by omega⟩, ((A4.tr B1).tr (x4.mono (fun a k z => ⟨z.1, by omega, by omega⟩))).tr (Ag.sI ⟨rfl, by omega⟩)⟩
      · rw [k1]
        show mI ξ 141 14 = nI 1
        rw [x4.i (by omega)]
        rfl
      · show mJ ξ 141 19 = _
        rw [x3, ← l1]
        rfl
      · show mI ξ 141 16 - mI ξ 141 15 = _
        rw [x2, z15, nIsub (by omega)]
        rfl
    · rw [if_neg c1, M_isD u2, Option.bind_some]
      by_cases c2 : isDg (U (tS U e p)) = true
      · have B1 : Ag PB μ4 (sI μ4 141 17 0) := Ag.sI ⟨rfl, by omega⟩
        obtain ⟨ξ, x1, x2, x3, x4⟩ := M_num (s := tS U e p) (TkM0_ag T4 B1 (by omega) (fun k => by omega)) hF (by omega) (show mI (sI μ4 141 17 0) 141 15 = _ from m9) (show mI (sI μ4 141 17 0) 141 16 = _ from m10) rfl (fun μ17 => some (sI μ17 141 14 (if ((mI μ17 141 16) - (mI μ17 141 15)) ≤ 4 then (2 : Int32) else 4)))
        have n1 : tN U e p = stp isDg U (e - tS U e p) (tS U e p) := by unfold tN; rw [if_neg c0, if_neg c1, if_pos c2]
        have k1 : tK U e p = if tN U e p - tS U e p ≤ 4 then 2 else 4 := by unfold tK; rw [if_neg c0, if_neg c1, if_pos c2]
        have nb := tN_b (U := U) (e := e) (p := p) hp
        rw [if_pos c2, x1]
        rw [← n1] at x2 x3
        have z15 : mI ξ 141 15 = nI (tS U e p) := by rw [x4.i (by omega)]; exact m9
        refine ⟨_, rfl, ⟨z15, x2, ?_, fun z => ?_, fun z => ?_⟩, ((A4.tr B1).tr (x4.mono (fun a k z => ⟨z.1, by omega, by omega⟩))).tr (Ag.sI ⟨rfl, by omega⟩)⟩
        · show (if mI ξ 141 16 - mI ξ 141 15 ≤ 4 then (2 : Int32) else 4) = _
          rw [x2, z15, nIsub (by omega), k1]
          by_cases z : tN U e p - tS U e p ≤ 4
          · rw [if_pos ((leL (n := 4) (by omega) (by decide)).mpr z), if_pos z]; rfl
          · rw [if_neg (fun y => z ((leL (n := 4) (by omega) (by decide)).mp y)), if_neg z]; rfl
        · rw [k1] at z; split at z <;> omega
        · show mI ξ 141 17 = _
          rw [x3]
          unfold tV
          rw [if_neg (by rw [k1]; split <;> omega)]
          rfl
      · rw [if_neg c2]
        have n1 : tN U e p = tS U e p + 1 := by unfold tN; rw [if_neg c0, if_neg c1, if_neg c2]
        have k1 : tK U e p = if isSg (U (tS U e p)) = true then 3 else 4 := by unfold tK; rw [if_neg c0, if_neg c1, if_neg c2]
        rw [M_isS u2, Option.bind_some, nI_1]
        have kv : (if isSg (U (tS U e p)) = true then (3 : Int32) else 4) = nI (tK U e p) := by
          rw [k1]
          split <;> rfl
        rw [kv]
        refine ⟨_, rfl, ⟨m9, by rw [n1]; rfl, rfl, fun z => ?_, fun z => ?_⟩, ((A4.tr (Ag.sI ⟨rfl, by omega⟩)).tr (Ag.sI ⟨rfl, by omega⟩)).tr (Ag.sI ⟨rfl, by omega⟩)⟩
        · rw [k1] at z; split at z <;> omega
        · have z3 : tK U e p = 3 := by
            rcases z with z | z
            · rw [k1] at z; split at z <;> omega
            · exact z
          obtain ⟨v1, v2⟩ := tV_3 z3
          show nI (U (tS U e p)) = _
          rw [v1]
/-! what is asked of the token -/
theorem M_isWord (h : TkM μ U e p) {i : Nat} (hi : i < 28) {w : Int64} (hw : w = swT i) : f_X12_isWord w μ = some (decide (tO U e p = some i)) := by
  unfold f_X12_isWord
  rw [h.2.2.1]
  have := tK_le (U := U) (e := e) (p := p)
  have hsi := sw_lt i hi
  by_cases z : tK U e p = 1
  · obtain ⟨h1, h2⟩ := h.2.2.2.1 z
    rw [if_pos ((eqL (n := 1) (by omega) (by decide)).mpr z), h1, hw]
    by_cases z8 : tL U e p ≤ 8
    · have ho : tO U e p = swI (tW U e p) := by unfold tO; rw [if_pos ⟨z, z8⟩]
      have hwl := tW_lt z z8
      rw [if_pos z8, ho]
      by_cases y : swN i = tW U e p
      · rw [if_pos (lg_0.mpr (by unfold swT; rw [y])), decide_eq_true ((swI_i hi).mpr y)]
      · rw [if_neg (show ¬ lg_cmp (lN (tW U e p)) (swT i) = 0 from fun x => y ((lN_e (by omega) (by omega)).mp (lg_0.mp x)).symm), decide_eq_false (fun x => y ((swI_i hi).mp x))]
    · have ho : tO U e p = none := by unfold tO; rw [if_neg (fun y => z8 y.2)]
      rw [if_neg z8, ho, if_neg (fun x => by
        have x2 := lg_0.mp x
        rw [fa_eq64] at x2
        unfold swT at x2
        rw [lN_ti (by omega), show (-1 : Int64).toInt = -1 by decide] at x2
        omega), decide_eq_false (fun x => by cases x)]
  · have ho : tO U e p = none := by unfold tO; rw [if_neg (fun y => z y.1)]
    rw [if_neg (fun y => z ((eqL (n := 1) (by omega) (by decide)).mp y)), ho, decide_eq_false (fun x => by cases x)]
end TOKM
