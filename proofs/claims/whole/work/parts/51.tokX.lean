/-! ===== the class's tape ===== -/
theorem fnd_sn {p : Nat → Bool} {i : Nat} : fndF p 0 (i + 1) = match fndF p 0 i with | some l => some l | none => if p i = true then some i else none := by
  cases hf : fndF p 0 i with
  | some l =>
    obtain ⟨z1, z2, z3⟩ := fndF_some hf
    exact fnd_eq z1 (by omega) z3 (fndF_first hf)
  | none =>
    show _ = if p i = true then some i else none
    by_cases q : p i = true
    · rw [if_pos q]
      exact fnd_eq (by omega) (by omega) q (fun j h1 h2 => fndF_none hf j h1 (by omega))
    · rw [if_neg q]
      refine fnd_nn (fun j h1 h2 => ?_)
      by_cases e : j = i
      · rw [e]; exact bf q
      · exact fndF_none hf j h1 (by omega)
def TkX0 (μ : Mm) (U : Nat → Nat) (e : Nat) : Prop := e ≤ 900 ∧ mI μ 9 11 = nI e ∧ (∀ k, k < e → BY (mB μ 10 k) (U k)) ∧ (∀ i, i < 28 → mL μ 11 i = swT i)
def TkX (μ : Mm) (U : Nat → Nat) (e p : Nat) : Prop := mI μ 9 9 = nI (tS U e p) ∧ mI μ 9 10 = nI (tN U e p) ∧ mI μ 9 4 = nI (tK U e p) ∧ (tK U e p = 1 → mI μ 9 5 = oI (tO U e p) ∧ mJ μ 9 6 = if tL U e p ≤ 8 then lN (tW U e p) else 0) ∧ (tK U e p = 2 ∨ tK U e p = 3 → mI μ 9 5 = nI (tV U e p))
abbrev PA (a k : Nat) : Prop := a = 9 ∧ (k = 4 ∨ k = 5 ∨ k = 6 ∨ k = 9 ∨ k = 10)
section TOKX
variable {μ : Mm} {U : Nat → Nat} {e p F : Nat}
theorem TkX0_ag {ν : Mm} {P : Nat → Nat → Prop} (h : TkX0 μ U e) (a : Ag P μ ν) (h1 : ¬ P 9 11) (h2 : ∀ k, ¬ P 10 k) (h3 : ∀ k, ¬ P 11 k) : TkX0 ν U e := ⟨h.1, by rw [a.i h1]; exact h.2.1, fun k hk => by rw [a.b (h2 k)]; exact h.2.2.1 k hk, fun i hi => by rw [a.l (h3 i)]; exact h.2.2.2 i hi⟩
theorem TkX_ag {ν : Mm} {P : Nat → Nat → Prop} (h : TkX μ U e p) (a : Ag P μ ν) (h1 : ∀ k, (k = 4 ∨ k = 5 ∨ k = 6 ∨ k = 9 ∨ k = 10) → ¬ P 9 k) : TkX ν U e p := by
  obtain ⟨q1, q2, q3, q4, q5⟩ := h
  exact ⟨by rw [a.i (h1 9 (by omega))]; exact q1, by rw [a.i (h1 10 (by omega))]; exact q2, by rw [a.i (h1 4 (by omega))]; exact q3, fun z => by rw [a.i (h1 5 (by omega)), a.j (h1 6 (by omega))]; exact q4 z, fun z => by rw [a.i (h1 5 (by omega))]; exact q5 z⟩
theorem TkX0_rd (h : TkX0 μ U e) {k : Nat} (hk : k < e) : rdB μ 10 900 (nI k) = some (mB μ 10 k) := rdB_n (by have := h.1; omega) (by omega)
theorem X_word (h : TkX0 μ U e) (hF : 2000000 ≤ F) {s : Nat} (hs : s < e) (h9 : mI μ 9 9 = nI s) (h10 : mI μ 9 10 = nI s) : ∃ ν, f_X9_lookAtWord F μ = some ν ∧ mI ν 9 10 = nI (stp isLt U (e - s) s) ∧ mI ν 9 4 = 1 ∧ mI ν 9 5 = oI (if stp isLt U (e - s) s - s ≤ 8 then swI (wrd U s (stp isLt U (e - s) s - s)) else none) ∧ (mJ ν 9 6 = if stp isLt U (e - s) s - s ≤ 8 then lN (wrd U s (stp isLt U (e - s) s - s)) else 0) ∧ Ag (fun a k => a = 9 ∧ (k = 4 ∨ k = 5 ∨ k = 6 ∨ k = 10)) μ ν := by
  have he := h.1
  have hb := stp_b (q := isLt) (U := U) (n := e - s) (p := s)
  have hin : ∀ j, s ≤ j → j < stp isLt U (e - s) s → isLt (U j) = true := fun j h1 h2 => stp_in h1 h2
  have hno : stp isLt U (e - s) s < s + (e - s) → ¬ isLt (U (stp isLt U (e - s) s)) = true := stp_no
  generalize stp isLt U (e - s) s = q at hb hin hno ⊢
  let wX : Nat → Int64 := fun j => if j ≤ 8 then lN (wrd U s j) else 0
  have step : ∀ (KK : Int64 → Mm → Option Mm) j v ν, j < q - s → (v = wX j ∧ mI ν 9 10 = nI (s + j) ∧ Ag (fun a k => a = 9 ∧ k = 10) μ ν) → ∃ v' ν', (v' = wX (j + 1) ∧ mI ν' 9 10 = nI (s + (j + 1)) ∧ Ag (fun a k => a = 9 ∧ k = 10) μ ν') ∧ ∀ n, L_X9_lookAtWord_2 F KK (n + 1) v ν = L_X9_lookAtWord_2 F KK n v' ν' := by
    rintro KK j v ν hj ⟨rfl, i1, i2⟩
    have hl := of_decide_eq_true (hin (s + j) (by omega) (by omega))
    have hB := h.2.2.1 (s + j) (by omega)
    have b0 : mB ν 10 (s + j) = mB μ 10 (s + j) := i2.b (by omega)
    have r0 : rdB ν 10 900 (nI (s + j)) = some (mB μ 10 (s + j)) := by rw [rdB_n (by omega) (by omega), b0]
    have n9 : mI ν 9 9 = nI s := by rw [i2.i (by omega)]; exact h9
    have n11 : mI ν 9 11 = nI e := by rw [i2.i (by omega)]; exact h.2.1
    refine ⟨wX (j + 1), sI ν 9 10 (nI (s + (j + 1))), ⟨rfl, rfl, i2.tr (Ag.sI ⟨rfl, rfl⟩)⟩, fun n => ?_⟩
    rw [L_X9_lookAtWord_2_s, n11, i1, n9, if_neg (fun z => by have := (nIle (by omega) (by omega)).mp z; omega), r0, Option.bind_some, if_neg (fun z => by have := (BY_lt hB (n := 97) (by omega)).mp z; omega), Option.bind_some, if_neg (fun z => by have := (BY_gt hB (n := 122) (by omega)).mp z; omega)]
    simp only [jn]
    rw [nIsub (by omega), show s + j - s = j by omega, nI_1]
    by_cases q8 : 8 ≤ j
    · rw [if_pos ((Lle (n := 8) (by omega) (by decide)).mpr q8)]
      show _ = L_X9_lookAtWord_2 F KK n (if j + 1 ≤ 8 then lN (wrd U s (j + 1)) else 0) _
      rw [if_neg (by omega)]
      rfl
    · rw [if_neg (fun z => q8 ((Lle (n := 8) (by omega) (by decide)).mp z)), Option.bind_some]
      show L_X9_lookAtWord_2 F KK n ((if j ≤ 8 then lN (wrd U s j) else 0) * 32 + (mB μ 10 (s + j)).toInt64 - 96) _ = L_X9_lookAtWord_2 F KK n (if j + 1 ≤ 8 then lN (wrd U s (j + 1)) else 0) _
      rw [if_pos (by omega), if_pos (by omega), hB.2.2.1 (by omega), nI_L (by omega), wrd_n, show (32 : Int64) = lN 32 from rfl, show (96 : Int64) = lN 96 from rfl, lN_mul, lN_add, lN_sub (by omega), show wrd U s j * 32 + U (s + j) - 96 = 32 * wrd U s j + (U (s + j) - 96) by omega]
      rfl
  have wfin : q - s ≤ 8 → wrd U s (q - s) < 1099511627776 ∧ True := fun z => by
    have := (wrd_lt (U := U) (s := s) (n := q - s) (fun j hj => hin (s + j) (by omega) (by omega))).1
    have h32 : 32 ^ (q - s) ≤ 32 ^ 8 := Nat.pow_le_pow_right (by omega) z
    have h328 : 32 ^ 8 = 1099511627776 := by decide
    exact ⟨by omega, trivial⟩
  let pr : Nat → Bool := fun i => decide (q - s ≤ 8 ∧ swN i = wrd U s (q - s))
  have step2 : ∀ (μ10 : Mm), (∀ i, i < 28 → mL μ10 11 i = swT i) → ∀ i v ν, i < 28 → (v = nI i ∧ mI ν 9 5 = oI (fndF pr 0 i) ∧ Ag (fun a k => a = 9 ∧ k = 5) μ10 ν) → ∃ v' ν', (v' = nI (i + 1) ∧ mI ν' 9 5 = oI (fndF pr 0 (i + 1)) ∧ Ag (fun a k => a = 9 ∧ k = 5) μ10 ν') ∧ ∀ n, L_X9_lookAtWord_110 F (wX (q - s)) (fun μ12 => some μ12) (n + 1) v ν = L_X9_lookAtWord_110 F (wX (q - s)) (fun μ12 => some μ12) n v' ν' := by
    rintro μ10 hsw i v ν hi ⟨rfl, i1, i2⟩
    have hsi := sw_lt i hi
    have r0 : rdL ν 11 28 (nI i) = some (swT i) := by rw [rdL_n hi (by omega), i2.l (by omega), hsw i hi]
    have hpr : swT i = wX (q - s) ↔ pr i = true := by
      show lN (swN i) = (if q - s ≤ 8 then lN (wrd U s (q - s)) else 0) ↔ decide (q - s ≤ 8 ∧ swN i = wrd U s (q - s)) = true
      rw [decide_eq_true_eq]
      by_cases z : q - s ≤ 8
      · have := (wfin z).1
        rw [if_pos z, lN_e (by omega) (by omega)]
        exact ⟨fun y => ⟨z, y⟩, fun y => y.2⟩
      · rw [if_neg z]
        constructor
        · intro y
          have y2 := (lN_e (a := swN i) (b := 0) (by omega) (by omega)).mp y
          omega
        · intro y; exact absurd y.1 z
    have n28 : ¬ (28 : Int32) ≤ nI i := fun z => by have z2 : 28 ≤ i := (Lle (n := 28) (by omega) (by decide)).mp z; omega
    by_cases hp : pr i = true
    · have hf : fndF pr 0 i = none := fnd_nn (fun j _ hj => bf (fun z => by
        have z1 := (of_decide_eq_true hp).2
        have z2 := (of_decide_eq_true z).2
        have := sw_inj j (by omega) i hi (by rw [z2, z1])
        omega))
      refine ⟨nI (i + 1), sI ν 9 5 (nI i), ⟨rfl, ?_, i2.tr (Ag.sI ⟨rfl, rfl⟩)⟩, fun n => ?_⟩
      · rw [fnd_sn, hf]; show nI i = oI (if pr i = true then some i else none); rw [if_pos hp]; rfl
      · rw [L_X9_lookAtWord_110_s, if_neg n28, r0, Option.bind_some, if_pos (lg_0.mpr (hpr.mpr hp)), nI_1]
    · refine ⟨nI (i + 1), ν, ⟨rfl, ?_, i2⟩, fun n => ?_⟩
      · rw [i1, fnd_sn]
        cases fndF pr 0 i with
        | none => show _ = oI (if pr i = true then some i else none); rw [if_neg hp]
        | some l => rfl
      · rw [L_X9_lookAtWord_110_s, if_neg n28, r0, Option.bind_some, if_neg (fun z => hp (hpr.mp (lg_0.mp z))), nI_1]
  unfold f_X9_lookAtWord
  obtain ⟨v, ν, n, ⟨y1, y2, y3⟩, ee⟩ := iterI2 (L := L_X9_lookAtWord_2 F (fun u8 μ9 => L_X9_lookAtWord_110 F u8 (fun μ12 => some μ12) F 0 (sI (sJ (sI μ9 9 4 1) 9 6 u8) 9 5 (-1)))) (F := F) (N := q - s) _ (by omega) (step _) (a := 0) (b := μ) ⟨by show (0 : Int64) = if 0 ≤ 8 then lN (wrd U s 0) else 0; rfl, h10, Ag.rf⟩
  rw [show s + (q - s) = q by omega] at y2
  have n11 : mI ν 9 11 = nI e := by rw [y3.i (by omega)]; exact h.2.1
  have fin : ∀ KK : Int64 → Mm → Option Mm, L_X9_lookAtWord_2 F KK (n + 1) v ν = KK v ν := by
    intro KK
    rw [L_X9_lookAtWord_2_s, n11, y2]
    by_cases qe : q = e
    · rw [if_pos ((nIle (by omega) (by omega)).mpr (by omega))]
    · have hB := h.2.2.1 q (by omega)
      have hn := hno (by omega)
      have r0 : rdB ν 10 900 (nI q) = some (mB μ 10 q) := by rw [rdB_n (by omega) (by omega), y3.b (by omega)]
      rw [if_neg (fun z => by have := (nIle (by omega) (by omega)).mp z; omega), r0, Option.bind_some]
      by_cases z1 : U q < 97 ∨ 128 ≤ U q
      · rw [if_pos (show _ < (97 : Int32) from (BY_lt hB (n := 97) (by omega)).mpr z1)]
      · rw [if_neg (show ¬ _ < (97 : Int32) from fun z => z1 ((BY_lt hB (n := 97) (by omega)).mp z)), Option.bind_some, if_pos (show (122 : Int32) < _ from (BY_gt hB (n := 122) (by omega)).mpr (by
          have : ¬ (97 ≤ U q ∧ U q ≤ 122) := fun z => hn (decide_eq_true z)
          omega))]
  rw [ee, fin]
  obtain ⟨μ10, hμ10⟩ : ∃ μ10, μ10 = sI (sJ (sI ν 9 4 1) 9 6 v) 9 5 (-1) := ⟨_, rfl⟩
  have B1 : Ag (fun a k => a = 9 ∧ (k = 4 ∨ k = 5 ∨ k = 6 ∨ k = 10)) μ μ10 := by
    rw [hμ10]
    exact (((y3.mono (fun a k z => ⟨z.1, by omega⟩)).tr (Ag.sI ⟨rfl, by omega⟩)).tr (Ag.sJ ⟨rfl, by omega⟩)).tr (Ag.sI ⟨rfl, by omega⟩)
  rw [← hμ10, y1]
  obtain ⟨v2, ν2, n2, ⟨u1, u2, u3⟩, ee2⟩ := iterI2 (L := L_X9_lookAtWord_110 F (wX (q - s)) (fun μ12 => some μ12)) (F := F) (N := 28) _ (by omega) (step2 μ10 (fun i hi => by rw [B1.l (by omega)]; exact h.2.2.2 i hi)) (a := 0) (b := μ10) ⟨rfl, by rw [hμ10]; rfl, Ag.rf⟩
  refine ⟨ν2, ?_, ?_, ?_, ?_, ?_, B1.tr (u3.mono (fun a k z => ⟨z.1, by omega⟩))⟩
  · rw [ee2, L_X9_lookAtWord_110_s, u1, if_pos (by decide)]
  · rw [u3.i (by omega), hμ10]; exact y2
  · rw [u3.i (by omega), hμ10]; rfl
  · rw [u2]
    by_cases z : q - s ≤ 8
    · rw [if_pos z]
      congr 1
      exact fndF_cong (fun j _ _ => by show decide (q - s ≤ 8 ∧ swN j = wrd U s (q - s)) = decide (swN j = wrd U s (q - s)); apply decide_eq_decide.mpr; exact ⟨fun y => y.2, fun y => ⟨z, y⟩⟩)
    · rw [if_neg z, fnd_nn (fun j _ _ => by show decide (q - s ≤ 8 ∧ swN j = wrd U s (q - s)) = false; exact decide_eq_false (fun y => z y.1))]
  · rw [u3.j (by omega), hμ10]; exact y1
theorem X_num (h : TkX0 μ U e) (hF : 2000000 ≤ F) {s : Nat} (hs : s < e) (h9 : mI μ 9 9 = nI s) (h10 : mI μ 9 10 = nI s) : ∃ ν, f_X9_lookAtNumber F μ = some ν ∧ mI ν 9 10 = nI (stp isDg U (e - s) s) ∧ (mI ν 9 4 = nI (if stp isDg U (e - s) s - s ≤ 4 then 2 else 4)) ∧ mI ν 9 5 = nI (nmb U s (min (stp isDg U (e - s) s - s) 4)) ∧ Ag (fun a k => a = 9 ∧ (k = 4 ∨ k = 5 ∨ k = 10)) μ ν := by
  have he := h.1
  have hb := stp_b (q := isDg) (U := U) (n := e - s) (p := s)
  have hin : ∀ j, s ≤ j → j < stp isDg U (e - s) s → isDg (U j) = true := fun j h1 h2 => stp_in h1 h2
  have hno : stp isDg U (e - s) s < s + (e - s) → ¬ isDg (U (stp isDg U (e - s) s)) = true := stp_no
  generalize stp isDg U (e - s) s = q at hb hin hno ⊢
  have step : ∀ (KK : Mm → Option Mm) j ν, j < q - s → (mI ν 9 10 = nI (s + j) ∧ mI ν 9 5 = nI (nmb U s (min j 4)) ∧ Ag (fun a k => a = 9 ∧ (k = 5 ∨ k = 10)) μ ν) → ∃ ν', (mI ν' 9 10 = nI (s + (j + 1)) ∧ mI ν' 9 5 = nI (nmb U s (min (j + 1) 4)) ∧ Ag (fun a k => a = 9 ∧ (k = 5 ∨ k = 10)) μ ν') ∧ ∀ n, L_X9_lookAtNumber_5 F KK (n + 1) ν = L_X9_lookAtNumber_5 F KK n ν' := by
    rintro KK j ν hj ⟨i1, i3, i2⟩
    have hl := of_decide_eq_true (hin (s + j) (by omega) (by omega))
    have hB := h.2.2.1 (s + j) (by omega)
    have r0 : rdB ν 10 900 (nI (s + j)) = some (mB μ 10 (s + j)) := by rw [rdB_n (by omega) (by omega), i2.b (by omega)]
    have n9 : mI ν 9 9 = nI s := by rw [i2.i (by omega)]; exact h9
    have n11 : mI ν 9 11 = nI e := by rw [i2.i (by omega)]; exact h.2.1
    refine ⟨sI (sI ν 9 5 (nI (nmb U s (min (j + 1) 4)))) 9 10 (nI (s + (j + 1))), ⟨rfl, rfl, (i2.tr (Ag.sI ⟨rfl, Or.inl rfl⟩)).tr (Ag.sI ⟨rfl, Or.inr rfl⟩)⟩, fun n => ?_⟩
    rw [L_X9_lookAtNumber_5_s, n11, i1, n9, if_neg (fun z => by have := (nIle (by omega) (by omega)).mp z; omega), r0, Option.bind_some, if_neg (fun z => by have := (BY_lt hB (n := 48) (by omega)).mp z; omega), Option.bind_some, if_neg (fun z => by have := (BY_gt hB (n := 57) (by omega)).mp z; omega)]
    simp only [jn]
    rw [nIsub (by omega), show s + j - s = j by omega]
    have m10 : ∀ x : Int32, mI (sI ν 9 5 x) 9 10 + 1 = nI (s + (j + 1)) := fun x => by
      have : mI (sI ν 9 5 x) 9 10 = nI (s + j) := i1
      rw [this, nI_1]; rfl
    by_cases q4 : 4 ≤ j
    · rw [if_pos ((Lle (n := 4) (by omega) (by decide)).mpr q4), m10, i3, Nat.min_eq_right q4, Nat.min_eq_right (show 4 ≤ j + 1 by omega)]
    · rw [if_neg (fun z => q4 ((Lle (n := 4) (by omega) (by decide)).mp z)), Option.bind_some, m10, i3, Nat.min_eq_left (show j ≤ 4 by omega), Nat.min_eq_left (show j + 1 ≤ 4 by omega), nmb_n, hB.2.2.1 (by omega), mulL, subL (by show 48 ≤ _; omega), nI_add, Nat.mul_comm]
      try rfl
  unfold f_X9_lookAtNumber
  obtain ⟨ν, n, ⟨y1, y2, y3⟩, ee⟩ := iterI (L := L_X9_lookAtNumber_5 F (fun μ8 => some (sI μ8 9 4 (if 4 < ((mI μ8 9 10) - (mI μ8 9 9)) then (4 : Int32) else 2)))) (F := F) (N := q - s) (fun j ν => mI ν 9 10 = nI (s + j) ∧ mI ν 9 5 = nI (nmb U s (min j 4)) ∧ Ag (fun a k => a = 9 ∧ (k = 5 ∨ k = 10)) μ ν) (by omega) (step _) (a := sI μ 9 5 0) ⟨h10, rfl, Ag.sI ⟨rfl, Or.inl rfl⟩⟩
  rw [show s + (q - s) = q by omega] at y1
  have n11 : mI ν 9 11 = nI e := by rw [y3.i (by omega)]; exact h.2.1
  have n9 : mI ν 9 9 = nI s := by rw [y3.i (by omega)]; exact h9
  have fin : ∀ KK : Mm → Option Mm, L_X9_lookAtNumber_5 F KK (n + 1) ν = KK ν := by
    intro KK
    rw [L_X9_lookAtNumber_5_s, n11, y1]
    by_cases qe : q = e
    · rw [if_pos ((nIle (by omega) (by omega)).mpr (by omega))]
    · have hB := h.2.2.1 q (by omega)
      have hn := hno (by omega)
      have r0 : rdB ν 10 900 (nI q) = some (mB μ 10 q) := by rw [rdB_n (by omega) (by omega), y3.b (by omega)]
      rw [if_neg (fun z => by have := (nIle (by omega) (by omega)).mp z; omega), r0, Option.bind_some]
      by_cases z1 : U q < 48 ∨ 128 ≤ U q
      · rw [if_pos (show _ < (48 : Int32) from (BY_lt hB (n := 48) (by omega)).mpr z1)]
      · rw [if_neg (show ¬ _ < (48 : Int32) from fun z => z1 ((BY_lt hB (n := 48) (by omega)).mp z)), Option.bind_some, if_pos (show (57 : Int32) < _ from (BY_gt hB (n := 57) (by omega)).mpr (by
          have : ¬ (48 ≤ U q ∧ U q ≤ 57) := fun z => hn (decide_eq_true z)
          omega))]
  refine ⟨_, ee.trans (fin _), y1, ?_, y2, (y3.mono (fun a k z => ⟨z.1, by omega⟩)).tr (Ag.sI ⟨rfl, by omega⟩)⟩
  show (if 4 < (mI ν 9 10 - mI ν 9 9) then (4 : Int32) else 2) = _
  rw [y1, n9, nIsub (by omega)]
  by_cases z : q - s ≤ 4
  · rw [if_neg (fun y => by have y2 : 4 < q - s := (Llt (n := 4) (by omega) (by decide)).mp y; omega), if_pos z]; rfl
  · rw [if_pos ((Llt (n := 4) (by omega) (by decide)).mpr (by show 4 < q - s; omega)), if_neg z]; rfl
theorem X_advance (h : TkX0 μ U e) (hF : 2000000 ≤ F) (hp : p ≤ e) (h10 : mI μ 9 10 = nI p) : ∃ ν, f_X9_advance F μ = some ν ∧ TkX ν U e p ∧ Ag PA μ ν := by
  have he := h.1
  have hb := stp_b (q := isSp) (U := U) (n := e - p) (p := p)
  have hin : ∀ j, p ≤ j → j < tS U e p → isSp (U j) = true := fun j h1 h2 => stp_in h1 h2
  have hno : tS U e p < p + (e - p) → ¬ isSp (U (tS U e p)) = true := stp_no
  have hsb := tS_b (U := U) (e := e) (p := p)
  have step : ∀ (KK : Mm → Option Mm) j ν, j < tS U e p - p → (mI ν 9 10 = nI (p + j) ∧ Ag PA μ ν) → ∃ ν', (mI ν' 9 10 = nI (p + (j + 1)) ∧ Ag PA μ ν') ∧ ∀ n, L_X9_advance_0 F KK (n + 1) ν = L_X9_advance_0 F KK n ν' := by
    rintro KK j ν hj ⟨i1, i2⟩
    have hl := of_decide_eq_true (hin (p + j) (by omega) (by omega))
    have hB := h.2.2.1 (p + j) (by omega)
    have r0 : rdB ν 10 900 (nI (p + j)) = some (mB μ 10 (p + j)) := by rw [rdB_n (by omega) (by omega), i2.b (by omega)]
    have n11 : mI ν 9 11 = nI e := by rw [i2.i (by omega)]; exact h.2.1
    refine ⟨sI ν 9 10 (nI (p + (j + 1))), ⟨rfl, i2.tr (Ag.sI ⟨rfl, by omega⟩)⟩, fun n => ?_⟩
    rw [L_X9_advance_0_s, n11, i1, if_neg (fun z => by have := (nIle (by omega) (by omega)).mp z; omega), r0, Option.bind_some, nI_1]
    by_cases z : U (p + j) = 32
    · rw [if_pos (show _ = (32 : Int32) from (BY_eq hB (n := 32) (by omega)).mpr z)]; rfl
    · rw [if_neg (show ¬ _ = (32 : Int32) from fun y => z ((BY_eq hB (n := 32) (by omega)).mp y)), Option.bind_some, if_pos (show _ = (10 : Int32) from (BY_eq hB (n := 10) (by omega)).mpr (by omega))]; rfl
  unfold f_X9_advance
  obtain ⟨ν, n, ⟨y1, y2⟩, ee⟩ := iterI (L := L_X9_advance_0 F (fun μ3 => (if (mI (sI μ3 9 9 (mI μ3 9 10)) 9 10) < (mI (sI μ3 9 9 (mI μ3 9 10)) 9 11) then (rdB (sI μ3 9 9 (mI μ3 9 10)) 10 900 (mI (sI μ3 9 9 (mI μ3 9 10)) 9 10)).bind fun x5 => (f_X9_isLetter x5 (sI μ3 9 9 (mI μ3 9 10))).bind fun x6 => (if x6 = true then (f_X9_lookAtWord F (sI μ3 9 9 (mI μ3 9 10))).bind fun μ16 => some μ16 else (rdB (sI μ3 9 9 (mI μ3 9 10)) 10 900 (mI (sI μ3 9 9 (mI μ3 9 10)) 9 10)).bind fun x8 => (f_X9_isFigure x8 (sI μ3 9 9 (mI μ3 9 10))).bind fun x9 => (if x9 = true then (f_X9_lookAtNumber F (sI μ3 9 9 (mI μ3 9 10))).bind fun μ14 => some μ14 else (f_X9_lookAtSign (sI μ3 9 9 (mI μ3 9 10))).bind fun μ12 => some μ12)) else some (sI (sI μ3 9 9 (mI μ3 9 10)) 9 4 0)))) (F := F) (N := tS U e p - p) (fun j ν => mI ν 9 10 = nI (p + j) ∧ Ag PA μ ν) (by omega) (step _) (a := μ) ⟨h10, Ag.rf⟩
  rw [show p + (tS U e p - p) = tS U e p by omega] at y1
  have n11 : mI ν 9 11 = nI e := by rw [y2.i (by omega)]; exact h.2.1
  have fin : ∀ KK : Mm → Option Mm, L_X9_advance_0 F KK (n + 1) ν = KK ν := by
    intro KK
    rw [L_X9_advance_0_s, n11, y1]
    by_cases qe : tS U e p = e
    · rw [if_pos ((nIle (by omega) (by omega)).mpr (by omega))]
    · have hB := h.2.2.1 (tS U e p) (by omega)
      have hn := hno (by omega)
      have hn2 : ¬ (U (tS U e p) = 32 ∨ U (tS U e p) = 10) := fun z => hn (decide_eq_true z)
      have r0 : rdB ν 10 900 (nI (tS U e p)) = some (mB μ 10 (tS U e p)) := by rw [rdB_n (by omega) (by omega), y2.b (by omega)]
      rw [if_neg (fun z => by have := (nIle (by omega) (by omega)).mp z; omega), r0, Option.bind_some, if_neg (show ¬ _ = (32 : Int32) from fun y => hn2 (Or.inl ((BY_eq hB (n := 32) (by omega)).mp y))), Option.bind_some, if_neg (show ¬ _ = (10 : Int32) from fun y => hn2 (Or.inr ((BY_eq hB (n := 10) (by omega)).mp y)))]
  rw [ee, fin, y1]
  obtain ⟨μ4, hμ4⟩ : ∃ μ4, μ4 = sI ν 9 9 (nI (tS U e p)) := ⟨_, rfl⟩
  have A4 : Ag PA μ μ4 := by rw [hμ4]; exact y2.tr (Ag.sI ⟨rfl, by omega⟩)
  have T4 : TkX0 μ4 U e := TkX0_ag h A4 (by omega) (fun k => by omega) (fun k => by omega)
  have m9 : mI μ4 9 9 = nI (tS U e p) := by rw [hμ4]; rfl
  have m10 : mI μ4 9 10 = nI (tS U e p) := by rw [hμ4]; exact y1
  rw [← hμ4, m10, T4.2.1]
  by_cases c0 : e ≤ tS U e p
  · rw [if_neg (fun z => by have := (nIlt (by omega) (by omega)).mp z; omega)]
    have k0 : tK U e p = 0 := by unfold tK; rw [if_pos c0]
    have n0 : tN U e p = tS U e p := by unfold tN; rw [if_pos c0]
    exact ⟨_, rfl, ⟨m9, by rw [n0]; exact m10, by rw [k0]; rfl, fun z => by omega, fun z => by omega⟩, A4.tr (Ag.sI ⟨rfl, by omega⟩)⟩
  · have hB := h.2.2.1 (tS U e p) (by omega)
    have r0 : rdB μ4 10 900 (nI (tS U e p)) = some (mB μ 10 (tS U e p)) := by rw [rdB_n (by omega) (by omega), A4.b (by omega)]
    have il : f_X9_isLetter (mB μ 10 (tS U e p)) μ4 = some (isLt (U (tS U e p))) := by
      unfold f_X9_isLetter isLt
      by_cases z1 : U (tS U e p) < 97 ∨ 128 ≤ U (tS U e p)
      · rw [if_pos (show _ < (97 : Int32) from (BY_lt hB (n := 97) (by omega)).mpr z1), decide_eq_false (by omega)]
      · rw [if_neg (show ¬ _ < (97 : Int32) from fun z => z1 ((BY_lt hB (n := 97) (by omega)).mp z))]
        by_cases z2 : 122 < U (tS U e p)
        · rw [if_pos (show (122 : Int32) < _ from (BY_gt hB (n := 122) (by omega)).mpr (by omega)), decide_eq_false (by omega)]
        · rw [if_neg (fun z => by have := (BY_gt hB (n := 122) (by omega)).mp z; omega), decide_eq_true (by omega)]
    have ig : f_X9_isFigure (mB μ 10 (tS U e p)) μ4 = some (isDg (U (tS U e p))) := by
      unfold f_X9_isFigure isDg
      by_cases z1 : U (tS U e p) < 48 ∨ 128 ≤ U (tS U e p)
      · rw [if_pos (show _ < (48 : Int32) from (BY_lt hB (n := 48) (by omega)).mpr z1), decide_eq_false (by omega)]
      · rw [if_neg (show ¬ _ < (48 : Int32) from fun z => z1 ((BY_lt hB (n := 48) (by omega)).mp z))]
        by_cases z2 : 57 < U (tS U e p)
        · rw [if_pos (show (57 : Int32) < _ from (BY_gt hB (n := 57) (by omega)).mpr (by omega)), decide_eq_false (by omega)]
        · rw [if_neg (fun z => by have := (BY_gt hB (n := 57) (by omega)).mp z; omega), decide_eq_true (by omega)]
    rw [if_pos ((nIlt (by omega) (by omega)).mpr (by omega)), r0, Option.bind_some, il, Option.bind_some]
    by_cases c1 : isLt (U (tS U e p)) = true
    · obtain ⟨ξ, x1, x2, x3, x4, x5, x6⟩ := X_word T4 hF (by omega) m9 m10
      have k1 : tK U e p = 1 := by unfold tK; rw [if_neg c0, if_pos c1]
      have n1 : tN U e p = stp isLt U (e - tS U e p) (tS U e p) := by unfold tN; rw [if_neg c0, if_pos c1]
      have l1 : tL U e p = stp isLt U (e - tS U e p) (tS U e p) - tS U e p := by unfold tL; rw [n1]
      rw [if_pos c1, x1]
      refine ⟨ξ, rfl, ⟨by rw [x6.i (by omega)]; exact m9, by rw [n1]; exact x2, by rw [k1]; exact x3, fun _ => ⟨?_, ?_⟩, fun z => by omega⟩, A4.tr (x6.mono (fun a k z => ⟨z.1, by omega⟩))⟩
      · rw [x4, ← l1]
        unfold tO tW
        by_cases z : tL U e p ≤ 8
        · rw [if_pos z, if_pos ⟨k1, z⟩]
        · rw [if_neg z, if_neg (fun y => z y.2)]
      · rw [x5, ← l1]
        rfl
    · rw [if_neg c1, Option.bind_some, ig, Option.bind_some]
      by_cases c2 : isDg (U (tS U e p)) = true
      · obtain ⟨ξ, x1, x2, x3, x4, x5⟩ := X_num T4 hF (by omega) m9 m10
        have n1 : tN U e p = stp isDg U (e - tS U e p) (tS U e p) := by unfold tN; rw [if_neg c0, if_neg c1, if_pos c2]
        have k1 : tK U e p = if tN U e p - tS U e p ≤ 4 then 2 else 4 := by unfold tK; rw [if_neg c0, if_neg c1, if_pos c2]
        rw [if_pos c2, x1]
        rw [← n1] at x2 x3 x4
        refine ⟨ξ, rfl, ⟨by rw [x5.i (by omega)]; exact m9, x2, by rw [k1]; exact x3, fun z => ?_, fun z => ?_⟩, A4.tr (x5.mono (fun a k z => ⟨z.1, by omega⟩))⟩
        · rw [k1] at z; split at z <;> omega
        · rw [x4]
          unfold tV
          rw [if_neg (by rw [k1]; split <;> omega)]
          rfl
      · rw [if_neg c2]
        have n1 : tN U e p = tS U e p + 1 := by unfold tN; rw [if_neg c0, if_neg c1, if_neg c2]
        have k1 : tK U e p = if isSg (U (tS U e p)) = true then 3 else 4 := by unfold tK; rw [if_neg c0, if_neg c1, if_neg c2]
        unfold f_X9_lookAtSign
        rw [m10, r0, Option.bind_some, Option.bind_some]
        have s5 : mI (sI μ4 9 5 (mB μ 10 (tS U e p))) 9 5 = mB μ 10 (tS U e p) := rfl
        have s10 : ∀ x : Int32, mI (sI (sI μ4 9 5 (mB μ 10 (tS U e p))) 9 4 x) 9 10 = nI (tS U e p) := fun x => m10
        rw [s5, s10, nI_1]
        have kv : (if (if mB μ 10 (tS U e p) = 59 then (1 : Int32) else (if mB μ 10 (tS U e p) = 60 then (1 : Int32) else (if mB μ 10 (tS U e p) = 62 then (1 : Int32) else (if mB μ 10 (tS U e p) = 61 then (1 : Int32) else 0)))) = 0 then (4 : Int32) else 3) = nI (if isSg (U (tS U e p)) = true then 3 else 4) := by
          have e1 := BY_eq hB (n := 59) (by omega)
          have e2 := BY_eq hB (n := 60) (by omega)
          have e3 := BY_eq hB (n := 62) (by omega)
          have e4 := BY_eq hB (n := 61) (by omega)
          unfold isSg
          by_cases z1 : U (tS U e p) = 59
          · rw [if_pos (show mB μ 10 (tS U e p) = 59 from e1.mpr z1), if_neg (by decide), if_pos (decide_eq_true (Or.inl z1))]; rfl
          · rw [if_neg (show ¬ mB μ 10 (tS U e p) = 59 from fun y => z1 (e1.mp y))]
            by_cases z2 : U (tS U e p) = 60
            · rw [if_pos (show mB μ 10 (tS U e p) = 60 from e2.mpr z2), if_neg (by decide), if_pos (decide_eq_true (Or.inr (Or.inl z2)))]; rfl
            · rw [if_neg (show ¬ mB μ 10 (tS U e p) = 60 from fun y => z2 (e2.mp y))]
              by_cases z3 : U (tS U e p) = 62
              · rw [if_pos (show mB μ 10 (tS U e p) = 62 from e3.mpr z3), if_neg (by decide), if_pos (decide_eq_true (Or.inr (Or.inr (Or.inl z3))))]; rfl
              · rw [if_neg (show ¬ mB μ 10 (tS U e p) = 62 from fun y => z3 (e3.mp y))]
                by_cases z4 : U (tS U e p) = 61
                · rw [if_pos (show mB μ 10 (tS U e p) = 61 from e4.mpr z4), if_neg (by decide), if_pos (decide_eq_true (Or.inr (Or.inr (Or.inr z4))))]; rfl
                · rw [if_neg (show ¬ mB μ 10 (tS U e p) = 61 from fun y => z4 (e4.mp y)), if_pos rfl, if_neg (by rw [decide_eq_false (by omega)]; decide)]; rfl
        rw [kv, ← k1]
        refine ⟨_, rfl, ⟨m9, by rw [n1]; rfl, rfl, fun z => ?_, fun z => ?_⟩, ((A4.tr (Ag.sI ⟨rfl, by omega⟩)).tr (Ag.sI ⟨rfl, by omega⟩)).tr (Ag.sI ⟨rfl, by omega⟩)⟩
        · rw [k1] at z; split at z <;> omega
        · have z3 : tK U e p = 3 := by
            rcases z with z | z
            · rw [k1] at z; split at z <;> omega
            · exact z
          obtain ⟨v1, v2⟩ := tV_3 z3
          show mB μ 10 (tS U e p) = _
          rw [v1]
          exact hB.2.2.1 (by omega)
/-! what is asked of the token -/
theorem X_setWord (h : TkX μ U e p) : f_X9_setWord μ = some (oI (tO U e p)) := by
  unfold f_X9_setWord
  rw [h.2.2.1]
  have := tK_le (U := U) (e := e) (p := p)
  by_cases z : tK U e p = 1
  · rw [if_pos ((eqL (n := 1) (by omega) (by decide)).mpr z), (h.2.2.2.1 z).1]
  · rw [if_neg (fun y => z ((eqL (n := 1) (by omega) (by decide)).mp y))]
    unfold tO
    rw [if_neg (fun y => z y.1)]
    rfl
theorem X_isName (h : TkX μ U e p) : f_X9_isName μ = some (tM U e p) := by
  unfold f_X9_isName tM
  rw [h.2.2.1]
  have := tK_le (U := U) (e := e) (p := p)
  by_cases z : tK U e p = 1
  · obtain ⟨h1, h2⟩ := h.2.2.2.1 z
    rw [if_pos ((eqL (n := 1) (by omega) (by decide)).mpr z), h1, h2]
    by_cases z8 : tL U e p ≤ 8
    · have ho : tO U e p = swI (tW U e p) := by unfold tO; rw [if_pos ⟨z, z8⟩]
      have hw := tW_lt z z8
      rw [if_pos z8, ho]
      cases hs : swI (tW U e p) with
      | none =>
        rw [if_pos oI_none, if_neg (fun y => by
          have := (lN_e (a := tW U e p) (b := 0) (by omega) (by omega)).mp (lg_0.mp y)
          omega), decide_eq_true ⟨z, z8, rfl⟩]
      | some i =>
        have := swI_lt hs
        rw [oI_some, if_neg (by rw [neg_ne (by omega)]; exact id), decide_eq_false (fun y => by cases y.2.2)]
    · have ho : tO U e p = none := by unfold tO; rw [if_neg (fun y => z8 y.2)]
      rw [if_neg z8, ho, if_pos oI_none, if_pos (lg_0.mpr rfl), decide_eq_false (fun y => z8 y.2.1)]
  · rw [if_neg (fun y => z ((eqL (n := 1) (by omega) (by decide)).mp y)), decide_eq_false (fun y => z y.1)]
end TOKX
