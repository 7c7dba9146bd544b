/-! ===== a text read as nights: what it is ===== -/
/-- place, items, orders, open ones, their items, the rows -/
abbrev NT : Type := Nat × Nat × Nat × Nat × (Nat → Nat) × (Nat → Nat → Int32)
/-- behind the rest of an order: place, word, number, cell, sign -/
abbrev RR : Type := Nat × Nat × Nat × Nat × Nat
def updW (ω : Nat → Nat → Int32) (j i : Nat) (x : Int32) : Nat → Nat → Int32 := fun j' k => if j' = j ∧ k = i then x else ω j' k
def setI (ω : Nat → Nat → Int32) (i : Nat) (a b c d f : Int32) : Nat → Nat → Int32 := updW (updW (updW (updW (updW ω 1 i a) 2 i b) 3 i c) 4 i d) 5 i f
theorem updW_ne {ω : Nat → Nat → Int32} {j i j' k : Nat} {x : Int32} (h : ¬ (j' = j ∧ k = i)) : updW ω j i x j' k = ω j' k := if_neg h
theorem updW_eq {ω : Nat → Nat → Int32} {j i : Nat} {x : Int32} : updW ω j i x j i = x := if_pos ⟨rfl, rfl⟩
theorem setI_lo {ω : Nat → Nat → Int32} {i j k : Nat} {a b c d f : Int32} (h : k ≠ i) : setI ω i a b c d f j k = ω j k := by
  unfold setI
  rw [updW_ne (by omega), updW_ne (by omega), updW_ne (by omega), updW_ne (by omega), updW_ne (by omega)]
theorem setI_1 {ω : Nat → Nat → Int32} {i : Nat} {a b c d f : Int32} : setI ω i a b c d f 1 i = a := by unfold setI; rw [updW_ne (by omega), updW_ne (by omega), updW_ne (by omega), updW_ne (by omega), updW_eq]
theorem setI_2 {ω : Nat → Nat → Int32} {i : Nat} {a b c d f : Int32} : setI ω i a b c d f 2 i = b := by unfold setI; rw [updW_ne (by omega), updW_ne (by omega), updW_ne (by omega), updW_eq]
theorem setI_3 {ω : Nat → Nat → Int32} {i : Nat} {a b c d f : Int32} : setI ω i a b c d f 3 i = c := by unfold setI; rw [updW_ne (by omega), updW_ne (by omega), updW_eq]
theorem setI_4 {ω : Nat → Nat → Int32} {i : Nat} {a b c d f : Int32} : setI ω i a b c d f 4 i = d := by unfold setI; rw [updW_ne (by omega), updW_eq]
theorem setI_5 {ω : Nat → Nat → Int32} {i : Nat} {a b c d f : Int32} : setI ω i a b c d f 5 i = f := by unfold setI; rw [updW_eq]
def wayO (o : Option Nat) : Option Nat := if o = some 14 then some 0 else if o = some 15 then some 1 else if o = some 8 then some 2 else if o = some 9 then some 3 else if o = some 16 then some 4 else none
def isOr (i : Nat) : Bool := decide (i = 13 ∨ i = 17 ∨ i = 18 ∨ i = 19 ∨ i = 20 ∨ i = 21 ∨ i = 25 ∨ i = 27)
def opn (i : Nat) : Bool := decide (i = 21 ∨ i = 25)
section NSPEC
variable (U : Nat → Nat) (e : Nat) (β : Nat → Nat) (nm : Nat → Int64)
def celS (q : Nat) : Sum Flt (Nat × Nat) := sb (nmS U e β nm q) fun a => sb (numS U e 0 (β 2 - 1) a.2) fun c => .inr (β 2 * a.1 + c.1, c.2)
def cmpS (q : Nat) : Sum Flt (Nat × Nat) := if tK U e q = 3 ∧ tV U e q ≠ 59 then .inr (tV U e q, tN U e q) else .inl (unf U e q)
def tstS (q : Nat) : Sum Flt RR := if tO U e q = some 24 then .inr (tN U e q, 24, 0, 0, 0) else if tO U e q = some 23 then sb (celS U e β nm (tN U e q)) fun c => sb (cmpS U e c.2) fun s => sb (numS U e 0 9 s.2) fun v => .inr (v.2, 23, v.1, c.1, s.1) else if tO U e q = some 22 then sb (cmpS U e (tN U e q)) fun s => sb (numS U e 0 99 s.2) fun v => .inr (v.2, 22, v.1, 0, s.1) else .inl (unf U e q)
def rstS (i q : Nat) : Sum Flt RR := if i = 21 then tstS U e β nm q else if i = 13 then (match wayO (tO U e q) with | none => .inl (unf U e q) | some v => .inr (tN U e q, 13, v, 0, 0)) else if i = 17 then sb (numS U e 1 24 q) fun v => .inr (v.2, 17, v.1, 0, 0) else if i = 18 ∨ i = 19 then sb (celS U e β nm q) fun c => .inr (c.2, i, 0, c.1, 0) else if i = 25 then sb (numS U e 1 99 q) fun v => .inr (v.2, 25, v.1, 0, 0) else .inr (q, i, 0, 0, 0)
/-- one order -/
def ordS (i : Nat) (S : NT) : Sum Flt NT := if 30 ≤ S.2.2.1 then .inl (6, tS U e S.1) else if opn i = true ∧ 3 ≤ S.2.2.2.1 then .inl (7, tS U e S.1) else sb (rstS U e β nm i (tN U e S.1)) fun r => sb (endS U e r.1) fun q => .inr (q, S.2.1 + 1, S.2.2.1 + 1, (if opn i = true then S.2.2.2.1 + 1 else S.2.2.2.1), (if opn i = true then updN S.2.2.2.2.1 S.2.2.2.1 S.2.1 else S.2.2.2.2.1), setI S.2.2.2.2.2 S.2.1 (nI r.2.1) (nI r.2.2.1) (nI r.2.2.2.1) (nI r.2.2.2.2) (nI S.2.1))
/-- an end -/
def ndS (S : NT) : Sum Flt NT := if S.2.2.2.1 = 0 then .inl (unf U e S.1) else sb (endS U e (tN U e S.1)) fun q => .inr (q, S.2.1 + 1, S.2.2.1, S.2.2.2.1 - 1, S.2.2.2.2.1, updW (setI S.2.2.2.2.2 S.2.1 26 0 0 0 (nI (S.2.2.2.2.1 (S.2.2.2.1 - 1)))) 5 (S.2.2.2.2.1 (S.2.2.2.1 - 1)) (nI S.2.1))
def nst (S : NT) : Sum Flt NT := match tO U e S.1 with
  | none => .inl (unf U e S.1)
  | some i => if i = 26 then ndS U e S else if isOr i = true then ordS U e β nm i S else .inl (unf U e S.1)
def nrn : Nat → NT → Sum Flt NT
  | 0, S => .inr S
  | n + 1, S => if tK U e S.1 = 0 then (if S.2.2.2.1 = 0 then .inr S else .inl (unf U e S.1)) else sb (nst U e β nm S) (nrn n)
end NSPEC
def NI (e : Nat) (S : NT) : Prop := S.1 ≤ e ∧ S.2.1 + S.2.2.2.1 ≤ 2 * S.2.2.1 ∧ S.2.2.1 ≤ 30 ∧ S.2.2.2.1 ≤ 3 ∧ ∀ q, q < S.2.2.2.1 → S.2.2.2.2.1 q < S.2.1
section NSPEC2
variable {U : Nat → Nat} {e : Nat} {β : Nat → Nat} {nm : Nat → Int64}
theorem cel_ok {q : Nat} {x : Nat × Nat} (w : WF β) (hq : q ≤ e) (h : celS U e β nm q = .inr x) : x.1 < cl β ∧ q < x.2 ∧ x.2 ≤ e := by
  unfold celS at h
  obtain ⟨a, a1, a2⟩ := sb_ok h
  obtain ⟨c, c1, c2⟩ := sb_ok a2
  obtain ⟨n1, n2, n3⟩ := nm_ok hq a1
  obtain ⟨m1, m2, m3, m4, -, -⟩ := num_ok n3 c1
  cases c2
  have w1 := w.1.2.1
  exact ⟨pl_lt n1 (by omega), by show q < c.2; omega, m4⟩
theorem cmp_ok {q : Nat} {x : Nat × Nat} (hq : q ≤ e) (h : cmpS U e q = .inr x) : q < x.2 ∧ x.2 ≤ e ∧ x.1 = tV U e q ∧ tK U e q = 3 := by
  unfold cmpS at h
  split at h
  · rename_i z
    cases h
    have := tK0_le hq (by omega : tK U e q ≠ 0)
    exact ⟨this.1, this.2, rfl, z.1⟩
  · cases h
theorem wayO_le {o : Option Nat} {v : Nat} (h : wayO o = some v) : v ≤ 4 ∧ o ≠ none := by
  unfold wayO at h
  repeat' split at h
  all_goals first | (rename_i z; cases h; exact ⟨by omega, by rw [z]; exact fun y => by cases y⟩) | cases h
theorem rst_ok {i q : Nat} {r : RR} (w : WF β) (hq : q ≤ e) (h : rstS U e β nm i q = .inr r) : q ≤ r.1 ∧ r.1 ≤ e := by
  unfold rstS at h
  split at h
  · unfold tstS at h
    split at h
    · cases h; exact tN_le hq
    · split at h
      · rename_i z
        obtain ⟨c, c1, c2⟩ := sb_ok h
        obtain ⟨s, s1, s2⟩ := sb_ok c2
        obtain ⟨v, v1, v2⟩ := sb_ok s2
        cases v2
        have t := tN_le (U := U) hq
        have n1 := cel_ok w t.2 c1
        have n2 := cmp_ok n1.2.2 s1
        have n3 := num_ok n2.2.1 v1
        exact ⟨by show q ≤ v.2; omega, n3.2.2.2.1⟩
      · split at h
        · obtain ⟨s, s1, s2⟩ := sb_ok h
          obtain ⟨v, v1, v2⟩ := sb_ok s2
          cases v2
          have t := tN_le (U := U) hq
          have n2 := cmp_ok t.2 s1
          have n3 := num_ok n2.2.1 v1
          exact ⟨by show q ≤ v.2; omega, n3.2.2.2.1⟩
        · cases h
  · split at h
    · cases hw : wayO (tO U e q) with
      | none => rw [hw] at h; cases h
      | some v => rw [hw] at h; cases h; exact tN_le hq
    · split at h
      · obtain ⟨v, v1, v2⟩ := sb_ok h
        cases v2
        have n3 := num_ok hq v1
        exact ⟨by show q ≤ v.2; omega, n3.2.2.2.1⟩
      · split at h
        · obtain ⟨c, c1, c2⟩ := sb_ok h
          cases c2
          have n1 := cel_ok w hq c1
          exact ⟨by show q ≤ c.2; omega, n1.2.2⟩
        · split at h
          · obtain ⟨v, v1, v2⟩ := sb_ok h
            cases v2
            have n3 := num_ok hq v1
            exact ⟨by show q ≤ v.2; omega, n3.2.2.2.1⟩
          · cases h; exact ⟨Nat.le_refl _, hq⟩
theorem ord_ok {i : Nat} {S S' : NT} (w : WF β) (hS : NI e S) (hi : tO U e S.1 = some i) (h : ordS U e β nm i S = .inr S') : S.1 < S'.1 ∧ NI e S' := by
  obtain ⟨h1, h2, h3, h4, h5⟩ := hS
  unfold ordS at h
  split at h
  · cases h
  · split at h
    · cases h
    · rename_i y0 y1
      obtain ⟨r, r1, r2⟩ := sb_ok h
      obtain ⟨q, q1, q2⟩ := sb_ok r2
      have t := tK0_le (U := U) h1 (tO_K hi)
      have n1 := rst_ok w t.2 r1
      have n2 := end_ok n1.2 q1
      cases q2
      refine ⟨by show S.1 < q; omega, n2.2, ?_, by show S.2.2.1 + 1 ≤ 30; omega, ?_, ?_⟩
      · show S.2.1 + 1 + (if opn i = true then S.2.2.2.1 + 1 else S.2.2.2.1) ≤ 2 * (S.2.2.1 + 1)
        split <;> omega
      · show (if opn i = true then S.2.2.2.1 + 1 else S.2.2.2.1) ≤ 3
        split
        · rename_i z; have : ¬ 3 ≤ S.2.2.2.1 := fun y => y1 ⟨z, y⟩; omega
        · omega
      · intro j hj
        show (if opn i = true then updN S.2.2.2.2.1 S.2.2.2.1 S.2.1 else S.2.2.2.2.1) j < S.2.1 + 1
        have hj2 : j < (if opn i = true then S.2.2.2.1 + 1 else S.2.2.2.1) := hj
        by_cases z : opn i = true
        · rw [if_pos z] at hj2 ⊢
          by_cases y : j = S.2.2.2.1
          · rw [y, updN_eq]; omega
          · rw [updN_ne y]; have := h5 j (by omega); omega
        · rw [if_neg z] at hj2 ⊢
          have := h5 j hj2; omega
theorem nd_ok {S S' : NT} (hS : NI e S) (hi : tO U e S.1 = some 26) (h : ndS U e S = .inr S') : S.1 < S'.1 ∧ NI e S' := by
  obtain ⟨h1, h2, h3, h4, h5⟩ := hS
  unfold ndS at h
  split at h
  · cases h
  · rename_i y0
    obtain ⟨q, q1, q2⟩ := sb_ok h
    have t := tK0_le (U := U) h1 (tO_K hi)
    have n2 := end_ok t.2 q1
    cases q2
    refine ⟨by show S.1 < q; omega, n2.2, by show S.2.1 + 1 + (S.2.2.2.1 - 1) ≤ 2 * S.2.2.1; omega, h3, by show S.2.2.2.1 - 1 ≤ 3; omega, fun j hj => ?_⟩
    have hj2 : j < S.2.2.2.1 - 1 := hj
    show S.2.2.2.2.1 j < S.2.1 + 1
    have := h5 j (by omega)
    omega
theorem nst_ok {S S' : NT} (w : WF β) (hS : NI e S) (h : nst U e β nm S = .inr S') : S.1 < S'.1 ∧ NI e S' := by
  unfold nst at h
  cases ho : tO U e S.1 with
  | none => rw [ho] at h; cases h
  | some i =>
    rw [ho] at h
    dsimp only at h
    split at h
    · rename_i z
      rw [z] at ho
      exact nd_ok hS ho h
    · split at h
      · exact ord_ok w hS ho h
      · cases h
end NSPEC2
