/-! ===== the pure part: numbers, memory, frames ===== -/
section MEM
variable {μ : Mm} {a k b j : Nat}
theorem mI_sI {x : Int32} : mI (sI μ a k x) b j = if b = a then (if j = k then x else mI μ b j) else mI μ b j := rfl
theorem mJ_sJ {x : Int64} : mJ (sJ μ a k x) b j = if b = a then (if j = k then x else mJ μ b j) else mJ μ b j := rfl
theorem mA_sA {x : Int32} : mA (sA μ a k x) b j = if b = a then (if j = k then x else mA μ b j) else mA μ b j := rfl
theorem mL_sL {x : Int64} : mL (sL μ a k x) b j = if b = a then (if j = k then x else mL μ b j) else mL μ b j := rfl
theorem mB_sB {x : Int32} : mB (sB μ a k x) b j = if b = a then (if j = k then x else mB μ b j) else mB μ b j := rfl
theorem mR_sR {x : Nat} : mR (sR μ a x) b = if b = a then x else mR μ b := rfl
theorem mA_rA {r : Nat → Int32} : mA (rA μ a r) b = if b = a then r else mA μ b := rfl
theorem mL_rL {r : Nat → Int64} : mL (rL μ a r) b = if b = a then r else mL μ b := rfl
theorem mI_ne {x : Int32} (h : b ≠ a) : mI (sI μ a k x) b = mI μ b := up2_ne h
theorem mJ_ne {x : Int64} (h : b ≠ a) : mJ (sJ μ a k x) b = mJ μ b := up2_ne h
theorem mA_ne {x : Int32} (h : b ≠ a) : mA (sA μ a k x) b = mA μ b := up2_ne h
theorem mL_ne {x : Int64} (h : b ≠ a) : mL (sL μ a k x) b = mL μ b := up2_ne h
theorem mB_ne {x : Int32} (h : b ≠ a) : mB (sB μ a k x) b = mB μ b := up2_ne h
theorem mA_rne {r : Nat → Int32} (h : b ≠ a) : mA (rA μ a r) b = mA μ b := upr_ne h
theorem mL_rne {r : Nat → Int64} (h : b ≠ a) : mL (rL μ a r) b = mL μ b := upr_ne h
theorem mI_sJ {x : Int64} : mI (sJ μ a k x) = mI μ := rfl
theorem mI_sA {x : Int32} : mI (sA μ a k x) = mI μ := rfl
theorem mI_sL {x : Int64} : mI (sL μ a k x) = mI μ := rfl
theorem mI_sB {x : Int32} : mI (sB μ a k x) = mI μ := rfl
theorem mI_sR {x : Nat} : mI (sR μ a x) = mI μ := rfl
theorem mI_rA {r : Nat → Int32} : mI (rA μ a r) = mI μ := rfl
theorem mI_rL {r : Nat → Int64} : mI (rL μ a r) = mI μ := rfl
theorem mJ_sI {x : Int32} : mJ (sI μ a k x) = mJ μ := rfl
theorem mJ_sA {x : Int32} : mJ (sA μ a k x) = mJ μ := rfl
theorem mJ_sL {x : Int64} : mJ (sL μ a k x) = mJ μ := rfl
theorem mJ_sB {x : Int32} : mJ (sB μ a k x) = mJ μ := rfl
theorem mJ_sR {x : Nat} : mJ (sR μ a x) = mJ μ := rfl
theorem mJ_rA {r : Nat → Int32} : mJ (rA μ a r) = mJ μ := rfl
theorem mJ_rL {r : Nat → Int64} : mJ (rL μ a r) = mJ μ := rfl
theorem mA_sI {x : Int32} : mA (sI μ a k x) = mA μ := rfl
theorem mA_sJ {x : Int64} : mA (sJ μ a k x) = mA μ := rfl
theorem mA_sL {x : Int64} : mA (sL μ a k x) = mA μ := rfl
theorem mA_sB {x : Int32} : mA (sB μ a k x) = mA μ := rfl
theorem mA_sR {x : Nat} : mA (sR μ a x) = mA μ := rfl
theorem mA_rL {r : Nat → Int64} : mA (rL μ a r) = mA μ := rfl
theorem mL_sI {x : Int32} : mL (sI μ a k x) = mL μ := rfl
theorem mL_sJ {x : Int64} : mL (sJ μ a k x) = mL μ := rfl
theorem mL_sA {x : Int32} : mL (sA μ a k x) = mL μ := rfl
theorem mL_sB {x : Int32} : mL (sB μ a k x) = mL μ := rfl
theorem mL_sR {x : Nat} : mL (sR μ a x) = mL μ := rfl
theorem mL_rA {r : Nat → Int32} : mL (rA μ a r) = mL μ := rfl
theorem mB_sI {x : Int32} : mB (sI μ a k x) = mB μ := rfl
theorem mB_sJ {x : Int64} : mB (sJ μ a k x) = mB μ := rfl
theorem mB_sA {x : Int32} : mB (sA μ a k x) = mB μ := rfl
theorem mB_sL {x : Int64} : mB (sL μ a k x) = mB μ := rfl
theorem mB_sR {x : Nat} : mB (sR μ a x) = mB μ := rfl
theorem mB_rA {r : Nat → Int32} : mB (rA μ a r) = mB μ := rfl
theorem mB_rL {r : Nat → Int64} : mB (rL μ a r) = mB μ := rfl
theorem mR_sI {x : Int32} : mR (sI μ a k x) = mR μ := rfl
theorem mR_sJ {x : Int64} : mR (sJ μ a k x) = mR μ := rfl
theorem mR_sA {x : Int32} : mR (sA μ a k x) = mR μ := rfl
theorem mR_sL {x : Int64} : mR (sL μ a k x) = mR μ := rfl
theorem mR_sB {x : Int32} : mR (sB μ a k x) = mR μ := rfl
theorem mR_rA {r : Nat → Int32} : mR (rA μ a r) = mR μ := rfl
theorem mR_rL {r : Nat → Int64} : mR (rL μ a r) = mR μ := rfl
end MEM
/-- the same memory but for the places of P -/
def Ag (P : Nat → Nat → Prop) (μ ν : Mm) : Prop := (∀ a k, ¬ P a k → mI ν a k = mI μ a k ∧ mJ ν a k = mJ μ a k ∧ mA ν a k = mA μ a k ∧ mL ν a k = mL μ a k ∧ mB ν a k = mB μ a k) ∧ mR ν = mR μ
theorem Ag.rf {P : Nat → Nat → Prop} {μ : Mm} : Ag P μ μ := ⟨fun _ _ _ => ⟨rfl, rfl, rfl, rfl, rfl⟩, rfl⟩
theorem Ag.tr {P : Nat → Nat → Prop} {μ ν ξ : Mm} (h : Ag P μ ν) (h2 : Ag P ν ξ) : Ag P μ ξ := by
  refine ⟨fun a k ha => ?_, h2.2.trans h.2⟩
  obtain ⟨q1, q2, q3, q4, q5⟩ := h.1 a k ha
  obtain ⟨r1, r2, r3, r4, r5⟩ := h2.1 a k ha
  exact ⟨r1.trans q1, r2.trans q2, r3.trans q3, r4.trans q4, r5.trans q5⟩
theorem Ag.mono {P Q : Nat → Nat → Prop} {μ ν : Mm} (h : Ag P μ ν) (hPQ : ∀ a k, P a k → Q a k) : Ag Q μ ν := ⟨fun a k ha => h.1 a k (fun q => ha (hPQ a k q)), h.2⟩
theorem up2_at {α : Type} {f : Nat → Nat → α} {a k b j : Nat} {x : α} (h : ¬ (b = a ∧ j = k)) : (if b = a then (if j = k then x else f b j) else f b j) = f b j := by
  by_cases e : b = a
  · rw [if_pos e, if_neg (fun q => h ⟨e, q⟩)]
  · rw [if_neg e]
theorem Ag.sI {P : Nat → Nat → Prop} {μ : Mm} {a k : Nat} {x : Int32} (h : P a k) : Ag P μ (sI μ a k x) := ⟨fun b j hb => ⟨by rw [mI_sI]; exact up2_at (fun e => hb (by rw [e.1, e.2]; exact h)), rfl, rfl, rfl, rfl⟩, rfl⟩
theorem Ag.sJ {P : Nat → Nat → Prop} {μ : Mm} {a k : Nat} {x : Int64} (h : P a k) : Ag P μ (sJ μ a k x) := ⟨fun b j hb => ⟨rfl, by rw [mJ_sJ]; exact up2_at (fun e => hb (by rw [e.1, e.2]; exact h)), rfl, rfl, rfl⟩, rfl⟩
theorem Ag.sA {P : Nat → Nat → Prop} {μ : Mm} {a k : Nat} {x : Int32} (h : P a k) : Ag P μ (sA μ a k x) := ⟨fun b j hb => ⟨rfl, rfl, by rw [mA_sA]; exact up2_at (fun e => hb (by rw [e.1, e.2]; exact h)), rfl, rfl⟩, rfl⟩
theorem Ag.sL {P : Nat → Nat → Prop} {μ : Mm} {a k : Nat} {x : Int64} (h : P a k) : Ag P μ (sL μ a k x) := ⟨fun b j hb => ⟨rfl, rfl, rfl, by rw [mL_sL]; exact up2_at (fun e => hb (by rw [e.1, e.2]; exact h)), rfl⟩, rfl⟩
theorem Ag.sB {P : Nat → Nat → Prop} {μ : Mm} {a k : Nat} {x : Int32} (h : P a k) : Ag P μ (sB μ a k x) := ⟨fun b j hb => ⟨rfl, rfl, rfl, rfl, by rw [mB_sB]; exact up2_at (fun e => hb (by rw [e.1, e.2]; exact h))⟩, rfl⟩
theorem Ag.rA {P : Nat → Nat → Prop} {μ : Mm} {a : Nat} {r : Nat → Int32} (h : ∀ k, ¬ P a k → r k = mA μ a k) : Ag P μ (rA μ a r) := ⟨fun b j hb => ⟨rfl, rfl, by rw [mA_rA]; by_cases e : b = a; rw [if_pos e]; subst e; exact h j hb; rw [if_neg e], rfl, rfl⟩, rfl⟩
theorem Ag.rL {P : Nat → Nat → Prop} {μ : Mm} {a : Nat} {r : Nat → Int64} (h : ∀ k, ¬ P a k → r k = mL μ a k) : Ag P μ (rL μ a r) := ⟨fun b j hb => ⟨rfl, rfl, rfl, by rw [mL_rL]; by_cases e : b = a; rw [if_pos e]; subst e; exact h j hb; rw [if_neg e], rfl⟩, rfl⟩
theorem Ag.i {P : Nat → Nat → Prop} {μ ν : Mm} (h : Ag P μ ν) {a k : Nat} (ha : ¬ P a k) : mI ν a k = mI μ a k := (h.1 a k ha).1
theorem Ag.j {P : Nat → Nat → Prop} {μ ν : Mm} (h : Ag P μ ν) {a k : Nat} (ha : ¬ P a k) : mJ ν a k = mJ μ a k := (h.1 a k ha).2.1
theorem Ag.a {P : Nat → Nat → Prop} {μ ν : Mm} (h : Ag P μ ν) {a k : Nat} (ha : ¬ P a k) : mA ν a k = mA μ a k := (h.1 a k ha).2.2.1
theorem Ag.l {P : Nat → Nat → Prop} {μ ν : Mm} (h : Ag P μ ν) {a k : Nat} (ha : ¬ P a k) : mL ν a k = mL μ a k := (h.1 a k ha).2.2.2.1
theorem Ag.b {P : Nat → Nat → Prop} {μ ν : Mm} (h : Ag P μ ν) {a k : Nat} (ha : ¬ P a k) : mB ν a k = mB μ a k := (h.1 a k ha).2.2.2.2
theorem Ag.I {P : Nat → Nat → Prop} {μ ν : Mm} (h : Ag P μ ν) {a : Nat} (ha : ∀ k, ¬ P a k) : mI ν a = mI μ a := funext fun k => h.i (ha k)
theorem Ag.J {P : Nat → Nat → Prop} {μ ν : Mm} (h : Ag P μ ν) {a : Nat} (ha : ∀ k, ¬ P a k) : mJ ν a = mJ μ a := funext fun k => h.j (ha k)
theorem Ag.A {P : Nat → Nat → Prop} {μ ν : Mm} (h : Ag P μ ν) {a : Nat} (ha : ∀ k, ¬ P a k) : mA ν a = mA μ a := funext fun k => h.a (ha k)
theorem Ag.L {P : Nat → Nat → Prop} {μ ν : Mm} (h : Ag P μ ν) {a : Nat} (ha : ∀ k, ¬ P a k) : mL ν a = mL μ a := funext fun k => h.l (ha k)
theorem Ag.B {P : Nat → Nat → Prop} {μ ν : Mm} (h : Ag P μ ν) {a : Nat} (ha : ∀ k, ¬ P a k) : mB ν a = mB μ a := funext fun k => h.b (ha k)
/-! numbers -/
theorem nI_ti {n : Nat} (h : n < 2147483648) : (nI n).toInt = (n : Int) := nI_toInt (by omega)
theorem nIle {a b : Nat} (ha : a < 2147483648) (hb : b < 2147483648) : (nI a ≤ nI b) ↔ a ≤ b := nI_leI (by omega) (by omega)
theorem nIlt {a b : Nat} (ha : a < 2147483648) (hb : b < 2147483648) : (nI a < nI b) ↔ a < b := nI_ltI (by omega) (by omega)
theorem nIeq {a b : Nat} (ha : a < 2147483648) (hb : b < 2147483648) : (nI a = nI b) ↔ a = b := nI_eq (by omega) (by omega)
theorem nIcl {n : Nat} (h : n < 2147483648) : (nI n).toNatClampNeg = n := nI_clamp (by omega)
theorem nI_n0 {n : Nat} (h : n < 2147483648) : ¬ nI n < 0 := nI_pos (by omega)
theorem nIsub {a b : Nat} (h : b ≤ a) : nI a - nI b = nI (a - b) := pk_sub h
theorem rdA_n {μ : Mm} {a N k : Nat} (h : k < N) (hN : N < 2147483648) : rdA μ a N (nI k) = some (mA μ a k) := by
  unfold rdA
  rw [nIcl (by omega), if_neg (by have := nI_n0 (n := k) (by omega); intro q; rcases q with q | q; exact this q; omega)]
theorem rdL_n {μ : Mm} {a N k : Nat} (h : k < N) (hN : N < 2147483648) : rdL μ a N (nI k) = some (mL μ a k) := by
  unfold rdL
  rw [nIcl (by omega), if_neg (by have := nI_n0 (n := k) (by omega); intro q; rcases q with q | q; exact this q; omega)]
theorem rdB_n {μ : Mm} {a N k : Nat} (h : k < N) (hN : N < 2147483648) : rdB μ a N (nI k) = some (mB μ a k) := by
  unfold rdB
  rw [nIcl (by omega), if_neg (by have := nI_n0 (n := k) (by omega); intro q; rcases q with q | q; exact this q; omega)]
theorem rdE_n {a N k : Nat} (h : k < N) (hN : N < 2147483648) : rdE a N (nI k) = some (elm a k) := by
  unfold rdE
  rw [nIcl (by omega), if_neg (by have := nI_n0 (n := k) (by omega); intro q; rcases q with q | q; exact this q; omega)]
theorem rdX_n {f : Nat → Int32} {N k : Nat} (h : k < N) (hN : N < 2147483648) : rdX f N (nI k) = some (f k) := by
  unfold rdX
  rw [nIcl (by omega), if_neg (by have := nI_n0 (n := k) (by omega); intro q; rcases q with q | q; exact this q; omega)]
theorem wrA_n {μ : Mm} {a N k : Nat} {x : Int32} (h : k < N) (hN : N < 2147483648) : wrA μ a N (nI k) x = some (sA μ a k x) := by
  unfold wrA
  rw [nIcl (by omega), if_neg (by have := nI_n0 (n := k) (by omega); intro q; rcases q with q | q; exact this q; omega)]
theorem wrL_n {μ : Mm} {a N k : Nat} {x : Int64} (h : k < N) (hN : N < 2147483648) : wrL μ a N (nI k) x = some (sL μ a k x) := by
  unfold wrL
  rw [nIcl (by omega), if_neg (by have := nI_n0 (n := k) (by omega); intro q; rcases q with q | q; exact this q; omega)]
theorem wrB_n {μ : Mm} {a N k : Nat} {x : Int32} (h : k < N) (hN : N < 2147483648) : wrB μ a N (nI k) x = some (sB μ a k (vp_nar .byte x)) := by
  unfold wrB
  rw [nIcl (by omega), if_neg (by have := nI_n0 (n := k) (by omega); intro q; rcases q with q | q; exact this q; omega)]
theorem cpA_n {μ : Mm} {a0 N0 a N s t k : Nat} (h0 : s + k ≤ N0) (h : t + k ≤ N) (hN0 : N0 < 2147483648) (hN : N < 2147483648) : cpA μ a0 N0 (nI s) a N (nI t) (nI k) = some (rA μ a (va_cpy (mA μ a0) (mA μ a) s t k)) := by
  unfold cpA
  rw [nIcl (by omega), nIcl (by omega), nIcl (by omega), if_neg]
  have h1 := nI_n0 (n := s) (by omega)
  have h2 := nI_n0 (n := t) (by omega)
  have h3 := nI_n0 (n := k) (by omega)
  rintro ((q | q | q) | (q | q))
  · exact h1 q
  · exact h2 q
  · exact h3 q
  · omega
  · omega
theorem cpL_n {μ : Mm} {a0 N0 a N s t k : Nat} (h0 : s + k ≤ N0) (h : t + k ≤ N) (hN0 : N0 < 2147483648) (hN : N < 2147483648) : cpL μ a0 N0 (nI s) a N (nI t) (nI k) = some (rL μ a (va_cpy (mL μ a0) (mL μ a) s t k)) := by
  unfold cpL
  rw [nIcl (by omega), nIcl (by omega), nIcl (by omega), if_neg]
  have h1 := nI_n0 (n := s) (by omega)
  have h2 := nI_n0 (n := t) (by omega)
  have h3 := nI_n0 (n := k) (by omega)
  rintro ((q | q | q) | (q | q))
  · exact h1 q
  · exact h2 q
  · exact h3 q
  · omega
  · omega
/-- v is the number of one of n -/
def inN (v : Int32) (n : Nat) : Bool := decide (0 ≤ v.toInt ∧ v.toInt < n)
theorem inN_k {n k : Nat} (h : k < n) (hn : k < 2147483648) : inN (nI k) n = true := by
  unfold inN
  rw [nI_ti hn]
  simp
  omega
theorem inN_of {v : Int32} {n : Nat} (h : inN v n = true) : ∃ k, k < n ∧ k < 2147483648 ∧ v = nI k := by
  unfold inN at h
  simp only [decide_eq_true_eq] at h
  obtain ⟨h1, h2⟩ := h
  have hlt := fb_rng v
  refine ⟨v.toInt.toNat, by omega, by omega, ?_⟩
  apply Int32.toInt_inj.mp
  rw [nI_ti (by omega)]
  omega
theorem inN_no {v : Int32} {n : Nat} (h : ¬ inN v n = true) : inN v n = false := by cases hh : inN v n; rfl; exact absurd hh h
theorem lg_0 {x y : Int64} : lg_cmp x y = 0 ↔ x = y := by
  unfold lg_cmp
  by_cases h : x > y
  · rw [if_pos h]
    have : x ≠ y := fun e => by subst e; exact absurd h (Int64.lt_irrefl)
    simp [this]
  · rw [if_neg h]
    by_cases e : x = y
    · simp [e]
    · simp [e]
theorem lg_lt {x y : Int64} : lg_cmp x y < 0 ↔ x < y := by
  unfold lg_cmp
  rw [fa_lt64]
  by_cases h : x > y
  · rw [if_pos h]
    have h2 := (fa_lt64 y x).mp h
    constructor
    · intro q; exact absurd q (by decide)
    · intro q; omega
  · rw [if_neg h]
    have h2 : ¬ y.toInt < x.toInt := fun q => h ((fa_lt64 y x).mpr q)
    by_cases e : x = y
    · subst e
      rw [if_pos rfl]
      constructor
      · intro q; exact absurd q (by decide)
      · intro q; omega
    · rw [if_neg e]
      have e2 : x.toInt ≠ y.toInt := fun q => e ((fa_eq64 x y).mpr q)
      constructor
      · intro _; omega
      · intro _; decide
theorem lg_gt {x y : Int64} : 0 < lg_cmp x y ↔ y < x := by
  unfold lg_cmp
  by_cases h : x > y
  · rw [if_pos h]
    exact ⟨fun _ => h, fun _ => by decide⟩
  · rw [if_neg h]
    constructor
    · intro q
      by_cases e : x = y
      · rw [if_pos e] at q; exact absurd q (by decide)
      · rw [if_neg e] at q; exact absurd q (by decide)
    · intro q; exact absurd q h
/-- the two range tests -/
theorem within_eq (v a b : Int32) (μ : Mm) : f_X11_within v a b μ = some (decide (a ≤ v ∧ v ≤ b)) := by
  unfold f_X11_within
  by_cases h : v < a
  · rw [if_pos h]
    have : ¬ a ≤ v := fun q => by rw [fa_lt] at h; rw [fa_le] at q; omega
    simp [this]
  · rw [if_neg h]
    have h1 := fa_of_nlt h
    by_cases h2 : b < v
    · rw [if_pos h2]
      have : ¬ v ≤ b := fun q => by rw [fa_lt] at h2; rw [fa_le] at q; omega
      simp [this]
    · rw [if_neg h2]
      have := fa_of_nlt h2
      simp [h1, this]
theorem isIn_eq (v a b : Int64) (μ : Mm) : f_X12_isIn v a b μ = some (decide (a ≤ v ∧ v ≤ b)) := by
  unfold f_X12_isIn
  by_cases h : v < a
  · rw [if_pos (lg_lt.mpr h)]
    have : ¬ a ≤ v := fun q => by rw [fa_lt64] at h; rw [fa_le64] at q; omega
    simp [this]
  · rw [if_neg (fun q => h (lg_lt.mp q))]
    have h1 : a ≤ v := by rw [fa_lt64] at h; rw [fa_le64]; omega
    by_cases h2 : b < v
    · rw [if_pos (lg_gt.mpr h2)]
      have : ¬ v ≤ b := fun q => by rw [fa_lt64] at h2; rw [fa_le64] at q; omega
      simp [this]
    · rw [if_neg (fun q => h2 (lg_gt.mp q))]
      have : v ≤ b := by rw [fa_lt64] at h2; rw [fa_le64]; omega
      simp [h1, this]
/-- of n things: by the class's test and by the reference's -/
theorem within_n (v : Int32) {n : Nat} (hn : n < 1000000) (μ : Mm) : f_X11_within v 0 (nI n - 1) μ = some (inN v n) := by
  rw [within_eq]
  unfold inN
  congr 1
  apply decide_eq_decide.mpr
  rw [fa_le, fa_le]
  have h1 : (nI n - 1).toInt = (n : Int) - 1 := by
    have e1 : (1 : Int32).toInt = 1 := by decide
    rw [fb_subI (by rw [nI_ti (by omega), e1]; omega) (by rw [nI_ti (by omega), e1]; omega), nI_ti (by omega), e1]
  have h0 : (0 : Int32).toInt = 0 := by decide
  rw [h1, h0]
  omega
theorem isIn_n (v : Int32) {n : Nat} (hn : n < 1000000) (μ : Mm) : f_X12_isIn v.toInt64 0 ((nI n - 1).toInt64) μ = some (inN v n) := by
  rw [isIn_eq]
  unfold inN
  congr 1
  apply decide_eq_decide.mpr
  rw [fa_le64, fa_le64, Int32.toInt_toInt64, Int32.toInt_toInt64]
  have h1 : (nI n - 1).toInt = (n : Int) - 1 := by
    have e1 : (1 : Int32).toInt = 1 := by decide
    rw [fb_subI (by rw [nI_ti (by omega), e1]; omega) (by rw [nI_ti (by omega), e1]; omega), nI_ti (by omega), e1]
  have h0 : (0 : Int64).toInt = 0 := by decide
  rw [h1, h0]
  omega
/-- a test against constants -/
theorem within_c (v : Int32) (a b : Nat) (ha : a < 1000000) (hb : b < 1000000) (μ : Mm) : f_X11_within v (nI a) (nI b) μ = some (decide ((a : Int) ≤ v.toInt ∧ v.toInt ≤ b)) := by
  rw [within_eq]
  congr 1
  apply decide_eq_decide.mpr
  rw [fa_le, fa_le, nI_ti (by omega), nI_ti (by omega)]
theorem isIn_c (v : Int32) (a b : Nat) (ha : a < 1000000) (hb : b < 1000000) (μ : Mm) : f_X12_isIn v.toInt64 (lN a) (lN b) μ = some (decide ((a : Int) ≤ v.toInt ∧ v.toInt ≤ b)) := by
  rw [isIn_eq]
  congr 1
  apply decide_eq_decide.mpr
  rw [fa_le64, fa_le64, Int32.toInt_toInt64, lN_toInt (by omega), lN_toInt (by omega)]
theorem eqL {a n : Nat} (ha : a < 2147483648) (hn : (OfNat.ofNat n : Nat) < 2147483648) : (nI a = (no_index (OfNat.ofNat n) : Int32)) ↔ a = OfNat.ofNat n := by rw [fa_lit]; exact nIeq ha hn
theorem leL {a n : Nat} (ha : a < 2147483648) (hn : (OfNat.ofNat n : Nat) < 2147483648) : (nI a ≤ (no_index (OfNat.ofNat n) : Int32)) ↔ a ≤ OfNat.ofNat n := by rw [fa_lit]; exact nIle ha hn
theorem ltL {a n : Nat} (ha : a < 2147483648) (hn : (OfNat.ofNat n : Nat) < 2147483648) : (nI a < (no_index (OfNat.ofNat n) : Int32)) ↔ a < OfNat.ofNat n := by rw [fa_lit]; exact nIlt ha hn
theorem Lle {a n : Nat} (ha : a < 2147483648) (hn : (OfNat.ofNat n : Nat) < 2147483648) : ((no_index (OfNat.ofNat n) : Int32) ≤ nI a) ↔ OfNat.ofNat n ≤ a := by rw [fa_lit]; exact nIle hn ha
theorem Llt {a n : Nat} (ha : a < 2147483648) (hn : (OfNat.ofNat n : Nat) < 2147483648) : ((no_index (OfNat.ofNat n) : Int32) < nI a) ↔ OfNat.ofNat n < a := by rw [fa_lit]; exact nIlt hn ha
theorem addL {a n : Nat} : nI a + (no_index (OfNat.ofNat n) : Int32) = nI (a + OfNat.ofNat n) := by rw [fa_lit, nI_add]; rfl
theorem Ladd {a n : Nat} : (no_index (OfNat.ofNat n) : Int32) + nI a = nI (OfNat.ofNat n + a) := by rw [fa_lit, nI_add]; rfl
theorem Lmul {a n : Nat} : (no_index (OfNat.ofNat n) : Int32) * nI a = nI (OfNat.ofNat n * a) := by rw [fa_lit, pk_mul]; rfl
theorem mulL {a n : Nat} : nI a * (no_index (OfNat.ofNat n) : Int32) = nI (a * OfNat.ofNat n) := by rw [fa_lit, pk_mul]; rfl
theorem subL {a n : Nat} (h : (OfNat.ofNat n : Nat) ≤ a) : nI a - (no_index (OfNat.ofNat n) : Int32) = nI (a - OfNat.ofNat n) := by rw [fa_lit]; exact nIsub h
theorem neg_ne {a : Nat} (h : a < 2147483648) : (nI a = -1) = False := by
  apply eq_false
  intro q
  have := (fa_eq _ _).mp q
  rw [nI_ti h, show (-1 : Int32).toInt = -1 by decide] at this
  omega
theorem test_simp {p k : Nat} (hp : p ≤ 4) (h : p ≠ 1) : (if nI p = 1 then 5 else if (3 : Int32) ≤ nI p then 6 else if nI p + 1 = 2 then 7 else 8) = (if 3 ≤ p then 6 else if p + 1 = 2 then 7 else 8) := by
  simp (disch := omega) only [eqL, leL, ltL, Lle, Llt, addL, h, if_false]
theorem bd_some {α ρ : Type} {x : α} {μ : Mm} {f : α → Mm → Option ρ} : bd (some (x, μ)) f = f x μ := rfl
