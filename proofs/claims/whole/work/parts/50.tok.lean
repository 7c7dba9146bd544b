/-! ===== texts: bytes and tokens ===== -/
/-- a byte as a signed int and as a number of 0 to 255 -/
def BY (x : Int32) (u : Nat) : Prop := u < 256 ∧ x &&& 255 = nI u ∧ (u < 128 → x = nI u) ∧ (128 ≤ u → x < 0)
def uB (x : Int32) : Nat := (x &&& 255).toInt.toNat
theorem by_all : ∀ k, k < 256 → (uB (Int8.ofBitVec (BitVec.ofNat 8 k)).toInt32 < 256 ∧ (Int8.ofBitVec (BitVec.ofNat 8 k)).toInt32 &&& 255 = nI (uB (Int8.ofBitVec (BitVec.ofNat 8 k)).toInt32) ∧ (uB (Int8.ofBitVec (BitVec.ofNat 8 k)).toInt32 < 128 → (Int8.ofBitVec (BitVec.ofNat 8 k)).toInt32 = nI (uB (Int8.ofBitVec (BitVec.ofNat 8 k)).toInt32)) ∧ (128 ≤ uB (Int8.ofBitVec (BitVec.ofNat 8 k)).toInt32 → (Int8.ofBitVec (BitVec.ofNat 8 k)).toInt32 < 0)) := by decide +kernel
theorem by_of {x : Int32} (h : isB x) : BY x (uB x) := by
  have h1 := by_all x.toInt8.toBitVec.toNat x.toInt8.toBitVec.isLt
  rw [BitVec.ofNat_toNat, BitVec.setWidth_eq, Int8.ofBitVec_toBitVec] at h1
  unfold isB at h
  rw [← h] at h1
  exact h1
section BYs
variable {x : Int32} {u n : Nat}
theorem BY_eq (h : BY x u) (hn : n < 128) : x = nI n ↔ u = n := by
  obtain ⟨h1, h2, h3, h4⟩ := h
  by_cases q : u < 128
  · rw [h3 q]; exact nIeq (by omega) (by omega)
  · constructor
    · intro z; have := h4 (by omega); rw [z] at this; exact absurd this (nI_n0 (by omega))
    · intro z; omega
theorem BY_lt (h : BY x u) (hn : n < 128) : x < nI n ↔ (u < n ∨ 128 ≤ u) := by
  obtain ⟨h1, h2, h3, h4⟩ := h
  by_cases q : u < 128
  · rw [h3 q, nIlt (by omega) (by omega)]; omega
  · constructor
    · intro _; omega
    · intro _
      have := h4 (by omega)
      rw [fa_lt] at *
      rw [nI_ti (by omega)]
      rw [show (0 : Int32).toInt = 0 by decide] at this
      omega
theorem BY_gt (h : BY x u) (hn : n < 128) : nI n < x ↔ (n < u ∧ u < 128) := by
  obtain ⟨h1, h2, h3, h4⟩ := h
  by_cases q : u < 128
  · rw [h3 q, nIlt (by omega) (by omega)]; omega
  · constructor
    · intro z
      have := h4 (by omega)
      rw [fa_lt] at *
      rw [nI_ti (by omega)] at z
      rw [show (0 : Int32).toInt = 0 by decide] at this
      omega
    · intro z; omega
end BYs
def isSp (u : Nat) : Bool := decide (u = 32 ∨ u = 10)
def isLt (u : Nat) : Bool := decide (97 ≤ u ∧ u ≤ 122)
def isDg (u : Nat) : Bool := decide (48 ≤ u ∧ u ≤ 57)
def isSg (u : Nat) : Bool := decide (u = 59 ∨ u = 60 ∨ u = 62 ∨ u = 61)
/-- the first place of n from p on that is not so -/
def stp (q : Nat → Bool) (U : Nat → Nat) : Nat → Nat → Nat
  | 0, p => p
  | n + 1, p => if q (U p) = true then stp q U n (p + 1) else p
theorem stp_b {q : Nat → Bool} {U : Nat → Nat} : ∀ {n p : Nat}, p ≤ stp q U n p ∧ stp q U n p ≤ p + n
  | 0, p => ⟨Nat.le_refl _, Nat.le_refl _⟩
  | n + 1, p => by
    unfold stp
    split
    · have := stp_b (q := q) (U := U) (n := n) (p := p + 1); omega
    · omega
theorem stp_in {q : Nat → Bool} {U : Nat → Nat} : ∀ {n p j : Nat}, p ≤ j → j < stp q U n p → q (U j) = true
  | 0, p, j, h1, h2 => by unfold stp at h2; omega
  | n + 1, p, j, h1, h2 => by
    unfold stp at h2
    split at h2
    · rename_i z
      by_cases e : j = p
      · rw [e]; exact z
      · exact stp_in (by omega) h2
    · omega
theorem stp_no {q : Nat → Bool} {U : Nat → Nat} : ∀ {n p : Nat}, stp q U n p < p + n → ¬ q (U (stp q U n p)) = true
  | 0, p, h => by unfold stp at h; omega
  | n + 1, p, h => by
    unfold stp at h ⊢
    split at h
    · rename_i z; rw [if_pos z]; exact stp_no (by omega)
    · rename_i z; rw [if_neg z]; exact z
theorem stp_s {q : Nat → Bool} {U : Nat → Nat} {n p : Nat} (h : q (U p) = true) (hn : 0 < n) : p < stp q U n p := by
  obtain ⟨n, rfl⟩ : ∃ m, n = m + 1 := ⟨n - 1, by omega⟩
  unfold stp
  rw [if_pos h]
  have := (stp_b (q := q) (U := U) (n := n) (p := p + 1)).1
  omega
section TOK
variable (U : Nat → Nat) (e : Nat)
def tS (p : Nat) : Nat := stp isSp U (e - p) p
def tN (p : Nat) : Nat := if e ≤ tS U e p then tS U e p else if isLt (U (tS U e p)) = true then stp isLt U (e - tS U e p) (tS U e p) else if isDg (U (tS U e p)) = true then stp isDg U (e - tS U e p) (tS U e p) else tS U e p + 1
def tK (p : Nat) : Nat := if e ≤ tS U e p then 0 else if isLt (U (tS U e p)) = true then 1 else if isDg (U (tS U e p)) = true then (if tN U e p - tS U e p ≤ 4 then 2 else 4) else if isSg (U (tS U e p)) = true then 3 else 4
def wrd (s n : Nat) : Nat := foldF (fun k x => 32 * x + (U (s + k) - 96)) 0 n 0
def nmb (s n : Nat) : Nat := foldF (fun k x => 10 * x + (U (s + k) - 48)) 0 n 0
def tL (p : Nat) : Nat := tN U e p - tS U e p
def tW (p : Nat) : Nat := wrd U (tS U e p) (tL U e p)
def tV (p : Nat) : Nat := if tK U e p = 3 then U (tS U e p) else nmb U (tS U e p) (min (tL U e p) 4)
def swI (w : Nat) : Option Nat := fndF (fun i => decide (swN i = w)) 0 28
def tO (p : Nat) : Option Nat := if tK U e p = 1 ∧ tL U e p ≤ 8 then swI (tW U e p) else none
def tM (p : Nat) : Bool := decide (tK U e p = 1 ∧ tL U e p ≤ 8 ∧ swI (tW U e p) = none)
end TOK
section TOK2
variable {U : Nat → Nat} {e p : Nat}
theorem tS_b : p ≤ tS U e p ∧ (p ≤ e → tS U e p ≤ e) := by
  have := stp_b (q := isSp) (U := U) (n := e - p) (p := p)
  unfold tS
  omega
theorem tN_b (hp : p ≤ e) : tS U e p ≤ tN U e p ∧ tN U e p ≤ e ∧ (tK U e p ≠ 0 → tS U e p < tN U e p ∧ tS U e p < e) := by
  have h0 := (tS_b (U := U) (e := e) (p := p)).2 hp
  unfold tN tK
  by_cases h1 : e ≤ tS U e p
  · rw [if_pos h1, if_pos h1]; exact ⟨Nat.le_refl _, h0, fun z => absurd rfl z⟩
  · rw [if_neg h1, if_neg h1]
    by_cases h2 : isLt (U (tS U e p)) = true
    · rw [if_pos h2]
      have b := stp_b (q := isLt) (U := U) (n := e - tS U e p) (p := tS U e p)
      have c := stp_s (q := isLt) (U := U) (n := e - tS U e p) h2 (by omega)
      exact ⟨by omega, by omega, fun _ => ⟨c, by omega⟩⟩
    · rw [if_neg h2]
      by_cases h3 : isDg (U (tS U e p)) = true
      · rw [if_pos h3]
        have b := stp_b (q := isDg) (U := U) (n := e - tS U e p) (p := tS U e p)
        have c := stp_s (q := isDg) (U := U) (n := e - tS U e p) h3 (by omega)
        exact ⟨by omega, by omega, fun _ => ⟨c, by omega⟩⟩
      · rw [if_neg h3]
        exact ⟨by omega, by omega, fun _ => ⟨by omega, by omega⟩⟩
theorem tK_le : tK U e p ≤ 4 := by unfold tK; (repeat' split) <;> omega
theorem wrd_n {s n : Nat} : wrd U s (n + 1) = 32 * wrd U s n + (U (s + n) - 96) := by unfold wrd; rw [foldF_n, Nat.zero_add]
theorem nmb_n {s n : Nat} : nmb U s (n + 1) = 10 * nmb U s n + (U (s + n) - 48) := by unfold nmb; rw [foldF_n, Nat.zero_add]
theorem wrd_lt {s : Nat} : ∀ {n : Nat}, (∀ j, j < n → isLt (U (s + j)) = true) → wrd U s n < 32 ^ n ∧ (0 < n → 0 < wrd U s n)
  | 0, _ => ⟨by show 0 < 1; omega, fun z => absurd z (by omega)⟩
  | n + 1, h => by
    have h1 := wrd_lt (n := n) (fun j hj => h j (by omega))
    have h2 := of_decide_eq_true (h n (by omega))
    rw [wrd_n, Nat.pow_succ]
    exact ⟨by omega, fun _ => by omega⟩
theorem nmb_lt {s : Nat} : ∀ {n : Nat}, (∀ j, j < n → isDg (U (s + j)) = true) → nmb U s n < 10 ^ n
  | 0, _ => by show 0 < 1; omega
  | n + 1, h => by
    have h1 := nmb_lt (n := n) (fun j hj => h j (by omega))
    have h2 := of_decide_eq_true (h n (by omega))
    rw [nmb_n, Nat.pow_succ]
    omega
theorem K1 (h : tK U e p = 1) : ¬ e ≤ tS U e p ∧ isLt (U (tS U e p)) = true ∧ tN U e p = stp isLt U (e - tS U e p) (tS U e p) := by
  unfold tK at h
  by_cases h1 : e ≤ tS U e p
  · rw [if_pos h1] at h; omega
  · rw [if_neg h1] at h
    by_cases h2 : isLt (U (tS U e p)) = true
    · refine ⟨h1, h2, ?_⟩
      unfold tN
      rw [if_neg h1, if_pos h2]
    · rw [if_neg h2] at h
      repeat' split at h
      all_goals omega
theorem tW_lt (h : tK U e p = 1) (h8 : tL U e p ≤ 8) : tW U e p < 1099511627776 ∧ 0 < tW U e p := by
  obtain ⟨h1, h2, h3⟩ := K1 h
  have c := stp_s (q := isLt) (U := U) (n := e - tS U e p) h2 (by omega)
  have hl : ∀ j, j < tL U e p → isLt (U (tS U e p + j)) = true := fun j hj => stp_in (q := isLt) (n := e - tS U e p) (p := tS U e p) (by omega) (by unfold tL at hj; omega)
  have := wrd_lt hl
  have h32 : 32 ^ tL U e p ≤ 32 ^ 8 := Nat.pow_le_pow_right (by omega) h8
  have h328 : 32 ^ 8 = 1099511627776 := by decide
  unfold tW
  exact ⟨by omega, this.2 (by unfold tL; omega)⟩
theorem tV_2 (h : tK U e p = 2) : tV U e p ≤ 9999 ∧ tL U e p ≤ 4 ∧ tV U e p = nmb U (tS U e p) (tL U e p) := by
  have h0 := h
  unfold tK at h
  by_cases h1 : e ≤ tS U e p
  · rw [if_pos h1] at h; omega
  · rw [if_neg h1] at h
    by_cases h2 : isLt (U (tS U e p)) = true
    · rw [if_pos h2] at h; omega
    · rw [if_neg h2] at h
      by_cases h3 : isDg (U (tS U e p)) = true
      · rw [if_pos h3] at h
        by_cases h4 : tN U e p - tS U e p ≤ 4
        · have hn : tN U e p = stp isDg U (e - tS U e p) (tS U e p) := by unfold tN; rw [if_neg h1, if_neg h2, if_pos h3]
          have hl : ∀ j, j < tL U e p → isDg (U (tS U e p + j)) = true := fun j hj => stp_in (q := isDg) (n := e - tS U e p) (p := tS U e p) (by omega) (by unfold tL at hj; omega)
          have := nmb_lt hl
          have h10 : 10 ^ tL U e p ≤ 10 ^ 4 := Nat.pow_le_pow_right (by omega) h4
          have h104 : 10 ^ 4 = 10000 := by decide
          have hv : tV U e p = nmb U (tS U e p) (tL U e p) := by unfold tV; rw [if_neg (by omega), Nat.min_eq_left (show tL U e p ≤ 4 from h4)]
          exact ⟨by rw [hv]; omega, h4, hv⟩
        · rw [if_neg h4] at h; omega
      · rw [if_neg h3] at h
        split at h <;> omega
theorem tV_3 (h : tK U e p = 3) : tV U e p = U (tS U e p) ∧ (tV U e p = 59 ∨ tV U e p = 60 ∨ tV U e p = 62 ∨ tV U e p = 61) := by
  have hv : tV U e p = U (tS U e p) := by unfold tV; rw [if_pos h]
  refine ⟨hv, ?_⟩
  rw [hv]
  unfold tK at h
  by_cases h1 : e ≤ tS U e p
  · rw [if_pos h1] at h; omega
  · rw [if_neg h1] at h
    by_cases h2 : isLt (U (tS U e p)) = true
    · rw [if_pos h2] at h; omega
    · rw [if_neg h2] at h
      by_cases h3 : isDg (U (tS U e p)) = true
      · rw [if_pos h3] at h; split at h <;> omega
      · rw [if_neg h3] at h
        by_cases h4 : isSg (U (tS U e p)) = true
        · exact of_decide_eq_true h4
        · rw [if_neg h4] at h; omega
theorem sw_inj : ∀ i, i < 28 → ∀ j, j < 28 → swN i = swN j → i = j := by decide +kernel
theorem sw_lt : ∀ i, i < 28 → swN i < 1099511627776 ∧ 0 < swN i := by decide +kernel
theorem swI_i {w i : Nat} (hi : i < 28) : swI w = some i ↔ swN i = w := by
  unfold swI
  constructor
  · intro h; exact of_decide_eq_true (fndF_some h).2.2
  · intro h
    refine fnd_eq (by omega) (by omega) (decide_eq_true h) (fun j _ hj => decide_eq_false (fun z => ?_))
    have := sw_inj j (by omega) i hi (by rw [z, h])
    omega
theorem swI_lt {w i : Nat} (h : swI w = some i) : i < 28 := by have := (fndF_some h).2.1; omega
theorem tO_lt {i : Nat} (h : tO U e p = some i) : i < 28 ∧ tK U e p = 1 := by
  unfold tO at h
  split at h
  · rename_i z; exact ⟨swI_lt h, z.1⟩
  · cases h
theorem lN_ti {n : Nat} (h : n < 9223372036854775808) : (lN n).toInt = (n : Int) := by
  unfold lN
  rw [Int64.toInt_ofNat']
  have hs : Int64.size = 18446744073709551616 := rfl
  rw [hs]
  exact Int.bmod_eq_of_le (by omega) (by omega)
theorem lN_e {a b : Nat} (ha : a < 9223372036854775808) (hb : b < 9223372036854775808) : lN a = lN b ↔ a = b := by
  rw [fa_eq64, lN_ti ha, lN_ti hb]; omega
theorem nI_L {n : Nat} (h : n < 2147483648) : (nI n).toInt64 = lN n := by
  rw [fa_eq64, Int32.toInt_toInt64, nI_ti h, lN_ti (by omega)]
end TOK2
