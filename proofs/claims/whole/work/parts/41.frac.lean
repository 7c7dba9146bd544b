/-! ===== fractions: shame, dozes ===== -/
theorem rem_half {a b : Nat} (hb : 0 < b) (hr : 0 < a % b) : 2 * (b % (a % b)) < b := by
  have h1 : a % b < b := Nat.mod_lt _ hb
  generalize a % b = r at *
  have h2 : b % r < r := Nat.mod_lt _ hr
  have h3 := Nat.div_add_mod b r
  have h4 : 1 ≤ b / r := (Nat.one_le_div_iff hr).mpr (by omega)
  have h5 : r * 1 ≤ r * (b / r) := Nat.mul_le_mul_left r h4
  omega
theorem gcd_st {a b : Nat} : Nat.gcd a b = Nat.gcd b (a % b) := by
  rw [Nat.gcd_comm a b, Nat.gcd_rec b a, Nat.gcd_comm]
theorem lN_0 {n : Nat} (h : n < 2 ^ 63) : (lg_cmp (lN n) 0 = 0) ↔ n = 0 := by
  rw [lg_0, show (0 : Int64) = lN 0 from rfl]
  exact pk_lEQ h (by decide)
section FRAC
variable {μ : Mm} {F : Nat}
theorem M_gcd {v1 v3 : Int64} {kk : Int64 → Option (Bool × Mm)} : ∀ (k a b n : Nat), a < 2 ^ 63 → b < 2 ^ 63 → b < 2 ^ k → 2 * k + 1 ≤ n → L_X12_fraction_9 F v1 v3 kk μ n (lN a) (lN b) = kk (lN (Nat.gcd a b)) := by
  intro k
  induction k with
  | zero =>
    intro a b n ha hb hk hn
    obtain ⟨n, rfl⟩ : ∃ q, n = q + 1 := ⟨n - 1, by omega⟩
    have : b = 0 := by simpa using hk
    subst this
    rw [L_X12_fraction_9_s, if_pos ((lN_0 (by omega)).mpr rfl), Nat.gcd_zero_right]
  | succ k ih =>
    intro a b n ha hb hk hn
    obtain ⟨n, rfl⟩ : ∃ q, n = q + 1 := ⟨n - 1, by omega⟩
    rw [L_X12_fraction_9_s]
    by_cases e : b = 0
    · subst e
      rw [if_pos ((lN_0 (by omega)).mpr rfl), Nat.gcd_zero_right]
    · have hb0 : 0 < b := Nat.pos_of_ne_zero e
      have hbn : ¬ lN b = 0 := fun z => e ((pk_lEQ hb (by decide)).mp (show lN b = lN 0 from z))
      rw [if_neg (fun z => e ((lN_0 hb).mp z)), if_neg hbn, pk_lRem ha hb0 hb]
      have hr : a % b < b := Nat.mod_lt _ hb0
      obtain ⟨n, rfl⟩ : ∃ q, n = q + 1 := ⟨n - 1, by omega⟩
      rw [L_X12_fraction_9_s, gcd_st]
      by_cases e2 : a % b = 0
      · rw [e2, if_pos ((lN_0 (by omega)).mpr rfl), Nat.gcd_zero_right]
      · have hr0 : 0 < a % b := Nat.pos_of_ne_zero e2
        have hrn : ¬ lN (a % b) = 0 := fun z => e2 ((pk_lEQ (by omega) (by decide)).mp (show lN (a % b) = lN 0 from z))
        rw [if_neg (fun z => e2 ((lN_0 (by omega)).mp z)), if_neg hrn, pk_lRem hb hr0 (by omega), gcd_st]
        have := rem_half hb0 hr0
        rw [Nat.pow_succ] at hk
        exact ih _ _ n (by omega) (by omega) (by omega) (by omega)
theorem X_gcdL {kk : Int64 → Option Int64} : ∀ (k a b n i : Nat), a < 2 ^ 63 → b < 2 ^ 63 → b < 2 ^ k → 2 * k + 1 ≤ n → i + 2 * k ≤ 199 → L_X11_commonDivisor_9 F kk μ n (lN a) (lN b) (nI i) = kk (lN (Nat.gcd a b)) := by
  intro k
  have ni : ∀ i : Nat, i ≤ 199 → ¬ (200 : Int32) ≤ nI i := fun i hi z => by have q : 200 ≤ i := (Lle (n := 200) (by omega) (by decide)).mp z; omega
  induction k with
  | zero =>
    intro a b n i ha hb hk hn hi
    obtain ⟨n, rfl⟩ : ∃ q, n = q + 1 := ⟨n - 1, by omega⟩
    have : b = 0 := by simpa using hk
    subst this
    rw [L_X11_commonDivisor_9_s, if_neg (ni i (by omega)), if_pos ((lN_0 (by omega)).mpr rfl), Nat.gcd_zero_right]
  | succ k ih =>
    intro a b n i ha hb hk hn hi
    obtain ⟨n, rfl⟩ : ∃ q, n = q + 1 := ⟨n - 1, by omega⟩
    rw [L_X11_commonDivisor_9_s, if_neg (ni i (by omega))]
    by_cases e : b = 0
    · subst e
      rw [if_pos ((lN_0 (by omega)).mpr rfl), Nat.gcd_zero_right]
    · have hb0 : 0 < b := Nat.pos_of_ne_zero e
      have hbn : ¬ lN b = 0 := fun z => e ((pk_lEQ hb (by decide)).mp (show lN b = lN 0 from z))
      rw [if_neg (fun z => e ((lN_0 hb).mp z)), if_neg hbn, pk_lRem ha hb0 hb, nI_1]
      have hr : a % b < b := Nat.mod_lt _ hb0
      obtain ⟨n, rfl⟩ : ∃ q, n = q + 1 := ⟨n - 1, by omega⟩
      rw [L_X11_commonDivisor_9_s, if_neg (ni _ (by omega)), gcd_st]
      by_cases e2 : a % b = 0
      · rw [e2, if_pos ((lN_0 (by omega)).mpr rfl), Nat.gcd_zero_right]
      · have hr0 : 0 < a % b := Nat.pos_of_ne_zero e2
        have hrn : ¬ lN (a % b) = 0 := fun z => e2 ((pk_lEQ (by omega) (by decide)).mp (show lN (a % b) = lN 0 from z))
        rw [if_neg (fun z => e2 ((lN_0 (by omega)).mp z)), if_neg hrn, pk_lRem hb hr0 (by omega), gcd_st, nI_1]
        have := rem_half hb0 hr0
        rw [Nat.pow_succ] at hk
        exact ih _ _ n _ (by omega) (by omega) (by omega) (by omega) (by omega)
theorem X_tell {a b : Nat} (ha : a < 2 ^ 63) (hb : b < 2 ^ 60) (h0 : 0 < b) (hF : 2000000 ≤ F) : f_X11_tellFraction F (lN a) (lN b) μ = some (true, sI (sJ (sJ μ 0 1 (lN a / lN (Nat.gcd a b))) 0 2 (lN b / lN (Nat.gcd a b))) 0 0 0) := by
  have hg : 0 < Nat.gcd a b := Nat.gcd_pos_of_pos_right a h0
  have hg2 : Nat.gcd a b ≤ b := Nat.gcd_le_right a h0
  have hcd : f_X11_commonDivisor F (lN a) (lN b) μ = some (lN (Nat.gcd a b)) := by
    unfold f_X11_commonDivisor
    exact X_gcdL 60 a b F 0 ha (by omega) hb (by omega) (by omega)
  have hp : 0 < lg_cmp (lN (Nat.gcd a b)) 0 := by
    rw [lg_gt, show (0 : Int64) = lN 0 from rfl]
    exact (pk_lLT (by decide) (by omega)).mpr hg
  have hz : ¬ lN (Nat.gcd a b) = 0 := fun z => by
    have := (pk_lEQ (by omega) (by decide)).mp (show lN (Nat.gcd a b) = lN 0 from z)
    omega
  unfold f_X11_tellFraction
  rw [hcd, Option.bind_some, if_pos hp, if_neg hz, if_neg hz]
  rfl
theorem M_fraction {a b : Nat} (ha : a < 2 ^ 63) (hb : b < 2 ^ 60) (h0 : 0 < b) (hF : 2000000 ≤ F) : f_X12_fraction F (lN a) (lN b) μ = some (true, sJ (sJ μ 141 2 (lN a / lN (Nat.gcd a b))) 141 3 (lN b / lN (Nat.gcd a b))) := by
  have hg : 0 < Nat.gcd a b := Nat.gcd_pos_of_pos_right a h0
  have hg2 : Nat.gcd a b ≤ b := Nat.gcd_le_right a h0
  have hz : ¬ lN (Nat.gcd a b) = 0 := fun z => by
    have := (pk_lEQ (by omega) (by decide)).mp (show lN (Nat.gcd a b) = lN 0 from z)
    omega
  have habs : f_J9_abs_067f4 (lN a) μ = some (lN a) := by
    unfold f_J9_abs_067f4
    rw [if_pos]
    apply fa_of_nlt
    intro z
    rw [lg_lt, show (0 : Int64) = lN 0 from rfl] at z
    have := (pk_lLT ha (by decide)).mp z
    omega
  unfold f_X12_fraction
  rw [habs, Option.bind_some, M_gcd 60 a b F ha (by omega) hb (by omega), if_neg hz, if_neg hz]
/-- both sides of a call that tells a fraction -/
theorem R.f {fx fm : Mm → Option (Bool × Mm)} (h : R μ) {t b : Int64} (hx : fx μ = some (true, sI (sJ (sJ μ 0 1 t) 0 2 b) 0 0 0)) (hm : ∃ ξ, fm (sI (sJ (sJ μ 0 1 t) 0 2 b) 0 0 0) = some (true, sJ (sJ ξ 141 2 t) 141 3 b) ∧ mI ξ 141 0 = 0 ∧ Ag (fun a k => (a = 141 ∧ k < 2) ∨ a = 155) (sI (sJ (sJ μ 0 1 t) 0 2 b) 0 0 0) ξ) : Sm fx fm μ := by
  obtain ⟨ξ, e1, e2, e3⟩ := hm
  refine ⟨true, _, _, hx, e1, h.fr ?_ ?_ ?_ ?_⟩
  · exact ((((Ag.sJ (by unfold SF; omega)).tr (Ag.sJ (by unfold SF; omega))).tr (Ag.sI (by unfold SF; omega))).tr (e3.mono (fun a k q => by unfold SF; omega))).tr ((Ag.sJ (by unfold SF; omega)).tr (Ag.sJ (by unfold SF; omega)))
  · rw [mI_sJ, mI_sJ, e2, e3.i (by omega)]; rfl
  · rw [mJ_ne (by omega), mJ_ne (by omega), e3.j (by omega)]; rfl
  · rw [mJ_ne (by omega), mJ_ne (by omega), e3.j (by omega)]; rfl
theorem wrongAll_le {β : Nat → Nat} : wrongAll β ≤ cl β := cntF_le
theorem op_shame (h : R μ) (hF : 2000000 ≤ F) : Sm (f_X11_shame F) (f_X12_shame F) μ := by
  obtain ⟨β, nm, ω, σ, pg⟩ := h.pg
  have W := pg.wf
  have bx := pg.bx
  have gb := h.gb
  have hc : ∀ c, CB (V0 μ c) β := fun c => pg.c0.at rfl
  have hcl := W.cl_le
  have hw := wrongAll_le (β := β)
  by_cases e : cl β = 0
  · exact h.q 8 false (by unfold f_X11_shame; simp (disch := omega) only [Option.bind_some, bd_some, eqL, leL, ltL, Lle, Llt, addL, Ladd, Lmul, mulL, nIle, nIlt, nIeq, nI_add, pk_mul, gb, X_cells bx, X_hasCell bx W, X_hasAccount bx W, X_hasLaw bx W, bx.wide, bx.tap, bx.odds, bx.acc, bx.stand, bx.hour, bx.stolen, bx.laws, bx.rD W, bx.rT W, bx.rH W, bx.rK W, bx.rF W, bx.rS W, bx.rP W, bx.rB W, X_isWrong bx W, X_wrongs bx W hF, X_tappedSet bx W hF, X_surplus bx W hF, within_L, inN_k, eq_self, if_true, if_false, Bool.false_eq_true, ans_X, ref_X, ver_X, e]; rfl) (by unfold f_X12_shame; simp (disch := omega) only [Option.bind_some, bd_some, eqL, leL, ltL, Lle, Llt, addL, Ladd, Lmul, mulL, nIle, nIlt, nIeq, nI_add, pk_mul, M_cells (hc _), M_isCellAt (hc _) W, M_isAccountAt (hc _) W, M_isLawAt (hc _) W, (hc _).rd, (hc _).r0, M_isWrong (hc _) W, M_allWrong (hc _) W hF, M_tappedSet (hc _) W hF, M_balanced (hc _) W hF, M_isEven (hc _) W hF, isIn_L, inN_k, eq_self, if_true, if_false, Bool.false_eq_true, ans_M, no_M, e]; exact QM_r)
  · have n1 : (nI (wrongAll β)).toInt64 = lN (wrongAll β) := nI_l (by omega)
    have n2 : (nI (cl β)).toInt64 = lN (cl β) := nI_l (by omega)
    refine h.f (t := lN (wrongAll β) / lN (Nat.gcd (wrongAll β) (cl β))) (b := lN (cl β) / lN (Nat.gcd (wrongAll β) (cl β))) ?_ ⟨sI (sI (sI (sJ (sJ μ 0 1 (lN (wrongAll β) / lN (Nat.gcd (wrongAll β) (cl β)))) 0 2 (lN (cl β) / lN (Nat.gcd (wrongAll β) (cl β)))) 0 0 0) 141 1 0) 141 0 0, ?_, rfl, (Ag.sI (Or.inl ⟨rfl, by omega⟩)).tr (Ag.sI (Or.inl ⟨rfl, by omega⟩))⟩
    · unfold f_X11_shame
      simp (disch := omega) only [Option.bind_some, bd_some, eqL, leL, ltL, Lle, Llt, addL, Ladd, Lmul, mulL, nIle, nIlt, nIeq, nI_add, pk_mul, gb, X_cells bx, X_hasCell bx W, X_hasAccount bx W, X_hasLaw bx W, bx.wide, bx.tap, bx.odds, bx.acc, bx.stand, bx.hour, bx.stolen, bx.laws, bx.rD W, bx.rT W, bx.rH W, bx.rK W, bx.rF W, bx.rS W, bx.rP W, bx.rB W, X_isWrong bx W, X_wrongs bx W hF, X_tappedSet bx W hF, X_surplus bx W hF, within_L, inN_k, eq_self, if_true, if_false, Bool.false_eq_true, ans_X, ref_X, ver_X, e, n1, n2]
      rw [X_tell (by omega) (by omega) (by omega) hF]
      rfl
    · have hc2 : CB (sI (sI (sI (sJ (sJ μ 0 1 (lN (wrongAll β) / lN (Nat.gcd (wrongAll β) (cl β)))) 0 2 (lN (cl β) / lN (Nat.gcd (wrongAll β) (cl β)))) 0 0 0) 141 1 0) 141 0 0) β := pg.c0.at rfl
      unfold f_X12_shame
      rw [M_cells hc2, Option.bind_some, if_neg (fun z => e ((eqL (n := 0) (by omega) (by decide)).mp z)), M_allWrong hc2 W hF, Option.bind_some, Option.bind_some, n1, n2, M_fraction (by omega) (by omega) (by omega) hF]
      rfl
/-! odds of dozes -/
def chz : Nat → Nat → Nat
  | _, 0 => 1
  | 0, _ + 1 => 0
  | n + 1, k + 1 => chz n (k + 1) + chz n k
def dzT (o q : Nat) : Nat → Nat → Nat
  | 0, 0 => 1
  | 0, _ + 1 => 0
  | d + 1, 0 => dzT o q d 0 * q
  | d + 1, i + 1 => dzT o q d (i + 1) * q + dzT o q d i * o
theorem chz_out : ∀ {n k : Nat}, n < k → chz n k = 0
  | 0, k + 1, _ => rfl
  | n + 1, k + 1, h => by rw [chz, chz_out (by omega), chz_out (by omega)]
  | 0, 0, h => by omega
theorem dzT_out {o q : Nat} : ∀ {n k : Nat}, n < k → dzT o q n k = 0
  | 0, k + 1, _ => rfl
  | n + 1, k + 1, h => by rw [dzT, dzT_out (by omega), dzT_out (by omega)]; simp
  | 0, 0, h => by omega
theorem dzT_eq {o q : Nat} : ∀ {n k : Nat}, k ≤ n → dzT o q n k = chz n k * o ^ k * q ^ (n - k)
  | 0, 0, _ => by simp [dzT, chz]
  | n + 1, 0, _ => by
    rw [dzT, dzT_eq (Nat.zero_le _), show n + 1 - 0 = (n - 0) + 1 by omega, Nat.pow_succ]
    simp [chz, Nat.mul_assoc]
  | n + 1, k + 1, h => by
    rw [dzT, chz]
    by_cases e : k = n
    · subst e
      rw [dzT_out (by omega), chz_out (by omega), dzT_eq (Nat.le_refl _)]
      simp [Nat.pow_succ, Nat.mul_assoc]
    · rw [dzT_eq (show k + 1 ≤ n by omega), dzT_eq (show k ≤ n by omega), show n + 1 - (k + 1) = n - k by omega, show n - k = (n - (k + 1)) + 1 by omega, Nat.pow_succ, Nat.pow_succ, Nat.add_mul, Nat.add_mul]
      congr 1
      · simp only [Nat.mul_assoc, Nat.mul_comm, Nat.mul_left_comm]
      · simp only [Nat.mul_assoc, Nat.mul_comm, Nat.mul_left_comm]
theorem chz_nx : ∀ n, n < 13 → ∀ i, i < 13 → i ≤ n → chz n i * (n - i) / (i + 1) = chz n (i + 1) ∧ chz n i < 1000 := by decide +kernel
theorem dzT_le {o q : Nat} (h : o + q = 16) : ∀ n k, dzT o q n k ≤ 16 ^ n
  | 0, 0 => by simp [dzT]
  | 0, k + 1 => by simp [dzT]
  | n + 1, 0 => by
    rw [dzT, Nat.pow_succ]
    exact Nat.mul_le_mul (dzT_le h n 0) (by omega)
  | n + 1, k + 1 => by
    rw [dzT, Nat.pow_succ, ← h, Nat.mul_add]
    have h1 := Nat.mul_le_mul_right q (dzT_le h n (k + 1))
    have h2 := Nat.mul_le_mul_right o (dzT_le h n k)
    rw [← h] at h1 h2
    omega
theorem X_power {b t : Nat} (hb : b < 1000) (ht : t < 1000) (hF : 2000000 ≤ F) : f_X11_power F (nI b) (nI t) μ = some (lN (b ^ t)) := by
  unfold f_X11_power
  refine iter2 (L := L_X11_power_5 F (nI b) (nI t) _ μ) (fun i => lN (b ^ i)) (fun i => nI i) (N := t) (by omega) (fun i hi n => ?_) (fun n => ?_)
  · rw [L_X11_power_5_s, if_neg (fun z => by have := (nIle (by omega) (by omega)).mp z; omega), nI_l (by omega), lN_mul, nI_1, Nat.pow_succ]
  · rw [L_X11_power_5_s, if_pos ((nIle (by omega) (by omega)).mpr (by omega))]
/-- the sum of the terms from k on, of the first n + 1 ones -/
def dzS (o q n k i : Nat) : Nat := foldF (fun j x => if j < k then x else x + dzT o q n j) 0 i 0
theorem X_ways {o n k : Nat} (ho : o ≤ 16) (hn : n ≤ 12) (hk : k ≤ 12) (hF : 2000000 ≤ F) : f_X11_waysToDoze F (nI o) (nI n) (nI k) μ = some (lN (dzS o (16 - o) n k (n + 1))) := by
  unfold f_X11_waysToDoze
  have key := iter3 (F := F) (K := some (lN (dzS o (16 - o) n k (n + 1)))) (L := L_X11_waysToDoze_8 F (nI o) (nI n) (nI k) (fun u7 => some u7) μ) (fun i => lN (dzS o (16 - o) n k i)) (fun i => lN (chz n i)) (fun i => nI i) (N := n + 1) (by omega) (fun i hi m => ?_) (fun m => ?_)
  · rw [show chz n 0 = 1 by cases n <;> rfl] at key
    exact key
  · obtain ⟨c1, c2⟩ := chz_nx n (by omega) i (by omega) (by omega)
    have h16 : (16 : Int32) - nI o = nI (16 - o) := by rw [show (16 : Int32) = nI 16 from rfl]; exact nIsub ho
    have hmul : chz n i * (n - i) ≤ 1000 * 12 := Nat.mul_le_mul (by omega) (by omega)
    have hdiv : lN (chz n i) * (nI n - nI i).toInt64 / (nI (i + 1)).toInt64 = lN (chz n (i + 1)) := by
      rw [nIsub (by omega), nI_l (by omega), nI_l (by omega), lN_mul, pk_lDiv (by omega) (by omega) (by omega), c1]
    have hz : ((nI (i + 1)).toInt64 = 0) = False := by
      rw [nI_l (by omega), show (0 : Int64) = lN 0 from rfl]
      apply eq_false
      intro z
      have := (pk_lEQ (by omega) (by decide)).mp z
      omega
    have p1 : f_X11_power F (nI o) (nI i) μ = some (lN (o ^ i)) := X_power (by omega) (by omega) hF
    have p2 : f_X11_power F ((16 : Int32) - nI o) (nI n - nI i) μ = some (lN ((16 - o) ^ (n - i))) := by rw [h16, nIsub (by omega)]; exact X_power (by omega) (by omega) hF
    rw [L_X11_waysToDoze_8_s]
    unfold jn
    rw [if_neg (fun z => by have := (nIlt (by omega) (by omega)).mp z; omega)]
    simp only [p1, p2, Option.bind_some, nI_1, hdiv, hz, if_false, lN_mul, lN_add]
    have hs : dzS o (16 - o) n k (i + 1) = if i < k then dzS o (16 - o) n k i else dzS o (16 - o) n k i + dzT o (16 - o) n i := by unfold dzS; rw [foldF_n, Nat.zero_add]
    rw [hs, dzT_eq (show i ≤ n by omega)]
    by_cases e : i < k
    · rw [if_pos ((nIlt (by omega) (by omega)).mpr e), if_pos e]
    · rw [if_neg (fun z => e ((nIlt (by omega) (by omega)).mp z)), if_neg e]
  · rw [L_X11_waysToDoze_8_s, if_pos ((nIlt (by omega) (by omega)).mpr (by omega))]
theorem M_dz1 {v1 v2 : Int32} {kk : Mm → Option (Bool × Mm)} {o q : Nat} (hF : 2000000 ≤ F) : ∃ ν, L_X12_dozes_45 F v1 v2 1 kk F 0 μ = kk ν ∧ (∀ i, i < 13 → mL ν 155 i = lN (dzT o q 0 i)) ∧ Ag (fun a _ => a = 155) μ ν := by
  refine ⟨putL μ 155 (fun i => lN (dzT o q 0 i)) 0 13, ?_, fun i hi => by rw [putL_mL, if_pos (by omega)], putL_ag (fun _ _ _ => rfl)⟩
  refine iter2 (F := F) (L := L_X12_dozes_45 F v1 v2 1 kk) (fun i => nI i) (fun i => putL μ 155 (fun i => lN (dzT o q 0 i)) 0 i) (N := 13) (by omega) (fun i hi n => ?_) (fun n => ?_)
  · have hv : (if nI i = 0 then (1 : Int64) else 0) = lN (dzT o q 0 i) := by
      cases i with
      | zero => rfl
      | succ i => rw [if_neg (fun z => by have z2 : i + 1 = 0 := (eqL (n := 0) (by omega) (by decide)).mp z; omega)]; rfl
    rw [L_X12_dozes_45_s, putL_n, Nat.zero_add, hv]
    simp (disch := omega) only [Option.bind_some, bd_some, eqL, leL, ltL, Lle, Llt, addL, Ladd, Lmul, mulL, nIle, nIlt, nIeq, nI_add, pk_mul, wrL_n]
    rw [if_neg (by omega)]
  · rw [L_X12_dozes_45_s]
    simp (disch := omega) only [Option.bind_some, bd_some, eqL, leL, ltL, Lle, Llt, addL, Ladd, Lmul, mulL, nIle, nIlt, nIeq, nI_add, pk_mul]
    rw [if_pos (by omega)]
def dzM (μ : Mm) (f : Nat → Int64) (q : Nat) : Mm := foldF (fun q ν => sL ν 155 (12 - q) (f (12 - q))) 0 q μ
theorem dzM_n {f : Nat → Int64} {q : Nat} : dzM μ f (q + 1) = sL (dzM μ f q) 155 (12 - q) (f (12 - q)) := by unfold dzM; rw [foldF_n, Nat.zero_add]
theorem dzM_at {f : Nat → Int64} : ∀ {q : Nat}, q ≤ 12 → ∀ i, i < 13 → mL (dzM μ f q) 155 i = if 12 - q < i then f i else mL μ 155 i
  | 0, _, i, hi => by rw [if_neg (by omega)]; rfl
  | q + 1, hq, i, hi => by
    rw [dzM_n, mL_sL, if_pos rfl, dzM_at (by omega) i hi]
    by_cases e : i = 12 - q
    · rw [if_pos e, if_pos (by omega), e]
    · rw [if_neg e]
      by_cases z : 12 - q < i
      · rw [if_pos z, if_pos (by omega)]
      · rw [if_neg z, if_neg (by omega)]
theorem dzM_ag {f : Nat → Int64} : ∀ {q : Nat}, Ag (fun a _ => a = 155) μ (dzM μ f q)
  | 0 => Ag.rf
  | q + 1 => by rw [dzM_n]; exact dzM_ag.tr (Ag.sL rfl)
theorem M_dz2 {β : Nat → Nat} (h : CB μ β) {v1 v2 : Int32} {v3 : Int64} {v5 : Int32} {kk : Mm → Option (Bool × Mm)} {d : Nat} (ho : β 4 ≤ 16) (hr : ∀ i, i < 13 → mL μ 155 i = lN (dzT (β 4) (16 - β 4) d i)) (hF : 2000000 ≤ F) : L_X12_dozes_88 F v1 v2 v3 v5 kk F 12 μ = kk (dzM μ (fun i => lN (dzT (β 4) (16 - β 4) (d + 1) i)) 12) := by
  have h16 : (16 : Int32) - nI (β 4) = nI (16 - β 4) := by rw [show (16 : Int32) = nI 16 from rfl]; exact nIsub ho
  refine iter2 (F := F) (L := L_X12_dozes_88 F v1 v2 v3 v5 kk) (fun q => nI (12 - q)) (fun q => dzM μ (fun i => lN (dzT (β 4) (16 - β 4) (d + 1) i)) q) (N := 12) (by omega) (fun q hq n => ?_) (fun n => ?_)
  · obtain ⟨p, hp⟩ : ∃ p, 12 - q = p + 1 := ⟨11 - q, by omega⟩
    have hp2 : 12 - (q + 1) = p := by omega
    have hcb : CB (dzM μ (fun i => lN (dzT (β 4) (16 - β 4) (d + 1) i)) q) β := h.at (dzM_ag.A (fun _ => by omega))
    have r1 : rdL (dzM μ (fun i => lN (dzT (β 4) (16 - β 4) (d + 1) i)) q) 155 13 (nI (p + 1)) = some (lN (dzT (β 4) (16 - β 4) d (p + 1))) := by rw [rdL_n (by omega) (by omega), dzM_at (by omega) _ (by omega), if_neg (by omega), hr _ (by omega)]
    have r2 : rdL (dzM μ (fun i => lN (dzT (β 4) (16 - β 4) (d + 1) i)) q) 155 13 (nI p) = some (lN (dzT (β 4) (16 - β 4) d p)) := by rw [rdL_n (by omega) (by omega), dzM_at (by omega) _ (by omega), if_neg (by omega), hr _ (by omega)]
    have hval : lN (dzT (β 4) (16 - β 4) d (p + 1)) * (nI (16 - β 4)).toInt64 + lN (dzT (β 4) (16 - β 4) d p) * (nI (β 4)).toInt64 = lN (dzT (β 4) (16 - β 4) (d + 1) (p + 1)) := by
      rw [nI_l (by omega), nI_l (by omega), lN_mul, lN_mul, lN_add]
      rfl
    rw [dzM_n, hp, hp2, L_X12_dozes_88_s, if_neg (fun z => by have z2 : p + 1 ≤ 0 := (leL (n := 0) (by omega) (by decide)).mp z; omega), r1, hcb.rl 4 (by omega), nI_pred, r2]
    simp only [Option.bind_some]
    rw [h16, hval, wrL_n (by omega) (by omega), pk_m1]
    rfl
  · rw [L_X12_dozes_88_s]
    rfl
/-- one more doze -/
def dzN (μ : Mm) (o d : Nat) : Mm := sL (dzM μ (fun i => lN (dzT o (16 - o) (d + 1) i)) 12) 155 0 (lN (dzT o (16 - o) (d + 1) 0))
theorem M_dz3 {β : Nat → Nat} (h : CB μ β) {n : Nat} (hn : n ≤ 12) {v2 : Int32} {kk : Int64 → Mm → Option (Bool × Mm)} (ho : β 4 ≤ 16) (hr : ∀ i, i < 13 → mL μ 155 i = lN (dzT (β 4) (16 - β 4) 0 i)) (hF : 2000000 ≤ F) : ∃ ν, L_X12_dozes_78 F (nI n) v2 kk F 1 0 μ = kk (lN (16 ^ n)) ν ∧ (∀ i, i < 13 → mL ν 155 i = lN (dzT (β 4) (16 - β 4) n i)) ∧ Ag (fun a _ => a = 155) μ ν := by
  have h16 : (16 : Int32) - nI (β 4) = nI (16 - β 4) := by rw [show (16 : Int32) = nI 16 from rfl]; exact nIsub ho
  have step : ∀ d x v ν, d < n → (x = lN (16 ^ d) ∧ v = nI d ∧ (∀ i, i < 13 → mL ν 155 i = lN (dzT (β 4) (16 - β 4) d i)) ∧ Ag (fun a _ => a = 155) μ ν) → ∃ x' v' ν', (x' = lN (16 ^ (d + 1)) ∧ v' = nI (d + 1) ∧ (∀ i, i < 13 → mL ν' 155 i = lN (dzT (β 4) (16 - β 4) (d + 1) i)) ∧ Ag (fun a _ => a = 155) μ ν') ∧ ∀ m, L_X12_dozes_78 F (nI n) v2 kk (m + 1) x v ν = L_X12_dozes_78 F (nI n) v2 kk m x' v' ν' := by
    rintro d x v ν hd ⟨rfl, rfl, h2, h3⟩
    have hcb : CB ν β := h.at (h3.A (fun _ => by omega))
    obtain ⟨ν1, hν1⟩ : ∃ ν1, ν1 = dzM ν (fun i => lN (dzT (β 4) (16 - β 4) (d + 1) i)) 12 := ⟨_, rfl⟩
    have e4 : Ag (fun a _ => a = 155) ν ν1 := by rw [hν1]; exact dzM_ag
    have ea : ∀ i, i < 13 → mL ν1 155 i = if 12 - 12 < i then lN (dzT (β 4) (16 - β 4) (d + 1) i) else mL ν 155 i := fun i hi => by rw [hν1]; exact dzM_at (by omega) i hi
    have hcb1 : CB ν1 β := hcb.at (e4.A (fun _ => by omega))
    have r0 : rdL ν1 155 13 0 = some (lN (dzT (β 4) (16 - β 4) d 0)) := by rw [show (0 : Int32) = nI 0 from rfl, rdL_n (by omega) (by omega), ea 0 (by omega), if_neg (by omega), h2 0 (by omega)]
    have w0 : ∀ x, wrL ν1 155 13 0 x = some (sL ν1 155 0 x) := fun x => wrL_n (k := 0) (by omega) (by omega)
    have hv : lN (dzT (β 4) (16 - β 4) d 0) * (nI (16 - β 4)).toInt64 = lN (dzT (β 4) (16 - β 4) (d + 1) 0) := by
      rw [nI_l (by omega), lN_mul]
      rfl
    refine ⟨lN (16 ^ (d + 1)), nI (d + 1), sL ν1 155 0 (lN (dzT (β 4) (16 - β 4) (d + 1) 0)), ⟨rfl, rfl, fun i hi => ?_, (h3.tr e4).tr (Ag.sL rfl)⟩, fun m => ?_⟩
    · rw [mL_sL, if_pos rfl]
      by_cases z : i = 0
      · rw [if_pos z, z]
      · rw [if_neg z, ea i hi, if_pos (by omega)]
    · rw [L_X12_dozes_78_s, if_neg (fun z => by have := (nIle (by omega) (by omega)).mp z; omega), M_dz2 hcb ho h2 hF, ← hν1, r0, Option.bind_some, hcb1.rl 4 (by omega), Option.bind_some, h16, hv, w0, Option.bind_some, nI_1, Nat.pow_succ, ← lN_mul]
      rfl
  obtain ⟨x, v, ν, m, ⟨h0, h1, h2, h3⟩, e⟩ := iterI3 (L := L_X12_dozes_78 F (nI n) v2 kk) (F := F) (N := n) _ (by omega) step (a := 1) (b := 0) (c := μ) ⟨rfl, rfl, hr, Ag.rf⟩
  refine ⟨ν, ?_, h2, h3⟩
  rw [e, L_X12_dozes_78_s, h1, h0, if_pos ((nIle (by omega) (by omega)).mpr (by omega))]
/-- the reference's sum -/
theorem dz_sum {o q n k : Nat} (hn : n ≤ 12) : ∀ m, k + m = 13 → foldF (fun j x => x + dzT o q n j) k m 0 = foldF (fun j x => x + dzT o q n j) k m 0 := fun _ _ => rfl
theorem fold_add {f : Nat → Nat} : ∀ {m i x : Nat}, foldF (fun j x => x + f j) i m x = x + foldF (fun j x => x + f j) i m 0
  | 0, i, x => rfl
  | m + 1, i, x => by rw [foldF_s, fold_add, foldF_s, fold_add (x := 0 + f i)]; omega
theorem fold_app {α : Type} {f : Nat → α → α} : ∀ {a b i : Nat} {x : α}, foldF f i (a + b) x = foldF f (i + a) b (foldF f i a x)
  | 0, b, i, x => by rw [Nat.zero_add]; rfl
  | a + 1, b, i, x => by rw [show a + 1 + b = (a + b) + 1 by omega, foldF_s, fold_app, foldF_s, show i + 1 + a = i + (a + 1) by omega]
theorem fold_id {α : Type} {f : Nat → α → α} : ∀ {m i : Nat} {x : α}, (∀ j y, i ≤ j → j < i + m → f j y = y) → foldF f i m x = x
  | 0, i, x, _ => rfl
  | m + 1, i, x, h => by rw [foldF_s, h i x (by omega) (by omega), fold_id (fun j y h1 h2 => h j y (by omega) (by omega))]
theorem dzS_eq {o q n k : Nat} (hn : n ≤ 12) (hk : k ≤ 12) : foldF (fun j x => x + dzT o q n j) k (13 - k) 0 = dzS o q n k (n + 1) := by
  unfold dzS
  have h1 : foldF (fun j x => if j < k then x else x + dzT o q n j) 0 13 0 = foldF (fun j x => x + dzT o q n j) k (13 - k) 0 := by
    have a1 : foldF (fun j x => if j < k then x else x + dzT o q n j) 0 k 0 = 0 := fold_id (fun j y h1 h2 => by rw [if_pos (by omega)])
    have a2 : foldF (fun j x => if j < k then x else x + dzT o q n j) 0 13 0 = foldF (fun j x => if j < k then x else x + dzT o q n j) 0 (k + (13 - k)) 0 := by rw [show k + (13 - k) = 13 by omega]
    rw [a2, fold_app, a1, Nat.zero_add]
    exact foldF_cong (fun j y h1 h2 => by rw [if_neg (by omega)])
  have h2 : foldF (fun j x => if j < k then x else x + dzT o q n j) 0 13 0 = foldF (fun j x => if j < k then x else x + dzT o q n j) 0 (n + 1) 0 := by
    have a2 : foldF (fun j x => if j < k then x else x + dzT o q n j) 0 13 0 = foldF (fun j x => if j < k then x else x + dzT o q n j) 0 ((n + 1) + (12 - n)) 0 := by rw [show (n + 1) + (12 - n) = 13 by omega]
    rw [a2, fold_app]
    apply fold_id
    intro j y h1 h2
    split
    · rfl
    · rw [dzT_out (by omega)]; rfl
  rw [← h1, h2]
theorem dz_bound {o q n : Nat} (h : o + q = 16) : ∀ m i, foldF (fun j x => x + dzT o q n j) i m 0 ≤ m * 16 ^ n
  | 0, i => by simp [foldF]
  | m + 1, i => by
    rw [foldF_s, fold_add, Nat.succ_mul]
    have := dz_bound h (n := n) m (i + 1)
    have h2 := dzT_le h n i
    omega
theorem M_dz4 {k : Nat} (hk : k ≤ 12) {v3 : Int64} {kk : Int64 → Option (Bool × Mm)} {f : Nat → Nat} (hr : ∀ i, i < 13 → mL μ 155 i = lN (f i)) (hF : 2000000 ≤ F) : L_X12_dozes_179 F v3 kk μ F 0 (nI k) = kk (lN (foldF (fun j x => x + f j) k (13 - k) 0)) := by
  refine iter2 (F := F) (L := L_X12_dozes_179 F v3 kk μ) (fun i => lN (foldF (fun j x => x + f j) k i 0)) (fun i => nI (k + i)) (N := 13 - k) (by omega) (fun i hi n => ?_) (fun n => ?_)
  · rw [L_X12_dozes_179_s, foldF_n]
    simp (disch := omega) only [Option.bind_some, bd_some, eqL, leL, ltL, Lle, Llt, addL, Ladd, Lmul, mulL, nIle, nIlt, nIeq, nI_add, pk_mul, rdL_n]
    rw [if_neg (by omega), hr _ (by omega), lN_add]
    rfl
  · rw [L_X12_dozes_179_s]
    simp (disch := omega) only [Option.bind_some, bd_some, eqL, leL, ltL, Lle, Llt, addL, Ladd, Lmul, mulL, nIle, nIlt, nIeq, nI_add, pk_mul]
    rw [if_pos (by omega)]
theorem op_dozes (h : R μ) (hF : 2000000 ≤ F) (v u : Int32) : Sm (f_X11_dozes F v u) (f_X12_dozes F v u) μ := by
  obtain ⟨β, nm, ω, σ, pg⟩ := h.pg
  have W := pg.wf
  have bx := pg.bx
  have gb := h.gb
  have hc : ∀ c, CB (V0 μ c) β := fun c => pg.c0.at rfl
  have ho := W.1.2.2.2.2.2.2.1
  by_cases e1 : inR v 0 12 = true
  · by_cases e2 : inR u 0 12 = true
    · obtain ⟨n, -, hn, -, rfl⟩ := inR_of e1
      obtain ⟨k, -, hk, -, rfl⟩ := inR_of e2
      obtain ⟨S, hS⟩ : ∃ S, S = dzS (β 4) (16 - β 4) n k (n + 1) := ⟨_, rfl⟩
      have hpow : 16 ^ n ≤ 16 ^ 12 := Nat.pow_le_pow_right (by omega) hn
      have hpos : 0 < 16 ^ n := Nat.pos_of_ne_zero (by simp)
      have h1612 : (16 : Nat) ^ 12 = 281474976710656 := by decide
      have hSb : S < 2 ^ 63 := by
        have := dz_bound (o := β 4) (q := 16 - β 4) (n := n) (by omega) (13 - k) k
        rw [dzS_eq hn hk, ← hS] at this
        have h2 : (13 - k) * 16 ^ n ≤ 13 * 16 ^ 12 := Nat.mul_le_mul (by omega) hpow
        omega
      refine h.f (t := lN S / lN (Nat.gcd S (16 ^ n))) (b := lN (16 ^ n) / lN (Nat.gcd S (16 ^ n))) ?_ ?_
      · unfold f_X11_dozes
        simp (disch := omega) only [Option.bind_some, bd_some, eqL, leL, ltL, Lle, Llt, addL, Ladd, Lmul, mulL, nIle, nIlt, nIeq, nI_add, pk_mul, gb, X_cells bx, X_hasCell bx W, X_hasAccount bx W, X_hasLaw bx W, bx.wide, bx.tap, bx.odds, bx.acc, bx.stand, bx.hour, bx.stolen, bx.laws, bx.rD W, bx.rT W, bx.rH W, bx.rK W, bx.rF W, bx.rS W, bx.rP W, bx.rB W, X_isWrong bx W, X_wrongs bx W hF, X_tappedSet bx W hF, X_surplus bx W hF, within_L, inN_k, eq_self, if_true, if_false, Bool.false_eq_true, ans_X, ref_X, ver_X, e1, e2, X_ways ho hn hk hF]
        rw [show (16 : Int32) = nI 16 from rfl, X_power (by omega) (by omega) hF, ← hS]
        simp only [Option.bind_some]
        rw [X_tell hSb (by omega) hpos hF]
        rfl
      · obtain ⟨ν0, hν0⟩ : ∃ ν0, ν0 = sI (sI (sI (sJ (sJ μ 0 1 (lN S / lN (Nat.gcd S (16 ^ n)))) 0 2 (lN (16 ^ n) / lN (Nat.gcd S (16 ^ n)))) 0 0 0) 141 1 0) 141 0 0 := ⟨_, rfl⟩
        have c0 : CB ν0 β := by rw [hν0]; exact pg.c0.at rfl
        obtain ⟨ν1, a1, a2, a3⟩ := M_dz1 (F := F) (μ := ν0) (v1 := nI n) (v2 := nI k) (o := β 4) (q := 16 - β 4) (kk := fun μ9 => L_X12_dozes_78 F (nI n) (nI k) (fun u19 μ20 => L_X12_dozes_179 F u19 (fun u22 => bd (f_X12_fraction F u22 u19 μ20) fun x23 μ24 => some (x23, μ24)) μ20 F 0 (nI k)) F 1 0 μ9) hF
        have c1 : CB ν1 β := c0.at (a3.A (fun _ => by omega))
        obtain ⟨ν2, b1, b2, b3⟩ := M_dz3 (F := F) c1 hn (v2 := nI k) (kk := fun u19 μ20 => L_X12_dozes_179 F u19 (fun u22 => bd (f_X12_fraction F u22 u19 μ20) fun x23 μ24 => some (x23, μ24)) μ20 F 0 (nI k)) ho a2 hF
        refine ⟨ν2, ?_, by rw [b3.i (by omega), a3.i (by omega), hν0]; rfl, ?_⟩
        · unfold f_X12_dozes
          rw [← hν0, isIn_L (by decide) (by decide), e1, Option.bind_some, if_pos rfl, isIn_L (by decide) (by decide), e2, Option.bind_some, if_pos rfl, a1, b1, M_dz4 hk b2 hF, dzS_eq hn hk, ← hS, M_fraction hSb (by omega) hpos hF]
          rfl
        · have : Ag (fun a k => (a = 141 ∧ k < 2) ∨ a = 155) (sI (sJ (sJ μ 0 1 (lN S / lN (Nat.gcd S (16 ^ n)))) 0 2 (lN (16 ^ n) / lN (Nat.gcd S (16 ^ n)))) 0 0 0) ν0 := by rw [hν0]; exact (Ag.sI (Or.inl ⟨rfl, by omega⟩)).tr (Ag.sI (Or.inl ⟨rfl, by omega⟩))
          exact (this.tr (a3.mono (fun a k q => Or.inr q))).tr (b3.mono (fun a k q => Or.inr q))
    · have z := inR_no e2
      exact h.q 5 false (by unfold f_X11_dozes; simp (disch := omega) only [Option.bind_some, bd_some, eqL, leL, ltL, Lle, Llt, addL, Ladd, Lmul, mulL, nIle, nIlt, nIeq, nI_add, pk_mul, gb, X_cells bx, X_hasCell bx W, X_hasAccount bx W, X_hasLaw bx W, bx.wide, bx.tap, bx.odds, bx.acc, bx.stand, bx.hour, bx.stolen, bx.laws, bx.rD W, bx.rT W, bx.rH W, bx.rK W, bx.rF W, bx.rS W, bx.rP W, bx.rB W, X_isWrong bx W, X_wrongs bx W hF, X_tappedSet bx W hF, X_surplus bx W hF, within_L, inN_k, eq_self, if_true, if_false, Bool.false_eq_true, ans_X, ref_X, ver_X, e1, z]; rfl) (by unfold f_X12_dozes; simp (disch := omega) only [Option.bind_some, bd_some, eqL, leL, ltL, Lle, Llt, addL, Ladd, Lmul, mulL, nIle, nIlt, nIeq, nI_add, pk_mul, M_cells (hc _), M_isCellAt (hc _) W, M_isAccountAt (hc _) W, M_isLawAt (hc _) W, (hc _).rd, (hc _).r0, M_isWrong (hc _) W, M_allWrong (hc _) W hF, M_tappedSet (hc _) W hF, M_balanced (hc _) W hF, M_isEven (hc _) W hF, isIn_L, inN_k, eq_self, if_true, if_false, Bool.false_eq_true, ans_M, no_M, e1, z]; exact QM_r)
  · have z := inR_no e1
    exact h.q 5 false (by unfold f_X11_dozes; simp (disch := omega) only [Option.bind_some, bd_some, eqL, leL, ltL, Lle, Llt, addL, Ladd, Lmul, mulL, nIle, nIlt, nIeq, nI_add, pk_mul, gb, X_cells bx, X_hasCell bx W, X_hasAccount bx W, X_hasLaw bx W, bx.wide, bx.tap, bx.odds, bx.acc, bx.stand, bx.hour, bx.stolen, bx.laws, bx.rD W, bx.rT W, bx.rH W, bx.rK W, bx.rF W, bx.rS W, bx.rP W, bx.rB W, X_isWrong bx W, X_wrongs bx W hF, X_tappedSet bx W hF, X_surplus bx W hF, within_L, inN_k, eq_self, if_true, if_false, Bool.false_eq_true, ans_X, ref_X, ver_X, z]; rfl) (by unfold f_X12_dozes; simp (disch := omega) only [Option.bind_some, bd_some, eqL, leL, ltL, Lle, Llt, addL, Ladd, Lmul, mulL, nIle, nIlt, nIeq, nI_add, pk_mul, M_cells (hc _), M_isCellAt (hc _) W, M_isAccountAt (hc _) W, M_isLawAt (hc _) W, (hc _).rd, (hc _).r0, M_isWrong (hc _) W, M_allWrong (hc _) W hF, M_tappedSet (hc _) W hF, M_balanced (hc _) W hF, M_isEven (hc _) W hF, isIn_L, inN_k, eq_self, if_true, if_false, Bool.false_eq_true, ans_M, no_M, z]; exact QM_r)
end FRAC
