/-! ===== pour, copyDigits, feed ===== -/
section POUR
variable {μ : Mm} {F : Nat}
/-- the reference's row behind q turns of pouring -/
def prR (g : Nat → Int64) (s d n q : Nat) (up : Bool) (p : Nat) : Int64 := if up = true then (if d + (n - q) ≤ p ∧ p < d + n then g (s + (p - d)) else g p) else (if d ≤ p ∧ p < d + q then g (s + (p - d)) else g p)
theorem M_pourL (hF : 2000000 ≤ F) {t i u j n : Nat} (ht : t < 4) (hu : u < 4) (hi : i + n ≤ 60) (hj : j + n ≤ 60) {ξ : Mm} : ∃ ζ, L_X12_pour_158 F (nI t) (nI i) (nI u) (nI j) (nI n) (if nI j ≤ nI i then (0 : Int32) else 1) (fun μ28 => some (true, μ28)) F 0 ξ = some (true, ζ) ∧ mL ζ 144 = prR (mL ξ 144) (60 * t + i) (60 * u + j) n n (decide (i < j)) ∧ Ag (fun a _ => a = 144) ξ ζ := by
  have hv6 : (if nI j ≤ nI i then (0 : Int32) else 1) = if i < j then 1 else 0 := by
    by_cases e : i < j
    · rw [if_pos e, if_neg (fun q => by have := (nIle (by omega) (by omega)).mp q; omega)]
    · rw [if_neg e, if_pos ((nIle (by omega) (by omega)).mpr (by omega))]
  rw [hv6]
  have step : ∀ q v ζ, q < n → (v = nI q ∧ mL ζ 144 = prR (mL ξ 144) (60 * t + i) (60 * u + j) n q (decide (i < j)) ∧ Ag (fun a _ => a = 144) ξ ζ) → ∃ v' ζ', (v' = nI (q + 1) ∧ mL ζ' 144 = prR (mL ξ 144) (60 * t + i) (60 * u + j) n (q + 1) (decide (i < j)) ∧ Ag (fun a _ => a = 144) ξ ζ') ∧ ∀ m, L_X12_pour_158 F (nI t) (nI i) (nI u) (nI j) (nI n) (if i < j then 1 else 0) (fun μ28 => some (true, μ28)) (m + 1) v ζ = L_X12_pour_158 F (nI t) (nI i) (nI u) (nI j) (nI n) (if i < j then 1 else 0) (fun μ28 => some (true, μ28)) m v' ζ' := by
    rintro q v ζ hq ⟨rfl, h2, h3⟩
    let o := if i < j then n - 1 - q else q
    have ho : o < n := by show (if i < j then n - 1 - q else q) < n; split <;> omega
    have hoff : (if (if i < j then (1 : Int32) else 0) = 0 then nI q else (nI n - 1) - nI q) = nI o := by
      show _ = nI (if i < j then n - 1 - q else q)
      by_cases e : i < j
      · rw [if_pos e, if_neg (by decide), if_pos e, subL (by show 1 ≤ n; omega), nIsub (by show q ≤ n - 1; omega)]
      · rw [if_neg e, if_pos rfl, if_neg e]
    refine ⟨nI (q + 1), sL ζ 144 (60 * u + j + o) (mL ζ 144 (60 * t + i + o)), ⟨rfl, ?_, h3.tr (Ag.sL rfl)⟩, fun m => ?_⟩
    · have hread : mL ζ 144 (60 * t + i + o) = mL ξ 144 (60 * t + i + o) := by
        rw [h2]
        unfold prR
        by_cases e : i < j
        · have oe : o = n - 1 - q := if_pos e
          rw [if_pos (decide_eq_true e), if_neg]
          intro z
          by_cases etu : t = u
          · subst etu; omega
          · omega
        · have oe : o = q := if_neg e
          rw [if_neg (by simp [e]), if_neg]
          intro z
          by_cases etu : t = u
          · subst etu; omega
          · omega
      funext p
      rw [mL_sL, if_pos rfl, hread, h2]
      unfold prR
      by_cases e : i < j
      · have oe : o = n - 1 - q := if_pos e
        rw [if_pos (show decide (i < j) = true from decide_eq_true e), if_pos (show decide (i < j) = true from decide_eq_true e)]
        by_cases ep : p = 60 * u + j + o
        · rw [if_pos ep, if_pos (by omega)]; congr 1; omega
        · rw [if_neg ep]
          by_cases z : 60 * u + j + (n - q) ≤ p ∧ p < 60 * u + j + n
          · rw [if_pos z, if_pos (by omega)]
          · rw [if_neg z, if_neg (by omega)]
      · have oe : o = q := if_neg e
        rw [if_neg (show ¬ decide (i < j) = true by simp [e]), if_neg (show ¬ decide (i < j) = true by simp [e])]
        by_cases ep : p = 60 * u + j + o
        · rw [if_pos ep, if_pos (by omega)]; congr 1; omega
        · rw [if_neg ep]
          by_cases z : 60 * u + j ≤ p ∧ p < 60 * u + j + q
          · rw [if_pos z, if_pos (by omega)]
          · rw [if_neg z, if_neg (by omega)]
    · rw [L_X12_pour_158_s, hoff]
      simp (disch := omega) only [Option.bind_some, bd_some, eqL, leL, ltL, Lle, Llt, addL, Ladd, Lmul, mulL, nIle, nIlt, nIeq, nI_add, pk_mul, rdL_n, wrL_n]
      rw [if_neg (by omega)]
  obtain ⟨v, ζ, m, ⟨h1, h2, h3⟩, e⟩ := iterI2 (L := L_X12_pour_158 F (nI t) (nI i) (nI u) (nI j) (nI n) (if i < j then 1 else 0) (fun μ28 => some (true, μ28))) (F := F) (N := n) (fun q v ζ => v = nI q ∧ mL ζ 144 = prR (mL ξ 144) (60 * t + i) (60 * u + j) n q (decide (i < j)) ∧ Ag (fun a _ => a = 144) ξ ζ) (by omega) step (a := 0) (b := ξ) ⟨rfl, by
    funext p
    unfold prR
    by_cases e : i < j
    · rw [if_pos (decide_eq_true e), if_neg (by omega)]
    · rw [if_neg (by simp [e]), if_neg (by omega)], Ag.rf⟩
  refine ⟨ζ, ?_, h2, h3⟩
  rw [e, L_X12_pour_158_s, h1, if_pos ((nIle (by omega) (by omega)).mpr (by omega))]
theorem prR_all {g : Nat → Int64} {s d n : Nat} {up : Bool} {p : Nat} : prR g s d n n up p = if d ≤ p ∧ p < d + n then g (s + (p - d)) else g p := by
  unfold prR
  cases up
  · rw [if_neg (by decide)]
  · rw [if_pos rfl, show d + (n - n) = d by omega]
theorem X_holds (h : R μ) {t : Nat} (ht : t < 4) {n : Nat} (hn : n ≤ 60) (hl : mA μ 7 t = nI n) (v5 : Nat) (h5 : v5 < 2147483648) (v : Int32) : f_X10_holds (nI t) v (nI v5) μ = some (decide (0 ≤ v.toInt ∧ v.toInt + v5 ≤ n)) := by
  unfold f_X10_holds
  have hr : rdA μ 7 4 (nI t) = some (nI n) := by rw [rdA_n (by omega) (by omega), hl]
  by_cases q : v < 0
  · rw [if_pos q]
    have : ¬ (0 ≤ v.toInt ∧ v.toInt + v5 ≤ n) := by rw [fa_lt, show (0 : Int32).toInt = 0 by decide] at q; omega
    rw [decide_eq_false this]
  · rw [if_neg q, hr, Option.bind_some]
    obtain ⟨k, hk, rfl⟩ := nI_of q
    rw [nI_ti (by omega)]
    by_cases q2 : nI n < nI k
    · have q3 := (nIlt (by omega) (by omega)).mp q2
      rw [if_pos q2, decide_eq_false (by omega)]
    · have q3 : ¬ n < k := fun z => q2 ((nIlt (by omega) (by omega)).mpr z)
      rw [if_neg q2, Option.bind_some, nIsub (by omega)]
      by_cases q4 : nI (n - k) < nI v5
      · have q5 := (nIlt (by omega) h5).mp q4
        rw [if_pos q4, decide_eq_false (by omega)]
      · have q5 : ¬ n - k < v5 := fun z => q4 ((nIlt (by omega) h5).mpr z)
        rw [if_neg q4, decide_eq_true (by omega)]
theorem M_fits {v : Int32} {v5 n : Nat} (h5 : v5 < 2147483648) (hn : n ≤ 60) (hv : 0 ≤ v.toInt) : (0 < lg_cmp (v.toInt64 + (nI v5).toInt64) ((nI n).toInt64)) ↔ ¬ (v.toInt + v5 ≤ n) := by
  rw [lg_gt, fa_lt64, Int32.toInt_toInt64, nI_ti (by omega)]
  have hr := fb_rng v
  have : (v.toInt64 + (nI v5).toInt64).toInt = v.toInt + v5 := by
    rw [Int64.toInt_add, Int32.toInt_toInt64, Int32.toInt_toInt64, nI_ti h5]
    exact Int.bmod_eq_of_le (by omega) (by omega)
  rw [this]
  omega
theorem X_isMissing {t : Nat} (ht : t < 4) : f_X10_isMissing (nI t) μ = some (decide (mA μ 7 t = -1)) := by unfold f_X10_isMissing; rw [rdA_n (by omega) (by omega), Option.bind_some]; split <;> simp [*]
theorem op_pour (h : R μ) (hF : 2000000 ≤ F) (v1 v2 v3 v4 v5 : Int32) : Sm (f_X11_pour v1 v2 v3 v4 v5) (f_X12_pour F v1 v2 v3 v4 v5) μ := by
  by_cases e1 : inR v1 0 3 = true
  · by_cases e3 : inR v3 0 3 = true
    · obtain ⟨t, -, ht, -, rfl⟩ := inR_of e1
      obtain ⟨u, -, hu, -, rfl⟩ := inR_of e3
      have n1 : ¬ nI t < 0 := nI_n0 (by omega)
      have n2 : ¬ (4 : Int32) ≤ nI t := fun q => by have q2 : 4 ≤ t := (Lle (n := 4) (by omega) (by decide)).mp q; omega
      have m1 : ¬ nI u < 0 := nI_n0 (by omega)
      have m2 : nI u < (4 : Int32) := (ltL (n := 4) (by omega) (by decide)).mpr (by show u < 4; omega)
      obtain ⟨q1, q2, q3⟩ := h.tr t (by omega)
      obtain ⟨p1, p2, p3⟩ := h.tr u (by omega)
      have x1 := X_isMissing (μ := μ) (t := t) (by omega)
      have x3 := X_isMissing (μ := μ) (t := u) (by omega)
      have rr1 : rdA μ 8 4 (nI t) = some (mA μ 8 t) := rdA_n (by omega) (by omega)
      have rr3 : rdA μ 8 4 (nI u) = some (mA μ 8 u) := rdA_n (by omega) (by omega)
      have y1 : ∀ c, rdA (V0 μ c) 143 4 (nI t) = some (mA μ 7 t) := fun c => by rw [rdA_n (by omega) (by omega), q1]; rfl
      have y3 : ∀ c, rdA (V0 μ c) 143 4 (nI u) = some (mA μ 7 u) := fun c => by rw [rdA_n (by omega) (by omega), p1]; rfl
      have hX0 : f_X11_pour (nI t) v2 (nI u) v4 v5 μ = (if mA μ 7 t = -1 then some (false, sI μ 0 0 3) else if mA μ 7 u = -1 then some (false, sI μ 0 0 3) else if mA μ 8 t = mA μ 8 u then (if 0 ≤ v5 then (f_X10_holds (nI t) v2 v5 μ).bind fun x11 => (if x11 = true then (f_X10_holds (nI u) v4 v5 μ).bind fun x14 => (if x14 = true then (cpL μ (3 + t) 60 v2 (3 + u) 60 v4 v5).bind fun μ19 => some (true, sI μ19 0 0 0) else some (false, sI μ 0 0 4)) else some (false, sI μ 0 0 4)) else some (false, sI μ 0 0 6)) else some (false, sI μ 0 0 11)) := by
        unfold f_X11_pour
        rw [X_isNumber, e1, Option.bind_some, if_pos rfl, X_isNumber, e3, Option.bind_some, if_pos rfl, x1, Option.bind_some, x3, Option.bind_some, rr1, rr3, rdE_r (show t < 4 by omega), rdE_r (show u < 4 by omega)]
        simp only [decide_eq_true_eq, Option.bind_some]
        rfl
      rcases q3 with q3 | ⟨n, z1, z2, z3⟩
      · exact h.q 3 false (by rw [hX0, if_pos q3]) (by unfold f_X12_pour; rw [if_neg n1, if_neg n2, if_neg m1, if_pos m2, y1, q3]; exact QM_r)
      · have g1 : ¬ mA μ 7 t = -1 := by rw [z2, neg_ne (by omega)]; exact id
        have g2 : ¬ mA μ 7 t < 0 := by rw [z2]; exact nI_n0 (by omega)
        rcases p3 with p3 | ⟨m, w1, w2, w3⟩
        · exact h.q 3 false (by rw [hX0, if_neg g1, if_pos p3]) (by unfold f_X12_pour; rw [if_neg n1, if_neg n2, if_neg m1, if_pos m2, y1, Option.bind_some, if_neg g2, y3, p3]; exact QM_r)
        · have k1 : ¬ mA μ 7 u = -1 := by rw [w2, neg_ne (by omega)]; exact id
          have k2 : 0 ≤ mA μ 7 u := by rw [w2]; exact nI_pos' (by omega)
          have s1 : ∀ c, rdA (V0 μ c) 142 4 (nI t) = some (mA μ 8 t) := fun c => by rw [rdA_n (by omega) (by omega), q2]; rfl
          have s3 : ∀ c, rdA (V0 μ c) 142 4 (nI u) = some (mA μ 8 u) := fun c => by rw [rdA_n (by omega) (by omega), p2]; rfl
          by_cases es : mA μ 8 t = mA μ 8 u
          · by_cases e5 : 0 ≤ v5
            · obtain ⟨n5, hn5, rfl⟩ := nI_of (fun q => (fa_of_lt q).2.1 e5)
              have h1 := X_holds h (show t < 4 by omega) z1 z2 n5 (by omega) v2
              have h3 := X_holds h (show u < 4 by omega) w1 w2 n5 (by omega) v4
              have no4 : ¬ ((0 ≤ v2.toInt ∧ v2.toInt + n5 ≤ n) ∧ (0 ≤ v4.toInt ∧ v4.toInt + n5 ≤ m)) → Sm (f_X11_pour (nI t) v2 (nI u) v4 (nI n5)) (f_X12_pour F (nI t) v2 (nI u) v4 (nI n5)) μ := by
                intro hno
                refine h.q 4 false ?_ ?_
                · rw [hX0, if_neg g1, if_neg k1, if_pos es, if_pos e5, h1, Option.bind_some]
                  by_cases a1 : 0 ≤ v2.toInt ∧ v2.toInt + n5 ≤ n
                  · rw [if_pos (decide_eq_true a1), h3, Option.bind_some, if_neg (by rw [decide_eq_true_eq]; exact fun z => hno ⟨a1, z⟩)]
                  · rw [if_neg (by rw [decide_eq_true_eq]; exact a1)]
                · unfold f_X12_pour
                  rw [if_neg n1, if_neg n2, if_neg m1, if_pos m2, y1, Option.bind_some, if_neg g2, y3, Option.bind_some, if_pos k2, s1, Option.bind_some, s3, Option.bind_some, if_pos es, if_pos e5]
                  by_cases b2 : v2 < 0
                  · rw [if_pos b2]; exact QM_r
                  · by_cases b4 : v4 < 0
                    · rw [if_neg b2, if_pos b4]; exact QM_r
                    · rw [if_neg b2, if_neg b4, Option.bind_some]
                      rw [fa_lt, show (0 : Int32).toInt = 0 by decide] at b2 b4
                      rw [z2, w2]
                      by_cases c1 : v2.toInt + n5 ≤ n
                      · rw [if_neg (fun z => ((M_fits (by omega) z1 (by omega)).mp z) c1), Option.bind_some]
                        rw [if_neg]
                        · exact QM_r
                        · intro z
                          have c2 : ¬ v4.toInt + n5 ≤ m := fun z2 => hno ⟨⟨by omega, c1⟩, ⟨by omega, z2⟩⟩
                          have := (M_fits (v := v4) (by omega) w1 (by omega)).mpr c2
                          exact (fa_of_lt this).2.1 z
                      · rw [if_pos ((M_fits (by omega) z1 (by omega)).mpr c1)]; exact QM_r
              by_cases hall : (0 ≤ v2.toInt ∧ v2.toInt + n5 ≤ n) ∧ (0 ≤ v4.toInt ∧ v4.toInt + n5 ≤ m)
              · obtain ⟨⟨b2, c2⟩, b4, c4⟩ := hall
                obtain ⟨i, hi, rfl⟩ := nI_of (x := v2) (fun z => by rw [fa_lt, show (0 : Int32).toInt = 0 by decide] at z; omega)
                obtain ⟨j, hj, rfl⟩ := nI_of (x := v4) (fun z => by rw [fa_lt, show (0 : Int32).toInt = 0 by decide] at z; omega)
                rw [nI_ti (by omega)] at b2 c2 b4 c4
                let ν := rL μ (3 + u) (va_cpy (mL μ (3 + t)) (mL μ (3 + u)) i j n5)
                have hν : Ag (fun a _ => a = 3 + u) μ ν := Ag.rL (fun k hk => absurd rfl hk)
                obtain ⟨ζ, l1, l2, l3⟩ := M_pourL (F := F) hF (t := t) (i := i) (u := u) (j := j) (n := n5) (by omega) (by omega) (by omega) (by omega) (ξ := V0 ν 0)
                have hV : Ag (fun a k => a = 0 ∨ a = 141) ν (V0 ν 0) := ((Ag.sI (by omega)).tr (Ag.sI (by omega))).tr (Ag.sI (by omega))
                have l144 : mL (V0 ν 0) 144 = mL μ 144 := by rw [hV.L (fun _ => by omega), hν.L (fun _ => by omega)]
                refine h.t true (ν := ν) (ξ := ζ) ?_ ?_ ?_ (hν.mono (fun a k q => by omega)) (((Ag.sI (by omega)).tr (Ag.sI (by omega))).tr (l3.mono (fun a k q => by omega))) ?_
                · rw [hX0, if_neg g1, if_neg k1, if_pos es, if_pos e5, h1, Option.bind_some, if_pos (by rw [decide_eq_true_eq, nI_ti (by omega)]; omega), h3, Option.bind_some, if_pos (by rw [decide_eq_true_eq, nI_ti (by omega)]; omega), cpL_n (by omega) (by omega) (by omega) (by omega)]
                  rfl
                · have y1' : rdA (V0 ν 0) 143 4 (nI t) = some (nI n) := by rw [rdA_n (by omega) (by omega), hV.A (fun _ => by omega), hν.A (fun _ => by omega), ← q1, z2]
                  have y3' : rdA (V0 ν 0) 143 4 (nI u) = some (nI m) := by rw [rdA_n (by omega) (by omega), hV.A (fun _ => by omega), hν.A (fun _ => by omega), ← p1, w2]
                  have s1' : rdA (V0 ν 0) 142 4 (nI t) = some (mA μ 8 t) := by rw [rdA_n (by omega) (by omega), hV.A (fun _ => by omega), hν.A (fun _ => by omega), ← q2]
                  have s3' : rdA (V0 ν 0) 142 4 (nI u) = some (mA μ 8 u) := by rw [rdA_n (by omega) (by omega), hV.A (fun _ => by omega), hν.A (fun _ => by omega), ← p2]
                  unfold f_X12_pour
                  rw [if_neg n1, if_neg n2, if_neg m1, if_pos m2, y1', Option.bind_some, if_neg (nI_n0 (by omega)), y3', Option.bind_some, if_pos (nI_pos' (by omega)), s1', Option.bind_some, s3', Option.bind_some, if_pos es, if_pos e5, if_neg (nI_n0 (by omega)), if_neg (nI_n0 (by omega)), Option.bind_some, if_neg (fun z => ((M_fits (v := nI i) (by omega) z1 (by rw [nI_ti (by omega)]; omega)).mp z) (by rw [nI_ti (by omega)]; omega)), Option.bind_some]
                  rw [if_pos]
                  · exact l1
                  · have : ¬ 0 < lg_cmp ((nI j).toInt64 + (nI n5).toInt64) ((nI m).toInt64) := fun z => ((M_fits (v := nI j) (by omega) w1 (by rw [nI_ti (by omega)]; omega)).mp z) (by rw [nI_ti (by omega)]; omega)
                    exact fa_of_nlt this
                · rw [l3.i (by omega)]; rfl
                · intro x hx
                  have hA : Ag (fun a k => a = 0 ∨ a = 141 ∨ a = 3 + u ∨ a = 144) μ ζ := ((hν.mono (fun a k q => by omega)).tr (hV.mono (fun a k q => by omega))).tr (l3.mono (fun a k q => by omega))
                  obtain ⟨t1, t2, t3⟩ := h.tr x hx
                  refine ⟨by rw [hA.a (by omega), hA.a (by omega)]; exact t1, by rw [hA.a (by omega), hA.a (by omega)]; exact t2, ?_⟩
                  rw [hA.a (by omega)]
                  rcases t3 with t3 | ⟨r, r1, r2, r3⟩
                  · exact Or.inl t3
                  · refine Or.inr ⟨r, r1, r2, fun k hk => ?_⟩
                    rw [l2, prR_all, l144, l3.l (by omega), hV.l (by omega)]
                    by_cases ex : x = u
                    · subst ex
                      have hrm : r = m := by
                        rw [w2] at r2
                        exact ((nIeq (by omega) (by omega)).mp r2).symm
                      show mL (rL μ (3 + x) _) (3 + x) k = _
                      rw [mL_rL, if_pos rfl]
                      by_cases z : j ≤ k ∧ k < j + n5
                      · rw [pk_cpy_in z.1 z.2, if_pos (by omega), z3 _ (by omega)]
                        congr 1
                        omega
                      · rw [pk_cpy_out (by omega), if_neg (by omega)]
                        exact r3 k hk
                    · rw [hν.l (by omega), if_neg (by omega)]
                      exact r3 k hk
              · exact no4 hall
            · exact h.q 6 false (by rw [hX0, if_neg g1, if_neg k1, if_pos es, if_neg e5]) (by unfold f_X12_pour; rw [if_neg n1, if_neg n2, if_neg m1, if_pos m2, y1, Option.bind_some, if_neg g2, y3, Option.bind_some, if_pos k2, s1, Option.bind_some, s3, Option.bind_some, if_pos es, if_neg e5]; exact QM_r)
          · exact h.q 11 false (by rw [hX0, if_neg g1, if_neg k1, if_neg es]) (by unfold f_X12_pour; rw [if_neg n1, if_neg n2, if_neg m1, if_pos m2, y1, Option.bind_some, if_neg g2, y3, Option.bind_some, if_pos k2, s1, Option.bind_some, s3, Option.bind_some, if_neg es]; exact QM_r)
    · have z := inR_no e3
      obtain ⟨t, -, ht, -, rfl⟩ := inR_of e1
      have n1 : ¬ nI t < 0 := nI_n0 (by omega)
      have n2 : ¬ (4 : Int32) ≤ nI t := fun q => by have q2 : 4 ≤ t := (Lle (n := 4) (by omega) (by decide)).mp q; omega
      refine h.q 1 false (by unfold f_X11_pour; simp only [X_isNumber, e1, z, Option.bind_some, eq_self, if_true, Bool.false_eq_true, if_false, ver_X, bd_some]; rfl) ?_
      unfold f_X12_pour
      rw [if_neg n1, if_neg n2]
      rcases not03 z with q | ⟨q1, -, q2⟩
      · rw [if_pos q]; exact QM_r
      · rw [if_neg q1, if_neg q2]; exact QM_r
  · have z := inR_no e1
    refine h.q 1 false (by unfold f_X11_pour; simp only [X_isNumber, z, Option.bind_some, Bool.false_eq_true, if_false, ver_X, bd_some]; rfl) ?_
    unfold f_X12_pour
    rcases not03 z with q | ⟨q1, q2, -⟩
    · rw [if_pos q]; exact QM_r
    · rw [if_neg q1, if_pos q2]; exact QM_r
/-! copyDigits -/
theorem op_copyDigits (h : R μ) (hF : 2000000 ≤ F) (v : Int32) : Sm (f_X11_copyDigits F v) (f_X12_copyDigits F v) μ := by
  obtain ⟨β, nm, ω, σ, pg⟩ := h.pg
  have W := pg.wf
  have bx := pg.bx
  have gb := h.gb
  have hc : ∀ c, CB (V0 μ c) β := fun c => pg.c0.at rfl
  have hcl := W.cl_le
  have hrp := h.rp
  unfold RefP at hrp
  by_cases e1 : inR v 0 3 = true
  · obtain ⟨t, -, ht, -, rfl⟩ := inR_of e1
    have hIT : ∀ ξ, f_X12_isTray (nI t) ξ = some true := fun ξ => by unfold f_X12_isTray; rw [isIn_L (by decide) (by decide), e1]; rfl
    obtain ⟨q1, q2, q3⟩ := h.tr t (by omega)
    have y1 : ∀ ξ, mA ξ 143 = mA μ 143 → rdA ξ 143 4 (nI t) = some (mA μ 7 t) := fun ξ hξ => by rw [rdA_n (by omega) (by omega), hξ, q1]
    have x1 := X_isMissing (μ := μ) (t := t) (by omega)
    rcases q3 with q3 | ⟨n, z1, z2, z3⟩
    · exact h.q 3 (-1) (by unfold f_X11_copyDigits; rw [X_isNumber, e1, Option.bind_some, if_pos rfl, x1, decide_eq_true q3]; rfl) (by unfold f_X12_copyDigits; rw [hIT, Option.bind_some, if_pos rfl, y1 (V0 μ 3) rfl, q3]; exact QM_r)
    · have g1 : ¬ mA μ 7 t = -1 := by rw [z2, neg_ne (by omega)]; exact id
      have hh := X_holds h (show t < 4 by omega) z1 z2 (cl β) (by omega) 0
      rw [show (0 : Int32).toInt = 0 by decide] at hh
      by_cases hn : cl β ≤ n
      · let f : Nat → Int64 := fun k => cutN (mA μ 8 t) (nI (β (13 + k))).toInt64
        let ν := putL μ (3 + t) f 0 (cl β)
        have hνi : ∀ i, Ag (fun a _ => a = 3 + t) μ (putL μ (3 + t) f 0 i) := fun i => putL_ag (P := fun a _ => a = 3 + t) (fun _ _ _ => rfl)
        have hXL : L_X11_copyDigits_63 F (nI t) (nI (cl β)) (fun μ12 => bd (f_X11_answer (nI (cl β)) μ12) fun x13 μ14 => some (x13, μ14)) F 0 μ = some (nI (cl β), sI ν 0 0 0) := by
          refine iter2 (L := L_X11_copyDigits_63 F (nI t) (nI (cl β)) _) (fun i => nI i) (fun i => putL μ (3 + t) f 0 i) (N := cl β) (by omega) (fun i hi m => ?_) (fun m => ?_)
          · have hA := hνi i
            have gbi : gBk (mR (putL μ (3 + t) f 0 i) 0) = some (mR μ 0) := by rw [hA.2]; exact gb
            have rd : rdA (putL μ (3 + t) f 0 i) (mR μ 0 + 8) 25 (nI i) = some (nI (β (13 + i))) := by rw [rdA_n (by omega) (by omega), hA.A (fun _ => by omega), bx.digits i hi]
            have rs : rdA (putL μ (3 + t) f 0 i) 8 4 (nI t) = some (mA μ 8 t) := by rw [rdA_n (by omega) (by omega), hA.A (fun _ => by omega)]
            rw [L_X11_copyDigits_63_s, putL_n, Nat.zero_add]
            unfold f_X10_put
            simp (disch := omega) only [Option.bind_some, gbi, rd, rdE_r, rs, X_cut, wrL_n, nIle, addL]
            rw [if_neg (by omega)]
          · rw [L_X11_copyDigits_63_s, if_pos ((nIle (by omega) (by omega)).mpr (by omega))]
            rfl
        let ξ0 := V0 ν 0
        have step : ∀ q v ζ, q < cl β → (v = nI q ∧ (∀ p, mL ζ 144 p = if 60 * t ≤ p ∧ p < 60 * t + q then f (p - 60 * t) else mL ξ0 144 p) ∧ mI ζ 141 0 = 0 ∧ Ag (fun a k => a = 144 ∨ (a = 141 ∧ k < 2)) ξ0 ζ) → ∃ v' ζ', (v' = nI (q + 1) ∧ (∀ p, mL ζ' 144 p = if 60 * t ≤ p ∧ p < 60 * t + (q + 1) then f (p - 60 * t) else mL ξ0 144 p) ∧ mI ζ' 141 0 = 0 ∧ Ag (fun a k => a = 144 ∨ (a = 141 ∧ k < 2)) ξ0 ζ') ∧ ∀ m, L_X12_copyDigits_60 F (nI t) (fun μ9 => (f_X12_cells μ9).bind fun x10 => some (x10, μ9)) (m + 1) v ζ = L_X12_copyDigits_60 F (nI t) (fun μ9 => (f_X12_cells μ9).bind fun x10 => some (x10, μ9)) m v' ζ' := by
          rintro q v ζ hq ⟨rfl, h2, -, h3⟩
          have c143 : mA ζ 143 = mA μ 143 := by rw [h3.A (fun _ => by omega)]; show mA ν 143 = _; rw [(hνi _).A (fun _ => by omega)]
          have c142 : mA ζ 142 = mA μ 142 := by rw [h3.A (fun _ => by omega)]; show mA ν 142 = _; rw [(hνi _).A (fun _ => by omega)]
          have c146 : CB ζ β := pg.c0.at (by rw [h3.A (fun _ => by omega)]; show mA ν 146 = _; rw [(hνi _).A (fun _ => by omega)])
          have hpl : f_X12_placed (nI t) (nI q) (sI ζ 141 1 0) = some 0 := by
            unfold f_X12_placed f_X12_trayed
            have yy : rdA (sI ζ 141 1 0) 143 4 (nI t) = some (nI n) := by rw [y1 _ (by rw [mA_sI]; exact c143), z2]
            rw [if_neg (nI_n0 (by omega)), if_pos ((ltL (n := 4) (by omega) (by decide)).mpr (by show t < 4; omega)), yy, Option.bind_some, if_pos (nI_pos' (by omega)), Option.bind_some, if_pos (by decide), if_neg (nI_n0 (by omega)), Option.bind_some, if_pos ((nIlt (by omega) (by omega)).mpr (by omega))]
          have hr : rdA (sI (sI ζ 141 1 0) 141 0 0) 142 4 (nI t) = some (mA μ 8 t) := by rw [rdA_n (by omega) (by omega), q2]; show some (mA ζ 142 t) = _; rw [c142]
          have hw : f_X12_write (nI t) (nI q) ((nI (β (13 + q))).toInt64) ζ = some (true, sL (sI (sI ζ 141 1 0) 141 0 0) 144 (60 * t + q) (f q)) := by
            unfold f_X12_write
            rw [hpl, Option.bind_some, if_pos (by show (0 : Int32) ≤ 0; decide)]
            simp (disch := omega) only [Option.bind_some, bd_some, eqL, leL, ltL, Lle, Llt, addL, Ladd, Lmul, mulL, nIle, nIlt, nIeq, nI_add, pk_mul, hr, M_cut, wrL_n]
            rfl
          refine ⟨nI (q + 1), sL (sI (sI ζ 141 1 0) 141 0 0) 144 (60 * t + q) (f q), ⟨rfl, fun p => ?_, rfl, h3.tr (((Ag.sI (by omega)).tr (Ag.sI (by omega))).tr (Ag.sL (by omega)))⟩, fun m => ?_⟩
          · rw [mL_sL, if_pos rfl, mL_sI, mL_sI, h2]
            by_cases ep : p = 60 * t + q
            · rw [if_pos ep, if_pos (by omega)]; congr 1; omega
            · rw [if_neg ep]
              by_cases z : 60 * t ≤ p ∧ p < 60 * t + q
              · rw [if_pos z, if_pos (by omega)]
              · rw [if_neg z, if_neg (by omega)]
          · rw [L_X12_copyDigits_60_s, M_cells c146]
            simp (disch := omega) only [Option.bind_some, bd_some, eqL, leL, ltL, Lle, Llt, addL, Ladd, Lmul, mulL, nIle, nIlt, nIeq, nI_add, pk_mul, c146.rd, hw]
            rw [if_neg (by omega)]
        obtain ⟨v', ζ, m, ⟨h1, h2, h3, h4⟩, e⟩ := iterI2 (L := L_X12_copyDigits_60 F (nI t) (fun μ9 => (f_X12_cells μ9).bind fun x10 => some (x10, μ9))) (F := F) (N := cl β) _ (by omega) step (a := 0) (b := ξ0) ⟨rfl, fun p => by rw [if_neg (by omega)], rfl, Ag.rf⟩
        have c146 : CB ζ β := pg.c0.at (by rw [h4.A (fun _ => by omega)]; show mA ν 146 = _; rw [(hνi _).A (fun _ => by omega)])
        refine h.t (nI (cl β)) (ν := ν) (ξ := ζ) ?_ ?_ h3 ((hνi _).mono (fun a k q => by omega)) (((Ag.sI (by omega)).tr (Ag.sI (by omega))).tr (h4.mono (fun a k q => by omega))) ?_
        · unfold f_X11_copyDigits
          rw [X_isNumber, e1, Option.bind_some, if_pos rfl, x1, decide_eq_false g1, Option.bind_some, if_neg (by decide), gb, Option.bind_some, X_cells bx, Option.bind_some, hh, Option.bind_some, if_pos (by rw [decide_eq_true_eq]; omega)]
          exact hXL
        · have c0 : CB (sI (sI (sI ν 0 0 0) 141 1 0) 141 0 0) β := pg.c0.at (by show mA ν 146 = _; rw [(hνi _).A (fun _ => by omega)])
          have yy : rdA (sI (sI (sI ν 0 0 0) 141 1 0) 141 0 0) 143 4 (nI t) = some (nI n) := by rw [y1 _ (by show mA ν 143 = _; rw [(hνi _).A (fun _ => by omega)]), z2]
          unfold f_X12_copyDigits
          rw [hIT, Option.bind_some, if_pos rfl, yy, Option.bind_some, if_pos (nI_pos' (by omega)), Option.bind_some, M_cells c0, Option.bind_some, if_pos ((nIle (by omega) (by omega)).mpr hn), e, L_X12_copyDigits_60_s, M_cells c146, Option.bind_some, h1, if_pos ((nIle (by omega) (by omega)).mpr (by omega))]
          rfl
        · intro x hx
          have hA : Ag (fun a k => a = 0 ∨ a = 141 ∨ a = 3 + t ∨ a = 144) μ ζ := (((hνi _).mono (fun a k q => by omega)).tr (((Ag.sI (by omega)).tr (Ag.sI (by omega))).tr (Ag.sI (by omega)))).tr (h4.mono (fun a k q => by omega))
          obtain ⟨t1, t2, t3⟩ := h.tr x hx
          refine ⟨by rw [hA.a (by omega), hA.a (by omega)]; exact t1, by rw [hA.a (by omega), hA.a (by omega)]; exact t2, ?_⟩
          rw [hA.a (by omega)]
          have l144 : mL ξ0 144 = mL μ 144 := (hνi _).L (fun _ => by omega)
          rcases t3 with t3 | ⟨r, r1, r2, r3⟩
          · exact Or.inl t3
          · refine Or.inr ⟨r, r1, r2, fun k hk => ?_⟩
            rw [h2, h4.l (by omega)]
            show mL ν (3 + x) k = _
            rw [putL_mL, l144]
            by_cases ex : x = t
            · subst ex
              by_cases z : k < cl β
              · rw [if_pos (by omega), if_pos (by omega)]; congr 1; omega
              · rw [if_neg (by omega), if_neg (by omega)]; exact r3 k hk
            · rw [if_neg (by omega), if_neg (by omega)]; exact r3 k hk
      · refine h.q 4 (-1) ?_ ?_
        · unfold f_X11_copyDigits
          rw [X_isNumber, e1, Option.bind_some, if_pos rfl, x1, decide_eq_false g1, Option.bind_some, if_neg (by decide), gb, Option.bind_some, X_cells bx, Option.bind_some, hh, Option.bind_some, if_neg (by rw [decide_eq_true_eq]; omega)]
          rfl
        · unfold f_X12_copyDigits
          rw [hIT, Option.bind_some, if_pos rfl, y1 (V0 μ 4) rfl, z2, Option.bind_some, if_pos (nI_pos' (by omega)), Option.bind_some, M_cells (hc 4), Option.bind_some, if_neg (fun z => hn ((nIle (by omega) (by omega)).mp z))]
          exact QM_r
  · have z := inR_no e1
    exact h.q 1 (-1) (by unfold f_X11_copyDigits; rw [X_isNumber, z]; rfl) (by unfold f_X12_copyDigits f_X12_isTray; rw [isIn_L (by decide) (by decide), z]; exact QM_r)
/-! feed -/
theorem nar_byte (x : Int32) : vp_nar .byte (x.toInt8.toInt32) = x.toInt8.toInt32 := by
  have : ∀ y : Int8, y.toInt32.toInt8.toInt32 = y.toInt32 := fun y => by simp
  exact this x.toInt8
theorem isB_byte (x : Int32) : isB x.toInt8.toInt32 := by
  unfold isB
  simp
/-- a byte laid on both tapes -/
def layX (μ : Mm) (n : Nat) (x : Int32) : Mm := sI (sB μ 10 n x) 9 1 (nI (n + 1))
def layM (μ : Mm) (n : Nat) (x : Int32) : Mm := sI (sB μ 145 n x) 141 8 (nI (n + 1))
def by4 (v : Int32) (i : Nat) : Int32 := (v >>> (nI (24 - 8 * i) &&& 31)).toInt8.toInt32
def lX4 (μ : Mm) (n : Nat) (v : Int32) : Mm := layX (layX (layX (layX μ n (by4 v 0)) (n + 1) (by4 v 1)) (n + 2) (by4 v 2)) (n + 3) (by4 v 3)
def lM4 (μ : Mm) (n : Nat) (v : Int32) : Mm := layM (layM (layM (layM μ n (by4 v 0)) (n + 1) (by4 v 1)) (n + 2) (by4 v 2)) (n + 3) (by4 v 3)
theorem X_append {n : Nat} (hn : n + 4 ≤ 900) (h : mI μ 9 1 = nI n) (hF : 2000000 ≤ F) (v : Int32) : f_X9_append F v μ = some (lX4 μ n v) := by
  have st : ∀ (μ : Mm) (m n : Nat) (w : Int32), ¬ w < 0 → n < 900 → mI μ 9 1 = nI n → L_X9_append_3 F v (fun μ2 => some μ2) (m + 1) w μ = L_X9_append_3 F v (fun μ2 => some μ2) m (w + (-8)) (layX μ n ((v >>> (w &&& 31)).toInt8.toInt32)) := by
    intro μ m n w hw hn h
    rw [L_X9_append_3_s, if_neg hw, h, if_neg (fun q => by have q2 : 900 ≤ n := (Lle (n := 900) (by omega) (by decide)).mp q; omega), wrB_n hn (by omega), Option.bind_some, nar_byte, mI_sB, h, nI_1]
    rfl
  obtain ⟨m, hm⟩ : ∃ m, F = m + 5 := ⟨F - 5, by omega⟩
  unfold f_X9_append lX4
  have e : L_X9_append_3 F v (fun μ2 => some μ2) F 24 μ = L_X9_append_3 F v (fun μ2 => some μ2) (m + 4 + 1) 24 μ := by rw [← hm]
  rw [e, st μ (m + 4) n 24 (by decide) (by omega) h, show (24 : Int32) + (-8) = 16 by decide, st _ (m + 3) (n + 1) 16 (by decide) (by omega) rfl, show (16 : Int32) + (-8) = 8 by decide, st _ (m + 2) (n + 2) 8 (by decide) (by omega) rfl, show (8 : Int32) + (-8) = 0 by decide, st _ (m + 1) (n + 3) 0 (by decide) (by omega) rfl, show (0 : Int32) + (-8) = -8 by decide, L_X9_append_3_s, if_pos (by decide)]
  rfl
theorem M_lay {n : Nat} (hn : n + 4 ≤ 900) (h : mI μ 141 8 = nI n) (hF : 2000000 ≤ F) (v : Int32) : f_X12_lay F v μ = some (lM4 μ n v) := by
  have st : ∀ (μ : Mm) (m n : Nat) (w : Int32), ¬ w < 0 → n < 900 → mI μ 141 8 = nI n → L_X12_lay_2 F v (fun μ2 => some μ2) (m + 1) w μ = L_X12_lay_2 F v (fun μ2 => some μ2) m (w + (-1)) (layM μ n ((v >>> ((8 * w) &&& 31)).toInt8.toInt32)) := by
    intro μ m n w hw hn h
    rw [L_X12_lay_2_s, if_neg hw, h, wrB_n hn (by omega), Option.bind_some, nar_byte, mI_sB, h, nI_1]
    rfl
  obtain ⟨m, hm⟩ : ∃ m, F = m + 5 := ⟨F - 5, by omega⟩
  unfold f_X12_lay lM4
  have e : L_X12_lay_2 F v (fun μ2 => some μ2) F 3 μ = L_X12_lay_2 F v (fun μ2 => some μ2) (m + 4 + 1) 3 μ := by rw [← hm]
  rw [e, st μ (m + 4) n 3 (by decide) (by omega) h, show (3 : Int32) + (-1) = 2 by decide, st _ (m + 3) (n + 1) 2 (by decide) (by omega) rfl, show (2 : Int32) + (-1) = 1 by decide, st _ (m + 2) (n + 2) 1 (by decide) (by omega) rfl, show (1 : Int32) + (-1) = 0 by decide, st _ (m + 1) (n + 3) 0 (by decide) (by omega) rfl, show (0 : Int32) + (-1) = -1 by decide, L_X12_lay_2_s, if_pos (by decide)]
  rfl
/-- two tapes alike -/
def TP2 (μ ξ : Mm) (n : Nat) : Prop := mI μ 9 1 = nI n ∧ mI ξ 141 8 = nI n ∧ ∀ k, k < n → mB μ 10 k = mB ξ 145 k ∧ isB (mB μ 10 k)
theorem TP2.lay {μ ξ : Mm} {n : Nat} (h : TP2 μ ξ n) {x : Int32} (hx : isB x) : TP2 (layX μ n x) (layM ξ n x) (n + 1) := by
  refine ⟨rfl, rfl, fun k hk => ?_⟩
  show mB (sB μ 10 n x) 10 k = mB (sB ξ 145 n x) 145 k ∧ isB (mB (sB μ 10 n x) 10 k)
  rw [mB_sB, if_pos rfl, mB_sB, if_pos rfl]
  by_cases e : k = n
  · rw [if_pos e, if_pos e]; exact ⟨rfl, hx⟩
  · rw [if_neg e, if_neg e]; exact h.2.2 k (by omega)
theorem TP2.l4 {μ ξ : Mm} {n : Nat} (h : TP2 μ ξ n) (v : Int32) : TP2 (lX4 μ n v) (lM4 ξ n v) (n + 4) := (((h.lay (isB_byte _)).lay (isB_byte _)).lay (isB_byte _)).lay (isB_byte _)
theorem lX4_ag {n : Nat} {v : Int32} : Ag (fun a k => (a = 9 ∧ k = 1) ∨ a = 10) μ (lX4 μ n v) := by
  have st : ∀ (μ : Mm) (n : Nat) (x : Int32), Ag (fun a k => (a = 9 ∧ k = 1) ∨ a = 10) μ (layX μ n x) := fun μ n x => (Ag.sB (by omega)).tr (Ag.sI (by omega))
  exact (((st _ _ _).tr (st _ _ _)).tr (st _ _ _)).tr (st _ _ _)
theorem lM4_ag {n : Nat} {v : Int32} : Ag (fun a k => (a = 141 ∧ k = 8) ∨ a = 145) μ (lM4 μ n v) := by
  have st : ∀ (μ : Mm) (n : Nat) (x : Int32), Ag (fun a k => (a = 141 ∧ k = 8) ∨ a = 145) μ (layM μ n x) := fun μ n x => (Ag.sB (by omega)).tr (Ag.sI (by omega))
  exact (((st _ _ _).tr (st _ _ _)).tr (st _ _ _)).tr (st _ _ _)
theorem X_feed5 {n : Nat} (e : n + 20 ≤ 900) (h9 : mI μ 9 1 = nI n) (hF : 2000000 ≤ F) (v1 v2 v3 v4 v5 : Int32) : ∃ ν, f_X11_feed F v1 v2 v3 v4 v5 μ = some (mI ν 9 1, ν) ∧ Ag (fun a k => (a = 9 ∧ k = 1) ∨ a = 10) μ ν ∧ ∀ ξ, TP2 μ ξ n → ∃ ζ, f_X12_feed F v1 v2 v3 v4 v5 ξ = some (mI ζ 141 8, ζ) ∧ Ag (fun a k => (a = 141 ∧ (k = 1 ∨ k = 8)) ∨ a = 145) ξ ζ ∧ TP2 ν ζ (n + 20) := by
  refine ⟨lX4 (lX4 (lX4 (lX4 (lX4 μ n v1) (n + 4) v2) (n + 8) v3) (n + 12) v4) (n + 16) v5, ?_, (((lX4_ag.tr lX4_ag).tr lX4_ag).tr lX4_ag).tr lX4_ag, fun ξ hξ => ?_⟩
  · unfold f_X11_feed
    rw [h9, addL, if_pos ((leL (n := 900) (by omega) (by decide)).mpr e), X_append (n := n) (by omega) h9 hF, Option.bind_some, X_append (n := n + 4) (by omega) rfl hF, Option.bind_some, X_append (n := n + 8) (by omega) rfl hF, Option.bind_some, X_append (n := n + 12) (by omega) rfl hF, Option.bind_some, X_append (n := n + 16) (by omega) rfl hF, Option.bind_some]
  · have h8' : mI (sI ξ 141 1 0) 141 8 = nI n := by rw [mI_nk (by omega)]; exact hξ.2.1
    have t0 : TP2 μ (sI ξ 141 1 0) n := ⟨hξ.1, h8', fun k hk => hξ.2.2 k hk⟩
    refine ⟨lM4 (lM4 (lM4 (lM4 (lM4 (sI ξ 141 1 0) n v1) (n + 4) v2) (n + 8) v3) (n + 12) v4) (n + 16) v5, ?_, (Ag.sI (by omega)).tr (((((lM4_ag.tr lM4_ag).tr lM4_ag).tr lM4_ag).tr lM4_ag).mono (fun a k q => by omega)), ((((t0.l4 v1).l4 v2).l4 v3).l4 v4).l4 v5⟩
    unfold f_X12_feed
    rw [h8', addL, if_pos ((leL (n := 900) (by omega) (by decide)).mpr e), M_lay (n := n) (by omega) h8' hF, Option.bind_some, M_lay (n := n + 4) (by omega) rfl hF, Option.bind_some, M_lay (n := n + 8) (by omega) rfl hF, Option.bind_some, M_lay (n := n + 12) (by omega) rfl hF, Option.bind_some, M_lay (n := n + 16) (by omega) rfl hF, Option.bind_some]
theorem op_feed (h : R μ) (hF : 2000000 ≤ F) (v1 v2 v3 v4 v5 : Int32) : Sm (f_X11_feed F v1 v2 v3 v4 v5) (f_X12_feed F v1 v2 v3 v4 v5) μ := by
  obtain ⟨n, hn, h9, h8, hb⟩ := h.tp
  by_cases e : n + 20 ≤ 900
  · obtain ⟨ν, x1, aX, x3⟩ := X_feed5 (F := F) e h9 hF v1 v2 v3 v4 v5
    obtain ⟨ζ, y1, aM, t5⟩ := x3 ν ⟨h9, by rw [aX.i (by omega)]; exact h8, fun k hk => by rw [aX.b (a := 145) (by omega)]; exact hb k hk⟩
    rw [t5.1] at x1
    rw [t5.2.1] at y1
    refine ⟨nI (n + 20), ν, ζ, x1, y1, h.te ((aX.mono ?_).tr (aM.mono ?_)) ⟨n + 20, e, ?_, t5.2.1, ?_⟩⟩
    · intro a k q; unfold SE; omega
    · intro a k q; unfold SE; omega
    · rw [aM.i (by omega)]; exact t5.1
    · intro k hk
      have := t5.2.2 k hk
      rw [aM.b (a := 10) (by omega)]
      exact this
  · refine ⟨-1, μ, sI μ 141 1 0, ?_, ?_, h.te (Ag.sI (by unfold SE; omega)) ⟨n, hn, h9, h8, hb⟩⟩
    · unfold f_X11_feed
      rw [h9, addL, if_neg (fun q => e ((leL (n := 900) (by omega) (by decide)).mp q))]
    · unfold f_X12_feed
      rw [mI_nk (by omega), h8, addL, if_neg (fun q => e ((leL (n := 900) (by omega) (by decide)).mp q))]
end POUR
