/-! ===== trays ===== -/
theorem elm_2 {t : Nat} (h : t < 4) : elm 2 t = 3 + t := by
  have : t = 0 ∨ t = 1 ∨ t = 2 ∨ t = 3 := by omega
  rcases this with rfl | rfl | rfl | rfl <;> rfl
theorem rdE_r {t : Nat} (h : t < 4) : rdE 2 4 (nI t) = some (3 + t) := by rw [rdE_n h (by omega), elm_2 h]
theorem not03 {v : Int32} (h : inR v 0 3 = false) : v < 0 ∨ (¬ v < 0 ∧ 4 ≤ v ∧ ¬ v < 4) := by
  unfold inR at h
  have h2 := of_decide_eq_false h
  rw [fa_lt, fa_le, fa_lt, show (0 : Int32).toInt = 0 by decide, show (4 : Int32).toInt = 4 by decide]
  omega
/-- a number cut to a tray's sort -/
def cutN (s : Int32) (v : Int64) : Int64 := if s = 0 then (((v.toInt32).toInt8.toInt32).toInt64) else (if s = 1 then (((v.toInt32).toInt16.toInt32).toInt64) else (if s = 2 then ((v.toInt32).toInt64) else v))
section TRAYS
variable {μ : Mm} {F : Nat}
theorem X_cut {s : Int32} {v : Int64} : f_X10_cut v s μ = some (cutN s v) := by
  unfold f_X10_cut cutN
  split
  · rfl
  · split
    · rfl
    · split <;> rfl
theorem M_cut {s : Int32} {v : Int64} : f_X12_cut s v μ = some (cutN s v) := rfl
theorem X_isNumber {v : Int32} : f_X10_isNumber v μ = some (inR v 0 3) := by unfold f_X10_isNumber; rw [within_L (by decide) (by decide)]; rfl
/-- a long row filled -/
def putL (μ : Mm) (a : Nat) (f : Nat → Int64) (i m : Nat) : Mm := foldF (fun k ν => sL ν a k (f k)) i m μ
theorem putL_n {a : Nat} {f : Nat → Int64} {i m : Nat} : putL μ a f i (m + 1) = sL (putL μ a f i m) a (i + m) (f (i + m)) := foldF_n
theorem putL_s {a : Nat} {f : Nat → Int64} {i m : Nat} : putL μ a f i (m + 1) = putL (sL μ a i (f i)) a f (i + 1) m := rfl
theorem putL_mL {a : Nat} {f : Nat → Int64} : ∀ {m i : Nat} {μ : Mm} (b j : Nat), mL (putL μ a f i m) b j = if b = a ∧ i ≤ j ∧ j < i + m then f j else mL μ b j
  | 0, i, μ, b, j => by rw [if_neg (by omega)]; rfl
  | m + 1, i, μ, b, j => by
    rw [putL_s, putL_mL, mL_sL]
    by_cases e : b = a
    · by_cases e2 : j = i
      · subst e2; simp [e]
      · simp only [e, true_and, if_true, e2, if_false]
        by_cases q : i + 1 ≤ j ∧ j < i + 1 + m
        · rw [if_pos q, if_pos (by omega)]
        · rw [if_neg q, if_neg (by omega)]
    · simp [e]
theorem putL_ag {a : Nat} {f : Nat → Int64} {P : Nat → Nat → Prop} : ∀ {m i : Nat} {μ : Mm}, (∀ k, i ≤ k → k < i + m → P a k) → Ag P μ (putL μ a f i m)
  | 0, i, μ, _ => Ag.rf
  | m + 1, i, μ, h => by
    rw [putL_s]
    exact (Ag.sL (h i (by omega) (by omega))).tr (putL_ag (fun k h1 h2 => h k (by omega) (by omega)))
theorem fillL {a N : Nat} {x : Int64} (hF : 2000000 ≤ F) (hN : N < 1000) : f_J7_fill_d0a16 F N a x μ = some (putL μ a (fun _ => x) 0 N) := by
  unfold f_J7_fill_d0a16
  refine iter2 (L := L_J7_fill_d0a16_6 F N a x _ _) (fun i => nI i) (fun i => putL μ a (fun _ => x) 0 i) (N := N) (by omega) (fun i hi n => ?_) (fun n => ?_)
  · rw [L_J7_fill_d0a16_6_s, putL_n, Nat.zero_add]
    show (if nI N ≤ nI i then _ else _) = _
    simp (disch := omega) only [Option.bind_some, bd_some, eqL, leL, ltL, Lle, Llt, addL, Ladd, Lmul, mulL, nIle, nIlt, nIeq, nI_add, pk_mul, wrL_n]
    rw [if_neg (by omega)]
  · rw [L_J7_fill_d0a16_6_s]
    show (if nI N ≤ nI N then _ else _) = _
    simp (disch := omega) only [Option.bind_some, bd_some, eqL, leL, ltL, Lle, Llt, addL, Ladd, Lmul, mulL, nIle, nIlt, nIeq, nI_add, pk_mul]
    rw [if_pos (by omega)]
theorem Try.of_ag {μ ν : Mm} {P : Nat → Nat → Prop} {t : Nat} (h : Try μ t) (e : Ag P μ ν) (h7 : ¬ P 7 t) (h8 : ¬ P 8 t) (h2 : ¬ P 142 t) (h3 : ¬ P 143 t) (hr : ∀ k, ¬ P (3 + t) k) (hn : ∀ k, k < 60 → ¬ P 144 (60 * t + k)) : Try ν t := by
  obtain ⟨q1, q2, q3⟩ := h
  refine ⟨by rw [e.a h7, e.a h3]; exact q1, by rw [e.a h8, e.a h2]; exact q2, ?_⟩
  rw [e.a h7]
  rcases q3 with q3 | ⟨n, z1, z2, z3⟩
  · exact Or.inl q3
  · exact Or.inr ⟨n, z1, z2, fun k hk => by rw [e.l (hr k), e.l (hn k (by omega))]; exact z3 k hk⟩
/-- both sides of a call on trays -/
theorem R.t {α : Type} {fx fm : Mm → Option (α × Mm)} (h : R μ) (v : α) {ν ξ : Mm} (hx : fx μ = some (v, sI ν 0 0 0)) (hm : fm (sI ν 0 0 0) = some (v, ξ)) (h0 : mI ξ 141 0 = 0) (h1 : Ag (fun a _ => 3 ≤ a ∧ a ≤ 8) μ ν) (h2 : Ag (fun a k => (142 ≤ a ∧ a ≤ 144) ∨ (a = 141 ∧ k < 2)) (sI ν 0 0 0) ξ) (ht : ∀ t, t < 4 → Try ξ t) : Sm fx fm μ := by
  refine ⟨v, _, ξ, hx, hm, h.ty (((h1.mono ?_).tr (Ag.sI (by unfold ST; omega))).tr (h2.mono ?_)) ?_ ht⟩
  · intro a k q; unfold ST; omega
  · intro a k q; unfold ST; omega
  · rw [h0, h2.i (by omega)]; rfl
theorem op_tray (h : R μ) (hF : 2000000 ≤ F) (v1 v2 v3 : Int32) : Sm (f_X11_tray F v1 v2 v3) (f_X12_tray F v1 v2 v3) μ := by
  by_cases e1 : inR v1 0 3 = true
  · obtain ⟨t, -, ht, -, rfl⟩ := inR_of e1
    have n1 : ¬ nI t < 0 := nI_n0 (by omega)
    have n2 : ¬ (4 : Int32) ≤ nI t := fun q => by have q2 : 4 ≤ t := (Lle (n := 4) (by omega) (by decide)).mp q; omega
    by_cases e2 : inR v2 0 3 = true
    · have g2 : ¬ v2 < 0 ∧ v2 ≤ 3 := by
        unfold inR at e2
        have := of_decide_eq_true e2
        rw [fa_lt, fa_le, show (0 : Int32).toInt = 0 by decide, show (3 : Int32).toInt = 3 by decide]
        omega
      by_cases e3 : v3 ≤ 60
      · by_cases e4 : 0 ≤ v3
        · obtain ⟨n, hn, rfl⟩ := nI_of2 (M := 60) (n := 60) (by decide) (fun q => (fa_of_lt q).2.1 e4) e3
          let ν := putL (sA (sA μ 8 t v2) 7 t (nI n)) (3 + t) (fun _ => 0) 0 60
          let ξ0 := sA (sA (sI (sI (sI ν 0 0 0) 141 1 0) 141 0 0) 142 t v2) 143 t (nI n)
          have hN : Ag (fun a _ => a = 3 + t) (sA (sA μ 8 t v2) 7 t (nI n)) ν := putL_ag (P := fun a _ => a = 3 + t) (fun _ _ _ => rfl)
          have hL : L_X12_tray_74 F (nI t) (nI n) (fun μ10 => some (true, μ10)) F 0 ξ0 = some (true, putL ξ0 144 (fun _ => 0) (60 * t) n) := by
            refine iter2 (L := L_X12_tray_74 F (nI t) (nI n) _) (fun i => nI i) (fun i => putL ξ0 144 (fun _ => 0) (60 * t) i) (N := n) (by omega) (fun i hi m => ?_) (fun m => ?_)
            · rw [L_X12_tray_74_s, putL_n]
              simp (disch := omega) only [Option.bind_some, bd_some, eqL, leL, ltL, Lle, Llt, addL, Ladd, Lmul, mulL, nIle, nIlt, nIeq, nI_add, pk_mul, wrL_n]
              rw [if_neg (by omega)]
            · rw [L_X12_tray_74_s]
              simp (disch := omega) only [Option.bind_some, bd_some, eqL, leL, ltL, Lle, Llt, addL, Ladd, Lmul, mulL, nIle, nIlt, nIeq, nI_add, pk_mul]
              rw [if_pos (by omega)]
          have hE : Ag (fun a k => a = 144 ∧ 60 * t ≤ k ∧ k < 60 * t + 60) ξ0 (putL ξ0 144 (fun _ => 0) (60 * t) n) := putL_ag (P := fun a k => a = 144 ∧ 60 * t ≤ k ∧ k < 60 * t + 60) (fun k h1 h2 => ⟨rfl, h1, by omega⟩)
          have h0 : Ag (fun a k => (a = 142 ∧ k = t) ∨ (a = 143 ∧ k = t) ∨ (a = 141 ∧ k < 2)) (sI ν 0 0 0) ξ0 := (((Ag.sI (by omega)).tr (Ag.sI (by omega))).tr (Ag.sA (by omega))).tr (Ag.sA (by omega))
          have hμν : Ag (fun a k => (a = 8 ∧ k = t) ∨ (a = 7 ∧ k = t) ∨ a = 3 + t) μ ν := ((Ag.sA (by omega)).tr (Ag.sA (by omega))).tr (hN.mono (fun a k q => by omega))
          refine h.t true (ν := ν) (ξ := putL ξ0 144 (fun _ => 0) (60 * t) n) ?_ ?_ ?_ (hμν.mono (fun a k q => by omega)) ((h0.mono (fun a k q => by omega)).tr (hE.mono (fun a k q => by omega))) ?_
          · unfold f_X11_tray f_X10_make
            simp (disch := omega) only [X_isNumber, e1, e2, Option.bind_some, eq_self, if_true, within_L, e3, e4, wrA_n, rdE_r, fillL hF, ver_X, bd_some, decide_true]
            rfl
          · unfold f_X12_tray
            rw [if_neg n1, if_neg n2, if_neg g2.1, if_pos g2.2, if_pos e3, if_pos e4, wrA_n (by omega) (by omega), Option.bind_some, wrA_n (by omega) (by omega), Option.bind_some]
            exact hL
          · rw [hE.i (by omega)]; rfl
          · intro u hu
            have hall : Ag (fun a k => ((a = 8 ∨ a = 7 ∨ a = 142 ∨ a = 143) ∧ k = t) ∨ a = 3 + t ∨ (a = 141 ∧ k < 2) ∨ a = 0 ∨ (a = 144 ∧ 60 * t ≤ k ∧ k < 60 * t + 60)) μ (putL ξ0 144 (fun _ => 0) (60 * t) n) := (((hμν.mono (fun a k q => by omega)).tr (Ag.sI (by omega))).tr (h0.mono (fun a k q => by omega))).tr (hE.mono (fun a k q => by omega))
            by_cases eu : u = t
            · subst eu
              have a7 : mA (putL ξ0 144 (fun _ => 0) (60 * u) n) 7 u = nI n := by
                rw [hE.a (by omega), h0.a (by omega), mA_sI, hN.a (by omega), mA_sA, if_pos rfl, if_pos rfl]
              have a8 : mA (putL ξ0 144 (fun _ => 0) (60 * u) n) 8 u = v2 := by
                rw [hE.a (by omega), h0.a (by omega), mA_sI, hN.a (by omega), mA_ne (by omega), mA_sA, if_pos rfl, if_pos rfl]
              have a143 : mA (putL ξ0 144 (fun _ => 0) (60 * u) n) 143 u = nI n := by
                rw [hE.a (by omega)]
                show mA (sA _ 143 u (nI n)) 143 u = _
                rw [mA_sA, if_pos rfl, if_pos rfl]
              have a142 : mA (putL ξ0 144 (fun _ => 0) (60 * u) n) 142 u = v2 := by
                rw [hE.a (by omega)]
                show mA (sA (sA _ 142 u v2) 143 u (nI n)) 142 u = _
                rw [mA_ne (by omega), mA_sA, if_pos rfl, if_pos rfl]
              refine ⟨by rw [a7, a143], by rw [a8, a142], Or.inr ⟨n, hn, a7, fun k hk => ?_⟩⟩
              rw [hE.l (by omega), h0.l (by omega)]
              rw [putL_mL, if_pos (by omega), mL_sI]
              show mL (putL _ (3 + u) (fun _ => 0) 0 60) (3 + u) k = 0
              rw [putL_mL, if_pos (by omega)]
            · exact (h.tr u hu).of_ag hall (by omega) (by omega) (by omega) (by omega) (fun k => by omega) (fun k hk => by omega)
        · exact h.q 6 false (by unfold f_X11_tray; simp only [X_isNumber, e1, e2, Option.bind_some, eq_self, if_true, within_L (show (OfNat.ofNat 0 : Nat) < 1000000 by decide) (show (OfNat.ofNat 3 : Nat) < 1000000 by decide), e3, e4, if_false, ver_X, bd_some]; rfl) (by unfold f_X12_tray; rw [if_neg n1, if_neg n2, if_neg g2.1, if_pos g2.2, if_pos e3, if_neg e4]; exact QM_r)
      · exact h.q 5 false (by unfold f_X11_tray; simp only [X_isNumber, e1, e2, Option.bind_some, eq_self, if_true, within_L (show (OfNat.ofNat 0 : Nat) < 1000000 by decide) (show (OfNat.ofNat 3 : Nat) < 1000000 by decide), e3, if_false, ver_X, bd_some]; rfl) (by unfold f_X12_tray; rw [if_neg n1, if_neg n2, if_neg g2.1, if_pos g2.2, if_neg e3]; exact QM_r)
    · have z := inR_no e2
      refine h.q 1 false (by unfold f_X11_tray; simp only [X_isNumber, e1, z, Option.bind_some, eq_self, if_true, within_L (show (OfNat.ofNat 0 : Nat) < 1000000 by decide) (show (OfNat.ofNat 3 : Nat) < 1000000 by decide), Bool.false_eq_true, if_false, ver_X, bd_some]; rfl) ?_
      unfold f_X12_tray
      rw [if_neg n1, if_neg n2]
      rcases not03 z with q | ⟨q1, q2, -⟩
      · rw [if_pos q]; exact QM_r
      · rw [if_neg q1, if_neg (fun q => by rw [fa_le] at q q2; have h3 : (3 : Int32).toInt = 3 := (by decide); have h4 : (4 : Int32).toInt = 4 := (by decide); omega)]; exact QM_r
  · have z := inR_no e1
    refine h.q 1 false (by unfold f_X11_tray; simp only [X_isNumber, z, Option.bind_some, Bool.false_eq_true, if_false, ver_X, bd_some]; rfl) ?_
    unfold f_X12_tray
    rcases not03 z with q | ⟨q1, q2, -⟩
    · rw [if_pos q]; exact QM_r
    · rw [if_neg q1, if_pos q2]; exact QM_r
/-- what a tray's place is -/
def lkT (μ : Mm) (v1 v2 : Int32) (c : Int32) : Prop := (c = 1 ∧ inR v1 0 3 = false) ∨ (∃ t, t < 4 ∧ v1 = nI t ∧ ((c = 3 ∧ mA μ 7 t = -1) ∨ ∃ n, n ≤ 60 ∧ mA μ 7 t = nI n ∧ (∀ k, k < n → mL μ (3 + t) k = mL μ 144 (60 * t + k)) ∧ ((c = 4 ∧ inN v2 n = false) ∨ ∃ k, k < n ∧ v2 = nI k ∧ c = 0)))
theorem X_lookAt (h : R μ) (v1 v2 : Int32) : ∃ c, f_X10_lookAt v1 v2 μ = some c ∧ lkT μ v1 v2 c ∧ ∀ ξ, mA ξ 143 = mA μ 143 → f_X12_placed v1 v2 ξ = some c := by
  by_cases e1 : inR v1 0 3 = true
  · obtain ⟨t, -, ht, -, rfl⟩ := inR_of e1
    have n1 : ¬ nI t < 0 := nI_n0 (by omega)
    have n2 : nI t < (4 : Int32) := (ltL (n := 4) (by omega) (by decide)).mpr (by show t < 4; omega)
    obtain ⟨q1, q2, q3⟩ := h.tr t (by omega)
    have hm : ∀ ξ, mA ξ 143 = mA μ 143 → rdA ξ 143 4 (nI t) = some (mA μ 7 t) := fun ξ hξ => by rw [rdA_n (by omega) (by omega), hξ, q1]
    rcases q3 with q3 | ⟨n, z1, z2, z3⟩
    · refine ⟨3, ?_, Or.inr ⟨t, by omega, rfl, Or.inl ⟨rfl, q3⟩⟩, fun ξ hξ => ?_⟩
      · unfold f_X10_lookAt f_X10_isMissing
        rw [X_isNumber, e1, rdA_n (by omega) (by omega), q3]
        rfl
      · unfold f_X12_placed f_X12_trayed
        rw [if_neg n1, if_pos n2, hm ξ hξ, q3]
        rfl
    · have n3 : ¬ nI n = -1 := by rw [neg_ne (by omega)]; exact id
      have n4 : (0 : Int32) ≤ nI n := nI_pos' (by omega)
      have hX : f_X10_lookAt (nI t) v2 μ = some (if inN v2 n = true then 0 else 4) := by
        unfold f_X10_lookAt f_X10_isMissing
        rw [X_isNumber, e1, rdA_n (by omega) (by omega), z2, Option.bind_some, Option.bind_some, if_pos rfl, if_neg n3, Option.bind_some, if_neg (by decide), Option.bind_some, within_n v2 (by omega)]
        rfl
      have hM : ∀ ξ, mA ξ 143 = mA μ 143 → f_X12_placed (nI t) v2 ξ = some (if inN v2 n = true then 0 else 4) := by
        intro ξ hξ
        unfold f_X12_placed f_X12_trayed
        rw [if_neg n1, if_pos n2, hm ξ hξ, z2, Option.bind_some, if_pos n4, Option.bind_some, if_pos (by decide), Option.bind_some]
        by_cases e : inN v2 n = true
        · obtain ⟨k, hk, hk2, rfl⟩ := inN_of e
          rw [if_neg (nI_n0 (by omega)), if_pos ((nIlt (by omega) (by omega)).mpr hk), if_pos e]
        · rw [if_neg e]
          by_cases q : v2 < 0
          · rw [if_pos q]
          · rw [if_neg q, if_neg]
            intro q2
            apply e
            unfold inN
            rw [decide_eq_true_eq]
            rw [fa_lt, show (0 : Int32).toInt = 0 by decide] at q
            rw [fa_lt, nI_ti (by omega)] at q2
            omega
      by_cases e : inN v2 n = true
      · rw [if_pos e] at hX hM
        obtain ⟨k, hk, -, hv⟩ := inN_of e
        exact ⟨0, hX, Or.inr ⟨t, by omega, rfl, Or.inr ⟨n, z1, z2, z3, Or.inr ⟨k, hk, hv, rfl⟩⟩⟩, hM⟩
      · rw [if_neg e] at hX hM
        exact ⟨4, hX, Or.inr ⟨t, by omega, rfl, Or.inr ⟨n, z1, z2, z3, Or.inl ⟨rfl, inN_no e⟩⟩⟩, hM⟩
  · have z := inR_no e1
    refine ⟨1, ?_, Or.inl ⟨rfl, z⟩, fun ξ hξ => ?_⟩
    · unfold f_X10_lookAt
      rw [X_isNumber, z]
      rfl
    · unfold f_X12_placed f_X12_trayed
      rcases not03 z with q | ⟨q1, -, q2⟩
      · rw [if_pos q]; rfl
      · rw [if_neg q1, if_neg q2]; rfl
theorem op_read (h : R μ) (v1 v2 : Int32) : Sm (f_X11_read v1 v2) (f_X12_read v1 v2) μ := by
  obtain ⟨c, hx, hc, hm⟩ := X_lookAt h v1 v2
  have hm0 : f_X12_placed v1 v2 (sI (sI μ 0 0 c) 141 1 0) = some c := hm _ rfl
  have no : c ≠ 0 → 0 < c → Sm (f_X11_read v1 v2) (f_X12_read v1 v2) μ := by
    intro h1 h2
    refine h.q c (-1) ?_ ?_
    · unfold f_X11_read
      rw [hx, Option.bind_some, if_neg h1]
    · unfold f_X12_read
      rw [hm0, Option.bind_some, if_neg (by show ¬ c ≤ 0; exact fun q => (fa_of_lt h2).2.1 q)]
      exact QM_s
  rcases hc with ⟨rfl, -⟩ | ⟨t, ht, rfl, ⟨rfl, -⟩ | ⟨n, z1, z2, z3, ⟨rfl, -⟩ | ⟨k, hk, rfl, rfl⟩⟩⟩
  · exact no (by decide) (by decide)
  · exact no (by decide) (by decide)
  · exact no (by decide) (by decide)
  · refine h.q 0 (mL μ (3 + t) k) ?_ ?_
    · unfold f_X11_read
      rw [hx, Option.bind_some, if_pos rfl, rdE_r ht, Option.bind_some, rdL_n (by omega) (by omega)]
      rfl
    · unfold f_X12_read
      rw [hm0, Option.bind_some, if_pos (by show (0 : Int32) ≤ 0; decide)]
      simp (disch := omega) only [Option.bind_some, bd_some, eqL, leL, ltL, Lle, Llt, addL, Ladd, Lmul, mulL, nIle, nIlt, nIeq, nI_add, pk_mul, rdL_n]
      rw [z3 k hk]
      exact QM_s
theorem op_write (h : R μ) (v1 v2 : Int32) (v : Int64) : Sm (f_X11_write v1 v2 v) (f_X12_write v1 v2 v) μ := by
  obtain ⟨c, hx, hc, hm⟩ := X_lookAt h v1 v2
  have hm0 : ∀ ξ, mA ξ 143 = mA μ 143 → f_X12_placed v1 v2 (sI ξ 141 1 0) = some c := fun ξ hξ => hm _ hξ
  have no : c ≠ 0 → 0 < c → Sm (f_X11_write v1 v2 v) (f_X12_write v1 v2 v) μ := by
    intro h1 h2
    refine h.q c false ?_ ?_
    · unfold f_X11_write jn
      rw [hx, Option.bind_some]
      show (if c = 0 then _ else _) = _
      rw [if_neg h1]
      show bd (f_X11_verdict c μ) _ = _
      rw [ver_X, decide_eq_false h1]
      rfl
    · unfold f_X12_write
      rw [hm0 (sI μ 0 0 c) rfl, Option.bind_some, if_neg (by show ¬ c ≤ 0; exact fun q => (fa_of_lt h2).2.1 q)]
      exact QM_s
  rcases hc with ⟨rfl, -⟩ | ⟨t, ht, rfl, ⟨rfl, -⟩ | ⟨n, z1, z2, z3, ⟨rfl, -⟩ | ⟨k, hk, rfl, rfl⟩⟩⟩
  · exact no (by decide) (by decide)
  · exact no (by decide) (by decide)
  · exact no (by decide) (by decide)
  · obtain ⟨q1, q2, q3⟩ := h.tr t ht
    let x := cutN (mA μ 8 t) v
    let ν := sL μ (3 + t) k x
    refine h.t true (ν := ν) (ξ := sL (sI (sI (sI ν 0 0 0) 141 1 0) 141 0 0) 144 (60 * t + k) x) ?_ ?_ rfl (Ag.sL (by omega)) (((Ag.sI (by omega)).tr (Ag.sI (by omega))).tr (Ag.sL (by omega))) ?_
    · unfold f_X11_write jn f_X10_put
      rw [hx, Option.bind_some]
      show (if (0 : Int32) = 0 then _ else _) = _
      rw [if_pos rfl, rdE_r ht, Option.bind_some, rdA_n (by omega) (by omega), Option.bind_some, X_cut, Option.bind_some, wrL_n (by omega) (by omega), Option.bind_some, Option.bind_some]
      show bd (f_X11_verdict 0 _) _ = _
      rw [ver_X]
      rfl
    · unfold f_X12_write
      rw [hm0 (sI ν 0 0 0) rfl, Option.bind_some, if_pos (by show (0 : Int32) ≤ 0; decide)]
      have hr : rdA (sI (sI (sI ν 0 0 0) 141 1 0) 141 0 0) 142 4 (nI t) = some (mA μ 8 t) := by rw [rdA_n (by omega) (by omega), q2]; rfl
      simp (disch := omega) only [Option.bind_some, bd_some, eqL, leL, ltL, Lle, Llt, addL, Ladd, Lmul, mulL, nIle, nIlt, nIeq, nI_add, pk_mul, hr, M_cut, wrL_n]
      rfl
    · intro u hu
      have hall : Ag (fun a j => a = 0 ∨ a = 141 ∨ (a = 3 + t ∧ j = k) ∨ (a = 144 ∧ j = 60 * t + k)) μ (sL (sI (sI (sI ν 0 0 0) 141 1 0) 141 0 0) 144 (60 * t + k) x) := ((((Ag.sL (by omega)).tr (Ag.sI (by omega))).tr (Ag.sI (by omega))).tr (Ag.sI (by omega))).tr (Ag.sL (by omega))
      by_cases eu : u = t
      · subst eu
        refine ⟨by rw [hall.a (by omega), hall.a (by omega)]; exact q1, by rw [hall.a (by omega), hall.a (by omega)]; exact q2, Or.inr ⟨n, z1, by rw [hall.a (by omega)]; exact z2, fun j hj => ?_⟩⟩
        by_cases ej : j = k
        · subst ej
          rw [mL_ne (by omega), mL_sI, mL_sI, mL_sI]
          show mL (sL μ (3 + u) j x) (3 + u) j = _
          rw [mL_sL, if_pos rfl, if_pos rfl, mL_sL, if_pos rfl, if_pos rfl]
        · rw [hall.l (by omega), hall.l (by omega)]; exact z3 j hj
      · refine ⟨by rw [hall.a (by omega), hall.a (by omega)]; exact (h.tr u hu).1, by rw [hall.a (by omega), hall.a (by omega)]; exact (h.tr u hu).2.1, ?_⟩
        rw [hall.a (by omega)]
        rcases (h.tr u hu).2.2 with z | ⟨m, y1, y2, y3⟩
        · exact Or.inl z
        · exact Or.inr ⟨m, y1, y2, fun j hj => by rw [hall.l (by omega), hall.l (by omega)]; exact y3 j hj⟩
end TRAYS
