/-! ===== rounds: the class ===== -/
def Kp (γ β : Nat → Nat) : Prop := ∀ i, ¬ (i = 5 ∨ i = 7 ∨ (13 ≤ i ∧ i < 38) ∨ (63 ≤ i ∧ i < 88)) → γ i = β i
theorem Kp_rf {β : Nat → Nat} : Kp β β := fun _ _ => rfl
section KP
variable {γ β : Nat → Nat}
theorem Kp_cl (h : Kp γ β) : cl γ = cl β := by unfold cl; rw [h 0 (by omega), h 2 (by omega)]
theorem Kp_bes (h : Kp γ β) {k p : Nat} : bes γ k p = bes β k p := by unfold bes; rw [Kp_cl h, h 2 (by omega)]
theorem Kp_way (h : Kp γ β) {k v : Nat} : wayF γ k v = wayF β k v := by unfold wayF; rw [Kp_bes h]
theorem Kp_brs (h : Kp γ β) {d : Nat → Nat} {l k : Nat} : brs γ d l k = brs β d l k := by
  unfold brs
  rw [h (88 + l) (by omega), h (108 + l) (by omega), h (118 + l) (by omega), Kp_bes h]
theorem Kp_law (h : Kp γ β) {d : Nat → Nat} {k : Nat} : lawOf γ d k = lawOf β d k := by
  unfold lawOf
  rw [h 1 (by omega)]
  exact fndF_cong (fun j _ _ => Kp_brs h)
theorem Kp_bec (h : Kp γ β) {d : Nat → Nat} {k : Nat} : becomes γ d k = becomes β d k := by
  unfold becomes
  rw [Kp_law h]
  cases lawOf β d k with
  | none => rfl
  | some l => exact h (98 + l) (by omega)
theorem brs_d (w : WF β) {d d' : Nat → Nat} (h : ∀ k, k < cl β → d k = d' k) {l k : Nat} (hk : k < cl β) : brs β d l k = brs β d' l k := by
  unfold brs
  rw [h k hk]
  cases hb : bes β k (β (108 + l)) with
  | none => rfl
  | some j => have := h j (bes_lt w hk hb); simp only [this]
theorem law_d (w : WF β) {d d' : Nat → Nat} (h : ∀ k, k < cl β → d k = d' k) {k : Nat} (hk : k < cl β) : lawOf β d k = lawOf β d' k := fndF_cong (fun _ _ _ => brs_d w h hk)
theorem bec_d (w : WF β) {d d' : Nat → Nat} (h : ∀ k, k < cl β → d k = d' k) {k : Nat} (hk : k < cl β) : becomes β d k = becomes β d' k := by
  unfold becomes
  rw [law_d w h hk]
  cases lawOf β d' k with
  | none => exact h k hk
  | some l => rfl
theorem Kp_st (h : Kp γ β) {j : Nat} (hj : j < 25) : Kp (stB γ j) β := fun i hi => by
  unfold stB
  rw [updN_ne (by omega), updN_ne (by omega)]
  exact h i hi
theorem Kp_hour (h : Kp γ β) (hc : cl γ ≤ 25) : Kp (hourB γ) β := fun i hi => by
  unfold hourB
  rw [if_neg (by omega), if_neg (by omega), if_neg (by omega)]
  exact h i hi
theorem Kp_hst (h : Kp γ β) (w : WF γ) {j : Nat} (hj : j < 25) : Kp (hourB (stB γ j)) β := Kp_hour (Kp_st h hj) (by rw [stB_cl]; exact w.cl_le)
theorem stB_t {j : Nat} : stB γ j (63 + j) = γ 3 := by unfold stB; rw [updN_eq]
theorem stB_tn {j k : Nat} (h : k ≠ j) : stB γ j (63 + k) = γ (63 + k) := by unfold stB; rw [updN_ne (by omega), updN_ne (by omega)]
theorem stB_d {j k : Nat} (hk : k < 25) : stB γ j (13 + k) = γ (13 + k) := by unfold stB; rw [updN_ne (by omega), updN_ne (by omega)]
theorem hst_d (w : WF γ) (wb : WF β) (K : Kp γ β) {j k : Nat} (hj : j < cl β) (hk : k < cl β) : hourB (stB γ j) (13 + k) = if k = j then γ (13 + k) else drfR β (fun i => γ (13 + i)) (fun i => γ (63 + i)) k := by
  have hc := w.cl_le
  have e := Kp_cl K
  have w3 := w.1.2.2.2.2.1
  rw [hourB_dg (by rw [stB_cl]; omega)]
  unfold drf drfR
  by_cases q : k = j
  · rw [if_pos q, q, stB_t, if_neg (by omega), stB_d (by omega)]
  · rw [if_neg q, stB_tn q, stB_d (by omega), Kp_bec (Kp_st K (by omega)), bec_d wb (d := dgs (stB γ j)) (d' := fun i => γ (13 + i)) (fun i hi => stB_d (by omega)) hk]
theorem hst_t (w : WF γ) (K : Kp γ β) {j k : Nat} (hk : k < cl β) : hourB (stB γ j) (63 + k) = if k = j then β 3 - 1 else γ (63 + k) - 1 := by
  have hc := w.cl_le
  have e := Kp_cl K
  rw [hourB_tp (by rw [stB_cl]; omega) (by rw [stB_cl]; omega)]
  by_cases q : k = j
  · rw [if_pos q, q, stB_t, K 3 (by omega)]
  · rw [if_neg q, stB_tn q]
end KP
theorem rdE_R0 {m : Nat} (h : m < 6) : rdE 110 6 (nI m) = some (111 + m) := by
  rw [rdE_n h (by omega)]
  have : m = 0 ∨ m = 1 ∨ m = 2 ∨ m = 3 ∨ m = 4 ∨ m = 5 := by omega
  rcases this with rfl | rfl | rfl | rfl | rfl | rfl <;> rfl
theorem rdE_R1 {m : Nat} (h : m < 6) : rdE 117 6 (nI m) = some (118 + m) := by
  rw [rdE_n h (by omega)]
  have : m = 0 ∨ m = 1 ∨ m = 2 ∨ m = 3 ∨ m = 4 ∨ m = 5 := by omega
  rcases this with rfl | rfl | rfl | rfl | rfl | rfl <;> rfl
theorem rdE_R2 {m : Nat} (h : m < 6) : rdE 124 6 (nI m) = some (125 + m) := by
  rw [rdE_n h (by omega)]
  have : m = 0 ∨ m = 1 ∨ m = 2 ∨ m = 3 ∨ m = 4 ∨ m = 5 := by omega
  rcases this with rfl | rfl | rfl | rfl | rfl | rfl <;> rfl
theorem bf0 {b : Bool} (h : ¬ b = true) : b = false := by cases b; rfl; exact absurd rfl h
section ROUNDX
variable {μ : Mm} {b : Nat} {β : Nat → Nat} {F : Nat}
theorem X_tapAndPass (h : BX μ b β) (w : WF β) (hF : 2000000 ≤ F) (hb : b + 12 ≤ 107) {k j : Nat} (hk : k < 5) (hj : j < cl β) {d t u : Nat → Nat} (hd : Row μ (111 + k) (cl β) d) (ht : Row μ (118 + k) (cl β) t) (ht9 : ∀ i, i < cl β → t i ≤ 9) (hu : Row μ (125 + k) (cl β) u) : ∃ ν, f_X8_tapAndPass F b (nI k) (nI j) μ = some ν ∧ Row ν (112 + k) (cl β) (fun i => if i = j then d i else u i) ∧ Row ν (119 + k) (cl β) (fun i => if i = j then β 3 - 1 else t i - 1) ∧ Ag (fun a _ => a = 112 + k ∨ a = 119 + k) μ ν := by
  have hc := w.cl_le
  have w3 := w.1.2.2.2.2.1
  have w3' := w.1.2.2.2.2.2.1
  obtain ⟨μ1, hμ1⟩ : ∃ μ1, μ1 = sA (cpR μ (125 + k) (112 + k) 25) (112 + k) j (nI (d j)) := ⟨_, rfl⟩
  have A1 : Ag (fun a _ => a = 112 + k) μ μ1 := by rw [hμ1]; exact (cpR_ag (fun _ => rfl)).tr (Ag.sA rfl)
  have R1 : Row μ1 (112 + k) (cl β) (fun i => if i = j then d i else u i) := by
    intro i hi
    rw [hμ1, mA_sA, if_pos rfl]
    by_cases e : i = j
    · rw [if_pos e]; show _ = nI (if i = j then d i else u i); rw [if_pos e, e]
    · rw [if_neg e, cpR_at (by omega), hu i hi]; show _ = nI (if i = j then d i else u i); rw [if_neg e]
  have hx : BX μ1 b β := h.ag A1 (fun i hi _ => by omega)
  have t1 : ∀ i, i < cl β → mA μ1 (118 + k) i = nI (t i) := fun i hi => by rw [A1.a (by omega)]; exact ht i hi
  obtain ⟨μ2, hμ2⟩ : ∃ μ2, μ2 = putA μ1 (119 + k) (fun i => nI (t i - 1)) 0 (cl β) := ⟨_, rfl⟩
  have A2 : Ag (fun a _ => a = 119 + k) μ1 μ2 := by rw [hμ2]; exact putA_ag (fun _ _ _ => rfl)
  have lp : ∀ kk : Mm → Option Mm, L_X8_tapAndPass_50 F b (nI k) (nI j) (119 + k) kk F 0 μ1 = kk μ2 := by
    intro kk
    rw [hμ2]
    refine iter2 (F := F) (L := L_X8_tapAndPass_50 F b (nI k) (nI j) (119 + k) kk) (fun i => nI i) (fun i => putA μ1 (119 + k) (fun i => nI (t i - 1)) 0 i) (N := cl β) (by omega) (fun i hi n => ?_) (fun n => ?_)
    · have hA : Ag (fun a _ => a = 119 + k) μ1 (putA μ1 (119 + k) (fun i => nI (t i - 1)) 0 i) := putA_ag (fun _ _ _ => rfl)
      have hx' : BX (putA μ1 (119 + k) (fun i => nI (t i - 1)) 0 i) b β := hx.ag hA (fun i hi _ => by omega)
      have hr : rdA (putA μ1 (119 + k) (fun i => nI (t i - 1)) 0 i) (118 + k) 25 (nI i) = some (nI (t i)) := by rw [rdA_n (by omega) (by omega), hA.a (by omega), t1 i hi]
      have h9 := ht9 i hi
      rw [L_X8_tapAndPass_50_s, X_cells hx', putA_n, Nat.zero_add]
      simp (disch := omega) only [Option.bind_some, bd_some, eqL, leL, ltL, Lle, Llt, addL, Ladd, Lmul, mulL, nIle, nIlt, nIeq, nI_add, pk_mul, rdE_R1, hr, max_eq, max0', wrA_n]
      rw [if_neg (by omega)]
    · have hA : Ag (fun a _ => a = 119 + k) μ1 (putA μ1 (119 + k) (fun i => nI (t i - 1)) 0 (cl β)) := putA_ag (fun _ _ _ => rfl)
      have hx' : BX (putA μ1 (119 + k) (fun i => nI (t i - 1)) 0 (cl β)) b β := hx.ag hA (fun i hi _ => by omega)
      rw [L_X8_tapAndPass_50_s, X_cells hx']
      simp (disch := omega) only [Option.bind_some, bd_some, eqL, leL, ltL, Lle, Llt, addL, Ladd, Lmul, mulL, nIle, nIlt, nIeq, nI_add, pk_mul]
      rw [if_pos (by omega)]
  have m1 : mI μ2 b 1 = nI (β 3) := by rw [A2.i (by omega)]; exact hx.tap
  refine ⟨sA μ2 (119 + k) j (nI (β 3 - 1)), ?_, ?_, ?_, ?_⟩
  · unfold f_X8_tapAndPass
    have r8 : rdA (cpR μ (125 + k) (112 + k) 25) (111 + k) 25 (nI j) = some (nI (d j)) := by rw [rdA_n (by omega) (by omega), cpR_ne (by omega), hd j hj]
    have cp : cpA μ (125 + k) 25 0 (112 + k) 25 0 25 = some (cpR μ (125 + k) (112 + k) 25) := cpA_25
    have e1 : 111 + (k + 1) = 112 + k := by omega
    have e2 : 118 + (k + 1) = 119 + k := by omega
    rw [nI_1, rdE_R0 (by omega), rdE_R1 (by omega), rdE_R2 (by omega), e1, e2]
    simp only [Option.bind_some]
    rw [cp, Option.bind_some, rdE_R0 (by omega), Option.bind_some, r8, Option.bind_some, wrA_n (by omega) (by omega), Option.bind_some, ← hμ1, lp, m1, subL (by show 1 ≤ β 3; omega), wrA_n (by omega) (by omega)]
    rfl
  · intro i hi
    rw [mA_ne (by omega), A2.a (by omega)]
    exact R1 i hi
  · intro i hi
    rw [mA_sA, if_pos rfl]
    show _ = nI (if i = j then β 3 - 1 else t i - 1)
    by_cases e : i = j
    · rw [if_pos e, if_pos e]
    · rw [if_neg e, if_neg e, hμ2, putA_mA, if_pos (by omega)]
  · exact ((A1.mono (fun a _ q => Or.inl q)).tr (A2.mono (fun a _ q => Or.inr q))).tr (Ag.sA (Or.inr rfl))
def SXr (μ : Mm) (n : Nat) (S : RS) : Prop := match S.1 with
  | none => mI μ 107 0 = nI 26
  | some m => mI μ 107 0 = nI m ∧ mI μ 107 2 = nI S.2.1 ∧ ∀ i, i < n → mA μ 108 i = nI (S.2.2 i)
theorem SXr_ag {μ ν : Mm} {n : Nat} {S : RS} {P : Nat → Nat → Prop} (h : SXr μ n S) (e : Ag P μ ν) (h1 : ¬ P 107 0) (h2 : ¬ P 107 2) (h3 : ∀ i, ¬ P 108 i) : SXr ν n S := by
  unfold SXr at *
  cases hs : S.1 with
  | none => rw [hs] at h; show mI ν 107 0 = nI 26; rw [e.i h1]; exact h
  | some m =>
    rw [hs] at h
    exact ⟨by rw [e.i h1]; exact h.1, by rw [e.i h2]; exact h.2.1, fun i hi => by rw [e.a (h3 i)]; exact h.2.2 i hi⟩
theorem X_weigh (h : BX μ b β) (w : WF β) (hF : 2000000 ≤ F) {γ tr : Nat → Nat} {set : Int32} {n st : Nat} {S : RS} (wg : WF γ) (K : Kp γ β) (hn : n ≤ 5) (hr : Row μ (111 + n) (cl β) (fun i => γ (13 + i))) (h3 : mI μ 107 3 = set) (h4 : mI μ 107 4 = nI n) (hs : st ≤ 5) (htr : ∀ i, i < n → mA μ 109 i = nI (tr i)) (hS : SXr μ n S) (hok : RSok S) : ∃ ν, f_X8_weigh F b (nI st) μ = some ν ∧ SXr ν n (wgR set γ tr st S) ∧ Ag (fun a i => (a = 107 ∧ (i = 0 ∨ i = 2)) ∨ a = 108) μ ν := by
  have hc := w.cl_le
  have hcl := Kp_cl K
  have hwr := wrongs_le wg (set := set)
  have lp : ∀ kk : Int32 → Option Mm, L_X8_weigh_5 F b (nI st) kk μ F 0 0 = kk (nI (wrongs γ set)) := by
    intro kk
    unfold wrongs
    rw [hcl]
    refine iter2 (F := F) (L := L_X8_weigh_5 F b (nI st) kk μ) (fun i => nI (cntF (fun k => bit set k && wrg γ k) 0 i)) (fun i => nI i) (N := cl β) (by omega) (fun i hi m => ?_) (fun m => ?_)
    · have g1 := (wg.2.2.1 i (by omega)).1
      have g2 := (w.2.2.1 i (by omega)).2.1
      rw [L_X8_weigh_5_s, X_cells h, h3, h4, cntF_n, Nat.zero_add]
      simp (disch := omega) only [Option.bind_some, bd_some, eqL, leL, ltL, Lle, Llt, addL, Ladd, Lmul, mulL, nIle, nIlt, nIeq, nI_add, pk_mul, rdE_R0, hr.rd hc, h.rT w]
      rw [if_neg (by omega)]
      by_cases e : bit set i = true
      · rw [if_neg (fun z => by rw [(bit_n0 _ _).mp z] at e; cases e), e, Bool.true_and]
        unfold wrg
        rw [K (38 + i) (by omega)]
        by_cases q : γ (13 + i) = β (38 + i)
        · rw [if_pos q, if_neg (by simp [q])]; rfl
        · rw [if_neg q, if_pos (by simp [q])]
      · have e2 : bit set i = false := by cases hh : bit set i; rfl; exact absurd hh e
        rw [if_pos ((bit_n0 _ _).mpr e2), e2, Bool.false_and, if_neg (by decide)]
        rfl
    · rw [L_X8_weigh_5_s, X_cells h]
      simp (disch := omega) only [Option.bind_some, bd_some, eqL, leL, ltL, Lle, Llt, addL, Ladd, Lmul, mulL, nIle, nIlt, nIeq, nI_add, pk_mul]
      rw [if_pos (by omega)]
  have cp : cpA (sI (sI μ 107 0 (nI (wrongs γ set))) 107 2 (nI st)) 109 5 0 108 5 0 (mI (sI (sI μ 107 0 (nI (wrongs γ set))) 107 2 (nI st)) 107 4) = some (cpR (sI (sI μ 107 0 (nI (wrongs γ set))) 107 2 (nI st)) 109 108 n) := by
    have : mI (sI (sI μ 107 0 (nI (wrongs γ set))) 107 2 (nI st)) 107 4 = nI n := h4
    rw [this]
    exact cpA_n (s := 0) (t := 0) (by omega) (by omega) (by omega) (by omega)
  have tS : SXr (cpR (sI (sI μ 107 0 (nI (wrongs γ set))) 107 2 (nI st)) 109 108 n) n (some (wrongs γ set), st, tr) := ⟨rfl, rfl, fun i hi => by rw [cpR_at hi]; exact htr i hi⟩
  have tA : Ag (fun a i => (a = 107 ∧ (i = 0 ∨ i = 2)) ∨ a = 108) μ (cpR (sI (sI μ 107 0 (nI (wrongs γ set))) 107 2 (nI st)) 109 108 n) := ((Ag.sI (Or.inl ⟨rfl, Or.inl rfl⟩)).tr (Ag.sI (Or.inl ⟨rfl, Or.inr rfl⟩))).tr (cpR_ag (fun _ => Or.inr rfl))
  have yes : tkR S (wrongs γ set) st = true → wgR set γ tr st S = (some (wrongs γ set), st, tr) := fun q => by unfold wgR; rw [if_pos q]
  have no : ¬ tkR S (wrongs γ set) st = true → wgR set γ tr st S = S := fun q => by unfold wgR; rw [if_neg q]
  unfold f_X8_weigh
  rw [lp, cp]
  cases hs1 : S.1 with
  | none =>
    have hS2 := hS
    unfold SXr at hS2
    rw [hs1] at hS2
    have hy : tkR S (wrongs γ set) st = true := by unfold tkR; rw [hs1]
    rw [hS2, if_pos ((nIlt (by omega) (by omega)).mpr (by omega)), yes hy]
    exact ⟨_, rfl, tS, tA⟩
  | some m =>
    have hS2 := hS
    unfold SXr at hS2
    rw [hs1] at hS2
    have hm := hok.1 m hs1
    have hms := hok.2
    have htk : tkR S (wrongs γ set) st = (decide (wrongs γ set < m) || (decide (wrongs γ set = m) && decide (S.2.1 < st))) := by unfold tkR; rw [hs1]
    rw [hS2.1, hS2.2.1]
    by_cases e1 : wrongs γ set < m
    · have hy : tkR S (wrongs γ set) st = true := by rw [htk, decide_eq_true e1]; rfl
      rw [if_pos ((nIlt (by omega) (by omega)).mpr e1), yes hy]
      exact ⟨_, rfl, tS, tA⟩
    · rw [if_neg (fun z => e1 ((nIlt (by omega) (by omega)).mp z))]
      by_cases e2 : wrongs γ set = m
      · rw [if_pos (by rw [e2])]
        by_cases e3 : S.2.1 < st
        · have hy : tkR S (wrongs γ set) st = true := by rw [htk, decide_eq_true e2, decide_eq_true e3]; simp
          rw [if_neg (fun z => by have := (nIle (by omega) (by omega)).mp z; omega), yes hy]
          exact ⟨_, rfl, tS, tA⟩
        · have hn0 : ¬ tkR S (wrongs γ set) st = true := by rw [htk, decide_eq_false e1, decide_eq_false e3]; simp
          rw [if_pos ((nIle (by omega) (by omega)).mpr (by omega)), no hn0]
          exact ⟨μ, rfl, hS, Ag.rf⟩
      · have hn0 : ¬ tkR S (wrongs γ set) st = true := by rw [htk, decide_eq_false e1, decide_eq_false e2]; simp
        rw [if_neg (fun z => e2 ((nIeq (by omega) (by omega)).mp z)), no hn0]
        exact ⟨μ, rfl, hS, Ag.rf⟩
/-- places of the class's search from depth k on -/
def PX (k a i : Nat) : Prop := (a = 107 ∧ (i = 0 ∨ i = 2)) ∨ a = 108 ∨ (a = 109 ∧ k ≤ i) ∨ (112 + k ≤ a ∧ a ≤ 116) ∨ (119 + k ≤ a ∧ a ≤ 123) ∨ (125 + k ≤ a ∧ a ≤ 130)
def PY (k a i : Nat) : Prop := (a = 107 ∧ (i = 0 ∨ i = 2)) ∨ a = 108 ∨ (a = 109 ∧ k ≤ i) ∨ (112 + k ≤ a ∧ a ≤ 116) ∨ (119 + k ≤ a ∧ a ≤ 123) ∨ (126 + k ≤ a ∧ a ≤ 130)
theorem X_tryStep (w : WF β) (hF : 2000000 ≤ F) (hb : b + 12 ≤ 107) (h0 : 0 < β 0) {set : Int32} {n : Nat} (hn : n ≤ 5) : ∀ (r D k st : Nat) (γ tr : Nat → Nat) (S : RS) (μ : Mm), r < D → k + r = n → st ≤ k → WF γ → Kp γ β → γ 5 + r ≤ 20000 → BX μ b β → mI μ 107 3 = set → mI μ 107 4 = nI n → Row μ (111 + k) (cl β) (fun i => γ (13 + i)) → Row μ (118 + k) (cl β) (fun i => γ (63 + i)) → (∀ i, i < k → mA μ 109 i = nI (tr i)) → SXr μ n S → RSok S → ∃ ν, t_X8_tryStep F D b (nI k) (nI (γ 7)) (nI st) μ = some ν ∧ SXr ν n (rdS set r γ tr k st S) ∧ RSok (rdS set r γ tr k st S) ∧ Ag (PX k) μ ν := by
  have hc := w.cl_le
  intro r
  induction r with
  | zero =>
    intro D k st γ tr S μ hD hk hst wg K h5 hx h3 h4 rd rt ht hS hok
    obtain ⟨D, rfl⟩ : ∃ q, D = q + 1 := ⟨D - 1, by omega⟩
    have hkn : k = n := by omega
    subst hkn
    obtain ⟨ν, e1, e2, e3⟩ := X_weigh hx w hF wg K hn rd h3 h4 (st := st) (by omega) ht hS hok
    refine ⟨ν, ?_, e2, wgR_ok wg (by omega) hok, e3.mono (fun a i q => by unfold PX; omega)⟩
    rw [t_X8_tryStep_s]
    unfold f_X8_tryStep
    rw [h4, if_neg (fun z => by have := (nIlt (by omega) (by omega)).mp z; omega), e1]
    rfl
  | succ r ih =>
    intro D k st γ tr S μ hD hk hst wg K h5 hx h3 h4 rd rt ht hS hok
    obtain ⟨D, rfl⟩ : ∃ q, D = q + 1 := ⟨D - 1, by omega⟩
    have hcl := Kp_cl K
    have hs7 : γ 7 < cl β := by rw [← hcl]; exact wg.st (by rw [K 0 (by omega)]; exact h0) rfl
    have d9 : ∀ i, i < cl β → γ (13 + i) ≤ 9 := fun i hi => (wg.2.2.1 i (by omega)).1
    have t9 : ∀ i, i < cl β → γ (63 + i) ≤ 9 := fun i hi => (wg.2.2.1 i (by omega)).2.2
    have hdr := X_drift (F := F) (o := 125 + k) hx w hF rd d9 rt t9 (by omega) (by omega) (fun i hi => by omega)
    obtain ⟨μ1, hμ1⟩ : ∃ μ1, μ1 = putA μ (125 + k) (fun i => nI (drfR β (fun i => γ (13 + i)) (fun i => γ (63 + i)) i)) 0 (cl β) := ⟨_, rfl⟩
    rw [← hμ1] at hdr
    have A1 : Ag (fun a _ => a = 125 + k) μ μ1 := by rw [hμ1]; exact putA_ag (fun _ _ _ => rfl)
    have U1 : Row μ1 (125 + k) (cl β) (drfR β (fun i => γ (13 + i)) (fun i => γ (63 + i))) := fun i hi => by rw [hμ1, putA_mA, if_pos (by omega)]
    rw [t_X8_tryStep_s]
    unfold f_X8_tryStep
    rw [h4, if_pos ((nIlt (by omega) (by omega)).mpr (by omega)), rdE_R0 (by omega), rdE_R1 (by omega), rdE_R2 (by omega)]
    simp only [Option.bind_some]
    rw [hdr, bd_some]
    let fs : Nat → RS → RS := fun v S => match wayF γ (γ 7) v with | none => S | some j => rdS set r (hourB (stB γ j)) (updN tr k v) (k + 1) (st + (if v = 4 then 1 else 0)) S
    have step : ∀ v v5 ν, v < 5 → (v5 = nI v ∧ SXr ν n (foldF fs 0 v S) ∧ RSok (foldF fs 0 v S) ∧ Ag (PY k) μ1 ν) → ∃ v5' ν', (v5' = nI (v + 1) ∧ SXr ν' n (foldF fs 0 (v + 1) S) ∧ RSok (foldF fs 0 (v + 1) S) ∧ Ag (PY k) μ1 ν') ∧ ∀ m, L_X8_tryStep_42 F (t_X8_tryStep F D) b (nI k) (nI (γ 7)) (nI st) (fun μ19 => some μ19) (m + 1) v5 ν = L_X8_tryStep_42 F (t_X8_tryStep F D) b (nI k) (nI (γ 7)) (nI st) (fun μ19 => some μ19) m v5' ν' := by
      rintro v v5 ν hv ⟨rfl, q1, q2, q3⟩
      have hfn : foldF fs 0 (v + 1) S = fs v (foldF fs 0 v S) := by rw [foldF_n, Nat.zero_add]
      have n4 : ¬ (4 : Int32) < nI v := fun z => by have z2 : 4 < v := (Llt (n := 4) (by omega) (by decide)).mp z; omega
      have hxν : BX ν b β := (hx.ag A1 (fun i hi _ => by omega)).ag q3 (fun i hi _ => by unfold PY; omega)
      have xg := X_gone hxν w hs7 (v := v) (by omega)
      rw [← Kp_way K] at xg
      cases hw : wayF γ (γ 7) v with
      | none =>
        have hfs : fs v (foldF fs 0 v S) = foldF fs 0 v S := by show (match wayF γ (γ 7) v with | none => _ | some j => _) = _; rw [hw]
        rw [hw] at xg
        rw [hfn, hfs]
        refine ⟨nI (v + 1), ν, ⟨rfl, q1, q2, q3⟩, fun m => ?_⟩
        rw [L_X8_tryStep_42_s, if_neg n4, xg, Option.bind_some, if_pos oI_none, nI_1]
      | some j =>
        have hfs : fs v (foldF fs 0 v S) = rdS set r (hourB (stB γ j)) (updN tr k v) (k + 1) (st + (if v = 4 then 1 else 0)) (foldF fs 0 v S) := by show (match wayF γ (γ 7) v with | none => _ | some j => _) = _; rw [hw]
        have hj : j < cl β := by rw [← hcl]; exact wayF_lt wg (by rw [hcl]; exact hs7) hw
        rw [hw, oI_some] at xg
        have w109 : wrA ν 109 5 (nI k) (nI v) = some (sA ν 109 k (nI v)) := wrA_n (by omega) (by omega)
        have A2 : Ag (PY k) μ1 (sA ν 109 k (nI v)) := q3.tr (Ag.sA (by unfold PY; omega))
        have hx2 : BX (sA ν 109 k (nI v)) b β := hxν.ag (P := fun a _ => a = 109) (Ag.sA rfl) (fun i hi _ => by omega)
        have D2 : Row (sA ν 109 k (nI v)) (111 + k) (cl β) (fun i => γ (13 + i)) := fun i hi => by rw [A2.a (by unfold PY; omega), A1.a (by omega)]; exact rd i hi
        have T2 : Row (sA ν 109 k (nI v)) (118 + k) (cl β) (fun i => γ (63 + i)) := fun i hi => by rw [A2.a (by unfold PY; omega), A1.a (by omega)]; exact rt i hi
        have U2 : Row (sA ν 109 k (nI v)) (125 + k) (cl β) (drfR β (fun i => γ (13 + i)) (fun i => γ (63 + i))) := fun i hi => by rw [A2.a (by unfold PY; omega)]; exact U1 i hi
        obtain ⟨ν2, p1, p2, p3, p4⟩ := X_tapAndPass hx2 w hF hb (k := k) (by omega) hj D2 T2 t9 U2
        have hst' : (if nI v = 4 then (nI st + (1 : Int32)) else nI st) = nI (st + (if v = 4 then 1 else 0)) := by
          by_cases e : v = 4
          · rw [if_pos (by rw [e]; rfl), if_pos e, nI_1]
          · rw [if_neg (fun z => e ((eqL (n := 4) (by omega) (by decide)).mp z)), if_neg e]; rfl
        have wg2 : WF (hourB (stB γ j)) := hst_wf wg (by rw [hcl]; exact hj) (by omega)
        have K2 : Kp (hourB (stB γ j)) β := Kp_hst K wg (by omega)
        have rd2 : Row ν2 (111 + (k + 1)) (cl β) (fun i => hourB (stB γ j) (13 + i)) := fun i hi => by
          rw [show 111 + (k + 1) = 112 + k by omega]
          exact (p2 i hi).trans (congrArg nI (hst_d wg w K hj hi).symm)
        have rt2 : Row ν2 (118 + (k + 1)) (cl β) (fun i => hourB (stB γ j) (63 + i)) := fun i hi => by
          rw [show 118 + (k + 1) = 119 + k by omega]
          exact (p3 i hi).trans (congrArg nI (hst_t wg K hi).symm)
        obtain ⟨ν3, r1, r2, r3, r4⟩ := ih D (k + 1) (st + (if v = 4 then 1 else 0)) (hourB (stB γ j)) (updN tr k v) (foldF fs 0 v S) ν2 (by omega) (by omega) (by split <;> omega) wg2 K2 (by rw [hst_5]; omega) (hx2.ag p4 (fun i hi _ => by omega)) (by rw [p4.i (by omega), A2.i (by unfold PY; omega), A1.i (by omega)]; exact h3) (by rw [p4.i (by omega), A2.i (by unfold PY; omega), A1.i (by omega)]; exact h4) rd2 rt2 (fun i hi => by
          rw [p4.a (by omega), mA_sA, if_pos rfl]
          by_cases e : i = k
          · rw [if_pos e, e, updN_eq]
          · rw [if_neg e, updN_ne e, q3.a (by unfold PY; omega), A1.a (by omega)]; exact ht i (by omega)) (SXr_ag (SXr_ag q1 (Ag.sA (P := fun a _ => a = 109) rfl) (by omega) (by omega) (fun i => by omega)) p4 (by omega) (by omega) (fun i => by omega)) q2
        rw [hfn, hfs]
        refine ⟨nI (v + 1), ν3, ⟨rfl, r2, r3, (A2.tr (p4.mono (fun a i q => by unfold PY; omega))).tr (r4.mono (fun a i q => by unfold PX at q; unfold PY; omega))⟩, fun m => ?_⟩
        rw [hst_7] at r1
        rw [L_X8_tryStep_42_s, if_neg n4, xg, Option.bind_some, if_neg (by rw [neg_ne (by omega)]; exact id), w109, Option.bind_some, p1, Option.bind_some, nI_1, hst', r1, Option.bind_some, nI_1]
    obtain ⟨v5, ν, m, ⟨z1, z2, z3, z4⟩, e⟩ := iterI2 (L := L_X8_tryStep_42 F (t_X8_tryStep F D) b (nI k) (nI (γ 7)) (nI st) (fun μ19 => some μ19)) (F := F) (N := 5) _ (by omega) step (a := 0) (b := μ1) ⟨rfl, SXr_ag hS A1 (by omega) (by omega) (fun i => by omega), hok, Ag.rf⟩
    refine ⟨ν, ?_, z2, z3, (A1.mono (fun a i q => by unfold PX; omega)).tr (z4.mono (fun a i q => by unfold PY at q; unfold PX; omega))⟩
    rw [e, L_X8_tryStep_42_s, z1, if_pos (by decide)]
/-- the class's search -/
theorem X_seekR (h : BX μ b β) (w : WF β) (hF : 2000000 ≤ F) (hb : b + 12 ≤ 107) (h0 : 0 < β 0) (h5 : β 5 ≤ 9999) {set : Int32} {n : Nat} (hn : n ≤ 5) : ∃ ν, f_X8_seek F b set (nI n) μ = some ν ∧ SXr ν n (rdS set n β (fun _ => 0) 0 0 (none, 0, fun _ => 0)) ∧ RSok (rdS set n β (fun _ => 0) 0 0 (none, 0, fun _ => 0)) ∧ Ag (fun a _ => 107 ≤ a ∧ a ≤ 130) μ ν := by
  have hc := w.cl_le
  obtain ⟨μ0, hμ0⟩ : ∃ μ0, μ0 = sI (sI (sI (sI μ 107 3 set) 107 4 (nI n)) 107 0 26) 107 2 0 := ⟨_, rfl⟩
  have A0 : Ag (fun a _ => a = 107) μ μ0 := by rw [hμ0]; exact (((Ag.sI (P := fun a _ => a = 107) rfl).tr (Ag.sI rfl)).tr (Ag.sI rfl)).tr (Ag.sI rfl)
  obtain ⟨μ1, hμ1⟩ : ∃ μ1, μ1 = cpR (cpR μ0 (b + 8) 111 25) (b + 10) 118 25 := ⟨_, rfl⟩
  have A1 : Ag (fun a _ => a = 111 ∨ a = 118) μ0 μ1 := by rw [hμ1]; exact (cpR_ag (fun _ => Or.inl rfl)).tr (cpR_ag (fun _ => Or.inr rfl))
  have h1 : BX μ1 b β := (h.ag A0 (fun i hi _ => by omega)).ag A1 (fun i hi _ => by omega)
  have rd : Row μ1 (111 + 0) (cl β) (fun i => β (13 + i)) := fun i hi => by rw [hμ1, cpR_ne (by omega), cpR_at (by omega), A0.a (by omega)]; exact h.digits i hi
  have rt : Row μ1 (118 + 0) (cl β) (fun i => β (63 + i)) := fun i hi => by rw [hμ1, show 118 + 0 = 118 from rfl, cpR_at (by omega), cpR_ne (by omega), A0.a (by omega)]; exact h.taps i hi
  obtain ⟨ν, e1, e2, e3, e4⟩ := X_tryStep (b := b) w hF hb h0 (set := set) hn n 9 0 0 β (fun _ => 0) (none, 0, fun _ => 0) μ1 (by omega) (by omega) (by omega) w Kp_rf (by omega) h1 (by rw [A1.i (by omega), hμ0]; rfl) (by rw [A1.i (by omega), hμ0]; rfl) rd rt (fun i hi => by omega) (by show mI μ1 107 0 = nI 26; rw [A1.i (by omega), hμ0]; rfl) ⟨fun m q => (by cases q), (by show (0 : Nat) ≤ 5; omega)⟩
  refine ⟨ν, ?_, e2, e3, ((A0.mono (fun a _ q => by omega)).tr (A1.mono (fun a _ q => by omega))).tr (e4.mono (fun a i q => by unfold PX at q; omega))⟩
  unfold f_X8_seek
  have m5 : f_J9_min_7cf53 (nI n) 5 (sI μ 107 3 set) = some (nI n) := by
    unfold f_J9_min_7cf53
    rw [if_neg (fun z => by have z2 : 5 < n := (Llt (n := 5) (by omega) (by decide)).mp z; omega)]
  have st : mI μ1 b 4 = nI (β 7) := h1.stand
  have c1 : cpA μ0 (b + 8) 25 0 111 25 0 25 = some (cpR μ0 (b + 8) 111 25) := cpA_25
  have c2 : cpA (cpR μ0 (b + 8) 111 25) (b + 10) 25 0 118 25 0 25 = some (cpR (cpR μ0 (b + 8) 111 25) (b + 10) 118 25) := cpA_25
  rw [m5, Option.bind_some, show rdE 110 6 0 = some 111 from rdE_R0 (m := 0) (by omega), Option.bind_some, ← hμ0, c1, Option.bind_some, show rdE 117 6 0 = some 118 from rdE_R1 (m := 0) (by omega), Option.bind_some, c2, ← hμ1, Option.bind_some, st]
  rw [nI_0] at e1
  rw [e1]
  rfl
/-- the reference's search -/
theorem M_laysRound (h : CB μ β) (w : WF β) (hF : 2000000 ≤ F) (h0 : 0 < β 0) (h5 : β 5 ≤ 9999) {set : Int32} {n : Nat} (hn : n ≤ 5) : ∃ ν, f_X12_laysRound F set (nI n) μ = some ν ∧ CB ν β ∧ SMr ν n (rdS set n β (fun _ => 0) 0 0 (none, 0, fun _ => 0)) ∧ Ag (PW 0) μ ν := by
  obtain ⟨ν, e1, e2, e3, e4, e5⟩ := M_walks hF (set := set) hn n 9 0 0 β (fun _ => 0) (none, 0, fun _ => 0) (sI μ 141 31 (-1)) (by omega) (by omega) (by omega) w h0 (by omega) (h.at rfl) (fun i hi => by omega) (show mI (sI μ 141 31 (-1)) 141 31 = -1 from rfl) ⟨fun m q => (by cases q), (by show (0 : Nat) ≤ 5; omega)⟩
  refine ⟨ν, ?_, e2, e3, (Ag.sI (Or.inl ⟨rfl, Or.inl rfl⟩)).tr e5⟩
  rw [nI_0] at e1
  unfold f_X12_laysRound
  rw [e1]
  rfl
theorem is_within (v a c : Int32) (μ ν : Mm) : f_X12_isIn v.toInt64 a.toInt64 c.toInt64 ν = f_X11_within v a c μ := by
  rw [isIn_eq, within_eq]
  congr 1
  apply decide_eq_decide.mpr
  rw [fa_le64, fa_le64, fa_le, fa_le, Int32.toInt_toInt64, Int32.toInt_toInt64, Int32.toInt_toInt64]
/-- why there is no round -/
def setOk (β : Nat → Nat) (v : Int32) : Bool := decide ((0 : Int32) ≤ v ∧ v ≤ ((1 : Int32) <<< (nI (cl β) &&& 31)) - 1)
def whyR (β : Nat → Nat) (v1 v2 : Int32) : Int32 := if inR v2 1 5 = true then (if setOk β v1 = true then (if β 0 = 0 then 8 else 0) else 5) else 5
theorem X_lookAtRound (h : R μ) (bx : BX μ (mR μ 0) β) (w : WF β) (v1 v2 : Int32) : f_X11_lookAtRound v1 v2 μ = some (whyR β v1 v2) := by
  have w0 := w.1.1
  unfold f_X11_lookAtRound whyR
  rw [within_L (by decide) (by decide), Option.bind_some]
  by_cases e : inR v2 1 5 = true
  · rw [if_pos e, if_pos e, h.gb, Option.bind_some, X_cells bx, Option.bind_some, within_eq, Option.bind_some]
    show (if setOk β v1 = true then _ else _) = _
    by_cases e2 : setOk β v1 = true
    · rw [if_pos e2, if_pos e2, Option.bind_some, bx.acc]
      simp (disch := omega) only [Option.bind_some, bd_some, eqL, leL, ltL, Lle, Llt, addL, Ladd, Lmul, mulL, nIle, nIlt, nIeq, nI_add, pk_mul]
    · rw [if_neg e2, if_neg e2]
  · rw [if_neg e, if_neg e]
theorem M_whyNoRound (h : CB μ β) (w : WF β) (v1 v2 : Int32) : f_X12_whyNoRound v1 v2 μ = some (whyR β v1 v2) := by
  have w0 := w.1.1
  unfold f_X12_whyNoRound whyR
  rw [M_cells h, Option.bind_some, show (0 : Int64) = (0 : Int32).toInt64 from rfl, is_within v1 0 _ μ μ, within_eq, Option.bind_some, isIn_L (by decide) (by decide), Option.bind_some]
  show (if setOk β v1 = true then _ else _) = _
  by_cases e2 : setOk β v1 = true
  · rw [if_pos e2, if_pos e2]
    by_cases e : inR v2 1 5 = true
    · rw [if_pos e, if_pos e, h.rl 0 (by omega), Option.bind_some]
      simp (disch := omega) only [Option.bind_some, bd_some, eqL, leL, ltL, Lle, Llt, addL, Ladd, Lmul, mulL, nIle, nIlt, nIeq, nI_add, pk_mul]
    · rw [if_neg e, if_neg e]
  · rw [if_neg e2, if_neg e2]
    split <;> rfl
theorem whyR_0 {v1 v2 : Int32} (h : whyR β v1 v2 = 0) : inR v2 1 5 = true ∧ 0 < β 0 := by
  unfold whyR at h
  by_cases e : inR v2 1 5 = true
  · refine ⟨e, ?_⟩
    rw [if_pos e] at h
    by_cases e2 : setOk β v1 = true
    · rw [if_pos e2] at h
      by_cases e3 : β 0 = 0
      · rw [if_pos e3] at h; exact absurd h (by decide)
      · omega
    · rw [if_neg e2] at h; exact absurd h (by decide)
  · rw [if_neg e] at h; exact absurd h (by decide)
theorem whyR_pos {v1 v2 : Int32} : whyR β v1 v2 = 0 ∨ ¬ whyR β v1 v2 ≤ 0 := by
  unfold whyR
  split
  · split
    · split
      · right; decide
      · left; rfl
    · right; decide
  · right; decide
theorem rdS_m {set : Int32} {n : Nat} {γ tr : Nat → Nat} {k st : Nat} {S : RS} : ∃ m, (rdS set n γ tr k st S).1 = some m := by
  cases h : (rdS set n γ tr k st S).1 with
  | none => exact absurd h (rdS_some n)
  | some m => exact ⟨m, rfl⟩
theorem PW_SM {μ ν : Mm} (h : Ag (PW 0) μ ν) : Ag SM μ ν := h.mono (fun a i q => by unfold PW at q; unfold SM; omega)
theorem op_round (h : R μ) (hF : 2000000 ≤ F) (v1 v2 : Int32) : Sm (f_X11_round F v1 v2) (f_X12_round F v1 v2) μ := by
  obtain ⟨β, nm, ω, σ, pg⟩ := h.pg
  have W := pg.wf
  have bx := pg.bx
  have gb := h.gb
  have hrp := h.rp
  unfold RefP at hrp
  have xl := X_lookAtRound h bx W v1 v2
  rcases whyR_pos (β := β) (v1 := v1) (v2 := v2) with e | e
  · obtain ⟨e2, h0⟩ := whyR_0 e
    obtain ⟨n, -, hn, -, rfl⟩ := inR_of e2
    obtain ⟨m, hm⟩ := rdS_m (set := v1) (n := n) (γ := β) (tr := fun _ => 0) (k := 0) (st := 0) (S := (none, 0, fun _ => 0))
    obtain ⟨ν, x1, x2, x3, x4⟩ := X_seekR bx W hF (by omega) h0 pg.hr (set := v1) hn
    unfold SXr at x2
    rw [hm] at x2
    refine h.v pg 0 (nI m) (ν := ν) (β' := β) ?_ (bx.ag x4 (fun i hi _ => by omega)) (x4.mono (fun a i q => by unfold S2 S1 SC; omega)) (x4.mono (fun a i q => by omega)) (fun ξ hξ => ?_) W pg.hr rfl rfl
    · unfold f_X11_round
      rw [xl, Option.bind_some, if_pos e, gb, Option.bind_some, x1, Option.bind_some, x2.1]
      rfl
    · have hc2 : CB (sI ξ 141 1 0) β := hξ.at rfl
      have hc3 : CB (sI (sI ξ 141 1 0) 141 0 0) β := hξ.at rfl
      obtain ⟨ζ, z1, z2, z3, z4⟩ := M_laysRound hc3 W hF h0 pg.hr (set := v1) hn
      unfold SMr at z3
      rw [hm] at z3
      refine ⟨ζ, ?_, ?_, z2, SM_0.tr (PW_SM z4)⟩
      · unfold f_X12_round
        rw [M_whyNoRound hc2 W, Option.bind_some, e, if_pos (show mI (sI (sI ξ 141 1 0) 141 0 0) 141 0 ≤ 0 by show (0 : Int32) ≤ 0; decide), z1, Option.bind_some, z3.1]
      · rw [z4.i (by unfold PW; omega)]; rfl
  · refine h.q (whyR β v1 v2) (-1) ?_ ?_
    · unfold f_X11_round
      rw [xl, Option.bind_some, if_neg (fun z => e (by rw [z]; decide))]
      rfl
    · unfold f_X12_round
      have hc2 : CB (sI (sI μ 0 0 (whyR β v1 v2)) 141 1 0) β := pg.c0.at rfl
      rw [M_whyNoRound hc2 W, Option.bind_some, if_neg (show ¬ mI (sI (sI (sI μ 0 0 (whyR β v1 v2)) 141 1 0) 141 0 (whyR β v1 v2)) 141 0 ≤ 0 from e)]
      exact QM_s
theorem op_roundAt (h : R μ) (hF : 2000000 ≤ F) (v1 v2 v3 : Int32) : Sm (f_X11_roundAt F v1 v2 v3) (f_X12_roundAt F v1 v2 v3) μ := by
  obtain ⟨β, nm, ω, σ, pg⟩ := h.pg
  have W := pg.wf
  have bx := pg.bx
  have gb := h.gb
  have hrp := h.rp
  unfold RefP at hrp
  have xl := X_lookAtRound h bx W v1 v2
  have r2 := fb_rng v2
  have r3 := fb_rng v3
  have isr : ∀ ξ, f_X12_isIn (v3.toInt64) 0 ((v2.toInt64) - (1 : Int64)) ξ = some (decide (0 ≤ v3.toInt ∧ v3.toInt < v2.toInt)) := by
    intro ξ
    rw [isIn_eq]
    congr 1
    apply decide_eq_decide.mpr
    have : (v2.toInt64 - 1).toInt = v2.toInt - 1 := by
      rw [Int64.toInt_sub, Int32.toInt_toInt64, show (1 : Int64).toInt = 1 by decide]
      exact Int.bmod_eq_of_le (by omega) (by omega)
    rw [fa_le64, fa_le64, Int32.toInt_toInt64, this, show (0 : Int64).toInt = 0 by decide]
    omega
  by_cases g : 0 ≤ v3.toInt ∧ v3.toInt < v2.toInt
  · have nle : ¬ v2 ≤ v3 := by rw [fa_le]; omega
    rcases whyR_pos (β := β) (v1 := v1) (v2 := v2) with e | e
    · obtain ⟨e2, h0⟩ := whyR_0 e
      obtain ⟨n, -, hn, hn3, rfl⟩ := inR_of e2
      rw [nI_ti hn3] at g
      obtain ⟨k, hk, rfl⟩ : ∃ k, k < n ∧ v3 = nI k := ⟨v3.toInt.toNat, by omega, by apply Int32.toInt_inj.mp; rw [nI_ti (by omega)]; omega⟩
      obtain ⟨m, hm⟩ := rdS_m (set := v1) (n := n) (γ := β) (tr := fun _ => 0) (k := 0) (st := 0) (S := (none, 0, fun _ => 0))
      obtain ⟨ν, x1, x2, x3, x4⟩ := X_seekR bx W hF (by omega) h0 pg.hr (set := v1) hn
      unfold SXr at x2
      rw [hm] at x2
      refine h.v pg 0 (nI ((rdS v1 n β (fun _ => 0) 0 0 (none, 0, fun _ => 0)).2.2 k)) (ν := ν) (β' := β) ?_ (bx.ag x4 (fun i hi _ => by omega)) (x4.mono (fun a i q => by unfold S2 S1 SC; omega)) (x4.mono (fun a i q => by omega)) (fun ξ hξ => ?_) W pg.hr rfl rfl
      · unfold f_X11_roundAt
        simp only [jn]
        rw [within_L (by decide) (by decide), Option.bind_some]
        rw [inR_k (by omega) (by omega) (by omega), if_pos rfl, if_neg nle, xl, Option.bind_some, if_pos e, gb, Option.bind_some, x1, Option.bind_some, rdA_n (by omega) (by omega), x2.2.2 k hk]
        rfl
      · have hc2 : CB (sI ξ 141 1 0) β := hξ.at rfl
        have hc3 : CB (sI (sI ξ 141 1 0) 141 0 0) β := hξ.at rfl
        obtain ⟨ζ, z1, z2, z3, z4⟩ := M_laysRound hc3 W hF h0 pg.hr (set := v1) hn
        unfold SMr at z3
        rw [hm] at z3
        refine ⟨ζ, ?_, ?_, z2, SM_0.tr (PW_SM z4)⟩
        · unfold f_X12_roundAt
          simp only [jn]
          rw [isr, Option.bind_some, decide_eq_true (by rw [nI_ti (by omega), nI_ti (by omega)]; omega)]
          rw [if_pos rfl, M_whyNoRound hc2 W, Option.bind_some, e, if_pos (show mI (sI (sI ξ 141 1 0) 141 0 0) 141 0 ≤ 0 by show (0 : Int32) ≤ 0; decide), z1, Option.bind_some, rdA_n (by omega) (by omega), z3.2.2 k hk]
          rfl
        · rw [z4.i (by unfold PW; omega)]; rfl
    · refine h.q (whyR β v1 v2) (-1) ?_ ?_
      · unfold f_X11_roundAt
        simp only [jn]
        rw [within_L (by decide) (by decide), Option.bind_some]
        by_cases q : inR v3 0 4 = true
        · rw [if_pos q, if_neg nle, xl, Option.bind_some, if_neg (fun z => e (by rw [z]; decide))]
          rfl
        · have : ¬ inR v2 1 5 = true := fun z => by
            unfold inR at q z
            have z2 := of_decide_eq_true z
            have q2 := of_decide_eq_false (bf0 q)
            omega
          have w5 : whyR β v1 v2 = 5 := by unfold whyR; rw [if_neg this]
          rw [if_neg q, w5]
          rfl
      · unfold f_X12_roundAt
        simp only [jn]
        have hc2 : CB (sI (sI μ 0 0 (whyR β v1 v2)) 141 1 0) β := pg.c0.at rfl
        rw [isr, Option.bind_some, decide_eq_true g]
        rw [if_pos rfl, M_whyNoRound hc2 W, Option.bind_some, if_neg (show ¬ mI (sI (sI (sI μ 0 0 (whyR β v1 v2)) 141 1 0) 141 0 (whyR β v1 v2)) 141 0 ≤ 0 from e)]
        exact QM_s
  · refine h.q 5 (-1) ?_ ?_
    · unfold f_X11_roundAt
      simp only [jn]
      rw [within_L (by decide) (by decide), Option.bind_some]
      by_cases q : inR v3 0 4 = true
      · rw [if_pos q, if_pos (by
          unfold inR at q
          have q2 := of_decide_eq_true q
          rw [fa_le]
          omega)]
        rfl
      · rw [if_neg q]
        rfl
    · unfold f_X12_roundAt
      simp only [jn]
      rw [isr, Option.bind_some, decide_eq_false g]
      rw [if_neg (by decide)]
      exact QM_s
end ROUNDX
