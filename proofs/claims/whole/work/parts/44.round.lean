/-! ===== rounds ===== -/
abbrev RS : Type := Option Nat × Nat × (Nat → Nat)
def tkR (S : RS) (wr st : Nat) : Bool := match S.1 with | none => true | some m => decide (wr < m) || (decide (wr = m) && decide (S.2.1 < st))
def wgR (set : Int32) (γ : Nat → Nat) (tr : Nat → Nat) (st : Nat) (S : RS) : RS := if tkR S (wrongs γ set) st = true then (some (wrongs γ set), st, tr) else S
def rdS (set : Int32) : Nat → (Nat → Nat) → (Nat → Nat) → Nat → Nat → RS → RS
  | 0, γ, tr, _, st, S => wgR set γ tr st S
  | r + 1, γ, tr, k, st, S => foldF (fun v S => match wayF γ (γ 7) v with | none => S | some j => rdS set r (hourB (stB γ j)) (updN tr k v) (k + 1) (st + (if v = 4 then 1 else 0)) S) 0 5 S
theorem wgR_some {set : Int32} {γ tr : Nat → Nat} {st : Nat} {S : RS} : (wgR set γ tr st S).1 ≠ none := by
  unfold wgR
  split
  · simp
  · rename_i h
    unfold tkR at h
    cases hs : S.1 with
    | none => rw [hs] at h; simp at h
    | some m => simp
theorem rdS_keep {set : Int32} : ∀ (r : Nat) {γ tr : Nat → Nat} {k st : Nat} {S : RS}, S.1 ≠ none → (rdS set r γ tr k st S).1 ≠ none
  | 0, γ, tr, k, st, S, _ => wgR_some
  | r + 1, γ, tr, k, st, S, h => by
    show (foldF _ 0 5 S).1 ≠ none
    refine foldF_inv (P := fun S : RS => S.1 ≠ none) h (fun v S' _ _ hS => ?_)
    cases wayF γ (γ 7) v with
    | none => exact hS
    | some j => exact rdS_keep r hS
theorem rdS_some {set : Int32} : ∀ (r : Nat) {γ tr : Nat → Nat} {k st : Nat} {S : RS}, (rdS set r γ tr k st S).1 ≠ none
  | 0, γ, tr, k, st, S => wgR_some
  | r + 1, γ, tr, k, st, S => by
    show (foldF _ 0 5 S).1 ≠ none
    rw [foldF_n]
    show (rdS set r _ _ _ _ _).1 ≠ none
    exact rdS_some r
/-- bounds of what is kept -/
def RSok (S : RS) : Prop := (∀ m, S.1 = some m → m ≤ 25) ∧ S.2.1 ≤ 5
theorem wrongs_le {γ : Nat → Nat} (w : WF γ) {set : Int32} : wrongs γ set ≤ 25 := by have := w.cl_le; have := cntF_le (p := fun k => bit set k && wrg γ k) (m := cl γ) (i := 0); unfold wrongs; omega
theorem wgR_ok {set : Int32} {γ tr : Nat → Nat} {st : Nat} {S : RS} (w : WF γ) (hs : st ≤ 5) (h : RSok S) : RSok (wgR set γ tr st S) := by
  unfold wgR
  split
  · exact ⟨fun m q => by cases q; exact wrongs_le w, hs⟩
  · exact h
theorem hst_wf {γ : Nat → Nat} (w : WF γ) {j : Nat} (hj : j < cl γ) (h5 : γ 5 + 1 ≤ 20000) : WF (hourB (stB γ j)) := (stB_wf w hj).hour (by rw [stB_5]; exact h5)
theorem hst_lo {γ : Nat → Nat} {i j : Nat} (h : i < 13) (h5 : i ≠ 5) (h7 : i ≠ 7) : hourB (stB γ j) i = γ i := by rw [hourB_lo h5 h, stB_lo h h7]
theorem hst_cl {γ : Nat → Nat} {j : Nat} : cl (hourB (stB γ j)) = cl γ := by rw [hourB_cl, stB_cl]
theorem hst_5 {γ : Nat → Nat} {j : Nat} : hourB (stB γ j) 5 = γ 5 + 1 := by rw [hourB_5, stB_5]
theorem hst_7 {γ : Nat → Nat} {j : Nat} : hourB (stB γ j) 7 = j := by rw [hourB_lo (by omega) (by omega), stB_7]
section ROUND
variable {μ : Mm} {b : Nat} {β : Nat → Nat} {F : Nat}
/-! the reference -/
def SMr (μ : Mm) (n : Nat) (S : RS) : Prop := match S.1 with
  | none => mI μ 141 31 = -1
  | some m => mI μ 141 31 = nI m ∧ mI μ 141 32 = nI S.2.1 ∧ ∀ i, i < n → mA μ 153 i = nI (S.2.2 i)
def PW (k a i : Nat) : Prop := (a = 141 ∧ (i = 31 ∨ i = 32)) ∨ (a = 146 ∧ i < 128) ∨ a = 150 ∨ (a = 151 ∧ 128 * k ≤ i) ∨ (a = 152 ∧ k ≤ i) ∨ a = 153
theorem SMr.ag {μ ν : Mm} {n : Nat} {S : RS} {P : Nat → Nat → Prop} (h : SMr μ n S) (e : Ag P μ ν) (h1 : ¬ P 141 31) (h2 : ¬ P 141 32) (h3 : ∀ i, ¬ P 153 i) : SMr ν n S := by
  unfold SMr at *
  cases hs : S.1 with
  | none => rw [hs] at h; show mI ν 141 31 = -1; rw [e.i h1]; exact h
  | some m =>
    rw [hs] at h
    exact ⟨by rw [e.i h1]; exact h.1, by rw [e.i h2]; exact h.2.1, fun i hi => by rw [e.a (h3 i)]; exact h.2.2 i hi⟩
theorem M_laysTurn {γ : Nat → Nat} (h : CB μ γ) (hF : 2000000 ≤ F) {k : Nat} (hk : k < 6) : f_X12_laysTurn F (nI k) μ = some (putA μ 151 (fun p => nI (γ (p - 128 * k))) (128 * k) 128) := by
  unfold f_X12_laysTurn
  refine iter2 (F := F) (L := L_X12_laysTurn_2 F (nI k) _) (fun i => nI i) (fun i => putA μ 151 (fun p => nI (γ (p - 128 * k))) (128 * k) i) (N := 128) (by omega) (fun i hi n => ?_) (fun n => ?_)
  · have hc : CB (putA μ 151 (fun p => nI (γ (p - 128 * k))) (128 * k) i) γ := h.at ((putA_ag (P := fun a _ => a = 151) (fun _ _ _ => rfl)).A (fun _ => by omega))
    rw [L_X12_laysTurn_2_s, putA_n]
    simp (disch := omega) only [Option.bind_some, bd_some, eqL, leL, ltL, Lle, Llt, addL, Ladd, Lmul, mulL, nIle, nIlt, nIeq, nI_add, pk_mul, hc.rd, wrA_n]
    rw [if_neg (by omega), show 128 * k + i - 128 * k = i by omega]
  · rw [L_X12_laysTurn_2_s]
    simp (disch := omega) only [Option.bind_some, bd_some, eqL, leL, ltL, Lle, Llt, addL, Ladd, Lmul, mulL, nIle, nIlt, nIeq, nI_add, pk_mul]
    rw [if_pos (by omega)]
theorem M_takesTurn {γ : Nat → Nat} {k : Nat} (h : ∀ i, i < 128 → mA μ 151 (128 * k + i) = nI (γ i)) (hF : 2000000 ≤ F) (hk : k < 6) : f_X12_takesTurn F (nI k) μ = some (putA μ 146 (fun k => nI (γ k)) 0 128) := by
  unfold f_X12_takesTurn
  refine iter2 (F := F) (L := L_X12_takesTurn_2 F (nI k) _) (fun i => nI i) (fun i => putA μ 146 (fun k => nI (γ k)) 0 i) (N := 128) (by omega) (fun i hi n => ?_) (fun n => ?_)
  · have hr : rdA (putA μ 146 (fun k => nI (γ k)) 0 i) 151 768 (nI (128 * k + i)) = some (nI (γ i)) := by rw [rdA_n (by omega) (by omega), putA_mA, if_neg (by omega), h i hi]
    rw [L_X12_takesTurn_2_s, putA_n, Nat.zero_add]
    simp (disch := omega) only [Option.bind_some, bd_some, eqL, leL, ltL, Lle, Llt, addL, Ladd, Lmul, mulL, nIle, nIlt, nIeq, nI_add, pk_mul, hr, wrA_n]
    rw [if_neg (by omega)]
  · rw [L_X12_takesTurn_2_s]
    simp (disch := omega) only [Option.bind_some, bd_some, eqL, leL, ltL, Lle, Llt, addL, Ladd, Lmul, mulL, nIle, nIlt, nIeq, nI_add, pk_mul]
    rw [if_pos (by omega)]
theorem M_bestL {n : Nat} (hn : n ≤ 5) {tr : Nat → Nat} (h : ∀ i, i < n → mA μ 152 i = nI (tr i)) (hF : 2000000 ≤ F) {rc : Int32 → Int32 → Int32 → Int32 → Mm → Option Mm} : L_X12_walks_62 F rc (nI n) (fun μ18 => some μ18) F 0 μ = some (putA μ 153 (fun i => nI (tr i)) 0 n) := by
  refine iter2 (F := F) (L := L_X12_walks_62 F rc (nI n) _) (fun i => nI i) (fun i => putA μ 153 (fun i => nI (tr i)) 0 i) (N := n) (by omega) (fun i hi m => ?_) (fun m => ?_)
  · have hr : rdA (putA μ 153 (fun i => nI (tr i)) 0 i) 152 5 (nI i) = some (nI (tr i)) := by rw [rdA_n (by omega) (by omega), putA_mA, if_neg (by omega), h i hi]
    rw [L_X12_walks_62_s, putA_n, Nat.zero_add]
    simp (disch := omega) only [Option.bind_some, bd_some, eqL, leL, ltL, Lle, Llt, addL, Ladd, Lmul, mulL, nIle, nIlt, nIeq, nI_add, pk_mul, hr, wrA_n]
    rw [if_neg (by omega)]
  · rw [L_X12_walks_62_s]
    simp (disch := omega) only [Option.bind_some, bd_some, eqL, leL, ltL, Lle, Llt, addL, Ladd, Lmul, mulL, nIle, nIlt, nIeq, nI_add, pk_mul]
    rw [if_pos (by omega)]
theorem M_walks (hF : 2000000 ≤ F) {set : Int32} {n : Nat} (hn : n ≤ 5) : ∀ (r D k st : Nat) (γ tr : Nat → Nat) (S : RS) (μ : Mm), r < D → k + r = n → st ≤ k → WF γ → 0 < γ 0 → γ 5 + r ≤ 20000 → CB μ γ → (∀ i, i < k → mA μ 152 i = nI (tr i)) → SMr μ n S → RSok S → ∃ ν, t_X12_walks F D set (nI k) (nI n) (nI st) μ = some ν ∧ CB ν γ ∧ SMr ν n (rdS set r γ tr k st S) ∧ RSok (rdS set r γ tr k st S) ∧ Ag (PW k) μ ν := by
  intro r
  induction r with
  | zero =>
    intro D k st γ tr S μ hD hk hst w h0 h5 hc ht hS hok
    obtain ⟨D, rfl⟩ : ∃ q, D = q + 1 := ⟨D - 1, by omega⟩
    have hkn : k = n := by omega
    subst hkn
    have hwr := wrongs_le w (set := set)
    rw [t_X12_walks_s]
    unfold f_X12_walks
    rw [if_pos rfl, M_wrongOf hc w hF, Option.bind_some]
    have take : L_X12_walks_62 F (t_X12_walks F D) (nI k) (fun μ18 => some μ18) F 0 (sI (sI μ 141 31 (nI (wrongs γ set))) 141 32 (nI st)) = some (putA (sI (sI μ 141 31 (nI (wrongs γ set))) 141 32 (nI st)) 153 (fun i => nI (tr i)) 0 k) := M_bestL (μ := sI (sI μ 141 31 (nI (wrongs γ set))) 141 32 (nI st)) hn (fun i hi => ht i hi) hF
    have tAg : Ag (PW k) μ (putA (sI (sI μ 141 31 (nI (wrongs γ set))) 141 32 (nI st)) 153 (fun i => nI (tr i)) 0 k) := ((Ag.sI (Or.inl ⟨rfl, Or.inl rfl⟩)).tr (Ag.sI (Or.inl ⟨rfl, Or.inr rfl⟩))).tr (putA_ag (fun _ _ _ => Or.inr (Or.inr (Or.inr (Or.inr (Or.inr rfl))))))
    have tCB : CB (putA (sI (sI μ 141 31 (nI (wrongs γ set))) 141 32 (nI st)) 153 (fun i => nI (tr i)) 0 k) γ := hc.at (by rw [(putA_ag (P := fun a _ => a = 153) (fun _ _ _ => rfl)).A (fun _ => by omega)]; rfl)
    have tS : SMr (putA (sI (sI μ 141 31 (nI (wrongs γ set))) 141 32 (nI st)) 153 (fun i => nI (tr i)) 0 k) k (some (wrongs γ set), st, tr) := by
      refine ⟨?_, ?_, fun i hi => by rw [putA_mA, if_pos (by omega)]⟩
      · rw [(putA_ag (P := fun a _ => a = 153) (fun _ _ _ => rfl)).i (by omega)]; rfl
      · rw [(putA_ag (P := fun a _ => a = 153) (fun _ _ _ => rfl)).i (by omega)]; rfl
    have yes : tkR S (wrongs γ set) st = true → rdS set 0 γ tr k st S = (some (wrongs γ set), st, tr) := fun q => by show wgR set γ tr st S = _; unfold wgR; rw [if_pos q]
    have no : ¬ tkR S (wrongs γ set) st = true → rdS set 0 γ tr k st S = S := fun q => by show wgR set γ tr st S = _; unfold wgR; rw [if_neg q]
    have hok2 : RSok (rdS set 0 γ tr k st S) := wgR_ok w (by omega) hok
    cases hs : S.1 with
    | none =>
      have hS2 := hS
      unfold SMr at hS2
      rw [hs] at hS2
      have hy : tkR S (wrongs γ set) st = true := by unfold tkR; rw [hs]
      rw [hS2, if_pos (by decide), take]
      exact ⟨_, rfl, tCB, by rw [yes hy]; exact tS, hok2, tAg⟩
    | some m =>
      have hS2 := hS
      unfold SMr at hS2
      rw [hs] at hS2
      have hm := hok.1 m hs
      have hms := hok.2
      have htk : tkR S (wrongs γ set) st = (decide (wrongs γ set < m) || (decide (wrongs γ set = m) && decide (S.2.1 < st))) := by unfold tkR; rw [hs]
      rw [hS2.1, hS2.2.1, if_neg (nI_n0 (by omega))]
      by_cases e1 : m < wrongs γ set
      · have hn0 : ¬ tkR S (wrongs γ set) st = true := by rw [htk, decide_eq_false (by omega), decide_eq_false (by omega)]; simp
        rw [if_pos ((nIlt (by omega) (by omega)).mpr e1)]
        exact ⟨μ, rfl, hc, by rw [no hn0]; exact hS, hok2, Ag.rf⟩
      · rw [if_neg (fun z => e1 ((nIlt (by omega) (by omega)).mp z))]
        by_cases e2 : wrongs γ set = m
        · rw [if_pos (by rw [e2])]
          by_cases e3 : S.2.1 < st
          · have hy : tkR S (wrongs γ set) st = true := by rw [htk, decide_eq_true e2, decide_eq_true e3]; simp
            rw [if_pos ((nIlt (by omega) (by omega)).mpr e3), take]
            exact ⟨_, rfl, tCB, by rw [yes hy]; exact tS, hok2, tAg⟩
          · have hn0 : ¬ tkR S (wrongs γ set) st = true := by rw [htk, decide_eq_false (by omega), decide_eq_false e3]; simp
            rw [if_neg (fun z => e3 ((nIlt (by omega) (by omega)).mp z))]
            exact ⟨μ, rfl, hc, by rw [no hn0]; exact hS, hok2, Ag.rf⟩
        · have hy : tkR S (wrongs γ set) st = true := by rw [htk, decide_eq_true (show wrongs γ set < m by omega)]; simp
          rw [if_neg (fun z => e2 ((nIeq (by omega) (by omega)).mp z)), take]
          exact ⟨_, rfl, tCB, by rw [yes hy]; exact tS, hok2, tAg⟩
  | succ r ih =>
    intro D k st γ tr S μ hD hk hst w h0 h5 hc ht hS hok
    obtain ⟨D, rfl⟩ : ∃ q, D = q + 1 := ⟨D - 1, by omega⟩
    rw [t_X12_walks_s]
    unfold f_X12_walks
    rw [if_neg (fun z => by have := (nIeq (by omega) (by omega)).mp z; omega), M_laysTurn hc hF (by omega), Option.bind_some]
    obtain ⟨μ1, hμ1⟩ : ∃ μ1, μ1 = putA μ 151 (fun p => nI (γ (p - 128 * k))) (128 * k) 128 := ⟨_, rfl⟩
    rw [← hμ1]
    have A1 : Ag (fun a i => a = 151 ∧ 128 * k ≤ i ∧ i < 128 * k + 128) μ μ1 := by rw [hμ1]; exact putA_ag (fun i h1 h2 => ⟨rfl, h1, by omega⟩)
    have T1 : ∀ i, i < 128 → mA μ1 151 (128 * k + i) = nI (γ i) := fun i hi => by rw [hμ1, putA_mA, if_pos (by omega), show 128 * k + i - 128 * k = i by omega]
    have c1 : CB μ1 γ := hc.at (A1.A (fun _ => by omega))
    let fs : Nat → RS → RS := fun v S => match wayF γ (γ 7) v with | none => S | some j => rdS set r (hourB (stB γ j)) (updN tr k v) (k + 1) (st + (if v = 4 then 1 else 0)) S
    have step : ∀ v v5 ν, v < 5 → (v5 = nI v ∧ CB ν γ ∧ SMr ν n (foldF fs 0 v S) ∧ RSok (foldF fs 0 v S) ∧ (∀ i, i < 128 → mA ν 151 (128 * k + i) = nI (γ i)) ∧ (∀ i, i < k → mA ν 152 i = nI (tr i)) ∧ Ag (PW k) μ ν) → ∃ v5' ν', (v5' = nI (v + 1) ∧ CB ν' γ ∧ SMr ν' n (foldF fs 0 (v + 1) S) ∧ RSok (foldF fs 0 (v + 1) S) ∧ (∀ i, i < 128 → mA ν' 151 (128 * k + i) = nI (γ i)) ∧ (∀ i, i < k → mA ν' 152 i = nI (tr i)) ∧ Ag (PW k) μ ν') ∧ ∀ m, L_X12_walks_97 F (t_X12_walks F D) set (nI k) (nI n) (nI st) (fun μ14 => some μ14) (m + 1) v5 ν = L_X12_walks_97 F (t_X12_walks F D) set (nI k) (nI n) (nI st) (fun μ14 => some μ14) m v5' ν' := by
      rintro v v5 ν hv ⟨rfl, q1, q2, q3, q4, q5, q6⟩
      have hfn : foldF fs 0 (v + 1) S = fs v (foldF fs 0 v S) := by rw [foldF_n, Nat.zero_add]
      have n4 : ¬ (4 : Int32) < nI v := fun z => by have z2 : 4 < v := (Llt (n := 4) (by omega) (by decide)).mp z; omega
      rcases M_steps q1 w hF h0 (v := v) (by omega) with ⟨hw, hs⟩ | ⟨j, ν1, hw, hj, hs, c2, A2⟩
      · have hfs : fs v (foldF fs 0 v S) = foldF fs 0 v S := by show (match wayF γ (γ 7) v with | none => _ | some j => _) = _; rw [hw]
        rw [hfn, hfs]
        refine ⟨nI (v + 1), ν, ⟨rfl, q1, q2, q3, q4, q5, q6⟩, fun m => ?_⟩
        rw [L_X12_walks_97_s, if_neg n4, hs, bd_some, if_neg (by decide), nI_1]
      · have hfs : fs v (foldF fs 0 v S) = rdS set r (hourB (stB γ j)) (updN tr k v) (k + 1) (st + (if v = 4 then 1 else 0)) (foldF fs 0 v S) := by show (match wayF γ (γ 7) v with | none => _ | some j => _) = _; rw [hw]
        have w152 : wrA ν1 152 5 (nI k) (nI v) = some (sA ν1 152 k (nI v)) := wrA_n (by omega) (by omega)
        have A3 : Ag (fun a i => (a = 146 ∧ i < 128) ∨ a = 150 ∨ (a = 152 ∧ i = k)) ν (sA ν1 152 k (nI v)) := (A2.mono (fun a i q => by omega)).tr (Ag.sA (by omega))
        have hst' : nI st + (if nI v = 4 then (1 : Int32) else 0) = nI (st + (if v = 4 then 1 else 0)) := by
          by_cases e : v = 4
          · rw [if_pos (by rw [e]; rfl), if_pos e, nI_1]
          · rw [if_neg (fun z => e ((eqL (n := 4) (by omega) (by decide)).mp z)), if_neg e, Int32.add_zero]; rfl
        obtain ⟨ν3, r1, r2, r3, r4, r5⟩ := ih D (k + 1) (st + (if v = 4 then 1 else 0)) (hourB (stB γ j)) (updN tr k v) (foldF fs 0 v S) (sA ν1 152 k (nI v)) (by omega) (by omega) (by split <;> omega) (hst_wf w hj (by omega)) (by rw [hst_lo (by omega) (by omega) (by omega)]; exact h0) (by rw [hst_5]; omega) (c2.at (mA_ne (by omega))) (fun i hi => by
          rw [mA_sA, if_pos rfl]
          by_cases e : i = k
          · rw [if_pos e, e, updN_eq]
          · rw [if_neg e, updN_ne e, A2.a (by omega)]; exact q5 i (by omega)) (q2.ag A3 (by omega) (by omega) (fun i => by omega)) q3
        have q4' : ∀ i, i < 128 → mA ν3 151 (128 * k + i) = nI (γ i) := fun i hi => by rw [r5.a (by unfold PW; omega), A3.a (by omega)]; exact q4 i hi
        have A4 : Ag (fun a i => a = 146 ∧ i < 128) ν3 (putA ν3 146 (fun k => nI (γ k)) 0 128) := putA_ag (fun i _ hi => ⟨rfl, by omega⟩)
        rw [hfn, hfs]
        refine ⟨nI (v + 1), putA ν3 146 (fun k => nI (γ k)) 0 128, ⟨rfl, CB_put, r3.ag A4 (by omega) (by omega) (fun i => by omega), r4, fun i hi => by rw [A4.a (by omega)]; exact q4' i hi, fun i hi => ?_, ?_⟩, fun m => ?_⟩
        · rw [A4.a (by omega), r5.a (by unfold PW; omega), A3.a (by omega)]; exact q5 i hi
        · refine ((q6.tr (A3.mono (fun a i q => by unfold PW; omega))).tr (r5.mono (fun a i q => by unfold PW at *; omega))).tr (A4.mono (fun a i q => by unfold PW; omega))
        · rw [L_X12_walks_97_s, if_neg n4, hs, bd_some, if_pos rfl, w152, Option.bind_some, nI_1, hst', r1, Option.bind_some, M_takesTurn q4' hF (by omega), Option.bind_some, nI_1]
    obtain ⟨v5, ν, m, ⟨h1, h2, h3, h4, h6, h7, h8⟩, e⟩ := iterI2 (L := L_X12_walks_97 F (t_X12_walks F D) set (nI k) (nI n) (nI st) (fun μ14 => some μ14)) (F := F) (N := 5) _ (by omega) step (a := 0) (b := μ1) ⟨rfl, c1, hS.ag A1 (by omega) (by omega) (fun i => by omega), hok, T1, fun i hi => by rw [A1.a (by omega)]; exact ht i hi, A1.mono (fun a i q => by unfold PW; omega)⟩
    refine ⟨ν, ?_, h2, h3, h4, h8⟩
    rw [e, L_X12_walks_97_s, h1, if_pos (by decide)]
end ROUND
