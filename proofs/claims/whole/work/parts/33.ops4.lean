/-! ===== rule, enact, repeal, step, doze ===== -/
section OPS4
variable {μ : Mm} {b : Nat} {β : Nat → Nat} {F : Nat}
theorem op_rule (h : R μ) (hF : 2000000 ≤ F) (v u : Int32) : Sm (f_X11_rule v u) (f_X12_rule v u) μ := by
  obtain ⟨β, nm, ω, σ, pg⟩ := h.pg
  have W := pg.wf
  have bx := pg.bx
  have gb := h.gb
  have hc : ∀ c, CB (V0 μ c) β := fun c => pg.c0.at rfl
  have hrp := h.rp
  unfold RefP at hrp
  by_cases e : inR v 3 4 = true
  · obtain ⟨j, hj1, hj2, hj3, rfl⟩ := inR_of e
    have hj : j = 3 ∨ j = 4 := by omega
    rcases hj with rfl | rfl
    · by_cases e2 : inR u 1 9 = true
      · obtain ⟨x, hx1, hx2, hx3, rfl⟩ := inR_of e2
        refine h.w pg true (ν := sI μ (mR μ 0) 1 (nI x)) (β' := updN β 3 x) ?_ (bx.u_tap W) (Ag.sI (by unfold S2; omega)) ?_ (Ag.sI (by omega)) (W.u_f (by omega) (by omega) (by omega) (by omega)) (by rw [updN_ne (by omega)]; exact pg.hr) (updN_ne (by omega)) (updN_ne (by omega))
        · unfold f_X11_rule
          simp (disch := omega) only [Option.bind_some, bd_some, eqL, leL, ltL, Lle, Llt, addL, Ladd, Lmul, mulL, nIle, nIlt, nIeq, nI_add, pk_mul, gb, X_cells bx, X_hasCell bx W, X_hasAccount bx W, X_hasLaw bx W, bx.wide, bx.tap, bx.odds, bx.acc, bx.stand, bx.hour, bx.stolen, bx.laws, bx.rD W, bx.rT W, bx.rH W, bx.rK W, bx.rF W, bx.rS W, bx.rP W, bx.rB W, X_isWrong bx W, X_wrongs bx W hF, X_tappedSet bx W hF, X_surplus bx W hF, within_L, inN_k, eq_self, if_true, if_false, Bool.false_eq_true, ans_X, ref_X, ver_X, e2, decide_true]
        · intro ξ hξ
          have hc2 : CB (sI (sI ξ 141 1 0) 141 0 0) β := hξ.at rfl
          refine ⟨sA (sI (sI ξ 141 1 0) 141 0 0) 146 3 (nI x), ?_, rfl, hc2.wr (by omega) _, ((Ag.sI (Or.inl ⟨rfl, by omega⟩)).tr (Ag.sI (Or.inl ⟨rfl, by omega⟩))).tr (Ag.sA (Or.inr (Or.inl ⟨rfl, by omega⟩)))⟩
          unfold f_X12_rule
          simp (disch := omega) only [Option.bind_some, bd_some, isIn_L, eq_self, if_true, if_false, e, e2, eqL, wrA_n]
      · have e3 := inR_no e2
        exact h.q 5 false (by unfold f_X11_rule; simp (disch := omega) only [Option.bind_some, bd_some, eqL, leL, ltL, Lle, Llt, addL, Ladd, Lmul, mulL, nIle, nIlt, nIeq, nI_add, pk_mul, gb, X_cells bx, X_hasCell bx W, X_hasAccount bx W, X_hasLaw bx W, bx.wide, bx.tap, bx.odds, bx.acc, bx.stand, bx.hour, bx.stolen, bx.laws, bx.rD W, bx.rT W, bx.rH W, bx.rK W, bx.rF W, bx.rS W, bx.rP W, bx.rB W, X_isWrong bx W, X_wrongs bx W hF, X_tappedSet bx W hF, X_surplus bx W hF, within_L, inN_k, eq_self, if_true, if_false, Bool.false_eq_true, ans_X, ref_X, ver_X, e3]; rfl) (by unfold f_X12_rule; simp (disch := omega) only [Option.bind_some, bd_some, eqL, leL, ltL, Lle, Llt, addL, Ladd, Lmul, mulL, nIle, nIlt, nIeq, nI_add, pk_mul, M_cells (hc _), M_isCellAt (hc _) W, M_isAccountAt (hc _) W, M_isLawAt (hc _) W, (hc _).rd, (hc _).r0, M_isWrong (hc _) W, M_allWrong (hc _) W hF, M_tappedSet (hc _) W hF, M_balanced (hc _) W hF, M_isEven (hc _) W hF, isIn_L, inN_k, eq_self, if_true, if_false, Bool.false_eq_true, ans_M, no_M, e, e3]; exact QM_r)
    · by_cases e2 : inR u 0 16 = true
      · obtain ⟨x, hx1, hx2, hx3, rfl⟩ := inR_of e2
        refine h.w pg true (ν := sI μ (mR μ 0) 2 (nI x)) (β' := updN β 4 x) ?_ (bx.u_odds W) (Ag.sI (by unfold S2; omega)) ?_ (Ag.sI (by omega)) (W.u_f (by omega) (by omega) (by omega) (by omega)) (by rw [updN_ne (by omega)]; exact pg.hr) (updN_ne (by omega)) (updN_ne (by omega))
        · unfold f_X11_rule
          simp (disch := omega) only [Option.bind_some, bd_some, eqL, leL, ltL, Lle, Llt, addL, Ladd, Lmul, mulL, nIle, nIlt, nIeq, nI_add, pk_mul, gb, X_cells bx, X_hasCell bx W, X_hasAccount bx W, X_hasLaw bx W, bx.wide, bx.tap, bx.odds, bx.acc, bx.stand, bx.hour, bx.stolen, bx.laws, bx.rD W, bx.rT W, bx.rH W, bx.rK W, bx.rF W, bx.rS W, bx.rP W, bx.rB W, X_isWrong bx W, X_wrongs bx W hF, X_tappedSet bx W hF, X_surplus bx W hF, within_L, inN_k, eq_self, if_true, if_false, Bool.false_eq_true, ans_X, ref_X, ver_X, e2, decide_true]
          rfl
        · intro ξ hξ
          have hc2 : CB (sI (sI ξ 141 1 0) 141 0 0) β := hξ.at rfl
          refine ⟨sA (sI (sI ξ 141 1 0) 141 0 0) 146 4 (nI x), ?_, rfl, hc2.wr (by omega) _, ((Ag.sI (Or.inl ⟨rfl, by omega⟩)).tr (Ag.sI (Or.inl ⟨rfl, by omega⟩))).tr (Ag.sA (Or.inr (Or.inl ⟨rfl, by omega⟩)))⟩
          unfold f_X12_rule
          simp (disch := omega) only [Option.bind_some, bd_some, isIn_L, eq_self, if_true, if_false, e, eqL, wrA_n]
          rw [if_neg (by decide), if_neg (by decide), isIn_L (by decide) (by decide), e2]
          rfl
      · have e3 := inR_no e2
        refine h.q 5 false (by unfold f_X11_rule; simp (disch := omega) only [Option.bind_some, bd_some, eqL, leL, ltL, Lle, Llt, addL, Ladd, Lmul, mulL, nIle, nIlt, nIeq, nI_add, pk_mul, gb, X_cells bx, X_hasCell bx W, X_hasAccount bx W, X_hasLaw bx W, bx.wide, bx.tap, bx.odds, bx.acc, bx.stand, bx.hour, bx.stolen, bx.laws, bx.rD W, bx.rT W, bx.rH W, bx.rK W, bx.rF W, bx.rS W, bx.rP W, bx.rB W, X_isWrong bx W, X_wrongs bx W hF, X_tappedSet bx W hF, X_surplus bx W hF, within_L, inN_k, eq_self, if_true, if_false, Bool.false_eq_true, ans_X, ref_X, ver_X, e3]; rfl) ?_
        unfold f_X12_rule
        simp (disch := omega) only [Option.bind_some, bd_some, eqL, leL, ltL, Lle, Llt, addL, Ladd, Lmul, mulL, nIle, nIlt, nIeq, nI_add, pk_mul, M_cells (hc _), M_isCellAt (hc _) W, M_isAccountAt (hc _) W, M_isLawAt (hc _) W, (hc _).rd, (hc _).r0, M_isWrong (hc _) W, M_allWrong (hc _) W hF, M_tappedSet (hc _) W hF, M_balanced (hc _) W hF, M_isEven (hc _) W hF, isIn_L, inN_k, eq_self, if_true, if_false, Bool.false_eq_true, ans_M, no_M, e]
        rw [if_neg (by decide), if_neg (by decide), isIn_L (by decide) (by decide), e3]
        exact QM_r
  · have e3 := inR_no e
    exact h.q 5 false (by unfold f_X11_rule; simp (disch := omega) only [Option.bind_some, bd_some, eqL, leL, ltL, Lle, Llt, addL, Ladd, Lmul, mulL, nIle, nIlt, nIeq, nI_add, pk_mul, gb, X_cells bx, X_hasCell bx W, X_hasAccount bx W, X_hasLaw bx W, bx.wide, bx.tap, bx.odds, bx.acc, bx.stand, bx.hour, bx.stolen, bx.laws, bx.rD W, bx.rT W, bx.rH W, bx.rK W, bx.rF W, bx.rS W, bx.rP W, bx.rB W, X_isWrong bx W, X_wrongs bx W hF, X_tappedSet bx W hF, X_surplus bx W hF, within_L, inN_k, eq_self, if_true, if_false, Bool.false_eq_true, ans_X, ref_X, ver_X, ne_L e3]; rfl) (by unfold f_X12_rule; simp (disch := omega) only [Option.bind_some, bd_some, eqL, leL, ltL, Lle, Llt, addL, Ladd, Lmul, mulL, nIle, nIlt, nIeq, nI_add, pk_mul, M_cells (hc _), M_isCellAt (hc _) W, M_isAccountAt (hc _) W, M_isLawAt (hc _) W, (hc _).rd, (hc _).r0, M_isWrong (hc _) W, M_allWrong (hc _) W hF, M_tappedSet (hc _) W hF, M_balanced (hc _) W hF, M_isEven (hc _) W hF, isIn_L, inN_k, eq_self, if_true, if_false, Bool.false_eq_true, ans_M, no_M, e3]; exact QM_r)
/-! hours of the reference -/
theorem M_hours {ρ : Type} {L : Nat → Int32 → Mm → Option ρ} {K : Mm → Option ρ} {hh : Nat} (hs : ∀ n v μ, L (n + 1) v μ = if nI hh ≤ v then K μ else bd (f_X12_goesHour F μ) fun _ μ4 => L n (v + 1) μ4) (h : CB μ β) (w : WF β) (hF : 2000000 ≤ F) (hn : β 5 + hh ≤ 20000) : ∃ ν, L F 0 μ = K ν ∧ CB ν (hrs β hh) ∧ Ag (fun a k => (a = 146 ∧ k < 128) ∨ a = 150) μ ν := by
  have step : ∀ i v ν, i < hh → (v = nI i ∧ CB ν (hrs β i) ∧ Ag (fun a k => (a = 146 ∧ k < 128) ∨ a = 150) μ ν) → ∃ v' ν', (v' = nI (i + 1) ∧ CB ν' (hrs β (i + 1)) ∧ Ag (fun a k => (a = 146 ∧ k < 128) ∨ a = 150) μ ν') ∧ ∀ n, L (n + 1) v ν = L n v' ν' := by
    rintro i v ν hi ⟨q1, q2, q3⟩
    obtain ⟨ξ, e1, e2, e3⟩ := M_goesHour q2 (w.hrs i (by omega)) hF
    refine ⟨nI (i + 1), ξ, ⟨rfl, e2, q3.tr e3⟩, fun n => ?_⟩
    rw [hs, q1, if_neg (fun z => by have := (nIle (by omega) (by omega)).mp z; omega), e1, bd_some, nI_1]
  obtain ⟨v, ν, n, ⟨h1, h2, h3⟩, e⟩ := iterI2 (L := L) (F := F) (N := hh) (fun i v ν => v = nI i ∧ CB ν (hrs β i) ∧ Ag (fun a k => (a = 146 ∧ k < 128) ∨ a = 150) μ ν) (by omega) step (a := 0) (b := μ) ⟨rfl, h, Ag.rf⟩
  refine ⟨ν, ?_, h2, h3⟩
  rw [e, hs, h1, if_pos ((nIle (by omega) (by omega)).mpr (by omega))]
theorem op_doze (h : R μ) (hF : 2000000 ≤ F) (v : Int32) : Sm (f_X11_doze F v) (f_X12_doze F v) μ := by
  obtain ⟨β, nm, ω, σ, pg⟩ := h.pg
  have W := pg.wf
  have bx := pg.bx
  have gb := h.gb
  have hc : ∀ c, CB (V0 μ c) β := fun c => pg.c0.at rfl
  have hrp := h.rp
  unfold RefP at hrp
  have h5 := pg.hr
  by_cases e : inR v 1 99 = true
  · obtain ⟨j, hj1, hj2, hj3, rfl⟩ := inR_of e
    by_cases q : β 5 + j ≤ 9999
    · obtain ⟨ν, x, e1, e2, e3, e4⟩ := X_passHours bx W hF (n := j) (by omega)
      have Wj := W.hrs j (by omega)
      have gbν : gBk (mR ν 0) = some (mR μ 0) := by rw [e3.2]; exact gb
      refine h.w pg (nI (wrongAll (hrs β j))) (ν := ν) (β' := hrs β j) ?_ e2 (e3.mono ?_) ?_ (e3.mono ?_) Wj (by rw [hrs_5]; exact q) (hrs_lo (by omega) (by omega) j) (hrs_lo (by omega) (by omega) j)
      · unfold f_X11_doze
        simp (disch := omega) only [Option.bind_some, bd_some, eqL, leL, ltL, Lle, Llt, addL, Ladd, Lmul, mulL, nIle, nIlt, nIeq, nI_add, pk_mul, gb, X_cells bx, X_hasCell bx W, X_hasAccount bx W, X_hasLaw bx W, bx.wide, bx.tap, bx.odds, bx.acc, bx.stand, bx.hour, bx.stolen, bx.laws, bx.rD W, bx.rT W, bx.rH W, bx.rK W, bx.rF W, bx.rS W, bx.rP W, bx.rB W, X_isWrong bx W, X_wrongs bx W hF, X_tappedSet bx W hF, X_surplus bx W hF, within_L, inN_k, eq_self, if_true, if_false, Bool.false_eq_true, ans_X, ref_X, ver_X, e, q, e1, gbν, X_wrongs e2 Wj hF]
      · intro a k z; unfold S2; omega
      · intro ξ hξ
        have hc2 : CB (sI (sI ξ 141 1 0) 141 0 0) β := hξ.at rfl
        obtain ⟨ζ, z1, z2, z3⟩ := M_hours (L := L_X12_doze_51 F (nI j) (fun μ5 => (f_X12_allWrong F μ5).bind fun x6 => some (x6, μ5))) (hh := j) (fun n v μ => L_X12_doze_51_s ..) hc2 W hF (by omega)
        refine ⟨ζ, ?_, by rw [z3.i (by omega)]; rfl, z2, ((Ag.sI (Or.inl ⟨rfl, by omega⟩)).tr (Ag.sI (Or.inl ⟨rfl, by omega⟩))).tr (z3.mono (fun a k z => Or.inr z))⟩
        unfold f_X12_doze
        simp (disch := omega) only [Option.bind_some, bd_some, isIn_L, eq_self, if_true, if_false, e, hc2.r0, nI_add, leL, q]
        rw [z1, M_allWrong z2 Wj hF]
        rfl
      · intro a k z; omega
    · exact h.q 7 (-1) (by unfold f_X11_doze; simp (disch := omega) only [Option.bind_some, bd_some, eqL, leL, ltL, Lle, Llt, addL, Ladd, Lmul, mulL, nIle, nIlt, nIeq, nI_add, pk_mul, gb, X_cells bx, X_hasCell bx W, X_hasAccount bx W, X_hasLaw bx W, bx.wide, bx.tap, bx.odds, bx.acc, bx.stand, bx.hour, bx.stolen, bx.laws, bx.rD W, bx.rT W, bx.rH W, bx.rK W, bx.rF W, bx.rS W, bx.rP W, bx.rB W, X_isWrong bx W, X_wrongs bx W hF, X_tappedSet bx W hF, X_surplus bx W hF, within_L, inN_k, eq_self, if_true, if_false, Bool.false_eq_true, ans_X, ref_X, ver_X, e, q]) (by unfold f_X12_doze; simp (disch := omega) only [Option.bind_some, bd_some, eqL, leL, ltL, Lle, Llt, addL, Ladd, Lmul, mulL, nIle, nIlt, nIeq, nI_add, pk_mul, M_cells (hc _), M_isCellAt (hc _) W, M_isAccountAt (hc _) W, M_isLawAt (hc _) W, (hc _).rd, (hc _).r0, M_isWrong (hc _) W, M_allWrong (hc _) W hF, M_tappedSet (hc _) W hF, M_balanced (hc _) W hF, M_isEven (hc _) W hF, isIn_L, inN_k, eq_self, if_true, if_false, Bool.false_eq_true, ans_M, no_M, e, q]; exact QM_r)
  · have e3 := inR_no e
    exact h.q 5 (-1) (by unfold f_X11_doze; simp (disch := omega) only [Option.bind_some, bd_some, eqL, leL, ltL, Lle, Llt, addL, Ladd, Lmul, mulL, nIle, nIlt, nIeq, nI_add, pk_mul, gb, X_cells bx, X_hasCell bx W, X_hasAccount bx W, X_hasLaw bx W, bx.wide, bx.tap, bx.odds, bx.acc, bx.stand, bx.hour, bx.stolen, bx.laws, bx.rD W, bx.rT W, bx.rH W, bx.rK W, bx.rF W, bx.rS W, bx.rP W, bx.rB W, X_isWrong bx W, X_wrongs bx W hF, X_tappedSet bx W hF, X_surplus bx W hF, within_L, inN_k, eq_self, if_true, if_false, Bool.false_eq_true, ans_X, ref_X, ver_X, e3]) (by unfold f_X12_doze; simp (disch := omega) only [Option.bind_some, bd_some, eqL, leL, ltL, Lle, Llt, addL, Ladd, Lmul, mulL, nIle, nIlt, nIeq, nI_add, pk_mul, M_cells (hc _), M_isCellAt (hc _) W, M_isAccountAt (hc _) W, M_isLawAt (hc _) W, (hc _).rd, (hc _).r0, M_isWrong (hc _) W, M_allWrong (hc _) W hF, M_tappedSet (hc _) W hF, M_balanced (hc _) W hF, M_isEven (hc _) W hF, isIn_L, inN_k, eq_self, if_true, if_false, Bool.false_eq_true, ans_M, no_M, e3]; exact QM_r)
/-! a step -/
def stB (β : Nat → Nat) (j : Nat) : Nat → Nat := updN (updN β 7 j) (63 + j) (β 3)
theorem stB_wf (w : WF β) {j : Nat} (hj : j < cl β) : WF (stB β j) := by
  have hc := w.cl_le
  exact (w.u_f (by omega) (by omega) (fun _ => hj) (by omega)).u_h (by omega) w.1.2.2.2.2.2.1
theorem stB_5 {j : Nat} : stB β j 5 = β 5 := by unfold stB; rw [updN_ne (by omega), updN_ne (by omega)]
theorem stB_lo {i j : Nat} (hi : i < 13) (h7 : i ≠ 7) : stB β j i = β i := by unfold stB; rw [updN_ne (by omega), updN_ne h7]
theorem stB_7 {j : Nat} : stB β j 7 = j := by unfold stB; rw [updN_ne (by omega), updN_eq]
theorem stB_cl {j : Nat} : cl (stB β j) = cl β := by unfold cl; rw [stB_lo (by omega) (by omega), stB_lo (by omega) (by omega)]
theorem WF.st {k : Nat} (w : WF β) (h : 0 < β 0) (hk : β 7 = k) : k < cl β := by
  rcases w.1.2.2.2.2.2.2.2.2 with q | q
  · omega
  · omega
theorem M_wayFrom (h : CB μ β) (w : WF β) {k v : Nat} (hk : k < cl β) (hv : v ≤ 4) : f_X12_wayFrom (nI k) (nI v) μ = some (oI (wayF β k v)) := by
  have hc := w.cl_le
  unfold f_X12_wayFrom wayF
  have hv5 : v = 0 ∨ v = 1 ∨ v = 2 ∨ v = 3 ∨ v = 4 := by omega
  rcases hv5 with e | e | e | e | e <;> subst e
  · have := M_besideOf h w (p := 3) hk (by omega)
    show (f_X12_besideOf (nI k) 3 μ).bind _ = _
    rw [show (3 : Int32) = nI 3 from rfl, this]
    rfl
  · have := M_besideOf h w (p := 4) hk (by omega)
    show (f_X12_besideOf (nI k) 4 μ).bind _ = _
    rw [show (4 : Int32) = nI 4 from rfl, this]
    rfl
  · have := M_besideOf h w (p := 1) hk (by omega)
    show (f_X12_besideOf (nI k) (nI 1) μ).bind _ = _
    rw [this]
    rfl
  · have := M_besideOf h w (p := 2) hk (by omega)
    show (f_X12_besideOf (nI k) (nI 2) μ).bind _ = _
    rw [this]
    rfl
  · rfl
/-- a step of the reference -/
theorem M_steps (h : CB μ β) (w : WF β) (hF : 2000000 ≤ F) (h0 : 0 < β 0) {v : Nat} (hv : v ≤ 4) : (wayF β (β 7) v = none ∧ f_X12_steps F (nI v) μ = some (false, μ)) ∨ (∃ j ν, wayF β (β 7) v = some j ∧ j < cl β ∧ f_X12_steps F (nI v) μ = some (true, ν) ∧ CB ν (hourB (stB β j)) ∧ Ag (fun a k => (a = 146 ∧ k < 128) ∨ a = 150) μ ν) := by
  have hc := w.cl_le
  have hst := w.st h0 rfl
  have hw := M_wayFrom h w hst hv
  unfold f_X12_steps
  rw [h.rl 7 (by omega), Option.bind_some, hw, Option.bind_some]
  cases hj : wayF β (β 7) v with
  | none => exact Or.inl ⟨rfl, rfl⟩
  | some j =>
    have hjc := wayF_lt w hst hj
    right
    rw [oI_some, if_pos (nI_pos' (by omega))]
    have h1 := h.wr (k := 7) (by omega) j
    have w7 : wrA μ 146 2000 7 (nI j) = some (sA μ 146 7 (nI j)) := wrA_n (k := 7) (by omega) (by omega)
    have r3 : rdA (sA μ 146 7 (nI j)) 146 2000 3 = some (nI (β 3)) := by
      have := h1.rl 3 (by omega)
      rw [updN_ne (by omega)] at this
      exact this
    have w63 : wrA (sA μ 146 7 (nI j)) 146 2000 (63 + nI j) (nI (β 3)) = some (sA (sA μ 146 7 (nI j)) 146 (63 + j) (nI (β 3))) := by
      rw [show (63 : Int32) + nI j = nI (63 + j) from lit 63 j]
      exact wrA_n (by omega) (by omega)
    have h2 : CB (sA (sA μ 146 7 (nI j)) 146 (63 + j) (nI (β 3))) (stB β j) := h1.wr (k := 63 + j) (by omega) (β 3)
    obtain ⟨ν, e1, e2, e3⟩ := M_goesHour h2 (stB_wf w hjc) hF
    refine ⟨j, ν, rfl, hjc, ?_, e2, ((Ag.sA (Or.inl ⟨rfl, by omega⟩)).tr (Ag.sA (Or.inl ⟨rfl, by omega⟩))).tr e3⟩
    rw [w7, Option.bind_some, r3, Option.bind_some, w63, Option.bind_some, e1]
    rfl
/-- a step of the class -/
theorem X_goStep (h : BX μ b β) (w : WF β) (hF : 2000000 ≤ F) {j : Nat} (hj : j < cl β) (h5 : β 5 + 1 ≤ 20000) : ∃ ν x ξ, f_X0_standAndTap b (nI j) μ = some ξ ∧ mR ξ = mR μ ∧ f_X0_passHours F b 1 ξ = some (x, ν) ∧ BX ν b (hourB (stB β j)) ∧ Ag (fun a k => a = b + 8 ∨ a = b + 10 ∨ a = b + 11 ∨ a = b) μ ν := by
  have hc := w.cl_le
  have W1 : WF (updN β 7 j) := w.u_f (by omega) (by omega) (fun _ => hj) (by omega)
  have b1 : BX (sI μ b 4 (nI j)) b (updN β 7 j) := h.u_stand w
  have ht : mI (sI μ b 4 (nI j)) b 1 = nI (β 3) := by rw [b1.tap, updN_ne (by omega)]
  have b2 : BX (sA (sI μ b 4 (nI j)) (b + 10) j (nI (β 3))) b (stB β j) := b1.u_taps W1 (by omega)
  have w7 := w.1.2.2.2.2.2.2.2.1
  obtain ⟨ν, x, e1, e2, e3, e4⟩ := X_passHours b2 (stB_wf w hj) hF (n := 1) (by rw [stB_5]; exact h5)
  refine ⟨ν, x, sA (sI μ b 4 (nI j)) (b + 10) j (nI (β 3)), ?_, rfl, e1, e2, ((Ag.sI (Or.inr (Or.inr (Or.inr rfl)))).tr (Ag.sA (Or.inr (Or.inl rfl)))).tr (e3.mono (fun a k q => by omega))⟩
  unfold f_X0_standAndTap
  rw [X_hasCell h w, inN_k hj (by omega), Option.bind_some, if_pos rfl, ht, wrA_n (by omega) (by omega)]
  rfl
theorem wayF_none_or {k v : Nat} : wayF β k v = none ∨ ∃ j, wayF β k v = some j := by
  cases wayF β k v with
  | none => exact Or.inl rfl
  | some j => exact Or.inr ⟨j, rfl⟩
theorem op_step (h : R μ) (hF : 2000000 ≤ F) (v : Int32) : Sm (f_X11_step F v) (f_X12_step F v) μ := by
  obtain ⟨β, nm, ω, σ, pg⟩ := h.pg
  have W := pg.wf
  have bx := pg.bx
  have gb := h.gb
  have hc : ∀ c, CB (V0 μ c) β := fun c => pg.c0.at rfl
  have hrp := h.rp
  unfold RefP at hrp
  have h5 := pg.hr
  have w0 := W.1.1
  have hcl := W.cl_le
  by_cases e : inR v 0 4 = true
  · obtain ⟨j, hj1, hj2, hj3, rfl⟩ := inR_of e
    by_cases q : β 5 < 9999
    · by_cases q0 : β 0 = 0
      · exact h.q 8 (-1) (by unfold f_X11_step; simp (disch := omega) only [Option.bind_some, bd_some, eqL, leL, ltL, Lle, Llt, addL, Ladd, Lmul, mulL, nIle, nIlt, nIeq, nI_add, pk_mul, gb, X_cells bx, X_hasCell bx W, X_hasAccount bx W, X_hasLaw bx W, bx.wide, bx.tap, bx.odds, bx.acc, bx.stand, bx.hour, bx.stolen, bx.laws, bx.rD W, bx.rT W, bx.rH W, bx.rK W, bx.rF W, bx.rS W, bx.rP W, bx.rB W, X_isWrong bx W, X_wrongs bx W hF, X_tappedSet bx W hF, X_surplus bx W hF, within_L, inN_k, eq_self, if_true, if_false, Bool.false_eq_true, ans_X, ref_X, ver_X, e, q, q0]) (by unfold f_X12_step; simp (disch := omega) only [Option.bind_some, bd_some, eqL, leL, ltL, Lle, Llt, addL, Ladd, Lmul, mulL, nIle, nIlt, nIeq, nI_add, pk_mul, M_cells (hc _), M_isCellAt (hc _) W, M_isAccountAt (hc _) W, M_isLawAt (hc _) W, (hc _).rd, (hc _).r0, M_isWrong (hc _) W, M_allWrong (hc _) W hF, M_tappedSet (hc _) W hF, M_balanced (hc _) W hF, M_isEven (hc _) W hF, isIn_L, inN_k, eq_self, if_true, if_false, Bool.false_eq_true, ans_M, no_M, e, q, q0]; exact QM_r)
      · have hst := W.st (by omega) rfl
        have xg := X_gone bx W hst hj2
        rcases wayF_none_or (β := β) (k := β 7) (v := j) with hw | ⟨t, hw⟩
        · rw [hw] at xg
          have ms : ∀ c, f_X12_steps F (nI j) (V0 μ c) = some (false, V0 μ c) := by
            intro c
            rcases M_steps (hc c) W hF (by omega) hj2 with ⟨-, z⟩ | ⟨t, ν, z, -⟩
            · exact z
            · rw [hw] at z; cases z
          exact h.q 9 (-1) (by unfold f_X11_step; simp (disch := omega) only [Option.bind_some, bd_some, eqL, leL, ltL, Lle, Llt, addL, Ladd, Lmul, mulL, nIle, nIlt, nIeq, nI_add, pk_mul, gb, X_cells bx, X_hasCell bx W, X_hasAccount bx W, X_hasLaw bx W, bx.wide, bx.tap, bx.odds, bx.acc, bx.stand, bx.hour, bx.stolen, bx.laws, bx.rD W, bx.rT W, bx.rH W, bx.rK W, bx.rF W, bx.rS W, bx.rP W, bx.rB W, X_isWrong bx W, X_wrongs bx W hF, X_tappedSet bx W hF, X_surplus bx W hF, within_L, inN_k, eq_self, if_true, if_false, Bool.false_eq_true, ans_X, ref_X, ver_X, e, q, q0, xg]; rfl) (by unfold f_X12_step; simp (disch := omega) only [Option.bind_some, bd_some, eqL, leL, ltL, Lle, Llt, addL, Ladd, Lmul, mulL, nIle, nIlt, nIeq, nI_add, pk_mul, M_cells (hc _), M_isCellAt (hc _) W, M_isAccountAt (hc _) W, M_isLawAt (hc _) W, (hc _).rd, (hc _).r0, M_isWrong (hc _) W, M_allWrong (hc _) W hF, M_tappedSet (hc _) W hF, M_balanced (hc _) W hF, M_isEven (hc _) W hF, isIn_L, inN_k, eq_self, if_true, if_false, Bool.false_eq_true, ans_M, no_M, e, q, q0, ms]; exact QM_r)
        · have htc := wayF_lt W hst hw
          rw [hw, oI_some] at xg
          obtain ⟨ν, x, ξ, e1, e2, e3, e4, e5⟩ := X_goStep bx W hF htc (by omega)
          have gbξ : gBk (mR ξ 0) = some (mR μ 0) := by rw [e2]; exact gb
          have hl : ∀ i, i < 13 → i ≠ 5 → i ≠ 7 → hourB (stB β t) i = β i := fun i h1 h2 h3 => by rw [hourB_lo h2 h1, stB_lo h1 h3]
          refine h.w pg (nI t) (ν := ν) (β' := hourB (stB β t)) ?_ e4 (e5.mono ?_) ?_ (e5.mono ?_) ((stB_wf W htc).hour (by rw [stB_5]; omega)) (by rw [hourB_5, stB_5]; omega) (hl 0 (by omega) (by omega) (by omega)) (hl 2 (by omega) (by omega) (by omega))
          · unfold f_X11_step
            simp (disch := omega) only [Option.bind_some, bd_some, eqL, leL, ltL, Lle, Llt, addL, Ladd, Lmul, mulL, nIle, nIlt, nIeq, nI_add, pk_mul, gb, X_cells bx, X_hasCell bx W, X_hasAccount bx W, X_hasLaw bx W, bx.wide, bx.tap, bx.odds, bx.acc, bx.stand, bx.hour, bx.stolen, bx.laws, bx.rD W, bx.rT W, bx.rH W, bx.rK W, bx.rF W, bx.rS W, bx.rP W, bx.rB W, X_isWrong bx W, X_wrongs bx W hF, X_tappedSet bx W hF, X_surplus bx W hF, within_L, inN_k, eq_self, if_true, if_false, Bool.false_eq_true, ans_X, ref_X, ver_X, e, q, q0, xg, neg_ne, e1, gbξ, e3]
          · intro a k z; unfold S2; omega
          · intro ζ hζ
            have hc2 : CB (sI (sI ζ 141 1 0) 141 0 0) β := hζ.at rfl
            rcases M_steps hc2 W hF (by omega) hj2 with ⟨z, -⟩ | ⟨t2, ζ2, z1, z2, z3, z4, z5⟩
            · rw [hw] at z; cases z
            · rw [hw] at z1
              cases z1
              refine ⟨ζ2, ?_, by rw [z5.i (by omega)]; rfl, z4, ((Ag.sI (Or.inl ⟨rfl, by omega⟩)).tr (Ag.sI (Or.inl ⟨rfl, by omega⟩))).tr (z5.mono (fun a k z => Or.inr z))⟩
              have r7 : rdA ζ2 146 2000 7 = some (nI t) := by rw [z4.rl 7 (by omega), hourB_lo (by omega) (by omega), stB_7]
              unfold f_X12_step
              simp (disch := omega) only [Option.bind_some, bd_some, isIn_L, eq_self, if_true, if_false, e, hc2.r0, ltL, eqL, q, q0, z3, r7]
          · intro a k z; omega
    · exact h.q 7 (-1) (by unfold f_X11_step; simp (disch := omega) only [Option.bind_some, bd_some, eqL, leL, ltL, Lle, Llt, addL, Ladd, Lmul, mulL, nIle, nIlt, nIeq, nI_add, pk_mul, gb, X_cells bx, X_hasCell bx W, X_hasAccount bx W, X_hasLaw bx W, bx.wide, bx.tap, bx.odds, bx.acc, bx.stand, bx.hour, bx.stolen, bx.laws, bx.rD W, bx.rT W, bx.rH W, bx.rK W, bx.rF W, bx.rS W, bx.rP W, bx.rB W, X_isWrong bx W, X_wrongs bx W hF, X_tappedSet bx W hF, X_surplus bx W hF, within_L, inN_k, eq_self, if_true, if_false, Bool.false_eq_true, ans_X, ref_X, ver_X, e, q]) (by unfold f_X12_step; simp (disch := omega) only [Option.bind_some, bd_some, eqL, leL, ltL, Lle, Llt, addL, Ladd, Lmul, mulL, nIle, nIlt, nIeq, nI_add, pk_mul, M_cells (hc _), M_isCellAt (hc _) W, M_isAccountAt (hc _) W, M_isLawAt (hc _) W, (hc _).rd, (hc _).r0, M_isWrong (hc _) W, M_allWrong (hc _) W hF, M_tappedSet (hc _) W hF, M_balanced (hc _) W hF, M_isEven (hc _) W hF, isIn_L, inN_k, eq_self, if_true, if_false, Bool.false_eq_true, ans_M, no_M, e, q]; exact QM_r)
  · have e3 := inR_no e
    exact h.q 5 (-1) (by unfold f_X11_step; simp (disch := omega) only [Option.bind_some, bd_some, eqL, leL, ltL, Lle, Llt, addL, Ladd, Lmul, mulL, nIle, nIlt, nIeq, nI_add, pk_mul, gb, X_cells bx, X_hasCell bx W, X_hasAccount bx W, X_hasLaw bx W, bx.wide, bx.tap, bx.odds, bx.acc, bx.stand, bx.hour, bx.stolen, bx.laws, bx.rD W, bx.rT W, bx.rH W, bx.rK W, bx.rF W, bx.rS W, bx.rP W, bx.rB W, X_isWrong bx W, X_wrongs bx W hF, X_tappedSet bx W hF, X_surplus bx W hF, within_L, inN_k, eq_self, if_true, if_false, Bool.false_eq_true, ans_X, ref_X, ver_X, e3]) (by unfold f_X12_step; simp (disch := omega) only [Option.bind_some, bd_some, eqL, leL, ltL, Lle, Llt, addL, Ladd, Lmul, mulL, nIle, nIlt, nIeq, nI_add, pk_mul, M_cells (hc _), M_isCellAt (hc _) W, M_isAccountAt (hc _) W, M_isLawAt (hc _) W, (hc _).rd, (hc _).r0, M_isWrong (hc _) W, M_allWrong (hc _) W hF, M_tappedSet (hc _) W hF, M_balanced (hc _) W hF, M_isEven (hc _) W hF, isIn_L, inN_k, eq_self, if_true, if_false, Bool.false_eq_true, ans_M, no_M, e3]; exact QM_r)
/-! enact -/
def addB (β : Nat → Nat) (f t p q : Nat) : Nat → Nat := updN (updN (updN (updN (updN β (88 + β 1) f) (98 + β 1) t) (108 + β 1) p) (118 + β 1) q) 1 (β 1 + 1)
theorem addB_1 {f t p q : Nat} : addB β f t p q 1 = β 1 + 1 := updN_eq
theorem addB_lo {f t p q j : Nat} (h : j < 88) (h1 : j ≠ 1) : addB β f t p q j = β j := by unfold addB; rw [updN_ne h1, updN_ne (by omega), updN_ne (by omega), updN_ne (by omega), updN_ne (by omega)]
theorem addB_88 {f t p q l : Nat} (h : β 1 < 10) (hl : l < 10) : addB β f t p q (88 + l) = if l = β 1 then f else β (88 + l) := by
  unfold addB
  rw [updN_ne (by omega), updN_ne (by omega), updN_ne (by omega), updN_ne (by omega)]
  unfold updN
  split <;> split <;> first | rfl | omega
theorem addB_98 {f t p q l : Nat} (h : β 1 < 10) (hl : l < 10) : addB β f t p q (98 + l) = if l = β 1 then t else β (98 + l) := by
  unfold addB
  rw [updN_ne (by omega), updN_ne (by omega), updN_ne (by omega)]
  unfold updN
  repeat' split
  all_goals first | rfl | omega
theorem addB_108 {f t p q l : Nat} (h : β 1 < 10) (hl : l < 10) : addB β f t p q (108 + l) = if l = β 1 then p else β (108 + l) := by
  unfold addB
  rw [updN_ne (by omega), updN_ne (by omega)]
  unfold updN
  repeat' split
  all_goals first | rfl | omega
theorem addB_118 {f t p q l : Nat} (h : β 1 < 10) (hl : l < 10) : addB β f t p q (118 + l) = if l = β 1 then q else β (118 + l) := by
  unfold addB
  rw [updN_ne (by omega)]
  unfold updN
  repeat' split
  all_goals first | rfl | omega
theorem addB_cl {f t p q : Nat} : cl (addB β f t p q) = cl β := by unfold cl; rw [addB_lo (by omega) (by omega), addB_lo (by omega) (by omega)]
theorem addB_wf (w : WF β) {f t p q : Nat} (h : β 1 < 10) (hf : f ≤ 9) (ht : t ≤ 9) (hp : p ≤ 4) (hq : q ≤ 9) : WF (addB β f t p q) := by
  obtain ⟨⟨w0, w1, w2, w3, w4, w5, w6, w7, w8⟩, wk, wd, wl⟩ := id w
  refine ⟨⟨by rw [addB_lo (by omega) (by omega)]; exact w0, by rw [addB_lo (by omega) (by omega)]; exact w1, by rw [addB_lo (by omega) (by omega)]; exact w2, by rw [addB_1]; omega, by rw [addB_lo (by omega) (by omega)]; exact w4, by rw [addB_lo (by omega) (by omega)]; exact w5, by rw [addB_lo (by omega) (by omega)]; exact w6, by rw [addB_lo (by omega) (by omega)]; exact w7, by rw [addB_cl, addB_lo (by omega) (by omega), addB_lo (by omega) (by omega)]; exact w8⟩, ?_, ?_, ?_⟩
  · intro a ha; rw [addB_lo (by omega) (by omega)]; exact wk a ha
  · intro k hk; rw [addB_lo (by omega) (by omega), addB_lo (by omega) (by omega), addB_lo (by omega) (by omega)]; exact wd k hk
  · intro l hl
    obtain ⟨l1, l2, l3, l4⟩ := wl l hl
    rw [addB_88 h hl, addB_98 h hl, addB_108 h hl, addB_118 h hl]
    split <;> omega
def addX (μ : Mm) (b l f t p q : Nat) : Mm := sI (sA (sA (sA (sA μ (b + 2) l (nI f)) (b + 3) l (nI t)) (b + 4) l (nI p)) (b + 5) l (nI q)) (b + 1) 0 (nI (l + 1))
theorem addX_ag {l f t p q : Nat} : Ag (fun a _ => b < a ∧ a < b + 6) μ (addX μ b l f t p q) := by
  unfold addX
  exact ((((Ag.sA (by omega)).tr (Ag.sA (by omega))).tr (Ag.sA (by omega))).tr (Ag.sA (by omega))).tr (Ag.sI (by omega))
theorem addX_bx (h : BX μ b β) (w : WF β) (hl : β 1 < 10) {f t p q : Nat} : BX (addX μ b (β 1) f t p q) b (addB β f t p q) := by
  have w0 := w.1.1
  have wc := w.cl_le
  obtain ⟨q1, q2, q3, q4, q5, q6, q7, q8, q9, q10, q11, q12, q13, q14, q15, q16⟩ := h
  have hA := addX_ag (μ := μ) (b := b) (l := β 1) (f := f) (t := t) (p := p) (q := q)
  have i0 := hA.I (a := b) (fun _ => by omega)
  refine ⟨by rw [i0, addB_lo (by omega) (by omega)]; exact q1, by rw [i0, addB_lo (by omega) (by omega)]; exact q2, by rw [i0, addB_lo (by omega) (by omega)]; exact q3, by rw [i0, addB_lo (by omega) (by omega)]; exact q4, by rw [i0, addB_lo (by omega) (by omega)]; exact q5, by rw [i0, addB_lo (by omega) (by omega)]; exact q6, by rw [i0, addB_lo (by omega) (by omega)]; exact q7, ?_, ?_, ?_, ?_, ?_, ?_, ?_, ?_, ?_⟩
  · rw [addB_1]; unfold addX; rw [mI_sI, if_pos rfl, if_pos rfl]
  · intro l hl2
    rw [addB_1] at hl2
    rw [addB_88 hl (by omega)]
    unfold addX
    rw [mA_sI, mA_ne (by omega), mA_ne (by omega), mA_ne (by omega), mA_sA, if_pos rfl]
    by_cases e : l = β 1
    · rw [if_pos e, if_pos e]
    · rw [if_neg e, if_neg e]; exact q9 l (by omega)
  · intro l hl2
    rw [addB_1] at hl2
    rw [addB_98 hl (by omega)]
    unfold addX
    rw [mA_sI, mA_ne (by omega), mA_ne (by omega), mA_sA, if_pos rfl]
    by_cases e : l = β 1
    · rw [if_pos e, if_pos e]
    · rw [if_neg e, if_neg e, mA_ne (by omega)]; exact q10 l (by omega)
  · intro l hl2
    rw [addB_1] at hl2
    rw [addB_108 hl (by omega)]
    unfold addX
    rw [mA_sI, mA_ne (by omega), mA_sA, if_pos rfl]
    by_cases e : l = β 1
    · rw [if_pos e, if_pos e]
    · rw [if_neg e, if_neg e, mA_ne (by omega), mA_ne (by omega)]; exact q11 l (by omega)
  · intro l hl2
    rw [addB_1] at hl2
    rw [addB_118 hl (by omega)]
    unfold addX
    rw [mA_sI, mA_sA, if_pos rfl]
    by_cases e : l = β 1
    · rw [if_pos e, if_pos e]
    · rw [if_neg e, if_neg e, mA_ne (by omega), mA_ne (by omega), mA_ne (by omega)]; exact q12 l (by omega)
  · intro a ha
    rw [addB_lo (by omega) (by omega)] at ha
    rw [hA.A (fun _ => by omega), addB_lo (by omega) (by omega)]; exact q13 a ha
  · intro k hk
    rw [addB_cl] at hk
    rw [hA.A (fun _ => by omega), addB_lo (by omega) (by omega)]; exact q14 k hk
  · intro k hk
    rw [addB_cl] at hk
    rw [hA.A (fun _ => by omega), addB_lo (by omega) (by omega)]; exact q15 k hk
  · intro k hk
    rw [addB_cl] at hk
    rw [hA.A (fun _ => by omega), addB_lo (by omega) (by omega)]; exact q16 k hk
theorem X_add (h : BX μ b β) (hl : β 1 < 10) {f t p q : Nat} {v : Int32} (hv : (if nI p = 0 then (0 : Int32) else v) = nI q) : f_X3_add (b + 1) (nI f) (nI t) (nI p) v μ = some (addX μ b (β 1) f t p q) := by
  unfold f_X3_add addX
  rw [hv]
  simp (disch := omega) only [Option.bind_some, wrA_n, mI_sA, h.laws, ltL, addL, hl, if_true]
theorem M_lays (h : CB μ β) (hl : β 1 < 10) {f t p q : Nat} : ∃ ν, f_X12_lays 0 (nI (β 1)) (nI f) (nI t) (nI p) (nI q) μ = some ν ∧ CB ν (addB β f t p q) ∧ Ag (fun a k => a = 146 ∧ k < 128) μ ν := by
  refine ⟨sA (sA (sA (sA (sA μ 146 (88 + β 1) (nI f)) 146 (98 + β 1) (nI t)) 146 (108 + β 1) (nI p)) 146 (118 + β 1) (nI q)) 146 1 (nI (β 1 + 1)), ?_, ((((h.wr (by omega) _).wr (by omega) _).wr (by omega) _).wr (by omega) _).wr (by omega) _, ((((Ag.sA ⟨rfl, by omega⟩).tr (Ag.sA ⟨rfl, by omega⟩)).tr (Ag.sA ⟨rfl, by omega⟩)).tr (Ag.sA ⟨rfl, by omega⟩)).tr (Ag.sA ⟨rfl, by omega⟩)⟩
  unfold f_X12_lays
  rw [show (400 : Int32) * 0 = nI 0 from rfl]
  have w1 : ∀ (ξ : Mm) (x : Int32), wrA ξ 146 2000 (nI 0 + 1) x = some (sA ξ 146 1 x) := fun ξ x => wrA_n (k := 1) (by omega) (by omega)
  rw [show (nI 0 + 88 : Int32) = nI 88 from rfl, show (nI 0 + 98 : Int32) = nI 98 from rfl, show (nI 0 + 108 : Int32) = nI 108 from rfl, show (nI 0 + 118 : Int32) = nI 118 from rfl]
  simp (disch := omega) only [Option.bind_some, nI_add, wrA_n, w1, addL]
theorem op_enact (h : R μ) (hF : 2000000 ≤ F) (v1 v2 v3 v4 : Int32) : Sm (f_X11_enact v1 v2 v3 v4) (f_X12_enact v1 v2 v3 v4) μ := by
  obtain ⟨β, nm, ω, σ, pg⟩ := h.pg
  have W := pg.wf
  have bx := pg.bx
  have gb := h.gb
  have hc : ∀ c, CB (V0 μ c) β := fun c => pg.c0.at rfl
  have hrp := h.rp
  unfold RefP at hrp
  have wl := W.1.2.2.2.1
  by_cases e1 : inR v1 0 9 = true
  · by_cases e2 : inR v2 0 9 = true
    · by_cases e3 : inR v3 0 4 = true
      · obtain ⟨f, -, hf, -, rfl⟩ := inR_of e1
        obtain ⟨t, -, ht, -, rfl⟩ := inR_of e2
        obtain ⟨p, -, hp, -, rfl⟩ := inR_of e3
        have key : ∀ q, q ≤ 9 → β 1 < 10 → (f_X11_enact (nI f) (nI t) (nI p) v4 μ = some (nI (β 1), sI (addX μ (mR μ 0) (β 1) f t p q) 0 0 0)) → (∀ ξ, CB ξ β → f_X12_enact (nI f) (nI t) (nI p) v4 ξ = (f_X12_lays 0 (nI (β 1)) (nI f) (nI t) (nI p) (nI q) (sI (sI ξ 141 1 0) 141 0 0)).bind fun ν => some (nI (β 1), ν)) → Sm (f_X11_enact (nI f) (nI t) (nI p) v4) (f_X12_enact (nI f) (nI t) (nI p) v4) μ := by
          intro q hq hl hx hm
          refine h.w pg (nI (β 1)) (ν := addX μ (mR μ 0) (β 1) f t p q) (β' := addB β f t p q) hx (addX_bx bx W hl) (addX_ag.mono ?_) ?_ (addX_ag.mono ?_) (addB_wf W hl hf ht hp hq) (by rw [addB_lo (by omega) (by omega)]; exact pg.hr) (addB_lo (by omega) (by omega)) (addB_lo (by omega) (by omega))
          · intro a k z; unfold S2; omega
          · intro ξ hξ
            have hc2 : CB (sI (sI ξ 141 1 0) 141 0 0) β := hξ.at rfl
            obtain ⟨ν, z1, z2, z3⟩ := M_lays hc2 hl (f := f) (t := t) (p := p) (q := q)
            refine ⟨ν, by rw [hm ξ hξ, z1]; rfl, by rw [z3.i (by omega)]; rfl, z2, ((Ag.sI (Or.inl ⟨rfl, by omega⟩)).tr (Ag.sI (Or.inl ⟨rfl, by omega⟩))).tr (z3.mono (fun a k z => Or.inr (Or.inl z)))⟩
          · intro a k z; omega
        have gbA : ∀ l f t p q, gBk (mR (addX μ (mR μ 0) l f t p q) 0) = some (mR μ 0) := fun l f t p q => gb
        have lA : ∀ l f t p q, mI (addX μ (mR μ 0) l f t p q) (mR μ 0 + 1) 0 - 1 = nI l := fun l f t p q => by unfold addX; rw [mI_sI, if_pos rfl, if_pos rfl, nI_pred]
        by_cases ep : p = 0
        · subst ep
          by_cases hl : β 1 < 10
          · have xa := X_add bx hl (f := f) (t := t) (p := 0) (q := 0) (v := v4) rfl
            refine key 0 (by omega) hl ?_ (fun ξ hξ => ?_)
            · unfold f_X11_enact
              simp (disch := omega) only [Option.bind_some, bd_some, eqL, leL, ltL, Lle, Llt, addL, Ladd, Lmul, mulL, nIle, nIlt, nIeq, nI_add, pk_mul, gb, X_cells bx, X_hasCell bx W, X_hasAccount bx W, X_hasLaw bx W, bx.wide, bx.tap, bx.odds, bx.acc, bx.stand, bx.hour, bx.stolen, bx.laws, bx.rD W, bx.rT W, bx.rH W, bx.rK W, bx.rF W, bx.rS W, bx.rP W, bx.rB W, X_isWrong bx W, X_wrongs bx W hF, X_tappedSet bx W hF, X_surplus bx W hF, within_L, inN_k, eq_self, if_true, if_false, Bool.false_eq_true, ans_X, ref_X, ver_X, e1, e2, e3, hl, xa, gbA, lA]
            · have hc2 : CB (sI (sI ξ 141 1 0) 141 0 0) β := hξ.at rfl
              have hne : ¬ β 1 = 10 := by omega
              unfold f_X12_enact
              simp (disch := omega) only [Option.bind_some, bd_some, isIn_L, eq_self, if_true, if_false, e1, e2, e3, hc2.r0, eqL, leL, hne]
              rfl
          · have e10 : β 1 = 10 := by omega
            exact h.q 7 (-1) (by unfold f_X11_enact; simp (disch := omega) only [Option.bind_some, bd_some, eqL, leL, ltL, Lle, Llt, addL, Ladd, Lmul, mulL, nIle, nIlt, nIeq, nI_add, pk_mul, gb, X_cells bx, X_hasCell bx W, X_hasAccount bx W, X_hasLaw bx W, bx.wide, bx.tap, bx.odds, bx.acc, bx.stand, bx.hour, bx.stolen, bx.laws, bx.rD W, bx.rT W, bx.rH W, bx.rK W, bx.rF W, bx.rS W, bx.rP W, bx.rB W, X_isWrong bx W, X_wrongs bx W hF, X_tappedSet bx W hF, X_surplus bx W hF, within_L, inN_k, eq_self, if_true, if_false, Bool.false_eq_true, ans_X, ref_X, ver_X, e1, e2, e3, e10]; rfl) (by unfold f_X12_enact; simp (disch := omega) only [Option.bind_some, bd_some, eqL, leL, ltL, Lle, Llt, addL, Ladd, Lmul, mulL, nIle, nIlt, nIeq, nI_add, pk_mul, M_cells (hc _), M_isCellAt (hc _) W, M_isAccountAt (hc _) W, M_isLawAt (hc _) W, (hc _).rd, (hc _).r0, M_isWrong (hc _) W, M_allWrong (hc _) W hF, M_tappedSet (hc _) W hF, M_balanced (hc _) W hF, M_isEven (hc _) W hF, isIn_L, inN_k, eq_self, if_true, if_false, Bool.false_eq_true, ans_M, no_M, e1, e2, e3, e10]; exact QM_r)
        · have ep2 : ¬ p ≤ 0 := by omega
          by_cases e4 : inR v4 0 9 = true
          · obtain ⟨q, -, hq, -, rfl⟩ := inR_of e4
            by_cases hl : β 1 < 10
            · have xa := X_add bx hl (f := f) (t := t) (p := p) (q := q) (v := nI q) (by rw [if_neg (fun z => ep ((eqL (n := 0) (by omega) (by decide)).mp z))])
              refine key q hq hl ?_ (fun ξ hξ => ?_)
              · unfold f_X11_enact
                simp (disch := omega) only [Option.bind_some, bd_some, eqL, leL, ltL, Lle, Llt, addL, Ladd, Lmul, mulL, nIle, nIlt, nIeq, nI_add, pk_mul, gb, X_cells bx, X_hasCell bx W, X_hasAccount bx W, X_hasLaw bx W, bx.wide, bx.tap, bx.odds, bx.acc, bx.stand, bx.hour, bx.stolen, bx.laws, bx.rD W, bx.rT W, bx.rH W, bx.rK W, bx.rF W, bx.rS W, bx.rP W, bx.rB W, X_isWrong bx W, X_wrongs bx W hF, X_tappedSet bx W hF, X_surplus bx W hF, within_L, inN_k, eq_self, if_true, if_false, Bool.false_eq_true, ans_X, ref_X, ver_X, e1, e2, e3, e4, ep, hl, xa, gbA, lA]
              · have hc2 : CB (sI (sI ξ 141 1 0) 141 0 0) β := hξ.at rfl
                have hne : ¬ β 1 = 10 := by omega
                unfold f_X12_enact
                simp (disch := omega) only [Option.bind_some, bd_some, isIn_L, eq_self, if_true, e1, e2, e3, e4, hc2.r0, eqL, leL, ep, ep2, if_false, hne]
            · have e10 : β 1 = 10 := by omega
              exact h.q 7 (-1) (by unfold f_X11_enact; simp (disch := omega) only [Option.bind_some, bd_some, eqL, leL, ltL, Lle, Llt, addL, Ladd, Lmul, mulL, nIle, nIlt, nIeq, nI_add, pk_mul, gb, X_cells bx, X_hasCell bx W, X_hasAccount bx W, X_hasLaw bx W, bx.wide, bx.tap, bx.odds, bx.acc, bx.stand, bx.hour, bx.stolen, bx.laws, bx.rD W, bx.rT W, bx.rH W, bx.rK W, bx.rF W, bx.rS W, bx.rP W, bx.rB W, X_isWrong bx W, X_wrongs bx W hF, X_tappedSet bx W hF, X_surplus bx W hF, within_L, inN_k, eq_self, if_true, if_false, Bool.false_eq_true, ans_X, ref_X, ver_X, e1, e2, e3, e4, ep, e10]; rfl) (by unfold f_X12_enact; simp (disch := omega) only [Option.bind_some, bd_some, eqL, leL, ltL, Lle, Llt, addL, Ladd, Lmul, mulL, nIle, nIlt, nIeq, nI_add, pk_mul, M_cells (hc _), M_isCellAt (hc _) W, M_isAccountAt (hc _) W, M_isLawAt (hc _) W, (hc _).rd, (hc _).r0, M_isWrong (hc _) W, M_allWrong (hc _) W hF, M_tappedSet (hc _) W hF, M_balanced (hc _) W hF, M_isEven (hc _) W hF, isIn_L, inN_k, eq_self, if_true, if_false, Bool.false_eq_true, ans_M, no_M, e1, e2, e3, e4, ep2, e10]; exact QM_r)
          · have z4 := inR_no e4
            exact h.q 5 (-1) (by unfold f_X11_enact; simp (disch := omega) only [Option.bind_some, bd_some, eqL, leL, ltL, Lle, Llt, addL, Ladd, Lmul, mulL, nIle, nIlt, nIeq, nI_add, pk_mul, gb, X_cells bx, X_hasCell bx W, X_hasAccount bx W, X_hasLaw bx W, bx.wide, bx.tap, bx.odds, bx.acc, bx.stand, bx.hour, bx.stolen, bx.laws, bx.rD W, bx.rT W, bx.rH W, bx.rK W, bx.rF W, bx.rS W, bx.rP W, bx.rB W, X_isWrong bx W, X_wrongs bx W hF, X_tappedSet bx W hF, X_surplus bx W hF, within_L, inN_k, eq_self, if_true, if_false, Bool.false_eq_true, ans_X, ref_X, ver_X, e1, e2, e3, z4, ep]) (by unfold f_X12_enact; simp (disch := omega) only [Option.bind_some, bd_some, eqL, leL, ltL, Lle, Llt, addL, Ladd, Lmul, mulL, nIle, nIlt, nIeq, nI_add, pk_mul, M_cells (hc _), M_isCellAt (hc _) W, M_isAccountAt (hc _) W, M_isLawAt (hc _) W, (hc _).rd, (hc _).r0, M_isWrong (hc _) W, M_allWrong (hc _) W hF, M_tappedSet (hc _) W hF, M_balanced (hc _) W hF, M_isEven (hc _) W hF, isIn_L, inN_k, eq_self, if_true, if_false, Bool.false_eq_true, ans_M, no_M, e1, e2, e3, z4, ep2]; exact QM_r)
      · have z := inR_no e3
        exact h.q 5 (-1) (by unfold f_X11_enact; simp (disch := omega) only [Option.bind_some, bd_some, eqL, leL, ltL, Lle, Llt, addL, Ladd, Lmul, mulL, nIle, nIlt, nIeq, nI_add, pk_mul, gb, X_cells bx, X_hasCell bx W, X_hasAccount bx W, X_hasLaw bx W, bx.wide, bx.tap, bx.odds, bx.acc, bx.stand, bx.hour, bx.stolen, bx.laws, bx.rD W, bx.rT W, bx.rH W, bx.rK W, bx.rF W, bx.rS W, bx.rP W, bx.rB W, X_isWrong bx W, X_wrongs bx W hF, X_tappedSet bx W hF, X_surplus bx W hF, within_L, inN_k, eq_self, if_true, if_false, Bool.false_eq_true, ans_X, ref_X, ver_X, e1, e2, z]) (by unfold f_X12_enact; simp (disch := omega) only [Option.bind_some, bd_some, eqL, leL, ltL, Lle, Llt, addL, Ladd, Lmul, mulL, nIle, nIlt, nIeq, nI_add, pk_mul, M_cells (hc _), M_isCellAt (hc _) W, M_isAccountAt (hc _) W, M_isLawAt (hc _) W, (hc _).rd, (hc _).r0, M_isWrong (hc _) W, M_allWrong (hc _) W hF, M_tappedSet (hc _) W hF, M_balanced (hc _) W hF, M_isEven (hc _) W hF, isIn_L, inN_k, eq_self, if_true, if_false, Bool.false_eq_true, ans_M, no_M, e1, e2, z]; exact QM_r)
    · have z := inR_no e2
      exact h.q 5 (-1) (by unfold f_X11_enact; simp (disch := omega) only [Option.bind_some, bd_some, eqL, leL, ltL, Lle, Llt, addL, Ladd, Lmul, mulL, nIle, nIlt, nIeq, nI_add, pk_mul, gb, X_cells bx, X_hasCell bx W, X_hasAccount bx W, X_hasLaw bx W, bx.wide, bx.tap, bx.odds, bx.acc, bx.stand, bx.hour, bx.stolen, bx.laws, bx.rD W, bx.rT W, bx.rH W, bx.rK W, bx.rF W, bx.rS W, bx.rP W, bx.rB W, X_isWrong bx W, X_wrongs bx W hF, X_tappedSet bx W hF, X_surplus bx W hF, within_L, inN_k, eq_self, if_true, if_false, Bool.false_eq_true, ans_X, ref_X, ver_X, e1, z]) (by unfold f_X12_enact; simp (disch := omega) only [Option.bind_some, bd_some, eqL, leL, ltL, Lle, Llt, addL, Ladd, Lmul, mulL, nIle, nIlt, nIeq, nI_add, pk_mul, M_cells (hc _), M_isCellAt (hc _) W, M_isAccountAt (hc _) W, M_isLawAt (hc _) W, (hc _).rd, (hc _).r0, M_isWrong (hc _) W, M_allWrong (hc _) W hF, M_tappedSet (hc _) W hF, M_balanced (hc _) W hF, M_isEven (hc _) W hF, isIn_L, inN_k, eq_self, if_true, if_false, Bool.false_eq_true, ans_M, no_M, e1, z]; exact QM_r)
  · have z := inR_no e1
    exact h.q 5 (-1) (by unfold f_X11_enact; simp (disch := omega) only [Option.bind_some, bd_some, eqL, leL, ltL, Lle, Llt, addL, Ladd, Lmul, mulL, nIle, nIlt, nIeq, nI_add, pk_mul, gb, X_cells bx, X_hasCell bx W, X_hasAccount bx W, X_hasLaw bx W, bx.wide, bx.tap, bx.odds, bx.acc, bx.stand, bx.hour, bx.stolen, bx.laws, bx.rD W, bx.rT W, bx.rH W, bx.rK W, bx.rF W, bx.rS W, bx.rP W, bx.rB W, X_isWrong bx W, X_wrongs bx W hF, X_tappedSet bx W hF, X_surplus bx W hF, within_L, inN_k, eq_self, if_true, if_false, Bool.false_eq_true, ans_X, ref_X, ver_X, z]) (by unfold f_X12_enact; simp (disch := omega) only [Option.bind_some, bd_some, eqL, leL, ltL, Lle, Llt, addL, Ladd, Lmul, mulL, nIle, nIlt, nIeq, nI_add, pk_mul, M_cells (hc _), M_isCellAt (hc _) W, M_isAccountAt (hc _) W, M_isLawAt (hc _) W, (hc _).rd, (hc _).r0, M_isWrong (hc _) W, M_allWrong (hc _) W hF, M_tappedSet (hc _) W hF, M_balanced (hc _) W hF, M_isEven (hc _) W hF, isIn_L, inN_k, eq_self, if_true, if_false, Bool.false_eq_true, ans_M, no_M, z]; exact QM_r)
end OPS4
