/-! ===== game, moveOf ===== -/
section GAME2
variable {μ : Mm} {b : Nat} {β : Nat → Nat} {F : Nat}
theorem M_wat (w : WF β) (hF : 2000000 ≤ F) {t D : Nat} (ht : t ≤ 2) (ih : ∀ (d : Nat → Nat) (s : Nat) (μ : Mm), (∀ k, k < cl β → d k ≤ 9) → s < cl β → CB μ (gm β d s) → ∃ ν, t_X12_thieves F D (nI t) 0 μ = some (nI (lo β t d s), ν) ∧ CB ν (gm β d s) ∧ Ag (fun a k => a = 146 ∧ k < 128) μ ν) {s : Nat} (hs : s < cl β) (d' : Nat → Nat) (μ : Mm) (hd : ∀ k, k < cl β → d' k ≤ 9) (h : CB μ (gm β d' s)) : ∃ ν, f_X12_watches F (t_X12_thieves F D) (nI (t + 1)) μ = some (nI (lsF β (lo β t) d' s), ν) ∧ CB ν (gm β d' s) ∧ Ag (fun a k => a = 146 ∧ k < 128) μ ν :=
  M_watches w hF ht hs hd (n := 9 * t) (by omega) (lo_le t hd) (fun s μ hs hc => ih d' s μ hd hs hc) h
theorem M_thieves (w : WF β) (hF : 2000000 ≤ F) : ∀ (t D : Nat), t ≤ 2 → t < D → ∀ (d : Nat → Nat) (s : Nat) (μ : Mm), (∀ k, k < cl β → d k ≤ 9) → s < cl β → CB μ (gm β d s) → ∃ ν, t_X12_thieves F D (nI t) 0 μ = some (nI (lo β t d s), ν) ∧ CB ν (gm β d s) ∧ Ag (fun a k => a = 146 ∧ k < 128) μ ν := by
  intro t
  induction t with
  | zero =>
    intro D ht hD d s μ hd hs h
    obtain ⟨D, rfl⟩ : ∃ q, D = q + 1 := ⟨D - 1, by omega⟩
    exact ⟨μ, rfl, h, Ag.rf⟩
  | succ t ih =>
    intro D ht hD d s μ hd hs h
    obtain ⟨D, rfl⟩ : ∃ q, D = q + 1 := ⟨D - 1, by omega⟩
    obtain ⟨ν, e1, e2, e3⟩ := M_thL (F := F) (rc := f_X12_watches F (t_X12_thieves F D)) (v1 := nI (t + 1)) (v2 := 0) (W := fun d' => lsF β (lo β t) d' s) (kk := fun u53 u54 μ55 => (if (0 : Int32) = 0 then some (u53, μ55) else some (u53, (sI μ55 141 37 u54)))) w hF hs hd (fun d' hd' => by have := lsF_le (β := β) (s := s) (lo_le t hd'); omega) (fun d' μ hd' hc => M_wat w hF (by omega) (fun d s μ => ih D (by omega) (by omega) d s μ) hs d' μ hd' hc) h
    refine ⟨ν, ?_, e2, e3⟩
    rw [t_X12_thieves_s]
    unfold f_X12_thieves
    rw [if_neg (fun z => by have z2 : t + 1 = 0 := (eqL (n := 0) (by omega) (by decide)).mp z; omega), e1, if_pos rfl]
    rfl
/-- with the first move -/
theorem M_thieves1 (w : WF β) (hF : 2000000 ≤ F) {t : Nat} (ht : t + 1 ≤ 2) {d : Nat → Nat} {s : Nat} {μ : Mm} (hd : ∀ k, k < cl β → d k ≤ 9) (hs : s < cl β) (h : CB μ (gm β d s)) : ∃ ν, t_X12_thieves F 9 (nI (t + 1)) 1 μ = some (nI (lo β (t + 1) d s), sI ν 141 37 (nI (bestW β d (fun d' => lsF β (lo β t) d' s) s (lo β (t + 1) d s)))) ∧ CB ν (gm β d s) ∧ Ag (fun a k => a = 146 ∧ k < 128) μ ν := by
  obtain ⟨ν, e1, e2, e3⟩ := M_thL (F := F) (rc := f_X12_watches F (t_X12_thieves F 8)) (v1 := nI (t + 1)) (v2 := 1) (W := fun d' => lsF β (lo β t) d' s) (kk := fun u53 u54 μ55 => (if (1 : Int32) = 0 then some (u53, μ55) else some (u53, (sI μ55 141 37 u54)))) w hF hs hd (fun d' hd' => by have := lsF_le (β := β) (s := s) (lo_le t hd'); omega) (fun d' μ hd' hc => M_wat w hF (by omega) (fun d s μ => M_thieves w hF t 8 (by omega) (by omega) d s μ) hs d' μ hd' hc) h
  refine ⟨ν, ?_, e2, e3⟩
  rw [t_X12_thieves_s F 8]
  unfold f_X12_thieves
  rw [if_neg (fun z => by have z2 : t + 1 = 0 := (eqL (n := 0) (by omega) (by decide)).mp z; omega), e1, if_neg (by decide)]
  rfl
theorem lo_eff (w : WF β) (t s : Nat) : lo β t (eff β 0) s = lo β t (dgs β) s := lo_cong t (fun k hk => eff_0 (by have := w.cl_le; omega)) s
theorem SM_146 {μ ν : Mm} (h : Ag (fun a k => a = 146 ∧ k < 128) μ ν) : Ag SM μ ν := h.mono (fun a k q => Or.inr (Or.inl ⟨q.1, Or.inl q.2⟩))
theorem op_game (h : R μ) (hF : 2000000 ≤ F) (v : Int32) : Sm (f_X11_game F v) (f_X12_game F v) μ := by
  obtain ⟨β, nm, ω, σ, pg⟩ := h.pg
  have W := pg.wf
  have bx := pg.bx
  have gb := h.gb
  have w0 := W.1.1
  have hcl := W.cl_le
  have hin : ∀ ξ, f_X12_isIn (v.toInt64) ((0 : Int32).toInt64) 2 ξ = some (inR v 0 2) := fun ξ => isIn_L (a := 0) (b := 2) (by decide) (by decide)
  by_cases e : inR v 0 2 = true
  · by_cases z : β 0 = 0
    · refine h.q 8 (-1) (by unfold f_X11_game; simp (disch := omega) only [within_L, e, Option.bind_some, eq_self, if_true, gb, bx.acc, z, ref_X, bd_some]; rfl) ?_
      have hc : CB (sI (sI μ 0 0 8) 141 1 0) β := pg.c0.at rfl
      unfold f_X12_game f_X12_whyNoGame
      rw [hin, e, Option.bind_some, if_pos rfl, hc.rl 0 (by omega), z]
      exact QM_s
    · obtain ⟨t, -, ht, -, rfl⟩ := inR_of e
      have hst := W.st (by omega) rfl
      have xl := X_loot bx W hF t 9 ht (by omega) (β 7) 0 hst
      rw [lo_eff W] at xl
      refine h.v pg 0 (nI (lo β t (dgs β) (β 7))) (ν := μ) (β' := β) ?_ bx Ag.rf Ag.rf (fun ξ hξ => ?_) W pg.hr rfl rfl
      · unfold f_X11_game
        simp (disch := omega) only [within_L, e, Option.bind_some, eq_self, if_true, gb, bx.acc, bx.stand, eqL, z, if_false, xl, ans_X, bd_some]
      · have hc : CB (sI ξ 141 1 0) β := hξ.at rfl
        have hc2 : CB (sI (sI ξ 141 1 0) 141 0 0) (gm β (dgs β) (β 7)) := by rw [gm_self]; exact hξ.at rfl
        have hwhy : f_X12_whyNoGame (nI t) 0 (sI ξ 141 1 0) = some 0 := by
          unfold f_X12_whyNoGame
          rw [hin, e, Option.bind_some, if_pos rfl, hc.rl 0 (by omega), Option.bind_some, if_neg (fun q => z ((eqL (n := 0) (by omega) (by decide)).mp q))]
        have hd : ∀ k, k < cl β → dgs β k ≤ 9 := fun k hk => (W.2.2.1 k (by omega)).1
        cases t with
        | zero =>
          refine ⟨sI (sI ξ 141 1 0) 141 0 0, ?_, rfl, hξ.at rfl, SM_0⟩
          unfold f_X12_game
          rw [hwhy, Option.bind_some, if_pos (by show (0 : Int32) ≤ 0; decide)]
          rfl
        | succ t =>
          obtain ⟨ζ, e1, e2, e3⟩ := M_thieves1 (F := F) W hF (t := t) ht hd hst hc2
          rw [gm_self] at e2
          refine ⟨sI ζ 141 37 (nI (bestW β (dgs β) (fun d' => lsF β (lo β t) d' (β 7)) (β 7) (lo β (t + 1) (dgs β) (β 7)))), ?_, ?_, e2.at rfl, (SM_0.tr (SM_146 e3)).tr (Ag.sI (Or.inl ⟨rfl, by omega⟩))⟩
          · unfold f_X12_game
            rw [hwhy, Option.bind_some, if_pos (by show (0 : Int32) ≤ 0; decide), e1]
            rfl
          · rw [mI_nk (by omega), e3.i (by omega)]; rfl
  · have z := inR_no e
    refine h.q 5 (-1) (by unfold f_X11_game; simp (disch := omega) only [within_L, z, Option.bind_some, Bool.false_eq_true, if_false, ref_X, bd_some]) ?_
    unfold f_X12_game f_X12_whyNoGame
    rw [hin, z]
    exact QM_s
theorem X_firstTheft (h : BX μ b β) (w : WF β) (hF : 2000000 ≤ F) {t : Nat} (ht : t + 1 ≤ 2) (hst : β 7 < cl β) : f_X2_firstTheft F b (nI (t + 1)) μ = some (oI (fndF (fun c => canS β (dgs β) (β 7) c && decide (dgs β c + lsF β (lo β t) (updN (dgs β) c 0) (β 7) = lo β (t + 1) (dgs β) (β 7))) 0 (cl β))) := by
  have hc := w.cl_le
  have xl := X_loot h w hF (t + 1) 9 ht (by omega) (β 7) 0 hst
  rw [lo_eff w] at xl
  have hL : lo β (t + 1) (dgs β) (β 7) ≤ 9 * (t + 1) := lo_le (t + 1) (fun k hk => (w.2.2.1 k (by omega)).1) _
  unfold f_X2_firstTheft
  rw [h.stand, xl, Option.bind_some]
  have key := seek1 (L := L_X2_firstTheft_13 F b (nI (t + 1)) (nI (lo β (t + 1) (dgs β) (β 7))) (some (-1)) μ) (K := some (-1)) (G := fun l => some (nI l)) (F := F) (N := cl β) (fun c => canS β (dgs β) (β 7) c && decide (dgs β c + lsF β (lo β t) (updN (dgs β) c 0) (β 7) = lo β (t + 1) (dgs β) (β 7))) 0 (by omega) (fun i hi n => ?_) (fun n => ?_)
  · rw [nI_0] at key
    rw [key]
    cases fndF (fun c => canS β (dgs β) (β 7) c && decide (dgs β c + lsF β (lo β t) (updN (dgs β) c 0) (β 7) = lo β (t + 1) (dgs β) (β 7))) 0 (cl β) <;> rfl
  · have hcs := X_canSteal h w (g := 0) hst hi
    have he : canS β (eff β 0) (β 7) i = canS β (dgs β) (β 7) i := by unfold canS; rw [eff_0 (by omega)]
    rw [he] at hcs
    have hlbs : t_X2_lootBehindStep F 9 b (nI t) (nI (β 7)) ((1 : Int32) <<< (nI i &&& 31)) μ = some (nI (lsF β (lo β t) (updN (dgs β) i 0) (β 7))) := by
      have q := X_lbs h w hF (rc := t_X2_loot F 9) (f := lo β t) (t := t) (s := β 7) (n := 9 * t) (g := (1 : Int32) <<< (nI i &&& 31)) (by omega) hst (by omega) (lo_le t (fun k hk => eff_le w hk)) (fun e s => by subst e; rfl) (fun _ s hs => X_loot h w hF t 9 (by omega) (by omega) s _ hs)
      have hz : ∀ j, j < cl β → eff β ((1 : Int32) <<< (nI i &&& 31)) j = updN (dgs β) i 0 j := by
        intro j hj
        unfold eff updN dgs
        rw [bit_sh (by omega) (by omega)]
        by_cases e : j = i
        · rw [if_pos (decide_eq_true e), if_pos e]
        · rw [if_neg (by simp [e]), if_neg e]
      rw [lsF_cong (lo_cong t hz)] at q
      exact q
    have hu : ∀ j, j < cl β → updN (dgs β) i 0 j ≤ 9 := fun j hj => by unfold updN; split; omega; exact (w.2.2.1 j (by omega)).1
    have hb : lsF β (lo β t) (updN (dgs β) i 0) (β 7) ≤ 9 * t := lsF_le (lo_le t hu)
    have hd9 := (w.2.2.1 i (by omega)).1
    rw [L_X2_firstTheft_13_s]
    simp only [Nat.zero_add]
    rw [X_cells h, Option.bind_some, if_neg (fun z => by have := (nIle (by omega) (by omega)).mp z; omega), h.stand, hcs, Option.bind_some]
    by_cases e : canS β (dgs β) (β 7) i = true
    · rw [if_pos e, h.rD w hi, Option.bind_some, nI_pred, hlbs, Option.bind_some, nI_add, e, Bool.true_and]
      show (if nI (dgs β i + _) = _ then _ else _) = _
      by_cases z : dgs β i + lsF β (lo β t) (updN (dgs β) i 0) (β 7) = lo β (t + 1) (dgs β) (β 7)
      · rw [if_pos (by rw [z]), if_pos (decide_eq_true z)]
      · have hdg : dgs β i ≤ 9 := hd9
        rw [if_neg (fun y => z ((nIeq (by omega) (by omega)).mp y)), if_neg (by simp [z]), nI_1]
    · have e2 : canS β (dgs β) (β 7) i = false := by cases hh : canS β (dgs β) (β 7) i; rfl; exact absurd hh e
      rw [if_neg e, e2, Bool.false_and, if_neg (by decide), nI_1]
  · rw [L_X2_firstTheft_13_s, X_cells h, Option.bind_some, Nat.zero_add, if_pos ((nIle (by omega) (by omega)).mpr (by omega))]
theorem op_moveOf (h : R μ) (hF : 2000000 ≤ F) (v : Int32) : Sm (f_X11_moveOf F v) (f_X12_moveOf F v) μ := by
  obtain ⟨β, nm, ω, σ, pg⟩ := h.pg
  have W := pg.wf
  have bx := pg.bx
  have gb := h.gb
  have w0 := W.1.1
  have hcl := W.cl_le
  have hin : ∀ ξ, f_X12_isIn (v.toInt64) ((1 : Int32).toInt64) 2 ξ = some (inR v 1 2) := fun ξ => isIn_L (a := 1) (b := 2) (by decide) (by decide)
  by_cases e : inR v 1 2 = true
  · by_cases z : β 0 = 0
    · refine h.q 8 (-1) (by unfold f_X11_moveOf; simp (disch := omega) only [within_L, e, Option.bind_some, eq_self, if_true, gb, bx.acc, z, ref_X, bd_some]; rfl) ?_
      have hc : CB (sI (sI μ 0 0 8) 141 1 0) β := pg.c0.at rfl
      unfold f_X12_moveOf f_X12_whyNoGame
      rw [hin, e, Option.bind_some, if_pos rfl, hc.rl 0 (by omega), z]
      exact QM_s
    · obtain ⟨t, ht1, ht, -, rfl⟩ := inR_of e
      obtain ⟨t, rfl⟩ : ∃ q, t = q + 1 := ⟨t - 1, by omega⟩
      have hst := W.st (by omega) rfl
      have xf := X_firstTheft bx W hF ht hst
      have hd : ∀ k, k < cl β → dgs β k ≤ 9 := fun k hk => (W.2.2.1 k (by omega)).1
      have hM : ∀ ξ, CB ξ β → ∃ ζ, CB ζ β ∧ Ag SM ξ ζ ∧ mI ζ 141 0 = 0 ∧ f_X12_moveOf F (nI (t + 1)) ξ = (if nI (bestW β (dgs β) (fun d' => lsF β (lo β t) d' (β 7)) (β 7) (lo β (t + 1) (dgs β) (β 7))) = nI (cl β) then some (-1, sI ζ 141 0 8) else some (nI (bestW β (dgs β) (fun d' => lsF β (lo β t) d' (β 7)) (β 7) (lo β (t + 1) (dgs β) (β 7))), ζ)) := by
        intro ξ hξ
        have hc : CB (sI ξ 141 1 0) β := hξ.at rfl
        have hc2 : CB (sI (sI ξ 141 1 0) 141 0 0) (gm β (dgs β) (β 7)) := by rw [gm_self]; exact hξ.at rfl
        obtain ⟨ζ, e1, e2, e3⟩ := M_thieves1 (F := F) W hF (t := t) ht hd hst hc2
        rw [gm_self] at e2
        obtain ⟨ζ', hζ'⟩ : ∃ ζ', ζ' = sI ζ 141 37 (nI (bestW β (dgs β) (fun d' => lsF β (lo β t) d' (β 7)) (β 7) (lo β (t + 1) (dgs β) (β 7)))) := ⟨_, rfl⟩
        have e2' : CB ζ' β := by rw [hζ']; exact e2.at rfl
        have m37 : mI ζ' 141 37 = nI (bestW β (dgs β) (fun d' => lsF β (lo β t) d' (β 7)) (β 7) (lo β (t + 1) (dgs β) (β 7))) := by rw [hζ']; rfl
        refine ⟨ζ', e2', ?_, ?_, ?_⟩
        · rw [hζ']; exact (SM_0.tr (SM_146 e3)).tr (Ag.sI (Or.inl ⟨rfl, by omega⟩))
        · rw [hζ', mI_nk (by omega), e3.i (by omega)]; rfl
        · have hwhy : f_X12_whyNoGame (nI (t + 1)) 1 (sI ξ 141 1 0) = some 0 := by
            unfold f_X12_whyNoGame
            rw [hin, e, Option.bind_some, if_pos rfl, hc.rl 0 (by omega), Option.bind_some, if_neg (fun q => z ((eqL (n := 0) (by omega) (by decide)).mp q))]
          unfold f_X12_moveOf
          rw [hwhy, Option.bind_some, if_pos (by show (0 : Int32) ≤ 0; decide), e1, bd_some, ← hζ', M_cells e2', Option.bind_some, m37]
          rfl
      cases hf : fndF (fun c => canS β (dgs β) (β 7) c && decide (dgs β c + lsF β (lo β t) (updN (dgs β) c 0) (β 7) = lo β (t + 1) (dgs β) (β 7))) 0 (cl β) with
      | none =>
        rw [hf] at xf
        have hbw : bestW β (dgs β) (fun d' => lsF β (lo β t) d' (β 7)) (β 7) (lo β (t + 1) (dgs β) (β 7)) = cl β := by unfold bestW; rw [hf]
        refine h.v pg 8 (-1) (ν := μ) (β' := β) ?_ bx Ag.rf Ag.rf (fun ξ hξ => ?_) W pg.hr rfl rfl
        · unfold f_X11_moveOf
          simp (disch := omega) only [within_L, e, Option.bind_some, eq_self, if_true, gb, bx.acc, eqL, z, if_false, xf, oI_none, ref_X, bd_some]
        · obtain ⟨ζ, z1, z2, z3, z4⟩ := hM ξ hξ
          exact ⟨sI ζ 141 0 8, by rw [z4, hbw, if_pos rfl], rfl, z1.at rfl, z2.tr SM_st⟩
      | some c =>
        rw [hf] at xf
        have hcc := (fndF_some hf).2.1
        have hbw : bestW β (dgs β) (fun d' => lsF β (lo β t) d' (β 7)) (β 7) (lo β (t + 1) (dgs β) (β 7)) = c := by unfold bestW; rw [hf]
        refine h.v pg 0 (nI c) (ν := μ) (β' := β) ?_ bx Ag.rf Ag.rf (fun ξ hξ => ?_) W pg.hr rfl rfl
        · have hn1 : (nI c = -1) = False := neg_ne (by omega)
          unfold f_X11_moveOf
          simp (disch := omega) only [within_L, e, Option.bind_some, eq_self, if_true, gb, bx.acc, eqL, z, if_false, xf, oI_some, hn1, ans_X, bd_some]
        · obtain ⟨ζ, z1, z2, z3, z4⟩ := hM ξ hξ
          exact ⟨ζ, by rw [z4, hbw, if_neg (fun y => by have := (nIeq (by omega) (by omega)).mp y; omega)], z3, z1, z2⟩
  · have z := inR_no e
    refine h.q 5 (-1) (by unfold f_X11_moveOf; simp (disch := omega) only [within_L, z, Option.bind_some, Bool.false_eq_true, if_false, ref_X, bd_some]) ?_
    unfold f_X12_moveOf f_X12_whyNoGame
    rw [hin, z]
    exact QM_s
end GAME2
