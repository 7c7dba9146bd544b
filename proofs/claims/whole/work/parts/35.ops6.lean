/-! ===== what is sought ahead: wrongBy, evenIn, stillIn ===== -/
section OPS6
variable {μ : Mm} {b : Nat} {β : Nat → Nat} {F : Nat}
abbrev PH (a k : Nat) : Prop := (a = 146 ∧ k < 128) ∨ a = 150
theorem M_seek {ρ : Type} {L : Nat → Int32 → Int32 → Mm → Option ρ} {K : Int32 → Mm → Option ρ} (p : Nat → Bool)
    (hb : ∀ i μ, i ≤ 300 → CB μ (hrs β i) → ∃ ν, CB ν (hrs β (i + 1)) ∧ Ag PH μ ν ∧ ∀ n, L (n + 1) (-1) (nI i) μ = L n (if p i = true then nI i else -1) (nI (i + 1)) ν)
    (he1 : ∀ n μ, L (n + 1) (-1) (nI 301) μ = K (-1) μ) (he2 : ∀ n i j μ, i ≤ 300 → j ≤ 301 → L (n + 1) (nI i) (nI j) μ = K (nI i) μ)
    (h : CB μ β) (hF : 2000000 ≤ F) : ∃ ν, L F (-1) 0 μ = K (oI (fndF p 0 301)) ν ∧ Ag PH μ ν := by
  have key : ∀ m i n μ, i + m = 301 → m + 1 < n → CB μ (hrs β i) → ∃ ν, L n (-1) (nI i) μ = K (oI (fndF p i m)) ν ∧ Ag PH μ ν := by
    intro m
    induction m with
    | zero =>
      intro i n μ hi hn h
      obtain ⟨n, rfl⟩ : ∃ q, n = q + 1 := ⟨n - 1, by omega⟩
      rw [show i = 301 by omega]
      exact ⟨μ, he1 n μ, Ag.rf⟩
    | succ m ih =>
      intro i n μ hi hn h
      obtain ⟨n, rfl⟩ : ∃ q, n = q + 1 := ⟨n - 1, by omega⟩
      obtain ⟨ν, h1, h2, h3⟩ := hb i μ (by omega) h
      rw [h3, fndF_s]
      by_cases e : p i = true
      · rw [if_pos e, if_pos e]
        obtain ⟨n, rfl⟩ : ∃ q, n = q + 1 := ⟨n - 1, by omega⟩
        exact ⟨ν, he2 n i (i + 1) ν (by omega) (by omega), h2⟩
      · rw [if_neg e, if_neg e]
        obtain ⟨ξ, q1, q2⟩ := ih (i + 1) n ν (by omega) (by omega) h1
        exact ⟨ξ, q1, h2.tr q2⟩
  exact key 301 0 F μ (by omega) (by omega) h
theorem X_seek {L : Nat → Int32 → Mm → Option (Int32 × Mm)} (p : Nat → Bool) {P : Nat → Nat → Prop}
    (hb : ∀ i μ, i ≤ 300 → BX μ b (hrs β i) → ∃ ν, Ag P μ ν ∧ (p i = true → ∀ n, L (n + 1) (nI i) μ = some (nI i, sI ν 0 0 0)) ∧ (¬ p i = true → BX ν b (hrs β (i + 1)) ∧ ∀ n, L (n + 1) (nI i) μ = L n (nI (i + 1)) ν))
    (he : ∀ n μ, L (n + 1) (nI 301) μ = some (-1, sI μ 0 0 8)) (h : BX μ b β) (hF : 2000000 ≤ F) : ∃ ν, Ag P μ ν ∧ L F 0 μ = some (oI (fndF p 0 301), sI ν 0 0 (if fndF p 0 301 = none then 8 else 0)) := by
  have key : ∀ m i n μ, i + m = 301 → m < n → BX μ b (hrs β i) → ∃ ν, Ag P μ ν ∧ L n (nI i) μ = some (oI (fndF p i m), sI ν 0 0 (if fndF p i m = none then 8 else 0)) := by
    intro m
    induction m with
    | zero =>
      intro i n μ hi hn h
      obtain ⟨n, rfl⟩ : ∃ q, n = q + 1 := ⟨n - 1, by omega⟩
      rw [show i = 301 by omega]
      exact ⟨μ, Ag.rf, he n μ⟩
    | succ m ih =>
      intro i n μ hi hn h
      obtain ⟨n, rfl⟩ : ∃ q, n = q + 1 := ⟨n - 1, by omega⟩
      obtain ⟨ν, h1, h2, h3⟩ := hb i μ (by omega) h
      rw [fndF_s]
      by_cases e : p i = true
      · rw [if_pos e, h2 e]
        exact ⟨ν, h1, rfl⟩
      · rw [if_neg e]
        obtain ⟨q1, q2⟩ := h3 e
        obtain ⟨ξ, z1, z2⟩ := ih (i + 1) n ν (by omega) (by omega) q1
        exact ⟨ξ, h1.tr z1, by rw [q2]; exact z2⟩
  exact key 301 0 F μ (by omega) (by omega) h
theorem pass_P {μ ν : Mm} (h : Ag (fun a k => a = b + 8 ∨ a = b + 10 ∨ a = b + 11 ∨ (a = b ∧ k = 5)) μ ν) : Ag (fun a _ => b ≤ a ∧ a < b + 12) μ ν := h.mono (fun a k q => by omega)
/-- both sides of a search -/
theorem op_seek {fx fm : Mm → Option (Int32 × Mm)} (h : R μ) {β nm ω σ} (pg : PG μ (mR μ 0) (mR μ 2) 0 β nm ω σ) (p : Nat → Bool)
    (hx : ∃ ν, Ag (fun a _ => mR μ 1 ≤ a ∧ a < mR μ 1 + 12) μ ν ∧ fx μ = some (oI (fndF p 0 301), sI ν 0 0 (if fndF p 0 301 = none then 8 else 0)))
    (hm : ∀ ξ, CB ξ β → ∃ ζ, Ag PH (putA (sI (sI ξ 141 1 0) 141 0 0) 147 (fun k => nI (β k)) 0 128) ζ ∧ fm ξ = (f_X12_gives F ζ).bind fun μ13 => (if 0 ≤ oI (fndF p 0 301) then some (oI (fndF p 0 301), μ13) else bd (f_X12_refuse 8 μ13) fun x15 μ16 => some (x15, μ16))) (hF : 2000000 ≤ F) : Sm fx fm μ := by
  obtain ⟨ν, x1, x2⟩ := hx
  refine h.v pg _ _ (ν := ν) (β' := β) x2 (spare_bx h x1 pg.bx) (spare_S2 x1) (spare_lt h x1) (fun ξ hξ => ?_) pg.wf pg.hr rfl rfl
  obtain ⟨ζ, z1, z2⟩ := hm ξ hξ
  have z7 : ∀ i, i < 128 → mA ζ 147 i = nI (β i) := fun i hi => by rw [z1.A (fun _ => by omega), putA_mA, if_pos (by omega)]
  have hA : Ag SM ξ (putA ζ 146 (fun k => nI (β k)) 0 128) := ((SM_0.tr SM_put7).tr (SM_hr z1)).tr (SM_put (by omega))
  have hst : mI (putA ζ 146 (fun k => nI (β k)) 0 128) 141 0 = 0 := by
    rw [(putA_ag (P := fun a _ => a = 146) (fun _ _ _ => rfl)).i (by omega), z1.i (by omega), (putA_ag (P := fun a _ => a = 147) (fun _ _ _ => rfl)).i (by omega)]
    rfl
  rw [z2, M_gives z7 hF, Option.bind_some]
  cases hf : fndF p 0 301 with
  | none => exact ⟨_, rfl, rfl, CB_put.at rfl, hA.tr SM_st⟩
  | some i =>
    have := (fndF_some hf).2.1
    rw [if_pos (by rw [oI_some]; exact nI_pos' (by omega))]
    exact ⟨_, rfl, hst, CB_put, hA⟩
theorem op_wrongBy (h : R μ) (hF : 2000000 ≤ F) (v : Int32) : Sm (f_X11_wrongBy F v) (f_X12_wrongBy F v) μ := by
  obtain ⟨β, nm, ω, σ, pg⟩ := h.pg
  have W := pg.wf
  have bx := pg.bx
  have gb := h.gb
  have gb1 := h.gb1
  have hc : ∀ c, CB (V0 μ c) β := fun c => pg.c0.at rfl
  have hcl := W.cl_le
  have h5 := pg.hr
  by_cases e : inN v (cl β) = true
  · obtain ⟨k, hk, hk2, rfl⟩ := inN_of e
    obtain ⟨ν, x1, x2, x3⟩ := X_spareAhead h bx W hF (n := 0) (by omega)
    refine op_seek (F := F) h pg (fun i => wrg (hrs β i) k) ?_ (fun ξ hξ => ?_) hF
    · have key := X_seek (b := mR μ 1) (β := β) (L := L_X11_wrongBy_25 F (nI k) (mR μ 1) (fun μ13 => bd (f_X11_refuse 8 μ13) fun x14 μ15 => some (x14, μ15))) (fun i => wrg (hrs β i) k) (P := fun a _ => mR μ 1 ≤ a ∧ a < mR μ 1 + 12) (fun i μ' hi hB => ?_) (fun n μ' => by rw [L_X11_wrongBy_25_s]; rfl) x2 hF
      · obtain ⟨ξ, s1, s2⟩ := key
        refine ⟨ξ, x3.tr s1, ?_⟩
        unfold f_X11_wrongBy
        simp (disch := omega) only [Option.bind_some, bd_some, eqL, leL, ltL, Lle, Llt, addL, Ladd, Lmul, mulL, nIle, nIlt, nIeq, nI_add, pk_mul, gb, X_cells bx, X_hasCell bx W, X_hasAccount bx W, X_hasLaw bx W, bx.wide, bx.tap, bx.odds, bx.acc, bx.stand, bx.hour, bx.stolen, bx.laws, bx.rD W, bx.rT W, bx.rH W, bx.rK W, bx.rF W, bx.rS W, bx.rP W, bx.rB W, X_isWrong bx W, X_wrongs bx W hF, X_tappedSet bx W hF, X_surplus bx W hF, within_L, inN_k, eq_self, if_true, if_false, Bool.false_eq_true, ans_X, ref_X, ver_X, gb1]
        rw [show (0 : Int32) = nI 0 from rfl, x1]
        simp only [bd_some, gb1, Option.bind_some]
        exact s2
      · have Wi := W.hrs i (by omega)
        have hw := X_isWrong hB Wi (k := k) (by rw [hrs_cl]; exact hk)
        by_cases z : wrg (hrs β i) k = true
        · refine ⟨μ', Ag.rf, fun _ n => ?_, fun q => absurd z q⟩
          rw [L_X11_wrongBy_25_s]
          simp (disch := omega) only [Option.bind_some, bd_some, eqL, leL, ltL, Lle, Llt, addL, Ladd, Lmul, mulL, nIle, nIlt, nIeq, nI_add, pk_mul, hw, z, eq_self, if_true, ans_X]
          rw [if_neg (by omega)]
        · have z2 : wrg (hrs β i) k = false := by cases hh : wrg (hrs β i) k; rfl; exact absurd hh z
          obtain ⟨ν', x', e1, e2, e3, e4⟩ := X_passHours (F := F) hB Wi hF (n := 1) (by rw [hrs_5]; omega)
          refine ⟨ν', pass_P e3, fun q => absurd q z, fun _ => ⟨e2, fun n => ?_⟩⟩
          rw [L_X11_wrongBy_25_s]
          rw [show (1 : Int32) = nI 1 from rfl]
          simp (disch := omega) only [Option.bind_some, bd_some, hw, z2, Bool.false_eq_true, if_false, e1, Llt, nI_add]
          rw [if_neg (by omega)]
    · have hc2 : CB (sI (sI ξ 141 1 0) 141 0 0) β := hξ.at rfl
      have hp : CB (putA (sI (sI ξ 141 1 0) 141 0 0) 147 (fun k => nI (β k)) 0 128) β := hc2.at ((putA_ag (P := fun a _ => a = 147) (fun _ _ _ => rfl)).A (fun _ => by omega))
      have key := M_seek (F := F) (β := β) (K := (fun u10 μ11 => (f_X12_gives F μ11).bind fun μ13 => (if 0 ≤ u10 then some (u10, μ13) else bd (f_X12_refuse 8 μ13) fun x15 μ16 => some (x15, μ16)))) (L := L_X12_wrongBy_32 F (nI k) (fun u10 μ11 => (f_X12_gives F μ11).bind fun μ13 => (if 0 ≤ u10 then some (u10, μ13) else bd (f_X12_refuse 8 μ13) fun x15 μ16 => some (x15, μ16)))) (fun i => wrg (hrs β i) k) (fun i μ' hi hB => ?_) (fun n μ' => by rw [L_X12_wrongBy_32_s]; rfl) (fun n i j μ' hi hj => by rw [L_X12_wrongBy_32_s, if_pos (nI_pos' (by omega))]; split <;> rfl) hp hF
      · obtain ⟨ζ, z1, z2⟩ := key
        refine ⟨ζ, z2, ?_⟩
        unfold f_X12_wrongBy
        simp (disch := omega) only [Option.bind_some, bd_some, M_isCellAt hc2 W, inN_k, eq_self, if_true, M_puts hc2 hF]
        exact z1
      · have Wi := W.hrs i (by omega)
        obtain ⟨ν', e1, e2, e3⟩ := M_goesHour (F := F) hB Wi hF
        refine ⟨ν', e2, e3, fun n => ?_⟩
        rw [L_X12_wrongBy_32_s, if_neg (fun z => by have q : 300 < i := (Llt (n := 300) (a := i) (by omega) (by decide)).mp z; omega), if_neg (by decide), M_isWrong hB Wi (by omega), e1]
        simp only [Option.bind_some, bd_some, addL]
  · have e3 := inN_no e
    exact h.q 2 (-1) (by unfold f_X11_wrongBy; simp (disch := omega) only [Option.bind_some, bd_some, eqL, leL, ltL, Lle, Llt, addL, Ladd, Lmul, mulL, nIle, nIlt, nIeq, nI_add, pk_mul, gb, X_cells bx, X_hasCell bx W, X_hasAccount bx W, X_hasLaw bx W, bx.wide, bx.tap, bx.odds, bx.acc, bx.stand, bx.hour, bx.stolen, bx.laws, bx.rD W, bx.rT W, bx.rH W, bx.rK W, bx.rF W, bx.rS W, bx.rP W, bx.rB W, X_isWrong bx W, X_wrongs bx W hF, X_tappedSet bx W hF, X_surplus bx W hF, within_L, inN_k, eq_self, if_true, if_false, Bool.false_eq_true, ans_X, ref_X, ver_X, e3]) (by unfold f_X12_wrongBy; simp (disch := omega) only [Option.bind_some, bd_some, eqL, leL, ltL, Lle, Llt, addL, Ladd, Lmul, mulL, nIle, nIlt, nIeq, nI_add, pk_mul, M_cells (hc _), M_isCellAt (hc _) W, M_isAccountAt (hc _) W, M_isLawAt (hc _) W, (hc _).rd, (hc _).r0, M_isWrong (hc _) W, M_allWrong (hc _) W hF, M_tappedSet (hc _) W hF, M_balanced (hc _) W hF, M_isEven (hc _) W hF, isIn_L, inN_k, eq_self, if_true, if_false, Bool.false_eq_true, ans_M, no_M, e3]; exact QM_r)
theorem op_evenIn (h : R μ) (hF : 2000000 ≤ F) : Sm (f_X11_evenIn F) (f_X12_evenIn F) μ := by
  obtain ⟨β, nm, ω, σ, pg⟩ := h.pg
  have W := pg.wf
  have bx := pg.bx
  have gb := h.gb
  have gb1 := h.gb1
  have hcl := W.cl_le
  have h5 := pg.hr
  obtain ⟨ν, x1, x2, x3⟩ := X_spareAhead h bx W hF (n := 0) (by omega)
  refine op_seek (F := F) h pg (fun i => decide (bal (hrs β i) = 0)) ?_ (fun ξ hξ => ?_) hF
  · have key := X_seek (b := mR μ 1) (β := β) (L := L_X11_evenIn_8 F (mR μ 1) (fun μ10 => bd (f_X11_refuse 8 μ10) fun x11 μ12 => some (x11, μ12))) (fun i => decide (bal (hrs β i) = 0)) (P := fun a _ => mR μ 1 ≤ a ∧ a < mR μ 1 + 12) (fun i μ' hi hB => ?_) (fun n μ' => by rw [L_X11_evenIn_8_s]; rfl) x2 hF
    · obtain ⟨ξ, s1, s2⟩ := key
      refine ⟨ξ, x3.tr s1, ?_⟩
      unfold f_X11_evenIn
      rw [show (0 : Int32) = nI 0 from rfl, x1]
      simp only [bd_some, gb1, Option.bind_some]
      exact s2
    · have Wi := W.hrs i (by omega)
      have hw := X_surplus (F := F) hB Wi hF
      by_cases z : bal (hrs β i) = 0
      · refine ⟨μ', Ag.rf, fun _ n => ?_, fun q => absurd (decide_eq_true z) q⟩
        rw [L_X11_evenIn_8_s]
        simp (disch := omega) only [Option.bind_some, bd_some, eqL, leL, ltL, Lle, Llt, addL, Ladd, Lmul, mulL, nIle, nIlt, nIeq, nI_add, pk_mul, hw, z, eq_self, if_true, ans_X]
        rw [if_neg (by omega)]
      · obtain ⟨ν', x', e1, e2, e3, e4⟩ := X_passHours (F := F) hB Wi hF (n := 1) (by rw [hrs_5]; omega)
        refine ⟨ν', pass_P e3, fun q => absurd (of_decide_eq_true q) z, fun _ => ⟨e2, fun n => ?_⟩⟩
        rw [L_X11_evenIn_8_s]
        rw [show (1 : Int32) = nI 1 from rfl]
        simp (disch := omega) only [Option.bind_some, bd_some, hw, z, if_false, e1, Llt, nI_add]
        rw [if_neg (by omega)]
  · have hc2 : CB (sI (sI ξ 141 1 0) 141 0 0) β := hξ.at rfl
    have hp : CB (putA (sI (sI ξ 141 1 0) 141 0 0) 147 (fun k => nI (β k)) 0 128) β := hc2.at ((putA_ag (P := fun a _ => a = 147) (fun _ _ _ => rfl)).A (fun _ => by omega))
    have key := M_seek (F := F) (β := β) (K := (fun u9 μ10 => (f_X12_gives F μ10).bind fun μ12 => (if 0 ≤ u9 then some (u9, μ12) else bd (f_X12_refuse 8 μ12) fun x14 μ15 => some (x14, μ15)))) (L := L_X12_evenIn_18 F (fun u9 μ10 => (f_X12_gives F μ10).bind fun μ12 => (if 0 ≤ u9 then some (u9, μ12) else bd (f_X12_refuse 8 μ12) fun x14 μ15 => some (x14, μ15)))) (fun i => decide (bal (hrs β i) = 0)) (fun i μ' hi hB => ?_) (fun n μ' => by rw [L_X12_evenIn_18_s]; rfl) (fun n i j μ' hi hj => by rw [L_X12_evenIn_18_s, if_pos (nI_pos' (by omega))]; split <;> rfl) hp hF
    · obtain ⟨ζ, z1, z2⟩ := key
      refine ⟨ζ, z2, ?_⟩
      unfold f_X12_evenIn
      simp (disch := omega) only [Option.bind_some, M_puts hc2 hF]
      exact z1
    · have Wi := W.hrs i (by omega)
      obtain ⟨ν', e1, e2, e3⟩ := M_goesHour (F := F) hB Wi hF
      refine ⟨ν', e2, e3, fun n => ?_⟩
      rw [L_X12_evenIn_18_s, if_neg (fun z => by have q : 300 < i := (Llt (n := 300) (a := i) (by omega) (by decide)).mp z; omega), if_neg (by decide), M_isEven hB Wi hF, e1]
      simp only [Option.bind_some, bd_some, addL]
theorem op_stillIn (h : R μ) (hF : 2000000 ≤ F) : Sm (f_X11_stillIn F) (f_X12_stillIn F) μ := by
  obtain ⟨β, nm, ω, σ, pg⟩ := h.pg
  have W := pg.wf
  have bx := pg.bx
  have gb := h.gb
  have gb1 := h.gb1
  have hcl := W.cl_le
  have h5 := pg.hr
  obtain ⟨ν, x1, x2, x3⟩ := X_spareAhead h bx W hF (n := 0) (by omega)
  refine op_seek (F := F) h pg (fun i => !moved (hrs β i)) ?_ (fun ξ hξ => ?_) hF
  · have key := X_seek (b := mR μ 1) (β := β) (L := L_X11_stillIn_8 F (mR μ 1) (fun μ9 => bd (f_X11_refuse 8 μ9) fun x10 μ11 => some (x10, μ11))) (fun i => !moved (hrs β i)) (P := fun a _ => mR μ 1 ≤ a ∧ a < mR μ 1 + 12) (fun i μ' hi hB => ?_) (fun n μ' => by rw [L_X11_stillIn_8_s]; rfl) x2 hF
    · obtain ⟨ξ, s1, s2⟩ := key
      refine ⟨ξ, x3.tr s1, ?_⟩
      unfold f_X11_stillIn
      rw [show (0 : Int32) = nI 0 from rfl, x1]
      simp only [bd_some, gb1, Option.bind_some]
      exact s2
    · have Wi := W.hrs i (by omega)
      obtain ⟨ν', x', e1, e2, e3, e4⟩ := X_passHours (F := F) hB Wi hF (n := 1) (by rw [hrs_5]; omega)
      have hx' := e4 rfl
      rw [hx'] at e1
      have e1' : f_X0_passHours F (mR μ 1) 1 μ' = some (moved (hrs β i), ν') := e1
      refine ⟨ν', pass_P e3, fun q n => ?_, fun q => ⟨e2, fun n => ?_⟩⟩
      · rw [L_X11_stillIn_8_s]
        have z : moved (hrs β i) = false := by simpa using q
        simp (disch := omega) only [Option.bind_some, bd_some, z, Bool.false_eq_true, if_false, e1', Llt, ans_X]
        rw [if_neg (by omega)]
      · rw [L_X11_stillIn_8_s]
        have z : moved (hrs β i) = true := by simpa using q
        simp (disch := omega) only [Option.bind_some, bd_some, z, eq_self, if_true, e1', Llt, addL]
        rw [if_neg (by omega)]
  · have hc2 : CB (sI (sI ξ 141 1 0) 141 0 0) β := hξ.at rfl
    have hp : CB (putA (sI (sI ξ 141 1 0) 141 0 0) 147 (fun k => nI (β k)) 0 128) β := hc2.at ((putA_ag (P := fun a _ => a = 147) (fun _ _ _ => rfl)).A (fun _ => by omega))
    have key := M_seek (F := F) (β := β) (K := (fun u8 μ9 => (f_X12_gives F μ9).bind fun μ11 => (if 0 ≤ u8 then some (u8, μ11) else bd (f_X12_refuse 8 μ11) fun x13 μ14 => some (x13, μ14)))) (L := L_X12_stillIn_18 F (fun u8 μ9 => (f_X12_gives F μ9).bind fun μ11 => (if 0 ≤ u8 then some (u8, μ11) else bd (f_X12_refuse 8 μ11) fun x13 μ14 => some (x13, μ14)))) (fun i => !moved (hrs β i)) (fun i μ' hi hB => ?_) (fun n μ' => by rw [L_X12_stillIn_18_s]; rfl) (fun n i j μ' hi hj => by rw [L_X12_stillIn_18_s, if_pos (nI_pos' (by omega))]; split <;> rfl) hp hF
    · obtain ⟨ζ, z1, z2⟩ := key
      refine ⟨ζ, z2, ?_⟩
      unfold f_X12_stillIn
      simp (disch := omega) only [Option.bind_some, M_puts hc2 hF]
      exact z1
    · have Wi := W.hrs i (by omega)
      obtain ⟨ν', e1, e2, e3⟩ := M_goesHour (F := F) hB Wi hF
      refine ⟨ν', e2, e3, fun n => ?_⟩
      rw [L_X12_stillIn_18_s, if_neg (fun z => by have q : 300 < i := (Llt (n := 300) (a := i) (by omega) (by decide)).mp z; omega), if_neg (by decide), e1]
      simp only [Option.bind_some, bd_some, addL]
      cases moved (hrs β i) <;> rfl
end OPS6
