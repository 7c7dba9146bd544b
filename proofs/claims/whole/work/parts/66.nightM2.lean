/-! ===== the reference reads nights: what follows an order's word; what a sequence keeps ===== -/
section SEQ
variable {c : Nat} {ω ω' : Nat → Nat → Int32} {σ σ' : Nat → Int32}
theorem SI_cong {s i : Nat} (h : SI c ω σ s i) (hω : ∀ r, r ≤ 4 → ω' r i = ω r i) (hσ : ∀ k, 2 + 9 * s ≤ k → k ≤ 9 + 9 * s → σ' k = σ k) : SI c ω' σ' s i := by
  unfold SI
  rw [hω 1 (by omega), hω 2 (by omega), hω 3 (by omega), hσ (2 + 9 * s) (by omega) (by omega), hσ (3 + 9 * s) (by omega) (by omega)]
  exact h
theorem SB_cong {s i : Nat} (h : SB c ω σ s i) (hω : ∀ r, r ≤ 4 → ω' r i = ω r i) (hσ : ∀ k, 2 + 9 * s ≤ k → k ≤ 9 + 9 * s → σ' k = σ k) : SB c ω' σ' s i := by
  unfold SB
  rw [hω 1 (by omega), hω 2 (by omega), hω 3 (by omega), hω 4 (by omega), hσ (2 + 9 * s) (by omega) (by omega), hσ (3 + 9 * s) (by omega) (by omega), hσ (7 + 9 * s) (by omega) (by omega), hσ (8 + 9 * s) (by omega) (by omega), hσ (9 + 9 * s) (by omega) (by omega)]
  exact h
theorem SQ_rf {d h s i : Nat} : SQ c ω σ d h s s i i := by
  cases d with
  | zero => exact ⟨rfl, rfl⟩
  | succ d => exact Or.inl ⟨rfl, rfl⟩
theorem SQ_mono : ∀ {d d' h s t i j : Nat}, d ≤ d' → SQ c ω σ d h s t i j → SQ c ω σ d' h s t i j := by
  intro d
  induction d with
  | zero => rintro d' hh s t i j - ⟨rfl, rfl⟩; exact SQ_rf
  | succ d ih =>
    intro d' hh s t i j hd h
    obtain ⟨d2, rfl⟩ : ∃ d2, d' = d2 + 1 := ⟨d' - 1, by omega⟩
    rcases h with h | ⟨h1, h2, s', i', h3, h4, h5, h6, h7, h8, h9⟩
    · exact Or.inl h
    · refine Or.inr ⟨h1, h2, s', i', h3, h4, h5, h6, h7, ih (by omega) h8, ?_⟩
      rcases h9 with h9 | ⟨h9, eh, ee, e1, e2, e3, e4, e5, e6⟩
      · exact Or.inl h9
      · exact Or.inr ⟨h9, eh, ee, e1, e2, e3, e4, e5, ih (by omega) e6⟩
theorem SQ_cong : ∀ {d h s t i j : Nat}, SQ c ω σ d h s t i j → (∀ r k, i ≤ k → k < j → ω' r k = ω r k) → (∀ k, 2 + 9 * s ≤ k → k < 2 + 9 * t → σ' k = σ k) → SQ c ω' σ' d h s t i j := by
  intro d
  induction d with
  | zero => intro hh s t i j h _ _; exact h
  | succ d ih =>
    intro hh s t i j h hω hσ
    rcases h with h | ⟨h1, h2, s', i', h3, h4, h5, h6, h7, h8, h9⟩
    · exact Or.inl h
    · refine Or.inr ⟨h1, h2, s', i', h3, h4, h5, h6, by rw [hσ _ (by omega) (by omega)]; exact h7, ih h8 (fun r k q1 q2 => hω r k (by omega) q2) (fun k q1 q2 => hσ k (by omega) q2), ?_⟩
      rcases h9 with ⟨h9, e1, e2⟩ | ⟨h9, eh, ee, e1, e2, e3, e4, e5, e6⟩
      · exact Or.inl ⟨SI_cong h9 (fun r _ => hω r i (by omega) (by omega)) (fun k q1 q2 => hσ k (by omega) (by omega)), e1, e2⟩
      · refine Or.inr ⟨SB_cong h9 (fun r _ => hω r i (by omega) (by omega)) (fun k q1 q2 => hσ k (by omega) (by omega)), eh, ee, e1, e2, by rw [hω _ _ (by omega) (by omega)]; exact e3, by rw [hω _ _ (by omega) (by omega)]; exact e4, by rw [hω _ _ (by omega) (by omega)]; exact e5, ih e6 (fun r k q1 q2 => hω r k (by omega) (by omega)) (fun k q1 q2 => hσ k (by omega) (by omega))⟩
/-- one order, with all that is inside it -/
def OR (c : Nat) (ω : Nat → Nat → Int32) (σ : Nat → Int32) (d h s s' i i' : Nat) : Prop := s < s' ∧ i < i' ∧ σ (10 + 9 * s) = nI s' ∧ ((SI c ω σ s i ∧ s' = s + 1 ∧ i' = i + 1) ∨ (SB c ω σ s i ∧ 1 ≤ h ∧ ∃ e, i < e ∧ i' = e + 1 ∧ ω 1 e = 26 ∧ ω 5 e = nI i ∧ ω 5 i = nI e ∧ SQ c ω σ d (h - 1) (s + 1) s' (i + 1) e))
theorem SQ_cons {d d' hh s s' t i i' j : Nat} (h : OR c ω σ d hh s s' i i') (q : SQ c ω' σ' d' hh s' t i' j) (h1 : s' ≤ t) (h2 : i' ≤ j) (hω : ∀ r k, k < i' → ω' r k = ω r k) (hσ : ∀ k, k < 2 + 9 * s' → σ' k = σ k) : ∃ d'', SQ c ω' σ' d'' hh s t i j := by
  obtain ⟨a1, a2, a3, a4⟩ := h
  refine ⟨max d d' + 1, Or.inr ⟨by omega, by omega, s', i', a1, h1, a2, h2, by rw [hσ _ (by omega)]; exact a3, SQ_mono (by omega) q, ?_⟩⟩
  rcases a4 with ⟨h9, e1, e2⟩ | ⟨h9, eh, ee, e1, e2, e3, e4, e5, e6⟩
  · exact Or.inl ⟨SI_cong h9 (fun r _ => hω r i (by omega)) (fun k q1 q2 => hσ k (by omega)), e1, e2⟩
  · exact Or.inr ⟨SB_cong h9 (fun r _ => hω r i (by omega)) (fun k q1 q2 => hσ k (by omega)), eh, ee, e1, e2, by rw [hω _ _ (by omega)]; exact e3, by rw [hω _ _ (by omega)]; exact e4, by rw [hω _ _ (by omega)]; exact e5, SQ_mono (by omega) (SQ_cong e6 (fun r k q1 q2 => hω r k (by omega)) (fun k q1 q2 => hσ k (by omega)))⟩
end SEQ
section NM2
variable {μ : Mm} {U : Nat → Nat} {e q F : Nat} {β : Nat → Nat} {nm : Nat → Int64}
theorem isEnd_any : ∃ x, f_X12_isEnd μ = some x := by
  unfold f_X12_isEnd f_X12_isWord
  rw [sp_26, Option.bind_some]
  split
  · split
    · exact ⟨_, rfl⟩
    · exact ⟨_, rfl⟩
  · exact ⟨_, rfl⟩
theorem isOr_of {c : Nat} (h : isOr c = true) : c = 13 ∨ c = 17 ∨ c = 18 ∨ c = 19 ∨ c = 20 ∨ c = 21 ∨ c = 25 ∨ c = 27 := of_decide_eq_true h
theorem M_ow1 (T : TkM μ U e q) {c : Nat} (ho : tO U e q = some c) (hc : isOr c = true) : f_X12_orderWord μ = some (nI (kdO c)) := by
  rw [M_orderWord T, ho]
  rcases isOr_of hc with rfl | rfl | rfl | rfl | rfl | rfl | rfl | rfl <;> rfl
theorem M_ow0 (T : TkM μ U e q) (ho : ∀ c, tO U e q = some c → isOr c = false) : f_X12_orderWord μ = some (-1) := by
  rw [M_orderWord T]
  have n : ∀ c, isOr c = true → ¬ tO U e q = some c := fun c h1 h2 => by have := ho c h2; rw [h1] at this; cases this
  rw [if_neg (n 13 rfl), if_neg (n 17 rfl), if_neg (n 18 rfl), if_neg (n 19 rfl), if_neg (n 20 rfl), if_neg (n 21 rfl), if_neg (n 25 rfl), if_neg (n 27 rfl)]
theorem way_v {o : Option Nat} : (if o = some 14 then 0 else if o = some 15 then 1 else if o = some 8 then 2 else if o = some 9 then 3 else if o = some 16 then 4 else -1 : Int32) = match wayO o with | none => -1 | some v => nI v := by
  unfold wayO
  by_cases h14 : o = some 14
  · rw [if_pos h14, if_pos h14]; rfl
  rw [if_neg h14, if_neg h14]
  by_cases h15 : o = some 15
  · rw [if_pos h15, if_pos h15]; rfl
  rw [if_neg h15, if_neg h15]
  by_cases h8 : o = some 8
  · rw [if_pos h8, if_pos h8]; rfl
  rw [if_neg h8, if_neg h8]
  by_cases h9 : o = some 9
  · rw [if_pos h9, if_pos h9]; rfl
  rw [if_neg h9, if_neg h9]
  by_cases h16 : o = some 16
  · rw [if_pos h16, if_pos h16]; rfl
  rw [if_neg h16, if_neg h16]
/-- what an order's word leaves behind it, on both sides -/
def RSt (U : Nat → Nat) (e : Nat) (β : Nat → Nat) (ν : Mm) (s c : Nat) (r : RR) : Prop := TkM ν U e r.1 ∧ ∀ ω i, (opn c = false → SI (cl β) (setI ω i (nI r.2.1) (nI r.2.2.1) (nI r.2.2.2.1) (nI r.2.2.2.2) (nI i)) (sg ν) s i) ∧ (opn c = true → SB (cl β) (setI ω i (nI r.2.1) (nI r.2.2.1) (nI r.2.2.2.1) (nI r.2.2.2.2) (nI i)) (sg ν) s i)
theorem M_rest (hF : 2000000 ≤ F) (w : WF β) (T0 : TkM0 μ U e) (T : TkM μ U e q) (hq : q ≤ e) (h : mI μ 141 12 = 0) (B : PGM μ β nm) {s c : Nat} (hs : s < 30) (hc : isOr c = true) (hk : mA μ 146 (1730 + 9 * s) = nI (kdO c)) : ∃ ν, f_X12_readRest F (nI (1730 + 9 * s)) μ = some ν ∧ MO ν (rstS U e β nm c q) (RSt U e β ν s c) ∧ Ag (PO1 s) μ ν := by
  have i1 : nI (1730 + 9 * s) + (1 : Int32) = nI (1730 + 9 * s + 1) := addL
  have w1 : ∀ ν (x : Int32), wrA ν 146 2000 (nI (1730 + 9 * s) + 1) x = some (sA ν 146 (1730 + 9 * s + 1) x) := fun ν x => M_wst (by omega) (by omega) (by omega) i1
  have AW : ∀ (ν : Mm) (x : Int32), Ag (PO1 s) ν (sA ν 146 (1730 + 9 * s + 1) x) := fun ν x => Ag.sA (by omega)
  have r0 : rdA μ 146 2000 (nI (1730 + 9 * s)) = some (nI (kdO c)) := by rw [← hk]; exact rdA_n (by omega) (by omega)
  unfold f_X12_readRest rstS
  rw [r0, Option.bind_some]
  have gk : ∀ {ν : Mm} {x : Int32} {P : Nat → Nat → Prop}, Ag P μ ν → ¬ P 146 (1730 + 9 * s) → sg (sA ν 146 (1730 + 9 * s + 1) x) (2 + 9 * s) = nI (kdO c) := fun {ν x P} a hP => by
    show mA _ 146 (1728 + (2 + 9 * s)) = _
    rw [show 1728 + (2 + 9 * s) = 1730 + 9 * s by omega, mA_sA, if_pos rfl, if_neg (by omega), a.a hP, hk]
  have g1 : ∀ {ν : Mm} {x : Int32}, sg (sA ν 146 (1730 + 9 * s + 1) x) (3 + 9 * s) = x := fun {ν x} => by
    show mA _ 146 (1728 + (3 + 9 * s)) = _
    rw [show 1728 + (3 + 9 * s) = 1730 + 9 * s + 1 by omega, mA_sA, if_pos rfl, if_pos rfl]
  rcases isOr_of hc with rfl | rfl | rfl | rfl | rfl | rfl | rfl | rfl
  · -- do
    rw [show nI (kdO 13) = 0 from rfl, if_pos rfl, if_neg (by decide), if_pos rfl, M_wayWord T, Option.bind_some, w1, Option.bind_some]
    rw [M_wayWord (TkM_wst T), Option.bind_some]
    have B2 : mI (sA μ 146 (1730 + 9 * s + 1) (if tO U e q = some 14 then 0 else if tO U e q = some 15 then 1 else if tO U e q = some 8 then 2 else if tO U e q = some 9 then 3 else if tO U e q = some 16 then 4 else -1 : Int32)) 141 12 = 0 := h
    have hw : (if tO U e q = some 14 then 0 else if tO U e q = some 15 then 1 else if tO U e q = some 8 then 2 else if tO U e q = some 9 then 3 else if tO U e q = some 16 then 4 else -1 : Int32) = match wayO (tO U e q) with | none => -1 | some v => nI v := by
      exact way_v
    rw [hw]
    cases hv : wayO (tO U e q) with
    | none =>
      dsimp only
      obtain ⟨ν1, x1, x2, x3, x4⟩ := M_must0 (F := F) (TkM_wst (s := s) (j := 1) (x := -1) T) (show mI (sA μ 146 (1730 + 9 * s + 1) (-1)) 141 12 = 0 from h)
      rw [if_pos (by decide), x1]
      exact ⟨ν1, rfl, ⟨x2, x3, unf_r.1, unf_r.2⟩, (AW μ _).tr (PM_PO1 x4)⟩
    | some v =>
      dsimp only
      have hv4 := wayO_le hv
      obtain ⟨ν1, x1, x2, x3⟩ := M_must1 (TkM0_wst (s := s) (j := 1) (x := nI v) T0) (TkM_wst T) hq hF (show mI (sA μ 146 (1730 + 9 * s + 1) (nI v)) 141 12 = 0 from h) (v := 1) (by decide)
      rw [if_neg (nI_n0 (by omega)), x1]
      refine ⟨ν1, rfl, ⟨by rw [x3.i (by omega)]; exact h, x2, fun ω i => ⟨fun _ => Or.inl ⟨?_, setI_1, v, hv4.1, setI_2, ?_⟩, fun z => by cases z⟩⟩, (AW μ _).tr (PM_PO1 (PB_PM x3))⟩
      · show mA ν1 146 _ = _
        rw [x3.a (by omega)]
        exact gk (P := fun _ _ => False) Ag.rf (fun z => z)
      · show mA ν1 146 _ = _
        rw [x3.a (by omega)]
        exact g1
  · -- sleep
    obtain ⟨ν1, xc, x1, x2, x3⟩ := M_count T0 T hq hF h (v := 1) (w := 24) (lo := 1) (hi := 24) rfl rfl (by omega) (by omega)
    rw [show nI (kdO 17) = 1 from rfl, if_neg (by decide), if_pos rfl, if_neg (by decide), if_neg (by decide), if_pos rfl, x1, bd_some, w1]
    cases hn : numS U e 1 24 q with
    | inl f => rw [hn] at x2; exact ⟨_, rfl, ⟨x2.1, x2.2.1, x2.2.2⟩, (PM_PO1 x3).tr (AW _ _)⟩
    | inr v =>
      rw [hn] at x2
      obtain ⟨b1, x5, x4⟩ := x2
      have hv := num_ok hq hn
      refine ⟨_, rfl, ⟨b1, TkM_wst x4, fun ω i => ⟨fun _ => Or.inr (Or.inl ⟨gk x3 (by omega), setI_1, v.1, hv.1, hv.2.1, setI_2, by rw [g1, x5]⟩), fun z => by cases z⟩⟩, (PM_PO1 x3).tr (AW _ _)⟩
  · -- mend
    obtain ⟨ν1, xc, x1, x2, x3⟩ := M_readCell hF w T0 T hq h B
    rw [show nI (kdO 18) = 2 from rfl, if_neg (by decide), if_neg (by decide), if_neg (by decide), if_neg (by decide), if_pos rfl, if_neg (by decide), if_neg (by decide), if_neg (by decide), if_pos (by decide), x1, bd_some, w1]
    cases hn : celS U e β nm q with
    | inl f => rw [hn] at x2; exact ⟨_, rfl, ⟨x2.1, x2.2.1, x2.2.2⟩, (PM_PO1 x3).tr (AW _ _)⟩
    | inr v =>
      rw [hn] at x2
      obtain ⟨b1, x5, x4⟩ := x2
      have hv := cel_ok w hq hn
      refine ⟨_, rfl, ⟨b1, TkM_wst x4, fun ω i => ⟨fun _ => Or.inr (Or.inr (Or.inl ⟨gk x3 (by omega), setI_1, v.1, hv.1, setI_3, by rw [g1, x5]⟩)), fun z => by cases z⟩⟩, (PM_PO1 x3).tr (AW _ _)⟩
  · obtain ⟨ν1, xc, x1, x2, x3⟩ := M_readCell hF w T0 T hq h B
    rw [show nI (kdO 19) = 3 from rfl, if_neg (by decide), if_neg (by decide), if_neg (by decide), if_neg (by decide), if_neg (by decide), if_pos rfl, if_neg (by decide), if_neg (by decide), if_neg (by decide), if_pos (by decide), x1, bd_some, w1]
    cases hn : celS U e β nm q with
    | inl f => rw [hn] at x2; exact ⟨_, rfl, ⟨x2.1, x2.2.1, x2.2.2⟩, (PM_PO1 x3).tr (AW _ _)⟩
    | inr v =>
      rw [hn] at x2
      obtain ⟨b1, x5, x4⟩ := x2
      have hv := cel_ok w hq hn
      refine ⟨_, rfl, ⟨b1, TkM_wst x4, fun ω i => ⟨fun _ => Or.inr (Or.inr (Or.inr (Or.inl ⟨gk x3 (by omega), setI_1, v.1, hv.1, setI_3, by rw [g1, x5]⟩))), fun z => by cases z⟩⟩, (PM_PO1 x3).tr (AW _ _)⟩
  · rw [if_neg (by decide), if_neg (by decide), if_neg (by decide), if_neg (by decide), if_neg (by decide), show nI (kdO 20) = 4 from rfl, if_neg (by decide), if_neg (by decide), if_neg (by decide), if_neg (by decide), if_neg (by decide), if_neg (by decide)]
    refine ⟨_, rfl, ⟨h, T, fun ω i => ⟨fun _ => Or.inr (Or.inr (Or.inr (Or.inr (Or.inl ⟨?_, setI_1⟩)))), fun z => by cases z⟩⟩, Ag.rf⟩
    show mA μ 146 (1728 + (2 + 9 * s)) = _
    rw [show 1728 + (2 + 9 * s) = 1730 + 9 * s by omega]
    exact hk
  · -- when
    obtain ⟨ν1, x1, x2, x3⟩ := M_readTest hF w T0 T hq h B hs hk
    rw [show nI (kdO 21) = 5 from rfl, if_neg (by decide), if_neg (by decide), if_neg (by decide), if_pos rfl, if_pos rfl, x1]
    refine ⟨ν1, rfl, ?_, x3⟩
    cases hn : tstS U e β nm q with
    | inl f => rw [hn] at x2; exact x2
    | inr r => rw [hn] at x2; exact ⟨x2.1, x2.2.1, fun ω i => ⟨fun z => (by cases z), fun _ => x2.2.2 ω i⟩⟩
  · obtain ⟨ν1, xc, x1, x2, x3⟩ := M_count T0 T hq hF h (v := 1) (w := 99) (lo := 1) (hi := 99) rfl rfl (by omega) (by omega)
    rw [show nI (kdO 25) = 6 from rfl, if_neg (by decide), if_neg (by decide), if_pos rfl, if_neg (by decide), if_neg (by decide), if_neg (by decide), if_neg (by decide), if_pos rfl, x1, bd_some, w1]
    cases hn : numS U e 1 99 q with
    | inl f => rw [hn] at x2; exact ⟨_, rfl, ⟨x2.1, x2.2.1, x2.2.2⟩, (PM_PO1 x3).tr (AW _ _)⟩
    | inr v =>
      rw [hn] at x2
      obtain ⟨b1, x5, x4⟩ := x2
      have hv := num_ok hq hn
      refine ⟨_, rfl, ⟨b1, TkM_wst x4, fun ω i => ⟨fun z => (by cases z), fun _ => Or.inl ⟨gk x3 (by omega), setI_1, v.1, hv.1, hv.2.1, setI_2, by rw [g1, x5]⟩⟩⟩, (PM_PO1 x3).tr (AW _ _)⟩
  · rw [if_neg (by decide), if_neg (by decide), if_neg (by decide), if_neg (by decide), if_neg (by decide), show nI (kdO 27) = 7 from rfl, if_neg (by decide), if_neg (by decide), if_neg (by decide), if_neg (by decide), if_neg (by decide), if_neg (by decide)]
    refine ⟨_, rfl, ⟨h, T, fun ω i => ⟨fun _ => Or.inr (Or.inr (Or.inr (Or.inr (Or.inr ⟨?_, setI_1⟩)))), fun z => by cases z⟩⟩, Ag.rf⟩
    show mA μ 146 (1728 + (2 + 9 * s)) = _
    rw [show 1728 + (2 + 9 * s) = 1730 + 9 * s by omega]
    exact hk
end NM2
