/-! ===== the relation part by part ===== -/
section PARTS
variable {μ ν : Mm} {P : Nat → Nat → Prop}
theorem tr_ag (h : ∀ t, t < 4 → Try μ t) (e : Ag P μ ν) (hP : ∀ a k, ((3 ≤ a ∧ a ≤ 8) ∨ (142 ≤ a ∧ a ≤ 144)) → ¬ P a k) : ∀ t, t < 4 → Try ν t := by
  intro t ht
  obtain ⟨q1, q2, q3⟩ := h t ht
  have a7 : mA ν 7 t = mA μ 7 t := e.a (hP _ _ (by omega))
  have a8 : mA ν 8 t = mA μ 8 t := e.a (hP _ _ (by omega))
  have a143 : mA ν 143 t = mA μ 143 t := e.a (hP _ _ (by omega))
  have a142 : mA ν 142 t = mA μ 142 t := e.a (hP _ _ (by omega))
  refine ⟨by rw [a7, a143]; exact q1, by rw [a8, a142]; exact q2, ?_⟩
  rw [a7]
  rcases q3 with q3 | ⟨n, h1, h2, h3⟩
  · exact Or.inl q3
  · refine Or.inr ⟨n, h1, h2, fun k hk => ?_⟩
    rw [e.l (hP _ _ (by omega)), e.l (hP _ _ (by omega))]
    exact h3 k hk
theorem tp_ag (h : ∃ n, Tpe μ n) (e : Ag P μ ν) (h1 : ¬ P 9 1) (h2 : ¬ P 141 8) (h3 : ∀ k, ¬ P 10 k) (h4 : ∀ k, ¬ P 145 k) : ∃ n, Tpe ν n := by
  obtain ⟨n, q1, q2, q3, q4⟩ := h
  refine ⟨n, q1, by rw [e.i h1]; exact q2, by rw [e.i h2]; exact q3, fun k hk => ?_⟩
  rw [e.b (h3 k), e.b (h4 k)]
  exact q4 k hk
theorem eq_agI {a k b j : Nat} (h : mI μ a k = mI μ b j) (e : Ag P μ ν) (h1 : ¬ P a k) (h2 : ¬ P b j) : mI ν a k = mI ν b j := by rw [e.i h1, e.i h2]; exact h
theorem eq_agJ {a k b j : Nat} (h : mJ μ a k = mJ μ b j) (e : Ag P μ ν) (h1 : ¬ P a k) (h2 : ¬ P b j) : mJ ν a k = mJ ν b j := by rw [e.j h1, e.j h2]; exact h
theorem sw_ag (h : ∀ i, i < 28 → mL μ 11 i = swT i) (e : Ag P μ ν) (h1 : ∀ k, ¬ P 11 k) : ∀ i, i < 28 → mL ν 11 i = swT i := fun i hi => by rw [e.l (h1 i)]; exact h i hi
theorem mk_ag (h : ∃ m, m ≤ 3 ∧ mI μ 0 3 = nI m ∧ mI μ 141 24 = nI m ∧ ∀ i, i < m → ∃ β nm ω σ, PG μ (53 + 18 * i) (65 + 18 * i) (i + 1) β nm ω σ) (e : Ag P μ ν) (h1 : ¬ P 0 3) (h2 : ¬ P 141 24) (h3 : ∀ a k, 53 ≤ a → a < 107 → ¬ P a k) (h4 : ∀ k, 400 ≤ k → k < 1600 → ¬ P 146 k) (h5 : ∀ k, 5 ≤ k → k < 20 → ¬ P 149 k) : ∃ m, m ≤ 3 ∧ mI ν 0 3 = nI m ∧ mI ν 141 24 = nI m ∧ ∀ i, i < m → ∃ β nm ω σ, PG ν (53 + 18 * i) (65 + 18 * i) (i + 1) β nm ω σ := by
  obtain ⟨m, q1, q2, q3, q4⟩ := h
  refine ⟨m, q1, by rw [e.i h1]; exact q2, by rw [e.i h2]; exact q3, fun i hi => ?_⟩
  obtain ⟨β, nm, ω, σ, q⟩ := q4 i hi
  exact ⟨β, nm, ω, σ, q.ag e (fun j hj k => h3 _ _ (by omega) (by omega)) (fun k hk => h4 _ (by omega) (by omega)) (fun j hj k hk => h3 _ _ (by omega) (by omega)) (fun k hk => h5 _ (by omega) (by omega))⟩
theorem lv_ag (h : mI μ 137 0 = mI μ 141 40 ∧ ∀ j, j < 5 → mI μ 137 (2 + j) = mA μ 156 j) (e : Ag P μ ν) (h1 : ∀ k, k ≤ 6 → k ≠ 1 → ¬ P 137 k) (h2 : ¬ P 141 40) (h3 : ∀ k, ¬ P 156 k) : mI ν 137 0 = mI ν 141 40 ∧ ∀ j, j < 5 → mI ν 137 (2 + j) = mA ν 156 j := by
  refine ⟨by rw [e.i (h1 0 (by omega) (by omega)), e.i h2]; exact h.1, fun j hj => ?_⟩
  rw [e.i (h1 _ (by omega) (by omega)), e.a (h3 j)]
  exact h.2 j hj
theorem pg_ag (h : ∃ β nm ω σ, PG μ (mR μ 0) (mR μ 2) 0 β nm ω σ) (e : Ag P μ ν) (h1 : ∀ i, i ≤ 10 → ∀ k, ¬ P (mR μ 0 + i) k) (h2 : ∀ k, k < 400 → ¬ P 146 k) (h3 : ∀ j, j ≤ 5 → ∀ k, ¬ P (mR μ 2 + j) k) (h4 : ∀ a, a < 5 → ¬ P 149 a) : ∃ β nm ω σ, PG ν (mR ν 0) (mR ν 2) 0 β nm ω σ := by
  obtain ⟨β, nm, ω, σ, q⟩ := h
  rw [e.2]
  exact ⟨β, nm, ω, σ, q.ag e h1 (fun k hk => by rw [show 400 * 0 + k = k by omega]; exact h2 k hk) (fun j hj k _ => h3 j hj k) (fun a ha => by rw [show 5 * 0 + a = a by omega]; exact h4 a ha)⟩
theorem rp_ag (h : RefP μ) (e : Ag P μ ν) : RefP ν := by unfold RefP at *; rw [e.2]; exact h
theorem rn_ag (h : RefN μ) (e : Ag P μ ν) : RefN ν := by unfold RefN at *; rw [e.2]; exact h
theorem rt_ag (h : RefT μ) (e : Ag P μ ν) : RefT ν := by unfold RefT at *; rw [e.2]; exact h
end PARTS
/-- places of the trays and the statuses -/
def ST (a k : Nat) : Prop := (3 ≤ a ∧ a ≤ 8) ∨ (142 ≤ a ∧ a ≤ 144) ∨ (a = 0 ∧ k = 0) ∨ (a = 141 ∧ k < 2)
theorem R.ty {μ ν : Mm} (h : R μ) (e : Ag ST μ ν) (hs : mI ν 0 0 = mI ν 141 0) (ht : ∀ t, t < 4 → Try ν t) : R ν := by
  obtain ⟨rp, rn, rt, st, top, bot, tr, tp, fk, fa, sw, pg, mk, lv⟩ := h
  have hrp := rp
  have hrn := rn
  unfold RefP at hrp
  unfold RefN at hrn
  exact ⟨rp_ag rp e, rn_ag rn e, rt_ag rt e, hs, eq_agJ top e (by unfold ST; omega) (by unfold ST; omega), eq_agJ bot e (by unfold ST; omega) (by unfold ST; omega), ht, tp_ag tp e (by unfold ST; omega) (by unfold ST; omega) (fun k => by unfold ST; omega) (fun k => by unfold ST; omega), eq_agI fk e (by unfold ST; omega) (by unfold ST; omega), eq_agI fa e (by unfold ST; omega) (by unfold ST; omega), sw_ag sw e (fun k => by unfold ST; omega), pg_ag pg e (fun i hi k => by unfold ST; omega) (fun k hk => by unfold ST; omega) (fun j hj k => by unfold ST; omega) (fun a ha => by unfold ST; omega), mk_ag mk e (by unfold ST; omega) (by unfold ST; omega) (fun a k h1 h2 => by unfold ST; omega) (fun k h1 h2 => by unfold ST; omega) (fun k h1 h2 => by unfold ST; omega), lv_ag lv e (fun k h1 h2 => by unfold ST; omega) (by unfold ST; omega) (fun k => by unfold ST; omega)⟩
/-- places of the fraction, of scratch, of the statuses -/
def SF (a k : Nat) : Prop := (a = 0 ∧ k ≤ 2) ∨ (a = 141 ∧ k < 4) ∨ a = 155 ∨ a = 148
theorem R.fr {μ ν : Mm} (h : R μ) (e : Ag SF μ ν) (hs : mI ν 0 0 = mI ν 141 0) (ht : mJ ν 0 1 = mJ ν 141 2) (hb : mJ ν 0 2 = mJ ν 141 3) : R ν := by
  obtain ⟨rp, rn, rt, st, top, bot, tr, tp, fk, fa, sw, pg, mk, lv⟩ := h
  have hrp := rp
  have hrn := rn
  unfold RefP at hrp
  unfold RefN at hrn
  exact ⟨rp_ag rp e, rn_ag rn e, rt_ag rt e, hs, ht, hb, tr_ag tr e (fun a k q => by unfold SF; omega), tp_ag tp e (by unfold SF; omega) (by unfold SF; omega) (fun k => by unfold SF; omega) (fun k => by unfold SF; omega), eq_agI fk e (by unfold SF; omega) (by unfold SF; omega), eq_agI fa e (by unfold SF; omega) (by unfold SF; omega), sw_ag sw e (fun k => by unfold SF; omega), pg_ag pg e (fun i hi k => by unfold SF; omega) (fun k hk => by unfold SF; omega) (fun j hj k => by unfold SF; omega) (fun a ha => by unfold SF; omega), mk_ag mk e (by unfold SF; omega) (by unfold SF; omega) (fun a k h1 h2 => by unfold SF; omega) (fun k h1 h2 => by unfold SF; omega) (fun k h1 h2 => by unfold SF; omega), lv_ag lv e (fun k h1 h2 => by unfold SF; omega) (by unfold SF; omega) (fun k => by unfold SF; omega)⟩
/-- places of the tape -/
def SE (a k : Nat) : Prop := (a = 9 ∧ k = 1) ∨ a = 10 ∨ (a = 141 ∧ (k = 1 ∨ k = 8)) ∨ a = 145
theorem R.te {μ ν : Mm} (h : R μ) (e : Ag SE μ ν) (ht : ∃ n, Tpe ν n) : R ν := by
  obtain ⟨rp, rn, rt, st, top, bot, tr, tp, fk, fa, sw, pg, mk, lv⟩ := h
  have hrp := rp
  have hrn := rn
  unfold RefP at hrp
  unfold RefN at hrn
  exact ⟨rp_ag rp e, rn_ag rn e, rt_ag rt e, eq_agI st e (by unfold SE; omega) (by unfold SE; omega), eq_agJ top e (by unfold SE; omega) (by unfold SE; omega), eq_agJ bot e (by unfold SE; omega) (by unfold SE; omega), tr_ag tr e (fun a k q => by unfold SE; omega), ht, eq_agI fk e (by unfold SE; omega) (by unfold SE; omega), eq_agI fa e (by unfold SE; omega) (by unfold SE; omega), sw_ag sw e (fun k => by unfold SE; omega), pg_ag pg e (fun i hi k => by unfold SE; omega) (fun k hk => by unfold SE; omega) (fun j hj k => by unfold SE; omega) (fun a ha => by unfold SE; omega), mk_ag mk e (by unfold SE; omega) (by unfold SE; omega) (fun a k h1 h2 => by unfold SE; omega) (fun k h1 h2 => by unfold SE; omega) (fun k h1 h2 => by unfold SE; omega), lv_ag lv e (fun k h1 h2 => by unfold SE; omega) (by unfold SE; omega) (fun k => by unfold SE; omega)⟩
