/-! ===== a text read as a book: what it is ===== -/
abbrev Flt : Type := Nat × Nat
def sb {α γ : Type} (x : Sum Flt α) (k : α → Sum Flt γ) : Sum Flt γ := match x with
  | .inl f => .inl f
  | .inr a => k a
theorem sb_l {α γ : Type} {f : Flt} {k : α → Sum Flt γ} : sb (Sum.inl f) k = Sum.inl f := rfl
theorem sb_r {α γ : Type} {a : α} {k : α → Sum Flt γ} : sb (Sum.inr a) k = k a := rfl
theorem sb_ok {α γ : Type} {x : Sum Flt α} {k : α → Sum Flt γ} {y : γ} (h : sb x k = .inr y) : ∃ a, x = .inr a ∧ k a = .inr y := by
  cases x with
  | inl f => cases h
  | inr a => exact ⟨a, rfl, h⟩
abbrev BS : Type := Nat × (Nat → Nat) × (Nat → Int64) × (Nat → Bool)
def updB (f : Nat → Bool) (k : Nat) : Nat → Bool := fun j => if j = k then true else f j
def updJ (f : Nat → Int64) (k : Nat) (x : Int64) : Nat → Int64 := fun j => if j = k then x else f j
def kindO (o : Option Nat) : Option Nat := if o = some 4 then some 0 else if o = some 5 then some 1 else none
def placO (o : Option Nat) : Option Nat := if o = some 8 then some 1 else if o = some 9 then some 2 else if o = some 10 then some 3 else if o = some 11 then some 4 else none
section SPEC
variable (U : Nat → Nat) (e : Nat)
def unf (p : Nat) : Flt := (if tK U e p = 4 then 1 else 2, tS U e p)
def numS (lo hi p : Nat) : Sum Flt (Nat × Nat) := if tK U e p = 2 then (if lo ≤ tV U e p ∧ tV U e p ≤ hi then .inr (tV U e p, tN U e p) else .inl (4, tS U e p)) else .inl (unf U e p)
def wdS (i p : Nat) : Sum Flt Nat := if tO U e p = some i then .inr (tN U e p) else .inl (unf U e p)
def endS (p : Nat) : Sum Flt Nat := if tK U e p = 3 ∧ tV U e p = 59 then .inr (tN U e p) else .inl (unf U e p)
def fnm (β : Nat → Nat) (nm : Nat → Int64) (p : Nat) : Option Nat := fndF (fun a => decide (nm a = lN (tW U e p))) 0 (β 0)
def nmS (β : Nat → Nat) (nm : Nat → Int64) (p : Nat) : Sum Flt (Nat × Nat) := if tM U e p = true then (match fnm U e β nm p with | none => .inl (3, tS U e p) | some a => .inr (a, tN U e p)) else .inl (unf U e p)
def onceS (j lo hi : Nat) (s : BS) : Sum Flt BS := if s.2.2.2 j = true then .inl (5, tS U e s.1) else sb (numS U e lo hi (tN U e s.1)) fun v => sb (endS U e v.2) fun q => .inr (q, updN s.2.1 j v.1, s.2.2.1, updB s.2.2.2 j)
def wideS (s : BS) : Sum Flt BS := if 0 < s.2.1 0 then .inl (5, tS U e s.1) else onceS U e 2 1 5 s
def dgS (W k : Nat) : Nat → Nat → (Nat → Nat) → Sum Flt (Nat × (Nat → Nat))
  | 0, p, β => if tK U e p = 2 then (if tV U e p ≤ 9 then .inl (6, tS U e p) else .inl (4, tS U e p)) else .inr (p, β)
  | r + 1, p, β => if tK U e p = 2 then (if tV U e p ≤ 9 then dgS W k r (tN U e p) (updN β (13 + (W * k + (W - (r + 1)))) (tV U e p)) else .inl (4, tS U e p)) else .inr (p, β)
def accS (s : BS) : Sum Flt BS := if 5 ≤ s.2.1 0 then .inl (6, tS U e s.1) else if tM U e (tN U e s.1) = true then (if fnm U e s.2.1 s.2.2.1 (tN U e s.1) = none then (match kindO (tO U e (tN U e (tN U e s.1))) with | none => .inl (unf U e (tN U e (tN U e s.1))) | some kd => sb (dgS U e (s.2.1 2) (s.2.1 0) (s.2.1 2) (tN U e (tN U e (tN U e s.1))) s.2.1) fun x => sb (endS U e x.1) fun q => .inr (q, updN (updN x.2 (8 + s.2.1 0) kd) 0 (s.2.1 0 + 1), updJ s.2.2.1 (s.2.1 0) (lN (tW U e (tN U e s.1))), s.2.2.2)) else .inl (3, tS U e (tN U e s.1))) else .inl (unf U e (tN U e s.1))
def lawS (s : BS) : Sum Flt BS := if 10 ≤ s.2.1 1 then .inl (6, tS U e s.1) else sb (numS U e 0 9 (tN U e s.1)) fun a => sb (wdS U e 7 a.2) fun q1 => sb (numS U e 0 9 q1) fun c => match placO (tO U e c.2) with
  | none => sb (endS U e c.2) fun q => .inr (q, addB s.2.1 a.1 c.1 0 0, s.2.2.1, s.2.2.2)
  | some pl => sb (numS U e 0 9 (tN U e c.2)) fun d => sb (endS U e d.2) fun q => .inr (q, addB s.2.1 a.1 c.1 pl d.1, s.2.2.1, s.2.2.2)
def watS (s : BS) : Sum Flt BS := if s.2.2.2 7 = true then .inl (5, tS U e s.1) else sb (nmS U e s.2.1 s.2.2.1 (tN U e s.1)) fun a => sb (numS U e 0 (s.2.1 2 - 1) a.2) fun c => sb (endS U e c.2) fun q => .inr (q, updN s.2.1 7 (s.2.1 2 * a.1 + c.1), s.2.2.1, updB s.2.2.2 7)
def prtS (s : BS) : Sum Flt BS := if tO U e s.1 = some 0 then wideS U e s else if tO U e s.1 = some 1 then onceS U e 3 1 9 s else if tO U e s.1 = some 2 then onceS U e 4 0 16 s else if tO U e s.1 = some 3 then accS U e s else if tO U e s.1 = some 6 then lawS U e s else if tO U e s.1 = some 12 then watS U e s else .inl (unf U e s.1)
def bkS : Nat → BS → Sum Flt BS
  | 0, s => .inr s
  | n + 1, s => if tK U e s.1 = 0 then .inr s else sb (prtS U e s) (bkS n)
end SPEC
/-- what holds of a book that is being read -/
def PI (e : Nat) (s : BS) : Prop := s.1 ≤ e ∧ WF s.2.1 ∧ s.2.1 5 = 0 ∧ s.2.1 6 = 0 ∧ (∀ k, k < 25 → s.2.1 (63 + k) = 0) ∧ (∀ k, 128 ≤ k → s.2.1 k = 0)
section SPEC2
variable {U : Nat → Nat} {e p : Nat}
theorem tK0_le (hp : p ≤ e) (h : tK U e p ≠ 0) : p < tN U e p ∧ tN U e p ≤ e := by
  have h1 := tS_b (U := U) (e := e) (p := p)
  have h2 := tN_b (U := U) (e := e) (p := p) hp
  have h3 := h2.2.2 h
  omega
theorem tN_le (hp : p ≤ e) : p ≤ tN U e p ∧ tN U e p ≤ e := by
  have h1 := tS_b (U := U) (e := e) (p := p)
  have h2 := tN_b (U := U) (e := e) (p := p) hp
  omega
theorem tO_K {i : Nat} (h : tO U e p = some i) : tK U e p ≠ 0 := by have := (tO_lt h).2; omega
theorem tM_K (h : tM U e p = true) : tK U e p = 1 ∧ tL U e p ≤ 8 ∧ tO U e p = none := by
  have h2 := of_decide_eq_true h
  refine ⟨h2.1, h2.2.1, ?_⟩
  unfold tO
  rw [if_pos ⟨h2.1, h2.2.1⟩]
  exact h2.2.2
theorem num_ok {lo hi : Nat} {x : Nat × Nat} (hp : p ≤ e) (h : numS U e lo hi p = .inr x) : lo ≤ x.1 ∧ x.1 ≤ hi ∧ p < x.2 ∧ x.2 ≤ e ∧ x.1 = tV U e p ∧ x.2 = tN U e p := by
  unfold numS at h
  by_cases z : tK U e p = 2
  · rw [if_pos z] at h
    split at h
    · rename_i y
      cases h
      have := tK0_le hp (by omega : tK U e p ≠ 0)
      exact ⟨y.1, y.2, this.1, this.2, rfl, rfl⟩
    · cases h
  · rw [if_neg z] at h; cases h
theorem wd_ok {i q : Nat} (hp : p ≤ e) (h : wdS U e i p = .inr q) : p < q ∧ q ≤ e := by
  unfold wdS at h
  split at h
  · rename_i z; cases h; exact tK0_le hp (tO_K z)
  · cases h
theorem end_ok {q : Nat} (hp : p ≤ e) (h : endS U e p = .inr q) : p < q ∧ q ≤ e := by
  unfold endS at h
  split at h
  · rename_i z; cases h; exact tK0_le hp (by omega)
  · cases h
theorem nm_ok {β : Nat → Nat} {nm : Nat → Int64} {x : Nat × Nat} (hp : p ≤ e) (h : nmS U e β nm p = .inr x) : x.1 < β 0 ∧ p < x.2 ∧ x.2 ≤ e := by
  unfold nmS at h
  split at h
  · rename_i z
    cases hf : fnm U e β nm p with
    | none => rw [hf] at h; cases h
    | some a =>
      rw [hf] at h
      cases h
      have := (fndF_some hf).2.1
      have h2 := tK0_le hp (by rw [(tM_K z).1]; omega)
      exact ⟨by omega, h2.1, h2.2⟩
  · cases h
theorem dg_ok {W k : Nat} : ∀ {r p : Nat} {β : Nat → Nat} {x : Nat × (Nat → Nat)}, p ≤ e → r ≤ W → dgS U e W k r p β = .inr x → p ≤ x.1 ∧ x.1 ≤ e ∧ (∀ j, ¬ (13 + W * k ≤ j ∧ j < 13 + (W * k + W)) → x.2 j = β j) ∧ ((∀ j, 13 + W * k ≤ j → j < 13 + (W * k + W) → β j ≤ 9) → ∀ j, 13 + W * k ≤ j → j < 13 + (W * k + W) → x.2 j ≤ 9)
  | 0, p, β, x, hp, hr, h => by
    unfold dgS at h
    split at h
    · split at h <;> cases h
    · cases h; exact ⟨Nat.le_refl _, hp, fun _ _ => rfl, fun h => h⟩
  | r + 1, p, β, x, hp, hr, h => by
    unfold dgS at h
    split at h
    · rename_i z
      split at h
      · rename_i y
        have t := tK0_le (U := U) hp (by omega : tK U e p ≠ 0)
        obtain ⟨h1, h2, h3, h4⟩ := dg_ok t.2 (by omega) h
        refine ⟨by omega, h2, fun j hj => ?_, fun h9 j j1 j2 => h4 (fun j' j1' j2' => ?_) j j1 j2⟩
        · rw [h3 j hj, updN_ne (by omega)]
        · by_cases q : j' = 13 + (W * k + (W - (r + 1)))
          · rw [q, updN_eq]; exact y
          · rw [updN_ne q]; exact h9 j' j1' j2'
      · cases h
    · cases h; exact ⟨Nat.le_refl _, hp, fun _ _ => rfl, fun h => h⟩
theorem WF_wide {β : Nat → Nat} (w : WF β) (h0 : β 0 = 0) {v : Nat} (h1 : 1 ≤ v) (h2 : v ≤ 5) : WF (updN β 2 v) := by
  obtain ⟨⟨w0, w1, w2, w3, w4, w5, w6, w7, w8⟩, wk, wd, wl⟩ := id w
  have c0 : cl β = 0 := by unfold cl; rw [h0, Nat.zero_mul]
  refine ⟨⟨w0, h1, h2, w3, w4, w5, w6, w7, Or.inr ⟨h0, by show β 7 = 0; omega⟩⟩, ?_, ?_, ?_⟩
  · intro a ha; rw [updN_ne (by omega)]; exact wk a ha
  · intro k hk; rw [updN_ne (by omega), updN_ne (by omega), updN_ne (by omega)]; exact wd k hk
  · intro l hl; rw [updN_ne (by omega), updN_ne (by omega), updN_ne (by omega), updN_ne (by omega)]; exact wl l hl
theorem WF_acc {β β2 : Nat → Nat} (w : WF β) (h0 : β 0 < 5) {kd : Nat} (hkd : kd ≤ 1) (h2 : ∀ j, ¬ (13 + β 2 * β 0 ≤ j ∧ j < 13 + (β 2 * β 0 + β 2)) → β2 j = β j) (h9 : ∀ j, 13 + β 2 * β 0 ≤ j → j < 13 + (β 2 * β 0 + β 2) → β2 j ≤ 9) : WF (updN (updN β2 (8 + β 0) kd) 0 (β 0 + 1)) ∧ β 2 * β 0 + β 2 ≤ 25 := by
  obtain ⟨⟨w0, w1, w2, w3, w4, w5, w6, w7, w8⟩, wk, wd, wl⟩ := id w
  have hm : β 2 * β 0 + β 2 = (β 0 + 1) * β 2 := by rw [Nat.succ_mul, Nat.mul_comm]
  have hm2 : (β 0 + 1) * β 2 ≤ 5 * 5 := Nat.mul_le_mul (by omega) w2
  have lo : ∀ j, j < 13 → j ≠ 0 → j ≠ 8 + β 0 → updN (updN β2 (8 + β 0) kd) 0 (β 0 + 1) j = β j := fun j h1 h3 h4 => by rw [updN_ne h3, updN_ne h4, h2 j (by omega)]
  have hi : ∀ j, 38 ≤ j → updN (updN β2 (8 + β 0) kd) 0 (β 0 + 1) j = β j := fun j h1 => by rw [updN_ne (by omega), updN_ne (by omega), h2 j (by omega)]
  refine ⟨⟨⟨by rw [updN_eq]; omega, by rw [lo 2 (by omega) (by omega) (by omega)]; exact w1, by rw [lo 2 (by omega) (by omega) (by omega)]; exact w2, by rw [lo 1 (by omega) (by omega) (by omega)]; exact w3, by rw [lo 3 (by omega) (by omega) (by omega)]; exact w4, by rw [lo 3 (by omega) (by omega) (by omega)]; exact w5, by rw [lo 4 (by omega) (by omega) (by omega)]; exact w6, by rw [lo 5 (by omega) (by omega) (by omega)]; exact w7, ?_⟩, ?_, ?_, ?_⟩, by omega⟩
  · left
    unfold cl
    rw [lo 7 (by omega) (by omega) (by omega), updN_eq, lo 2 (by omega) (by omega) (by omega), ← hm]
    rcases w8 with q | q
    · unfold cl at q; rw [Nat.mul_comm] at q; omega
    · omega
  · intro a ha
    by_cases q : a = β 0
    · rw [updN_ne (by omega), q, updN_eq]; exact hkd
    · rw [lo (8 + a) (by omega) (by omega) (by omega)]; exact wk a ha
  · intro k hk
    obtain ⟨d1, d2, d3⟩ := wd k hk
    refine ⟨?_, by rw [hi _ (by omega)]; exact d2, by rw [hi _ (by omega)]; exact d3⟩
    rw [updN_ne (by omega), updN_ne (by omega)]
    by_cases q : 13 + β 2 * β 0 ≤ 13 + k ∧ 13 + k < 13 + (β 2 * β 0 + β 2)
    · exact h9 _ q.1 q.2
    · rw [h2 _ q]; exact d1
  · intro l hl; rw [hi _ (by omega), hi _ (by omega), hi _ (by omega), hi _ (by omega)]; exact wl l hl
theorem kindO_le {o : Option Nat} {kd : Nat} (h : kindO o = some kd) : kd ≤ 1 := by
  unfold kindO at h
  split at h
  · cases h; omega
  · split at h
    · cases h; omega
    · cases h
theorem placO_le {o : Option Nat} {k : Nat} (h : placO o = some k) : 1 ≤ k ∧ k ≤ 4 := by
  unfold placO at h
  repeat' split at h
  all_goals first | (cases h; omega) | cases h
theorem placO_i {o : Option Nat} {k : Nat} (h : placO o = some k) : ∃ i, o = some i ∧ i = k + 7 := by
  unfold placO at h
  split at h
  · rename_i z; cases h; exact ⟨8, z, rfl⟩
  · split at h
    · rename_i z; cases h; exact ⟨9, z, rfl⟩
    · split at h
      · rename_i z; cases h; exact ⟨10, z, rfl⟩
      · split at h
        · rename_i z; cases h; exact ⟨11, z, rfl⟩
        · cases h
theorem once_ok {j lo hi : Nat} {s s' : BS} (hs : PI e s) (h : onceS U e j lo hi s = .inr s') (hK : tK U e s.1 ≠ 0) : s.1 < s'.1 ∧ s'.1 ≤ e ∧ (∃ v, lo ≤ v ∧ v ≤ hi ∧ s'.2.1 = updN s.2.1 j v) := by
  unfold onceS at h
  split at h
  · cases h
  · obtain ⟨v, h1, h2⟩ := sb_ok h
    obtain ⟨q, h3, h4⟩ := sb_ok h2
    cases h4
    have t := tK0_le hs.1 hK
    obtain ⟨n1, n2, n3, n4, -, -⟩ := num_ok t.2 h1
    have n5 := end_ok n4 h3
    exact ⟨by show s.1 < q; omega, n5.2, v.1, n1, n2, rfl⟩
theorem prt_ok {s s' : BS} (hs : PI e s) (h : prtS U e s = .inr s') : s.1 < s'.1 ∧ PI e s' := by
  obtain ⟨hp, w, h5, h6, h63, h128⟩ := id hs
  have key : ∀ j v, (j = 2 ∨ j = 3 ∨ j = 4) → ∀ s' : BS, s'.2.1 = updN s.2.1 j v → s'.1 ≤ e → WF s'.2.1 → PI e s' := fun j v hj s' he hp' hw => by
    refine ⟨hp', hw, ?_, ?_, fun k hk => ?_, fun k hk => ?_⟩
    · rw [he, updN_ne (by omega)]; exact h5
    · rw [he, updN_ne (by omega)]; exact h6
    · rw [he, updN_ne (by omega)]; exact h63 k hk
    · rw [he, updN_ne (by omega)]; exact h128 k hk
  unfold prtS at h
  split at h
  · rename_i z
    unfold wideS at h
    split at h
    · cases h
    · rename_i y
      obtain ⟨a1, a2, v, a3, a4, a5⟩ := once_ok hs h (tO_K z)
      exact ⟨a1, key 2 v (by omega) s' a5 a2 (by rw [a5]; exact WF_wide w (by omega) a3 a4)⟩
  · split at h
    · rename_i z
      obtain ⟨a1, a2, v, a3, a4, a5⟩ := once_ok hs h (tO_K z)
      exact ⟨a1, key 3 v (by omega) s' a5 a2 (by rw [a5]; exact w.u_f (fun _ => ⟨a3, a4⟩) (by omega) (by omega) (by omega))⟩
    · split at h
      · rename_i z
        obtain ⟨a1, a2, v, a3, a4, a5⟩ := once_ok hs h (tO_K z)
        exact ⟨a1, key 4 v (by omega) s' a5 a2 (by rw [a5]; exact w.u_f (by omega) (fun _ => a4) (by omega) (by omega))⟩
      · split at h
        · rename_i z
          have t := tK0_le hp (tO_K z)
          unfold accS at h
          split at h
          · cases h
          · rename_i y0
            split at h
            · rename_i y1
              have t1 := tK0_le t.2 (by rw [(tM_K y1).1]; omega)
              split at h
              · cases hk : kindO (tO U e (tN U e (tN U e s.1))) with
                | none => rw [hk] at h; cases h
                | some kd =>
                  rw [hk] at h
                  have t2 := tN_le (U := U) (p := tN U e (tN U e s.1)) t1.2
                  obtain ⟨x, a1, a2⟩ := sb_ok h
                  obtain ⟨q, a3, a4⟩ := sb_ok a2
                  obtain ⟨d1, d2, d3, d4⟩ := dg_ok t2.2 (Nat.le_refl _) a1
                  have n5 := end_ok d2 a3
                  have wd := w.2.2.1
                  have wa := WF_acc w (by omega) (kindO_le hk) d3 (d4 (fun j j1 j2 => by
                    have w2 := w.1.2.2.1
                    have hm : s.2.1 2 * s.2.1 0 ≤ 5 * 4 := Nat.mul_le_mul w2 (by omega)
                    have := (wd (j - 13) (by omega)).1
                    rw [show 13 + (j - 13) = j by omega] at this
                    exact this))
                  cases a4
                  refine ⟨by show s.1 < q; omega, n5.2, wa.1, ?_, ?_, fun k hk' => ?_, fun k hk' => ?_⟩
                  · show updN (updN x.2 (8 + s.2.1 0) kd) 0 (s.2.1 0 + 1) 5 = 0
                    rw [updN_ne (by omega), updN_ne (by omega), d3 5 (by omega)]; exact h5
                  · show updN (updN x.2 (8 + s.2.1 0) kd) 0 (s.2.1 0 + 1) 6 = 0
                    rw [updN_ne (by omega), updN_ne (by omega), d3 6 (by omega)]; exact h6
                  · show updN (updN x.2 (8 + s.2.1 0) kd) 0 (s.2.1 0 + 1) (63 + k) = 0
                    rw [updN_ne (by omega), updN_ne (by omega), d3 (63 + k) (by omega)]; exact h63 k hk'
                  · show updN (updN x.2 (8 + s.2.1 0) kd) 0 (s.2.1 0 + 1) k = 0
                    rw [updN_ne (by omega), updN_ne (by omega), d3 k (by omega)]; exact h128 k hk'
              · cases h
            · cases h
        · split at h
          · rename_i z
            have t := tK0_le hp (tO_K z)
            unfold lawS at h
            split at h
            · cases h
            · rename_i y0
              obtain ⟨a, a1, a2⟩ := sb_ok h
              obtain ⟨q1, b1, b2⟩ := sb_ok a2
              obtain ⟨c, c1, c2⟩ := sb_ok b2
              obtain ⟨n1, n2, n3, n4, -, -⟩ := num_ok t.2 a1
              have n5 := wd_ok n4 b1
              obtain ⟨m1, m2, m3, m4, -, -⟩ := num_ok n5.2 c1
              have fin : ∀ (q pl be : Nat), s.1 < q → q ≤ e → pl ≤ 4 → be ≤ 9 → PI e (q, addB s.2.1 a.1 c.1 pl be, s.2.2.1, s.2.2.2) := fun q pl be q1 q2 q3 q4 =>
                ⟨q2, addB_wf w (by omega) n2 m2 q3 q4, by show addB s.2.1 a.1 c.1 pl be 5 = 0; rw [addB_lo (by omega) (by omega)]; exact h5, by show addB s.2.1 a.1 c.1 pl be 6 = 0; rw [addB_lo (by omega) (by omega)]; exact h6, fun k hk => by show addB s.2.1 a.1 c.1 pl be (63 + k) = 0; rw [addB_lo (by omega) (by omega)]; exact h63 k hk, fun k hk => by
                  show addB s.2.1 a.1 c.1 pl be k = 0
                  unfold addB
                  rw [updN_ne (by omega), updN_ne (by omega), updN_ne (by omega), updN_ne (by omega), updN_ne (by omega)]
                  exact h128 k hk⟩
              cases hk : placO (tO U e c.2) with
              | none =>
                rw [hk] at c2
                obtain ⟨q, d1, d2⟩ := sb_ok c2
                have n6 := end_ok m4 d1
                cases d2
                exact ⟨by show s.1 < q; omega, fin q 0 0 (by omega) n6.2 (by omega) (by omega)⟩
              | some pl =>
                rw [hk] at c2
                have hpl := placO_le hk
                have t2 := tN_le (U := U) (p := c.2) m4
                obtain ⟨d, d1, d2⟩ := sb_ok c2
                obtain ⟨q, e1, e2⟩ := sb_ok d2
                obtain ⟨k1, k2, k3, k4, -, -⟩ := num_ok t2.2 d1
                have n6 := end_ok k4 e1
                cases e2
                exact ⟨by show s.1 < q; omega, fin q pl d.1 (by omega) n6.2 (by omega) k2⟩
          · split at h
            · rename_i z
              have t := tK0_le hp (tO_K z)
              unfold watS at h
              split at h
              · cases h
              · obtain ⟨a, a1, a2⟩ := sb_ok h
                obtain ⟨c, c1, c2⟩ := sb_ok a2
                obtain ⟨q, d1, d2⟩ := sb_ok c2
                obtain ⟨n1, n2, n3⟩ := nm_ok t.2 a1
                obtain ⟨m1, m2, m3, m4, -, -⟩ := num_ok n3 c1
                have n6 := end_ok m4 d1
                have w1 := w.1.2.1
                have hcl : s.2.1 2 * a.1 + c.1 < cl s.2.1 := pl_lt n1 (by omega)
                cases d2
                refine ⟨by show s.1 < q; omega, n6.2, w.u_f (by omega) (by omega) (fun _ => hcl) (by omega), ?_, ?_, fun k hk' => ?_, fun k hk' => ?_⟩
                · show updN s.2.1 7 (s.2.1 2 * a.1 + c.1) 5 = 0; rw [updN_ne (by omega)]; exact h5
                · show updN s.2.1 7 (s.2.1 2 * a.1 + c.1) 6 = 0; rw [updN_ne (by omega)]; exact h6
                · show updN s.2.1 7 (s.2.1 2 * a.1 + c.1) (63 + k) = 0; rw [updN_ne (by omega)]; exact h63 k hk'
                · show updN s.2.1 7 (s.2.1 2 * a.1 + c.1) k = 0; rw [updN_ne (by omega)]; exact h128 k hk'
            · cases h
end SPEC2
