/-! ===== the first memory ===== -/
theorem R_first {μ : Mm} (r0 : mR μ 0 = 15) (r1 : mR μ 1 = 27) (r2 : mR μ 2 = 39) (r3 : mR μ 3 = 45) (rt : ∀ i, 4 ≤ i → i < 8 → mR μ i = 129 + i) (st : mI μ 0 0 = mI μ 141 0) (top : mJ μ 0 1 = mJ μ 141 2) (bot : mJ μ 0 2 = mJ μ 141 3) (tr : ∀ t, t < 4 → mA μ 7 t = -1 ∧ mA μ 143 t = -1 ∧ mA μ 8 t = mA μ 142 t) (t1 : mI μ 9 1 = 0) (t2 : mI μ 141 8 = 0) (fk : mI μ 9 2 = mI μ 141 10) (fa : mI μ 9 3 = mI μ 141 11) (sw : ∀ i, i < 28 → mL μ 11 i = swT i) (b0 : mI μ 15 0 = 3 ∧ mI μ 15 1 = 2 ∧ mI μ 15 2 = 2 ∧ mI μ 15 3 = 0 ∧ mI μ 15 4 = 0 ∧ mI μ 15 5 = 0 ∧ mI μ 15 6 = 0 ∧ mI μ 16 0 = 0) (c : ∀ k, k < 400 → mA μ 146 k = nI (bk0 k)) (n0 : mI μ 39 0 = 0) (m1 : mI μ 0 3 = 0) (m2 : mI μ 141 24 = 0) (lv : mI μ 137 0 = mI μ 141 40 ∧ ∀ j, j < 5 → mI μ 137 (2 + j) = mA μ 156 j) : R μ := by
  have w : WF bk0 := (bk0_PI (n := 0)).2.1
  have z0 : bk0 0 = 0 := rfl
  have zc : cl bk0 = 0 := rfl
  refine ⟨Or.inl ⟨r0, r1⟩, Or.inl ⟨r2, r3⟩, ⟨fun i h1 h2 => by rw [rt i h1 h2]; omega, fun i j h1 h2 h3 => by rw [rt i h1 (by omega), rt j (by omega) h3]; omega⟩, st, top, bot, fun t ht => ⟨by rw [(tr t ht).1, (tr t ht).2.1], (tr t ht).2.2, Or.inl (tr t ht).1⟩, ⟨0, by omega, t1, t2, fun k hk => by omega⟩, fk, fa, sw, ?_, ⟨0, by omega, m1, m2, fun i hi => by omega⟩, lv⟩
  rw [r0, r2]
  obtain ⟨a0, a1, a2, a3, a4, a5, a6, a7⟩ := b0
  refine ⟨bk0, fun _ => 0, fun j k => if j = 0 then mI μ 39 k else mA μ (39 + j) k, fun k => mA μ 146 (128 + k), ⟨a0, a1, a2, a3, a4, a5, a6, a7, fun l hl => absurd hl (by show ¬ l < bk0 1; rw [show bk0 1 = 0 from rfl]; omega), fun l hl => absurd hl (by rw [show bk0 1 = 0 from rfl]; omega), fun l hl => absurd hl (by rw [show bk0 1 = 0 from rfl]; omega), fun l hl => absurd hl (by rw [show bk0 1 = 0 from rfl]; omega), fun l hl => absurd hl (by rw [z0]; omega), fun l hl => absurd hl (by rw [zc]; omega), fun l hl => absurd hl (by rw [zc]; omega), fun l hl => absurd hl (by rw [zc]; omega)⟩, fun k hk => by rw [show 400 * 0 + k = k by omega]; exact c k (by omega), w, by decide, fun a ha => absurd ha (by rw [z0]; omega), fun a ha => absurd ha (by rw [z0]; omega), fun k hk => rfl, fun j h1 h2 k hk => (if_neg (by omega)).symm, fun k hk => by rw [show 400 * 0 + (128 + k) = 128 + k by omega], Or.inl ⟨n0, ?_⟩⟩
  show mA μ 146 (128 + 0) = 0
  rw [c 128 (by omega)]
  rfl
