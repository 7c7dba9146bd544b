theorem rdE_lt {a N x : Nat} {i : Int32} (h : rdE a N i = some x) : ∃ j, j < N ∧ x = elm a j := by
  unfold rdE at h
  split at h
  · cases h
  · rename_i q
    cases h
    exact ⟨_, Nat.not_le.mp fun z => q (Or.inr z), rfl⟩
theorem rdE_bk {x : Nat} {i : Int32} (h : rdE 51 3 i = some x) : Bk x := by
  obtain ⟨j, hj, rfl⟩ := rdE_lt h
  rcases (show j = 0 ∨ j = 1 ∨ j = 2 by omega) with rfl | rfl | rfl <;> simp [Bk, elm]
theorem rdE_nt {x : Nat} {i : Int32} (h : rdE 52 3 i = some x) : Nt x := by
  obtain ⟨j, hj, rfl⟩ := rdE_lt h
  rcases (show j = 0 ∨ j = 1 ∨ j = 2 by omega) with rfl | rfl | rfl <;> simp [Nt, elm]
theorem rdE_2 {x : Nat} {i : Int32} (h : rdE 2 4 i = some x) : shp x = (1, 60) := by
  obtain ⟨j, hj, rfl⟩ := rdE_lt h
  rcases (show j = 0 ∨ j = 1 ∨ j = 2 ∨ j = 3 by omega) with rfl | rfl | rfl | rfl <;> rfl
theorem rdE_110 {x : Nat} {i : Int32} (h : rdE 110 6 i = some x) : shp x = (0, 25) := by
  obtain ⟨j, hj, rfl⟩ := rdE_lt h
  rcases (show j = 0 ∨ j = 1 ∨ j = 2 ∨ j = 3 ∨ j = 4 ∨ j = 5 by omega) with rfl | rfl | rfl | rfl | rfl | rfl <;> rfl
theorem rdE_117 {x : Nat} {i : Int32} (h : rdE 117 6 i = some x) : shp x = (0, 25) := by
  obtain ⟨j, hj, rfl⟩ := rdE_lt h
  rcases (show j = 0 ∨ j = 1 ∨ j = 2 ∨ j = 3 ∨ j = 4 ∨ j = 5 by omega) with rfl | rfl | rfl | rfl | rfl | rfl <;> rfl
theorem rdE_124 {x : Nat} {i : Int32} (h : rdE 124 6 i = some x) : shp x = (0, 25) := by
  obtain ⟨j, hj, rfl⟩ := rdE_lt h
  rcases (show j = 0 ∨ j = 1 ∨ j = 2 ∨ j = 3 ∨ j = 4 ∨ j = 5 by omega) with rfl | rfl | rfl | rfl | rfl | rfl <;> rfl
theorem g_tswDef {ρ : Type} {g : GG} {own : String} {cc : ByteArray} {n : Nat} {rk : Instr} {d : Nat} {cv : ρ → Option Value × Mm} {pc : Nat} {lv : List (Nat × Value)} {st : List Value} {μ : Mm} {o : Option ρ} {x : Int32} {dflt lo hi : Int} {offs : Array Int} {len tgt : Nat} (hd : decode cc pc = .ok (.tableswitch dflt lo hi offs, len)) (ht : (pc : Int) + dflt = (tgt : Int)) (h : ∀ z : Int, z = x.toInt → ¬ z < lo → ¬ hi < z → offs[(z - lo).toNat]? = some dflt) (k : Go g own cc n rk d cv tgt lv st μ o) : Go g own cc n rk d cv pc lv (.int x :: st) μ o := by
  by_cases h1 : x.toInt < lo
  · exact g_tswOut hd (Or.inl h1) ht k
  · by_cases h2 : hi < x.toInt
    · exact g_tswOut hd (Or.inr h2) ht k
    · exact g_tswIn x hd rfl h1 h2 (h _ rfl h1 h2) ht k
