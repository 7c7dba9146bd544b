/-! ===== the first memory ===== -/
def m0I (i k : Nat) : Int32 := if i = 9 then (if k = 2 then -1 else if k = 3 then -1 else 0) else if i = 141 then (if k = 10 then -1 else if k = 11 then -1 else 0) else if (i == 15 || i == 27 || i == 53 || i == 71 || i == 89) = true then (if k = 0 then 3 else if k = 1 then 2 else if k = 2 then 2 else 0) else 0
def m0J (i k : Nat) : Int64 := if i = 0 then (if k = 2 then 1 else 0) else if i = 141 then (if k = 3 then 1 else 0) else 0
def m0A (i : Nat) : Nat → Int32 := if i = 7 then upd (upd (upd (upd (fun _ => 0) 0 (-1)) 1 (-1)) 2 (-1)) 3 (-1) else if i = 143 then upd (upd (upd (upd (fun _ => 0) 0 (-1)) 1 (-1)) 2 (-1)) 3 (-1) else if i = 146 then upd (upd (upd (fun _ => 0) 2 3) 3 2) 4 2 else fun _ => 0
def m0L (i : Nat) : Nat → Int64 := if i = 11 then TF0 else fun _ => 0
def m0R (i : Nat) : Nat := [15, 27, 39, 45, 133, 134, 135, 136].getD i 0
def mu0 : Mm := (m0I, m0J, m0A, m0L, (fun _ _ => 0), m0R)
def allc (g : GG) : List va_E := r_X11_init g ++ r_X12_init g
/-- two cells that a heap can't tell apart -/
def EqE (e e2 : va_E) : Prop := e = e2 ∨ ∃ (c : ClassId) (n : Nat) (f f2 : Nat → Option Nat), e = .inl (c, n, .inr (.inr (.inr (.inr f)))) ∧ e2 = .inl (c, n, .inr (.inr (.inr (.inr f2)))) ∧ ∀ j, j < n → f j = f2 j
theorem arrV_same {c : ClassId} {n : Nat} {f f2 : Nat → Value} (h : ∀ j, j < n → f j = f2 j) : arrV c n f = arrV c n f2 := by
  unfold arrV
  congr 1
  apply Array.ext_getElem?
  intro j
  by_cases hj : j < n
  · simp [hj, h j hj]
  · simp [hj]
theorem EqE.at {g : GG} {a : Nat} {e e2 : va_E} {H : Heap} (h : EqE e e2) (q : va_at (gD g) vwCl (a, e) H) : va_at (gD g) vwCl (a, e2) H := by
  rcases h with rfl | ⟨c, n, f, f2, rfl, rfl, h⟩
  · exact q
  · have q2 : H[a]? = some (vp_cell c (n, .inr (.inr (.inr (.inr f))))) := q
    show H[a]? = some (vp_cell c (n, .inr (.inr (.inr (.inr f2)))))
    rw [q2, vp_cell_q, vp_cell_q, arrV_same (fun j hj => by rw [h j hj])]
def PE (g : GG) (k : Nat) : Prop := ∃ e, (allc g)[k]? = some e ∧ EqE e (cellE g mu0 k)
theorem lsc {Q : Nat → Prop} {n : Nat} (h : ∀ k, k < n → Q k) (hn : Q n) : ∀ k, k < n + 1 → Q k := fun k hk => by
  by_cases e : k = n
  · rw [e]; exact hn
  · exact h k (by omega)
theorem pe_0 (g : GG) : ∀ k, k < 0 → PE g k := fun k hk => absurd hk (Nat.not_lt_zero k)
set_option maxRecDepth 100000 in
set_option maxHeartbeats 2000000 in
theorem pe_1 (g : GG) : ∀ k, k < 1 → PE g k := lsc (pe_0 g) ⟨_, rfl, Or.inl rfl⟩
set_option maxRecDepth 100000 in
set_option maxHeartbeats 2000000 in
theorem pe_2 (g : GG) : ∀ k, k < 2 → PE g k := lsc (pe_1 g) ⟨_, rfl, Or.inl rfl⟩
set_option maxRecDepth 100000 in
set_option maxHeartbeats 2000000 in
theorem pe_3 (g : GG) : ∀ k, k < 3 → PE g k := lsc (pe_2 g) ⟨_, rfl, Or.inr ⟨_, _, _, _, rfl, rfl, fun j hj => (if_pos hj).trans (congrArg some (by show _ = gb g + (3 + j); omega))⟩⟩
set_option maxRecDepth 100000 in
set_option maxHeartbeats 2000000 in
theorem pe_4 (g : GG) : ∀ k, k < 4 → PE g k := lsc (pe_3 g) ⟨_, rfl, Or.inl rfl⟩
set_option maxRecDepth 100000 in
set_option maxHeartbeats 2000000 in
theorem pe_5 (g : GG) : ∀ k, k < 5 → PE g k := lsc (pe_4 g) ⟨_, rfl, Or.inl rfl⟩
set_option maxRecDepth 100000 in
set_option maxHeartbeats 2000000 in
theorem pe_6 (g : GG) : ∀ k, k < 6 → PE g k := lsc (pe_5 g) ⟨_, rfl, Or.inl rfl⟩
set_option maxRecDepth 100000 in
set_option maxHeartbeats 2000000 in
theorem pe_7 (g : GG) : ∀ k, k < 7 → PE g k := lsc (pe_6 g) ⟨_, rfl, Or.inl rfl⟩
set_option maxRecDepth 100000 in
set_option maxHeartbeats 2000000 in
theorem pe_8 (g : GG) : ∀ k, k < 8 → PE g k := lsc (pe_7 g) ⟨_, rfl, Or.inl rfl⟩
set_option maxRecDepth 100000 in
set_option maxHeartbeats 2000000 in
theorem pe_9 (g : GG) : ∀ k, k < 9 → PE g k := lsc (pe_8 g) ⟨_, rfl, Or.inl rfl⟩
set_option maxRecDepth 100000 in
set_option maxHeartbeats 2000000 in
theorem pe_10 (g : GG) : ∀ k, k < 10 → PE g k := lsc (pe_9 g) ⟨_, rfl, Or.inl rfl⟩
set_option maxRecDepth 100000 in
set_option maxHeartbeats 2000000 in
theorem pe_11 (g : GG) : ∀ k, k < 11 → PE g k := lsc (pe_10 g) ⟨_, rfl, Or.inl rfl⟩
set_option maxRecDepth 100000 in
set_option maxHeartbeats 2000000 in
theorem pe_12 (g : GG) : ∀ k, k < 12 → PE g k := lsc (pe_11 g) ⟨_, rfl, Or.inl rfl⟩
set_option maxRecDepth 100000 in
set_option maxHeartbeats 2000000 in
theorem pe_13 (g : GG) : ∀ k, k < 13 → PE g k := lsc (pe_12 g) ⟨_, rfl, Or.inl rfl⟩
set_option maxRecDepth 100000 in
set_option maxHeartbeats 2000000 in
theorem pe_14 (g : GG) : ∀ k, k < 14 → PE g k := lsc (pe_13 g) ⟨_, rfl, Or.inl rfl⟩
set_option maxRecDepth 100000 in
set_option maxHeartbeats 2000000 in
theorem pe_15 (g : GG) : ∀ k, k < 15 → PE g k := lsc (pe_14 g) ⟨_, rfl, Or.inl rfl⟩
set_option maxRecDepth 100000 in
set_option maxHeartbeats 2000000 in
theorem pe_16 (g : GG) : ∀ k, k < 16 → PE g k := lsc (pe_15 g) ⟨_, rfl, Or.inl rfl⟩
set_option maxRecDepth 100000 in
set_option maxHeartbeats 2000000 in
theorem pe_17 (g : GG) : ∀ k, k < 17 → PE g k := lsc (pe_16 g) ⟨_, rfl, Or.inl rfl⟩
set_option maxRecDepth 100000 in
set_option maxHeartbeats 2000000 in
theorem pe_18 (g : GG) : ∀ k, k < 18 → PE g k := lsc (pe_17 g) ⟨_, rfl, Or.inl rfl⟩
set_option maxRecDepth 100000 in
set_option maxHeartbeats 2000000 in
theorem pe_19 (g : GG) : ∀ k, k < 19 → PE g k := lsc (pe_18 g) ⟨_, rfl, Or.inl rfl⟩
set_option maxRecDepth 100000 in
set_option maxHeartbeats 2000000 in
theorem pe_20 (g : GG) : ∀ k, k < 20 → PE g k := lsc (pe_19 g) ⟨_, rfl, Or.inl rfl⟩
set_option maxRecDepth 100000 in
set_option maxHeartbeats 2000000 in
theorem pe_21 (g : GG) : ∀ k, k < 21 → PE g k := lsc (pe_20 g) ⟨_, rfl, Or.inl rfl⟩
set_option maxRecDepth 100000 in
set_option maxHeartbeats 2000000 in
theorem pe_22 (g : GG) : ∀ k, k < 22 → PE g k := lsc (pe_21 g) ⟨_, rfl, Or.inl rfl⟩
set_option maxRecDepth 100000 in
set_option maxHeartbeats 2000000 in
theorem pe_23 (g : GG) : ∀ k, k < 23 → PE g k := lsc (pe_22 g) ⟨_, rfl, Or.inl rfl⟩
set_option maxRecDepth 100000 in
set_option maxHeartbeats 2000000 in
theorem pe_24 (g : GG) : ∀ k, k < 24 → PE g k := lsc (pe_23 g) ⟨_, rfl, Or.inl rfl⟩
set_option maxRecDepth 100000 in
set_option maxHeartbeats 2000000 in
theorem pe_25 (g : GG) : ∀ k, k < 25 → PE g k := lsc (pe_24 g) ⟨_, rfl, Or.inl rfl⟩
set_option maxRecDepth 100000 in
set_option maxHeartbeats 2000000 in
theorem pe_26 (g : GG) : ∀ k, k < 26 → PE g k := lsc (pe_25 g) ⟨_, rfl, Or.inl rfl⟩
set_option maxRecDepth 100000 in
set_option maxHeartbeats 2000000 in
theorem pe_27 (g : GG) : ∀ k, k < 27 → PE g k := lsc (pe_26 g) ⟨_, rfl, Or.inl rfl⟩
set_option maxRecDepth 100000 in
set_option maxHeartbeats 2000000 in
theorem pe_28 (g : GG) : ∀ k, k < 28 → PE g k := lsc (pe_27 g) ⟨_, rfl, Or.inl rfl⟩
set_option maxRecDepth 100000 in
set_option maxHeartbeats 2000000 in
theorem pe_29 (g : GG) : ∀ k, k < 29 → PE g k := lsc (pe_28 g) ⟨_, rfl, Or.inl rfl⟩
set_option maxRecDepth 100000 in
set_option maxHeartbeats 2000000 in
theorem pe_30 (g : GG) : ∀ k, k < 30 → PE g k := lsc (pe_29 g) ⟨_, rfl, Or.inl rfl⟩
set_option maxRecDepth 100000 in
set_option maxHeartbeats 2000000 in
theorem pe_31 (g : GG) : ∀ k, k < 31 → PE g k := lsc (pe_30 g) ⟨_, rfl, Or.inl rfl⟩
set_option maxRecDepth 100000 in
set_option maxHeartbeats 2000000 in
theorem pe_32 (g : GG) : ∀ k, k < 32 → PE g k := lsc (pe_31 g) ⟨_, rfl, Or.inl rfl⟩
set_option maxRecDepth 100000 in
set_option maxHeartbeats 2000000 in
theorem pe_33 (g : GG) : ∀ k, k < 33 → PE g k := lsc (pe_32 g) ⟨_, rfl, Or.inl rfl⟩
set_option maxRecDepth 100000 in
set_option maxHeartbeats 2000000 in
theorem pe_34 (g : GG) : ∀ k, k < 34 → PE g k := lsc (pe_33 g) ⟨_, rfl, Or.inl rfl⟩
set_option maxRecDepth 100000 in
set_option maxHeartbeats 2000000 in
theorem pe_35 (g : GG) : ∀ k, k < 35 → PE g k := lsc (pe_34 g) ⟨_, rfl, Or.inl rfl⟩
set_option maxRecDepth 100000 in
set_option maxHeartbeats 2000000 in
theorem pe_36 (g : GG) : ∀ k, k < 36 → PE g k := lsc (pe_35 g) ⟨_, rfl, Or.inl rfl⟩
set_option maxRecDepth 100000 in
set_option maxHeartbeats 2000000 in
theorem pe_37 (g : GG) : ∀ k, k < 37 → PE g k := lsc (pe_36 g) ⟨_, rfl, Or.inl rfl⟩
set_option maxRecDepth 100000 in
set_option maxHeartbeats 2000000 in
theorem pe_38 (g : GG) : ∀ k, k < 38 → PE g k := lsc (pe_37 g) ⟨_, rfl, Or.inl rfl⟩
set_option maxRecDepth 100000 in
set_option maxHeartbeats 2000000 in
theorem pe_39 (g : GG) : ∀ k, k < 39 → PE g k := lsc (pe_38 g) ⟨_, rfl, Or.inl rfl⟩
set_option maxRecDepth 100000 in
set_option maxHeartbeats 2000000 in
theorem pe_40 (g : GG) : ∀ k, k < 40 → PE g k := lsc (pe_39 g) ⟨_, rfl, Or.inl rfl⟩
set_option maxRecDepth 100000 in
set_option maxHeartbeats 2000000 in
theorem pe_41 (g : GG) : ∀ k, k < 41 → PE g k := lsc (pe_40 g) ⟨_, rfl, Or.inl rfl⟩
set_option maxRecDepth 100000 in
set_option maxHeartbeats 2000000 in
theorem pe_42 (g : GG) : ∀ k, k < 42 → PE g k := lsc (pe_41 g) ⟨_, rfl, Or.inl rfl⟩
set_option maxRecDepth 100000 in
set_option maxHeartbeats 2000000 in
theorem pe_43 (g : GG) : ∀ k, k < 43 → PE g k := lsc (pe_42 g) ⟨_, rfl, Or.inl rfl⟩
set_option maxRecDepth 100000 in
set_option maxHeartbeats 2000000 in
theorem pe_44 (g : GG) : ∀ k, k < 44 → PE g k := lsc (pe_43 g) ⟨_, rfl, Or.inl rfl⟩
set_option maxRecDepth 100000 in
set_option maxHeartbeats 2000000 in
theorem pe_45 (g : GG) : ∀ k, k < 45 → PE g k := lsc (pe_44 g) ⟨_, rfl, Or.inl rfl⟩
set_option maxRecDepth 100000 in
set_option maxHeartbeats 2000000 in
theorem pe_46 (g : GG) : ∀ k, k < 46 → PE g k := lsc (pe_45 g) ⟨_, rfl, Or.inl rfl⟩
set_option maxRecDepth 100000 in
set_option maxHeartbeats 2000000 in
theorem pe_47 (g : GG) : ∀ k, k < 47 → PE g k := lsc (pe_46 g) ⟨_, rfl, Or.inl rfl⟩
set_option maxRecDepth 100000 in
set_option maxHeartbeats 2000000 in
theorem pe_48 (g : GG) : ∀ k, k < 48 → PE g k := lsc (pe_47 g) ⟨_, rfl, Or.inl rfl⟩
set_option maxRecDepth 100000 in
set_option maxHeartbeats 2000000 in
theorem pe_49 (g : GG) : ∀ k, k < 49 → PE g k := lsc (pe_48 g) ⟨_, rfl, Or.inl rfl⟩
set_option maxRecDepth 100000 in
set_option maxHeartbeats 2000000 in
theorem pe_50 (g : GG) : ∀ k, k < 50 → PE g k := lsc (pe_49 g) ⟨_, rfl, Or.inl rfl⟩
set_option maxRecDepth 100000 in
set_option maxHeartbeats 2000000 in
theorem pe_51 (g : GG) : ∀ k, k < 51 → PE g k := lsc (pe_50 g) ⟨_, rfl, Or.inl rfl⟩
set_option maxRecDepth 100000 in
set_option maxHeartbeats 2000000 in
theorem pe_52 (g : GG) : ∀ k, k < 52 → PE g k := lsc (pe_51 g) ⟨_, rfl, Or.inr ⟨_, _, _, _, rfl, rfl, fun j hj => by rcases (show j = 0 ∨ j = 1 ∨ j = 2 by omega) with rfl | rfl | rfl <;> rfl⟩⟩
set_option maxRecDepth 100000 in
set_option maxHeartbeats 2000000 in
theorem pe_53 (g : GG) : ∀ k, k < 53 → PE g k := lsc (pe_52 g) ⟨_, rfl, Or.inr ⟨_, _, _, _, rfl, rfl, fun j hj => by rcases (show j = 0 ∨ j = 1 ∨ j = 2 by omega) with rfl | rfl | rfl <;> rfl⟩⟩
set_option maxRecDepth 100000 in
set_option maxHeartbeats 2000000 in
theorem pe_54 (g : GG) : ∀ k, k < 54 → PE g k := lsc (pe_53 g) ⟨_, rfl, Or.inl rfl⟩
set_option maxRecDepth 100000 in
set_option maxHeartbeats 2000000 in
theorem pe_55 (g : GG) : ∀ k, k < 55 → PE g k := lsc (pe_54 g) ⟨_, rfl, Or.inl rfl⟩
set_option maxRecDepth 100000 in
set_option maxHeartbeats 2000000 in
theorem pe_56 (g : GG) : ∀ k, k < 56 → PE g k := lsc (pe_55 g) ⟨_, rfl, Or.inl rfl⟩
set_option maxRecDepth 100000 in
set_option maxHeartbeats 2000000 in
theorem pe_57 (g : GG) : ∀ k, k < 57 → PE g k := lsc (pe_56 g) ⟨_, rfl, Or.inl rfl⟩
set_option maxRecDepth 100000 in
set_option maxHeartbeats 2000000 in
theorem pe_58 (g : GG) : ∀ k, k < 58 → PE g k := lsc (pe_57 g) ⟨_, rfl, Or.inl rfl⟩
set_option maxRecDepth 100000 in
set_option maxHeartbeats 2000000 in
theorem pe_59 (g : GG) : ∀ k, k < 59 → PE g k := lsc (pe_58 g) ⟨_, rfl, Or.inl rfl⟩
set_option maxRecDepth 100000 in
set_option maxHeartbeats 2000000 in
theorem pe_60 (g : GG) : ∀ k, k < 60 → PE g k := lsc (pe_59 g) ⟨_, rfl, Or.inl rfl⟩
set_option maxRecDepth 100000 in
set_option maxHeartbeats 2000000 in
theorem pe_61 (g : GG) : ∀ k, k < 61 → PE g k := lsc (pe_60 g) ⟨_, rfl, Or.inl rfl⟩
set_option maxRecDepth 100000 in
set_option maxHeartbeats 2000000 in
theorem pe_62 (g : GG) : ∀ k, k < 62 → PE g k := lsc (pe_61 g) ⟨_, rfl, Or.inl rfl⟩
set_option maxRecDepth 100000 in
set_option maxHeartbeats 2000000 in
theorem pe_63 (g : GG) : ∀ k, k < 63 → PE g k := lsc (pe_62 g) ⟨_, rfl, Or.inl rfl⟩
set_option maxRecDepth 100000 in
set_option maxHeartbeats 2000000 in
theorem pe_64 (g : GG) : ∀ k, k < 64 → PE g k := lsc (pe_63 g) ⟨_, rfl, Or.inl rfl⟩
set_option maxRecDepth 100000 in
set_option maxHeartbeats 2000000 in
theorem pe_65 (g : GG) : ∀ k, k < 65 → PE g k := lsc (pe_64 g) ⟨_, rfl, Or.inl rfl⟩
set_option maxRecDepth 100000 in
set_option maxHeartbeats 2000000 in
theorem pe_66 (g : GG) : ∀ k, k < 66 → PE g k := lsc (pe_65 g) ⟨_, rfl, Or.inl rfl⟩
set_option maxRecDepth 100000 in
set_option maxHeartbeats 2000000 in
theorem pe_67 (g : GG) : ∀ k, k < 67 → PE g k := lsc (pe_66 g) ⟨_, rfl, Or.inl rfl⟩
set_option maxRecDepth 100000 in
set_option maxHeartbeats 2000000 in
theorem pe_68 (g : GG) : ∀ k, k < 68 → PE g k := lsc (pe_67 g) ⟨_, rfl, Or.inl rfl⟩
set_option maxRecDepth 100000 in
set_option maxHeartbeats 2000000 in
theorem pe_69 (g : GG) : ∀ k, k < 69 → PE g k := lsc (pe_68 g) ⟨_, rfl, Or.inl rfl⟩
set_option maxRecDepth 100000 in
set_option maxHeartbeats 2000000 in
theorem pe_70 (g : GG) : ∀ k, k < 70 → PE g k := lsc (pe_69 g) ⟨_, rfl, Or.inl rfl⟩
set_option maxRecDepth 100000 in
set_option maxHeartbeats 2000000 in
theorem pe_71 (g : GG) : ∀ k, k < 71 → PE g k := lsc (pe_70 g) ⟨_, rfl, Or.inl rfl⟩
set_option maxRecDepth 100000 in
set_option maxHeartbeats 2000000 in
theorem pe_72 (g : GG) : ∀ k, k < 72 → PE g k := lsc (pe_71 g) ⟨_, rfl, Or.inl rfl⟩
set_option maxRecDepth 100000 in
set_option maxHeartbeats 2000000 in
theorem pe_73 (g : GG) : ∀ k, k < 73 → PE g k := lsc (pe_72 g) ⟨_, rfl, Or.inl rfl⟩
set_option maxRecDepth 100000 in
set_option maxHeartbeats 2000000 in
theorem pe_74 (g : GG) : ∀ k, k < 74 → PE g k := lsc (pe_73 g) ⟨_, rfl, Or.inl rfl⟩
set_option maxRecDepth 100000 in
set_option maxHeartbeats 2000000 in
theorem pe_75 (g : GG) : ∀ k, k < 75 → PE g k := lsc (pe_74 g) ⟨_, rfl, Or.inl rfl⟩
set_option maxRecDepth 100000 in
set_option maxHeartbeats 2000000 in
theorem pe_76 (g : GG) : ∀ k, k < 76 → PE g k := lsc (pe_75 g) ⟨_, rfl, Or.inl rfl⟩
set_option maxRecDepth 100000 in
set_option maxHeartbeats 2000000 in
theorem pe_77 (g : GG) : ∀ k, k < 77 → PE g k := lsc (pe_76 g) ⟨_, rfl, Or.inl rfl⟩
set_option maxRecDepth 100000 in
set_option maxHeartbeats 2000000 in
theorem pe_78 (g : GG) : ∀ k, k < 78 → PE g k := lsc (pe_77 g) ⟨_, rfl, Or.inl rfl⟩
set_option maxRecDepth 100000 in
set_option maxHeartbeats 2000000 in
theorem pe_79 (g : GG) : ∀ k, k < 79 → PE g k := lsc (pe_78 g) ⟨_, rfl, Or.inl rfl⟩
set_option maxRecDepth 100000 in
set_option maxHeartbeats 2000000 in
theorem pe_80 (g : GG) : ∀ k, k < 80 → PE g k := lsc (pe_79 g) ⟨_, rfl, Or.inl rfl⟩
set_option maxRecDepth 100000 in
set_option maxHeartbeats 2000000 in
theorem pe_81 (g : GG) : ∀ k, k < 81 → PE g k := lsc (pe_80 g) ⟨_, rfl, Or.inl rfl⟩
set_option maxRecDepth 100000 in
set_option maxHeartbeats 2000000 in
theorem pe_82 (g : GG) : ∀ k, k < 82 → PE g k := lsc (pe_81 g) ⟨_, rfl, Or.inl rfl⟩
set_option maxRecDepth 100000 in
set_option maxHeartbeats 2000000 in
theorem pe_83 (g : GG) : ∀ k, k < 83 → PE g k := lsc (pe_82 g) ⟨_, rfl, Or.inl rfl⟩
set_option maxRecDepth 100000 in
set_option maxHeartbeats 2000000 in
theorem pe_84 (g : GG) : ∀ k, k < 84 → PE g k := lsc (pe_83 g) ⟨_, rfl, Or.inl rfl⟩
set_option maxRecDepth 100000 in
set_option maxHeartbeats 2000000 in
theorem pe_85 (g : GG) : ∀ k, k < 85 → PE g k := lsc (pe_84 g) ⟨_, rfl, Or.inl rfl⟩
set_option maxRecDepth 100000 in
set_option maxHeartbeats 2000000 in
theorem pe_86 (g : GG) : ∀ k, k < 86 → PE g k := lsc (pe_85 g) ⟨_, rfl, Or.inl rfl⟩
set_option maxRecDepth 100000 in
set_option maxHeartbeats 2000000 in
theorem pe_87 (g : GG) : ∀ k, k < 87 → PE g k := lsc (pe_86 g) ⟨_, rfl, Or.inl rfl⟩
set_option maxRecDepth 100000 in
set_option maxHeartbeats 2000000 in
theorem pe_88 (g : GG) : ∀ k, k < 88 → PE g k := lsc (pe_87 g) ⟨_, rfl, Or.inl rfl⟩
set_option maxRecDepth 100000 in
set_option maxHeartbeats 2000000 in
theorem pe_89 (g : GG) : ∀ k, k < 89 → PE g k := lsc (pe_88 g) ⟨_, rfl, Or.inl rfl⟩
set_option maxRecDepth 100000 in
set_option maxHeartbeats 2000000 in
theorem pe_90 (g : GG) : ∀ k, k < 90 → PE g k := lsc (pe_89 g) ⟨_, rfl, Or.inl rfl⟩
set_option maxRecDepth 100000 in
set_option maxHeartbeats 2000000 in
theorem pe_91 (g : GG) : ∀ k, k < 91 → PE g k := lsc (pe_90 g) ⟨_, rfl, Or.inl rfl⟩
set_option maxRecDepth 100000 in
set_option maxHeartbeats 2000000 in
theorem pe_92 (g : GG) : ∀ k, k < 92 → PE g k := lsc (pe_91 g) ⟨_, rfl, Or.inl rfl⟩
set_option maxRecDepth 100000 in
set_option maxHeartbeats 2000000 in
theorem pe_93 (g : GG) : ∀ k, k < 93 → PE g k := lsc (pe_92 g) ⟨_, rfl, Or.inl rfl⟩
set_option maxRecDepth 100000 in
set_option maxHeartbeats 2000000 in
theorem pe_94 (g : GG) : ∀ k, k < 94 → PE g k := lsc (pe_93 g) ⟨_, rfl, Or.inl rfl⟩
set_option maxRecDepth 100000 in
set_option maxHeartbeats 2000000 in
theorem pe_95 (g : GG) : ∀ k, k < 95 → PE g k := lsc (pe_94 g) ⟨_, rfl, Or.inl rfl⟩
set_option maxRecDepth 100000 in
set_option maxHeartbeats 2000000 in
theorem pe_96 (g : GG) : ∀ k, k < 96 → PE g k := lsc (pe_95 g) ⟨_, rfl, Or.inl rfl⟩
set_option maxRecDepth 100000 in
set_option maxHeartbeats 2000000 in
theorem pe_97 (g : GG) : ∀ k, k < 97 → PE g k := lsc (pe_96 g) ⟨_, rfl, Or.inl rfl⟩
set_option maxRecDepth 100000 in
set_option maxHeartbeats 2000000 in
theorem pe_98 (g : GG) : ∀ k, k < 98 → PE g k := lsc (pe_97 g) ⟨_, rfl, Or.inl rfl⟩
set_option maxRecDepth 100000 in
set_option maxHeartbeats 2000000 in
theorem pe_99 (g : GG) : ∀ k, k < 99 → PE g k := lsc (pe_98 g) ⟨_, rfl, Or.inl rfl⟩
set_option maxRecDepth 100000 in
set_option maxHeartbeats 2000000 in
theorem pe_100 (g : GG) : ∀ k, k < 100 → PE g k := lsc (pe_99 g) ⟨_, rfl, Or.inl rfl⟩
set_option maxRecDepth 100000 in
set_option maxHeartbeats 2000000 in
theorem pe_101 (g : GG) : ∀ k, k < 101 → PE g k := lsc (pe_100 g) ⟨_, rfl, Or.inl rfl⟩
set_option maxRecDepth 100000 in
set_option maxHeartbeats 2000000 in
theorem pe_102 (g : GG) : ∀ k, k < 102 → PE g k := lsc (pe_101 g) ⟨_, rfl, Or.inl rfl⟩
set_option maxRecDepth 100000 in
set_option maxHeartbeats 2000000 in
theorem pe_103 (g : GG) : ∀ k, k < 103 → PE g k := lsc (pe_102 g) ⟨_, rfl, Or.inl rfl⟩
set_option maxRecDepth 100000 in
set_option maxHeartbeats 2000000 in
theorem pe_104 (g : GG) : ∀ k, k < 104 → PE g k := lsc (pe_103 g) ⟨_, rfl, Or.inl rfl⟩
set_option maxRecDepth 100000 in
set_option maxHeartbeats 2000000 in
theorem pe_105 (g : GG) : ∀ k, k < 105 → PE g k := lsc (pe_104 g) ⟨_, rfl, Or.inl rfl⟩
set_option maxRecDepth 100000 in
set_option maxHeartbeats 2000000 in
theorem pe_106 (g : GG) : ∀ k, k < 106 → PE g k := lsc (pe_105 g) ⟨_, rfl, Or.inl rfl⟩
set_option maxRecDepth 100000 in
set_option maxHeartbeats 2000000 in
theorem pe_107 (g : GG) : ∀ k, k < 107 → PE g k := lsc (pe_106 g) ⟨_, rfl, Or.inl rfl⟩
set_option maxRecDepth 100000 in
set_option maxHeartbeats 2000000 in
theorem pe_108 (g : GG) : ∀ k, k < 108 → PE g k := lsc (pe_107 g) ⟨_, rfl, Or.inl rfl⟩
set_option maxRecDepth 100000 in
set_option maxHeartbeats 2000000 in
theorem pe_109 (g : GG) : ∀ k, k < 109 → PE g k := lsc (pe_108 g) ⟨_, rfl, Or.inl rfl⟩
set_option maxRecDepth 100000 in
set_option maxHeartbeats 2000000 in
theorem pe_110 (g : GG) : ∀ k, k < 110 → PE g k := lsc (pe_109 g) ⟨_, rfl, Or.inl rfl⟩
set_option maxRecDepth 100000 in
set_option maxHeartbeats 2000000 in
theorem pe_111 (g : GG) : ∀ k, k < 111 → PE g k := lsc (pe_110 g) ⟨_, rfl, Or.inr ⟨_, _, _, _, rfl, rfl, fun j hj => (if_pos hj).trans (congrArg some (by show _ = gb g + (111 + j); omega))⟩⟩
set_option maxRecDepth 100000 in
set_option maxHeartbeats 2000000 in
theorem pe_112 (g : GG) : ∀ k, k < 112 → PE g k := lsc (pe_111 g) ⟨_, rfl, Or.inl rfl⟩
set_option maxRecDepth 100000 in
set_option maxHeartbeats 2000000 in
theorem pe_113 (g : GG) : ∀ k, k < 113 → PE g k := lsc (pe_112 g) ⟨_, rfl, Or.inl rfl⟩
set_option maxRecDepth 100000 in
set_option maxHeartbeats 2000000 in
theorem pe_114 (g : GG) : ∀ k, k < 114 → PE g k := lsc (pe_113 g) ⟨_, rfl, Or.inl rfl⟩
set_option maxRecDepth 100000 in
set_option maxHeartbeats 2000000 in
theorem pe_115 (g : GG) : ∀ k, k < 115 → PE g k := lsc (pe_114 g) ⟨_, rfl, Or.inl rfl⟩
set_option maxRecDepth 100000 in
set_option maxHeartbeats 2000000 in
theorem pe_116 (g : GG) : ∀ k, k < 116 → PE g k := lsc (pe_115 g) ⟨_, rfl, Or.inl rfl⟩
set_option maxRecDepth 100000 in
set_option maxHeartbeats 2000000 in
theorem pe_117 (g : GG) : ∀ k, k < 117 → PE g k := lsc (pe_116 g) ⟨_, rfl, Or.inl rfl⟩
set_option maxRecDepth 100000 in
set_option maxHeartbeats 2000000 in
theorem pe_118 (g : GG) : ∀ k, k < 118 → PE g k := lsc (pe_117 g) ⟨_, rfl, Or.inr ⟨_, _, _, _, rfl, rfl, fun j hj => (if_pos hj).trans (congrArg some (by show _ = gb g + (118 + j); omega))⟩⟩
set_option maxRecDepth 100000 in
set_option maxHeartbeats 2000000 in
theorem pe_119 (g : GG) : ∀ k, k < 119 → PE g k := lsc (pe_118 g) ⟨_, rfl, Or.inl rfl⟩
set_option maxRecDepth 100000 in
set_option maxHeartbeats 2000000 in
theorem pe_120 (g : GG) : ∀ k, k < 120 → PE g k := lsc (pe_119 g) ⟨_, rfl, Or.inl rfl⟩
set_option maxRecDepth 100000 in
set_option maxHeartbeats 2000000 in
theorem pe_121 (g : GG) : ∀ k, k < 121 → PE g k := lsc (pe_120 g) ⟨_, rfl, Or.inl rfl⟩
set_option maxRecDepth 100000 in
set_option maxHeartbeats 2000000 in
theorem pe_122 (g : GG) : ∀ k, k < 122 → PE g k := lsc (pe_121 g) ⟨_, rfl, Or.inl rfl⟩
set_option maxRecDepth 100000 in
set_option maxHeartbeats 2000000 in
theorem pe_123 (g : GG) : ∀ k, k < 123 → PE g k := lsc (pe_122 g) ⟨_, rfl, Or.inl rfl⟩
set_option maxRecDepth 100000 in
set_option maxHeartbeats 2000000 in
theorem pe_124 (g : GG) : ∀ k, k < 124 → PE g k := lsc (pe_123 g) ⟨_, rfl, Or.inl rfl⟩
set_option maxRecDepth 100000 in
set_option maxHeartbeats 2000000 in
theorem pe_125 (g : GG) : ∀ k, k < 125 → PE g k := lsc (pe_124 g) ⟨_, rfl, Or.inr ⟨_, _, _, _, rfl, rfl, fun j hj => (if_pos hj).trans (congrArg some (by show _ = gb g + (125 + j); omega))⟩⟩
set_option maxRecDepth 100000 in
set_option maxHeartbeats 2000000 in
theorem pe_126 (g : GG) : ∀ k, k < 126 → PE g k := lsc (pe_125 g) ⟨_, rfl, Or.inl rfl⟩
set_option maxRecDepth 100000 in
set_option maxHeartbeats 2000000 in
theorem pe_127 (g : GG) : ∀ k, k < 127 → PE g k := lsc (pe_126 g) ⟨_, rfl, Or.inl rfl⟩
set_option maxRecDepth 100000 in
set_option maxHeartbeats 2000000 in
theorem pe_128 (g : GG) : ∀ k, k < 128 → PE g k := lsc (pe_127 g) ⟨_, rfl, Or.inl rfl⟩
set_option maxRecDepth 100000 in
set_option maxHeartbeats 2000000 in
theorem pe_129 (g : GG) : ∀ k, k < 129 → PE g k := lsc (pe_128 g) ⟨_, rfl, Or.inl rfl⟩
set_option maxRecDepth 100000 in
set_option maxHeartbeats 2000000 in
theorem pe_130 (g : GG) : ∀ k, k < 130 → PE g k := lsc (pe_129 g) ⟨_, rfl, Or.inl rfl⟩
set_option maxRecDepth 100000 in
set_option maxHeartbeats 2000000 in
theorem pe_131 (g : GG) : ∀ k, k < 131 → PE g k := lsc (pe_130 g) ⟨_, rfl, Or.inl rfl⟩
set_option maxRecDepth 100000 in
set_option maxHeartbeats 2000000 in
theorem pe_132 (g : GG) : ∀ k, k < 132 → PE g k := lsc (pe_131 g) ⟨_, rfl, Or.inl rfl⟩
set_option maxRecDepth 100000 in
set_option maxHeartbeats 2000000 in
theorem pe_133 (g : GG) : ∀ k, k < 133 → PE g k := lsc (pe_132 g) ⟨_, rfl, Or.inl rfl⟩
set_option maxRecDepth 100000 in
set_option maxHeartbeats 2000000 in
theorem pe_134 (g : GG) : ∀ k, k < 134 → PE g k := lsc (pe_133 g) ⟨_, rfl, Or.inl rfl⟩
set_option maxRecDepth 100000 in
set_option maxHeartbeats 2000000 in
theorem pe_135 (g : GG) : ∀ k, k < 135 → PE g k := lsc (pe_134 g) ⟨_, rfl, Or.inl rfl⟩
set_option maxRecDepth 100000 in
set_option maxHeartbeats 2000000 in
theorem pe_136 (g : GG) : ∀ k, k < 136 → PE g k := lsc (pe_135 g) ⟨_, rfl, Or.inl rfl⟩
set_option maxRecDepth 100000 in
set_option maxHeartbeats 2000000 in
theorem pe_137 (g : GG) : ∀ k, k < 137 → PE g k := lsc (pe_136 g) ⟨_, rfl, Or.inl rfl⟩
set_option maxRecDepth 100000 in
set_option maxHeartbeats 2000000 in
theorem pe_138 (g : GG) : ∀ k, k < 138 → PE g k := lsc (pe_137 g) ⟨_, rfl, Or.inl rfl⟩
set_option maxRecDepth 100000 in
set_option maxHeartbeats 2000000 in
theorem pe_139 (g : GG) : ∀ k, k < 139 → PE g k := lsc (pe_138 g) ⟨_, rfl, Or.inl rfl⟩
set_option maxRecDepth 100000 in
set_option maxHeartbeats 2000000 in
theorem pe_140 (g : GG) : ∀ k, k < 140 → PE g k := lsc (pe_139 g) ⟨_, rfl, Or.inl rfl⟩
set_option maxRecDepth 100000 in
set_option maxHeartbeats 2000000 in
theorem pe_141 (g : GG) : ∀ k, k < 141 → PE g k := lsc (pe_140 g) ⟨_, rfl, Or.inl rfl⟩
set_option maxRecDepth 100000 in
set_option maxHeartbeats 2000000 in
theorem pe_142 (g : GG) : ∀ k, k < 142 → PE g k := lsc (pe_141 g) ⟨_, rfl, Or.inl rfl⟩
set_option maxRecDepth 100000 in
set_option maxHeartbeats 2000000 in
theorem pe_143 (g : GG) : ∀ k, k < 143 → PE g k := lsc (pe_142 g) ⟨_, rfl, Or.inl rfl⟩
set_option maxRecDepth 100000 in
set_option maxHeartbeats 2000000 in
theorem pe_144 (g : GG) : ∀ k, k < 144 → PE g k := lsc (pe_143 g) ⟨_, rfl, Or.inl rfl⟩
set_option maxRecDepth 100000 in
set_option maxHeartbeats 2000000 in
theorem pe_145 (g : GG) : ∀ k, k < 145 → PE g k := lsc (pe_144 g) ⟨_, rfl, Or.inl rfl⟩
set_option maxRecDepth 100000 in
set_option maxHeartbeats 2000000 in
theorem pe_146 (g : GG) : ∀ k, k < 146 → PE g k := lsc (pe_145 g) ⟨_, rfl, Or.inl rfl⟩
set_option maxRecDepth 100000 in
set_option maxHeartbeats 2000000 in
theorem pe_147 (g : GG) : ∀ k, k < 147 → PE g k := lsc (pe_146 g) ⟨_, rfl, Or.inl rfl⟩
set_option maxRecDepth 100000 in
set_option maxHeartbeats 2000000 in
theorem pe_148 (g : GG) : ∀ k, k < 148 → PE g k := lsc (pe_147 g) ⟨_, rfl, Or.inl rfl⟩
set_option maxRecDepth 100000 in
set_option maxHeartbeats 2000000 in
theorem pe_149 (g : GG) : ∀ k, k < 149 → PE g k := lsc (pe_148 g) ⟨_, rfl, Or.inl rfl⟩
set_option maxRecDepth 100000 in
set_option maxHeartbeats 2000000 in
theorem pe_150 (g : GG) : ∀ k, k < 150 → PE g k := lsc (pe_149 g) ⟨_, rfl, Or.inl rfl⟩
set_option maxRecDepth 100000 in
set_option maxHeartbeats 2000000 in
theorem pe_151 (g : GG) : ∀ k, k < 151 → PE g k := lsc (pe_150 g) ⟨_, rfl, Or.inl rfl⟩
set_option maxRecDepth 100000 in
set_option maxHeartbeats 2000000 in
theorem pe_152 (g : GG) : ∀ k, k < 152 → PE g k := lsc (pe_151 g) ⟨_, rfl, Or.inl rfl⟩
set_option maxRecDepth 100000 in
set_option maxHeartbeats 2000000 in
theorem pe_153 (g : GG) : ∀ k, k < 153 → PE g k := lsc (pe_152 g) ⟨_, rfl, Or.inl rfl⟩
set_option maxRecDepth 100000 in
set_option maxHeartbeats 2000000 in
theorem pe_154 (g : GG) : ∀ k, k < 154 → PE g k := lsc (pe_153 g) ⟨_, rfl, Or.inl rfl⟩
set_option maxRecDepth 100000 in
set_option maxHeartbeats 2000000 in
theorem pe_155 (g : GG) : ∀ k, k < 155 → PE g k := lsc (pe_154 g) ⟨_, rfl, Or.inl rfl⟩
set_option maxRecDepth 100000 in
set_option maxHeartbeats 2000000 in
theorem pe_156 (g : GG) : ∀ k, k < 156 → PE g k := lsc (pe_155 g) ⟨_, rfl, Or.inl rfl⟩
set_option maxRecDepth 100000 in
set_option maxHeartbeats 2000000 in
theorem pe_157 (g : GG) : ∀ k, k < 157 → PE g k := lsc (pe_156 g) ⟨_, rfl, Or.inl rfl⟩
theorem HP_first {g : GG} {H : Heap} (h : GP g 0 (allc g) H) : HP g mu0 H := by
  intro k q hq
  have hk : k < 157 := by
    have := (List.getElem?_eq_some_iff.mp hq).1
    unfold WL at this
    rwa [List.length_map, List.length_range] at this
  rw [WL_at g mu0 hk] at hq
  cases hq
  obtain ⟨x, h1, h2⟩ := pe_157 g k hk
  have h3 := h.1 k _ (LB_at h1)
  exact h2.at h3
theorem mL0 : mL mu0 11 = TF0 := by
  have e : mL mu0 = m0L := rfl
  rw [e]
  unfold m0L
  exact if_pos rfl
set_option maxRecDepth 100000 in
theorem R_mu0 : R mu0 := by
  refine R_first rfl rfl rfl rfl (fun i h1 h2 => ?_) rfl rfl rfl (fun t ht => ?_) rfl rfl rfl rfl (fun i hi => by rw [mL0]; exact TF0_sw i hi) ⟨rfl, rfl, rfl, rfl, rfl, rfl, rfl, rfl⟩ (fun k hk => ?_) rfl rfl rfl ⟨rfl, fun j hj => ?_⟩
  · rcases (show i = 4 ∨ i = 5 ∨ i = 6 ∨ i = 7 by omega) with rfl | rfl | rfl | rfl <;> rfl
  · rcases (show t = 0 ∨ t = 1 ∨ t = 2 ∨ t = 3 by omega) with rfl | rfl | rfl | rfl <;> exact ⟨rfl, rfl, rfl⟩
  · show upd (upd (upd (fun _ => 0) 2 3) 3 2) 4 2 k = nI (bk0 k)
    by_cases h4 : k = 4
    · subst h4; rfl
    by_cases h3 : k = 3
    · subst h3; rfl
    by_cases h2 : k = 2
    · subst h2; rfl
    unfold upd
    rw [if_neg h4, if_neg h3, if_neg h2]
    show (0 : Int32) = nI (bk0 k)
    unfold bk0
    rw [if_neg h2, if_neg h3, if_neg h4]
    rfl
  · rcases (show j = 0 ∨ j = 1 ∨ j = 2 ∨ j = 3 ∨ j = 4 by omega) with rfl | rfl | rfl | rfl | rfl <;> rfl
