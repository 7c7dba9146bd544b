/-! ===== a life: what each order does; the class's side ===== -/
/-- the book, orders done, the drawn number; missed, hours, steps, stolen at 2 .. 5 -/
abbrev LZ : Type := (Nat → Nat) × Nat × Nat × (Nat → Int32)
def msZ (Z : LZ) : LZ := (Z.1, Z.2.1, Z.2.2.1, upd Z.2.2.2 2 (Z.2.2.2 2 + 1))
def goZ (v : Nat) (Z : LZ) : LZ := if Z.1 0 = 0 then msZ Z else match wayF Z.1 (Z.1 7) v with
  | none => msZ Z
  | some j => if Z.1 5 < 9999 then (hourB (stB Z.1 j), Z.2.1, Z.2.2.1, upd (upd Z.2.2.2 3 (Z.2.2.2 3 + 1)) 4 (Z.2.2.2 4 + 1)) else msZ Z
def slZ (n : Nat) (Z : LZ) : LZ := if Z.1 5 + n ≤ 9999 then (hrs Z.1 n, Z.2.1, Z.2.2.1, upd Z.2.2.2 3 (Z.2.2.2 3 + nI n)) else msZ Z
def meZ (k : Nat) (Z : LZ) : LZ := if wrg Z.1 k = true then (updN Z.1 (13 + k) (Z.1 (38 + k)), Z.2.1, Z.2.2.1, Z.2.2.2) else msZ Z
def stZ (k : Nat) (Z : LZ) : LZ := if Z.1 (13 + k) = 0 then msZ Z else (updN (updN Z.1 (13 + k) 0) 6 (Z.1 6 + Z.1 (13 + k)), Z.2.1, Z.2.2.1, upd Z.2.2.2 5 (Z.2.2.2 5 + nI (Z.1 (13 + k))))
def drw (d : Nat) : Nat := (d * 2971 + 10853) % 65536
def anZ (Z : LZ) : LZ := if Z.1 0 = 0 then msZ Z else if Z.1 4 ≤ drw Z.2.2.1 / 8 % 16 then goZ (drw (drw Z.2.2.1) / 8 % 5) (Z.1, Z.2.1, drw (drw Z.2.2.1), Z.2.2.2) else slZ 1 (Z.1, Z.2.1, drw Z.2.2.1, Z.2.2.2)
/-- what stays -/
def WI (β0 : Nat → Nat) (Z : LZ) : Prop := WF Z.1 ∧ Z.1 5 ≤ 9999 ∧ Z.1 0 = β0 0 ∧ Z.1 2 = β0 2 ∧ Z.2.2.1 < 65536
def cmpV (x s y : Int32) : Bool := if s = 60 then !decide (y ≤ x) else if s = 62 then !decide (x ≤ y) else decide (x = y)
section LIFES
variable {β0 : Nat → Nat} {Z : LZ}
theorem drw_lt {d : Nat} : drw d < 65536 := Nat.mod_lt _ (by omega)
theorem WI.cl (h : WI β0 Z) : cl Z.1 = cl β0 := by show Z.1 0 * Z.1 2 = β0 0 * β0 2; rw [h.2.2.1, h.2.2.2.1]
theorem WI_ms (h : WI β0 Z) : WI β0 (msZ Z) ∧ (msZ Z).2.1 = Z.2.1 := ⟨h, rfl⟩
theorem WI_go {v : Nat} (h : WI β0 Z) : WI β0 (goZ v Z) ∧ (goZ v Z).2.1 = Z.2.1 := by
  obtain ⟨w, h5, h0, h2, hd⟩ := id h
  unfold goZ
  split
  · exact WI_ms h
  · rename_i z
    have hst := w.st (by omega) rfl
    cases hw : wayF Z.1 (Z.1 7) v with
    | none => exact WI_ms h
    | some j =>
      have hj := wayF_lt w hst hw
      dsimp only
      split
      · refine ⟨⟨(stB_wf w hj).hour (by rw [stB_5]; omega), ?_, ?_, ?_, hd⟩, rfl⟩
        · show hourB (stB Z.1 j) 5 ≤ 9999
          rw [hourB_5, stB_5]; omega
        · show hourB (stB Z.1 j) 0 = _
          rw [hourB_lo (by omega) (by omega), stB_lo (by omega) (by omega)]; exact h0
        · show hourB (stB Z.1 j) 2 = _
          rw [hourB_lo (by omega) (by omega), stB_lo (by omega) (by omega)]; exact h2
      · exact WI_ms h
theorem WI_sl {n : Nat} (h : WI β0 Z) : WI β0 (slZ n Z) ∧ (slZ n Z).2.1 = Z.2.1 := by
  obtain ⟨w, h5, h0, h2, hd⟩ := id h
  unfold slZ
  split
  · exact ⟨⟨w.hrs n (by omega), by show hrs Z.1 n 5 ≤ 9999; rw [hrs_5]; omega, by show hrs Z.1 n 0 = _; rw [hrs_lo (by omega) (by omega)]; exact h0, by show hrs Z.1 n 2 = _; rw [hrs_lo (by omega) (by omega)]; exact h2, hd⟩, rfl⟩
  · exact WI_ms h
theorem WI_me {k : Nat} (hk : k < 25) (h : WI β0 Z) : WI β0 (meZ k Z) ∧ (meZ k Z).2.1 = Z.2.1 := by
  obtain ⟨w, h5, h0, h2, hd⟩ := id h
  unfold meZ
  split
  · exact ⟨⟨w.u_d hk (w.2.2.1 k hk).2.1, by show updN _ _ _ 5 ≤ 9999; rw [updN_ne (by omega)]; exact h5, by show updN _ _ _ 0 = _; rw [updN_ne (by omega)]; exact h0, by show updN _ _ _ 2 = _; rw [updN_ne (by omega)]; exact h2, hd⟩, rfl⟩
  · exact WI_ms h
theorem WI_st {k : Nat} (hk : k < 25) (h : WI β0 Z) : WI β0 (stZ k Z) ∧ (stZ k Z).2.1 = Z.2.1 := by
  obtain ⟨w, h5, h0, h2, hd⟩ := id h
  unfold stZ
  split
  · exact WI_ms h
  · exact ⟨⟨(w.u_d hk (by omega)).u_f (by omega) (by omega) (by omega) (by omega), by dsimp only; rw [updN_ne (by omega), updN_ne (by omega)]; exact h5, by dsimp only; rw [updN_ne (by omega), updN_ne (by omega)]; exact h0, by dsimp only; rw [updN_ne (by omega), updN_ne (by omega)]; exact h2, hd⟩, rfl⟩
theorem WI_an (h : WI β0 Z) : WI β0 (anZ Z) ∧ (anZ Z).2.1 = Z.2.1 := by
  obtain ⟨w, h5, h0, h2, hd⟩ := id h
  unfold anZ
  split
  · exact WI_ms h
  · split
    · exact WI_go (Z := (Z.1, Z.2.1, drw (drw Z.2.2.1), Z.2.2.2)) ⟨w, h5, h0, h2, drw_lt⟩
    · exact WI_sl (Z := (Z.1, Z.2.1, drw Z.2.2.1, Z.2.2.2)) ⟨w, h5, h0, h2, drw_lt⟩
theorem drw_n {d : Nat} (h : d < 65536) : ((nI d * (2971 : Int32)) + (10853 : Int32)) - ((nI d * (2971 : Int32)) + (10853 : Int32)) / (65536 : Int32) * (65536 : Int32) = nI (drw d) := by
  rw [mulL, addL]
  exact rem_n (a := d * 2971 + 10853) (d := 65536) (by omega) (by omega) (by omega)
theorem drw_v {d m : Nat} (h : d < 65536) (hm : 0 < m) (hm2 : m < 100) : nI d / (8 : Int32) - nI d / (8 : Int32) / nI m * nI m = nI (d / 8 % m) := by
  rw [show nI d / (8 : Int32) = nI (d / 8) from pk_div (d := 8) (by omega) (by omega) (by omega)]
  exact rem_n (by omega) hm (by omega)
end LIFES
def CX (μ : Mm) (b r : Nat) (Z : LZ) : Prop := BX μ b Z.1 ∧ mI μ r 1 = nI Z.2.1 ∧ mI μ r 7 = nI Z.2.2.1 ∧ ∀ j, 2 ≤ j → j ≤ 5 → mI μ r j = Z.2.2.2 j
abbrev PX0 (b r a k : Nat) : Prop := (a = r ∧ 2 ≤ k ∧ k ≤ 7 ∧ k ≠ 6) ∨ (b ≤ a ∧ a < b + 12 ∧ a ≠ b + 7)
section LIFEX
variable {μ : Mm} {β0 : Nat → Nat} {Z : LZ} {b r F : Nat}
theorem CX_ag {ν : Mm} {P : Nat → Nat → Prop} (h : CX μ b r Z) (a : Ag P μ ν) (h1 : ∀ i, i ≤ 10 → ∀ k, ¬ P (b + i) k) (h2 : ∀ k, 1 ≤ k → k ≤ 7 → k ≠ 6 → ¬ P r k) : CX ν b r Z := ⟨h.1.ag a h1, by rw [a.i (h2 1 (by omega) (by omega) (by omega))]; exact h.2.1, by rw [a.i (h2 7 (by omega) (by omega) (by omega))]; exact h.2.2.1, fun j q1 q2 => by rw [a.i (h2 j (by omega) (by omega) (by omega))]; exact h.2.2.2 j q1 q2⟩
theorem CX_set (hb : b = 15 ∨ b = 27) (hr : r = 137 ∨ r = 139) (h : CX μ b r Z) {j : Nat} (hj : 2 ≤ j) (hj5 : j ≤ 5) (x : Int32) : CX (sI μ r j x) b r (Z.1, Z.2.1, Z.2.2.1, upd Z.2.2.2 j x) ∧ Ag (PX0 b r) μ (sI μ r j x) := by
  refine ⟨⟨h.1.ag (P := fun a _ => a = r) (Ag.sI rfl) (fun i hi k => by omega), ?_, ?_, fun i h1 h2 => ?_⟩, Ag.sI (by omega)⟩
  · rw [mI_nk (by omega)]; exact h.2.1
  · rw [mI_nk (by omega)]; exact h.2.2.1
  · by_cases z : i = j
    · rw [z, mI_sI, if_pos rfl, if_pos rfl]; exact pk_us.symm
    · rw [mI_nk z]
      exact (h.2.2.2 i h1 h2).trans (pk_un z).symm
theorem CX_bk (hb : b = 15 ∨ b = 27) (hr : r = 137 ∨ r = 139) (h : CX μ b r Z) {ν : Mm} {β' : Nat → Nat} (a : Ag (fun a _ => b ≤ a ∧ a < b + 12 ∧ a ≠ b + 7) μ ν) (hB : BX ν b β') : CX ν b r (β', Z.2.1, Z.2.2.1, Z.2.2.2) ∧ Ag (PX0 b r) μ ν := ⟨⟨hB, by rw [a.i (by omega)]; exact h.2.1, by rw [a.i (by omega)]; exact h.2.2.1, fun j h1 h2 => by rw [a.i (by omega)]; exact h.2.2.2 j h1 h2⟩, a.mono (fun a k q => Or.inr q)⟩
theorem X_ms (hb : b = 15 ∨ b = 27) (hr : r = 137 ∨ r = 139) (h : CX μ b r Z) : CX (sI μ r 2 ((mI μ r 2) + (1 : Int32))) b r (msZ Z) ∧ Ag (PX0 b r) μ (sI μ r 2 ((mI μ r 2) + (1 : Int32))) := by
  have := CX_set hb hr h (j := 2) (by omega) (by omega) (mI μ r 2 + 1)
  rw [h.2.2.2 2 (by omega) (by omega)] at this ⊢
  exact this
theorem X_go (hb : b = 15 ∨ b = 27) (hr : r = 137 ∨ r = 139) (hF : 2000000 ≤ F) (w : WI β0 Z) (h : CX μ b r Z) {v : Nat} (hv : v ≤ 4) : ∃ ν, f_X4_goOneWay F r b (nI v) μ = some ν ∧ CX ν b r (goZ v Z) ∧ Ag (PX0 b r) μ ν := by
  obtain ⟨W, h5, h0, h2, hd⟩ := id w
  have bx := h.1
  have hc := W.cl_le
  unfold f_X4_goOneWay goZ
  rw [bx.stand]
  by_cases z : Z.1 0 = 0
  · have w7 : Z.1 7 = 0 := by
      rcases W.1.2.2.2.2.2.2.2.2 with y | y
      · unfold cl at y; rw [z] at y; omega
      · exact y.2
    have g : f_X0_gone b (nI (Z.1 7)) (nI v) μ = some (-1) := by
      unfold f_X0_gone
      rw [w7, if_neg (nI_n0 (by omega)), bx.acc, bx.wide, z, pk_mul, if_pos ((nIle (by omega) (by omega)).mpr (by omega))]
    rw [g, Option.bind_some, if_pos rfl, if_pos z]
    exact ⟨_, rfl, X_ms hb hr h⟩
  · have hst := W.st (by omega) rfl
    rw [X_gone bx W hst hv, Option.bind_some, if_neg z]
    cases hw : wayF Z.1 (Z.1 7) v with
    | none =>
      rw [show oI none = -1 from rfl, if_pos rfl]
      exact ⟨_, rfl, X_ms hb hr h⟩
    | some j =>
      have hj := wayF_lt W hst hw
      dsimp only
      rw [oI_some, if_neg (show ¬ nI j = -1 from fun y => by have y2 : (nI j).toInt = -1 := (by rw [y]; decide); rw [nI_ti (by omega)] at y2; omega), bx.hour]
      by_cases q : Z.1 5 < 9999
      · obtain ⟨ν, x, ξ, e1, e2, e3, e4, e5⟩ := X_goStep bx W hF hj (by omega)
        obtain ⟨c1, c2⟩ := CX_bk hb hr h (e5.mono (fun a k q => by omega)) e4
        obtain ⟨c3, c4⟩ := CX_set hb hr c1 (j := 3) (by omega) (by omega) (mI ν r 3 + 1)
        obtain ⟨c5, c6⟩ := CX_set hb hr c3 (j := 4) (by omega) (by omega) (mI (sI ν r 3 (mI ν r 3 + 1)) r 4 + 1)
        rw [if_pos ((ltL (n := 9999) (by omega) (by decide)).mpr q), e1, Option.bind_some, e3, bd_some, if_pos q]
        refine ⟨_, rfl, ?_, (c2.tr c4).tr c6⟩
        have m3 : mI ν r 3 = Z.2.2.2 3 := c1.2.2.2 3 (by omega) (by omega)
        have m4 : mI (sI ν r 3 (mI ν r 3 + 1)) r 4 = Z.2.2.2 4 := by rw [mI_nk (by omega)]; exact c1.2.2.2 4 (by omega) (by omega)
        rw [m4] at c5 ⊢
        rw [m3] at c5 ⊢
        exact c5
      · rw [if_neg (fun y => q ((ltL (n := 9999) (by omega) (by decide)).mp y)), if_neg q]
        exact ⟨_, rfl, X_ms hb hr h⟩
theorem X_sl (hb : b = 15 ∨ b = 27) (hr : r = 137 ∨ r = 139) (hF : 2000000 ≤ F) (w : WI β0 Z) (h : CX μ b r Z) {n : Nat} (hn : n ≤ 100) : ∃ ν, f_X4_sleepFor F r b (nI n) μ = some ν ∧ CX ν b r (slZ n Z) ∧ Ag (PX0 b r) μ ν := by
  obtain ⟨W, h5, h0, h2, hd⟩ := id w
  have bx := h.1
  unfold f_X4_sleepFor slZ
  rw [bx.hour, nI_add]
  by_cases q : Z.1 5 + n ≤ 9999
  · obtain ⟨ν, x, e1, e2, e3, e4⟩ := X_passHours bx W hF (n := n) (by omega)
    obtain ⟨c1, c2⟩ := CX_bk hb hr h (e3.mono (fun a k q => by omega)) e2
    obtain ⟨c3, c4⟩ := CX_set hb hr c1 (j := 3) (by omega) (by omega) (mI ν r 3 + nI n)
    rw [if_pos ((leL (n := 9999) (by omega) (by decide)).mpr q), e1, bd_some, if_pos q]
    refine ⟨_, rfl, ?_, c2.tr c4⟩
    have m3 : mI ν r 3 = Z.2.2.2 3 := c1.2.2.2 3 (by omega) (by omega)
    rw [m3] at c3 ⊢
    exact c3
  · rw [if_neg (fun y => q ((leL (n := 9999) (by omega) (by decide)).mp y)), if_neg q]
    exact ⟨_, rfl, X_ms hb hr h⟩
theorem X_me (hb : b = 15 ∨ b = 27) (hr : r = 137 ∨ r = 139) (w : WI β0 Z) (h : CX μ b r Z) {k : Nat} (hk : k < cl β0) : ∃ ν, f_X4_mendCell r b (nI k) μ = some ν ∧ CX ν b r (meZ k Z) ∧ Ag (PX0 b r) μ ν := by
  obtain ⟨W, h5, h0, h2, hd⟩ := id w
  have bx := h.1
  have hc := W.cl_le
  rw [← w.cl] at hk
  unfold f_X4_mendCell meZ
  rw [X_hasCell bx W, inN_k hk (by omega), Option.bind_some, if_pos rfl, X_isWrong bx W hk, Option.bind_some]
  by_cases q : wrg Z.1 k = true
  · have r9 : rdA μ (b + 9) 25 (nI k) = some (nI (Z.1 (38 + k))) := by rw [rdA_n (by omega) (by omega), bx.truths k hk]
    have p : f_X0_putDigit b (nI k) (nI (Z.1 (38 + k))) μ = some (nI (Z.1 (13 + k)), sA μ (b + 8) k (nI (Z.1 (38 + k)))) := by
      unfold f_X0_putDigit
      rw [rdA_n (by omega) (by omega), bx.digits k hk, Option.bind_some, wrA_n (by omega) (by omega)]
      rfl
    rw [if_pos q, if_pos q, r9, Option.bind_some, p, bd_some]
    exact ⟨_, rfl, CX_bk hb hr h (Ag.sA (by omega)) (bx.u_digits W (by omega))⟩
  · rw [if_neg q, if_neg q]
    exact ⟨_, rfl, X_ms hb hr h⟩
theorem X_st (hb : b = 15 ∨ b = 27) (hr : r = 137 ∨ r = 139) (w : WI β0 Z) (h : CX μ b r Z) {k : Nat} (hk : k < cl β0) : ∃ ν, f_X4_stealFrom r b (nI k) μ = some ν ∧ CX ν b r (stZ k Z) ∧ Ag (PX0 b r) μ ν := by
  obtain ⟨W, h5, h0, h2, hd⟩ := id w
  have bx := h.1
  have hc := W.cl_le
  rw [← w.cl] at hk
  have d9 := (W.2.2.1 k (by omega)).1
  unfold f_X4_stealFrom stZ
  have r8 : rdA μ (b + 8) 25 (nI k) = some (nI (Z.1 (13 + k))) := by rw [rdA_n (by omega) (by omega), bx.digits k hk]
  rw [X_hasCell bx W, inN_k hk (by omega), Option.bind_some, if_pos rfl, r8, Option.bind_some]
  by_cases q : Z.1 (13 + k) = 0
  · rw [if_pos (by rw [q]; rfl), if_pos q]
    exact ⟨_, rfl, X_ms hb hr h⟩
  · have b1 : BX (sA μ (b + 8) k (nI 0)) b (updN Z.1 (13 + k) 0) := bx.u_digits W (by omega)
    have W1 : WF (updN Z.1 (13 + k) 0) := W.u_d (by omega) (by omega)
    have m6 : mI (sA μ (b + 8) k (nI 0)) b 6 = nI (Z.1 6) := by rw [b1.stolen, updN_ne (by omega)]
    have b2 : BX (sI (sA μ (b + 8) k (nI 0)) b 6 (nI (Z.1 6 + Z.1 (13 + k)))) b (updN (updN Z.1 (13 + k) 0) 6 (Z.1 6 + Z.1 (13 + k))) := b1.u_stolen W1
    have p : f_X0_takeAway b (nI k) μ = some (nI (Z.1 (13 + k)), sI (sA μ (b + 8) k (nI 0)) b 6 (nI (Z.1 6 + Z.1 (13 + k)))) := by
      unfold f_X0_takeAway f_X0_putDigit
      rw [r8, Option.bind_some, wrA_n (by omega) (by omega), Option.bind_some, bd_some, show (0 : Int32) = nI 0 from rfl, m6, nI_add]
    obtain ⟨c1, c2⟩ := CX_bk hb hr h (ν := sI (sA μ (b + 8) k (nI 0)) b 6 (nI (Z.1 6 + Z.1 (13 + k)))) ((Ag.sA (by omega)).tr (Ag.sI (by omega))) b2
    obtain ⟨c3, c4⟩ := CX_set hb hr c1 (j := 5) (by omega) (by omega) (mI μ r 5 + nI (Z.1 (13 + k)))
    rw [if_neg (fun y => q ((eqL (n := 0) (by omega) (by decide)).mp y)), if_neg q, p, bd_some]
    refine ⟨_, rfl, ?_, c2.tr c4⟩
    rw [h.2.2.2 5 (by omega) (by omega)] at c3 ⊢
    exact c3
theorem X_dr (h7 : mI μ r 7 = nI Z.2.2.1) (hd : Z.2.2.1 < 65536) {m : Nat} (hm : 0 < m) (hm2 : m < 100) : f_X4_drawBy r (nI m) μ = some (nI (drw Z.2.2.1 / 8 % m), sI μ r 7 (nI (drw Z.2.2.1))) := by
  have hl := drw_lt (d := Z.2.2.1)
  unfold f_X4_drawBy
  rw [if_neg (by decide), if_neg (fun y => by have y2 : m ≤ 0 := (leL (n := 0) (by omega) (by decide)).mp y; omega), if_neg (by decide), if_neg (fun y => by have y2 : m = 0 := (eqL (n := 0) (by omega) (by decide)).mp y; omega), h7, drw_n hd, mI_sI, if_pos rfl, if_pos rfl, drw_v hl hm hm2]
theorem CX_dr (hb : b = 15 ∨ b = 27) (hr : r = 137 ∨ r = 139) (h : CX μ b r Z) {d : Nat} : CX (sI μ r 7 (nI d)) b r (Z.1, Z.2.1, d, Z.2.2.2) ∧ Ag (PX0 b r) μ (sI μ r 7 (nI d)) := by
  refine ⟨⟨h.1.ag (P := fun a _ => a = r) (Ag.sI rfl) (fun i hi k => by omega), ?_, ?_, fun i h1 h2 => ?_⟩, Ag.sI (by omega)⟩
  · rw [mI_nk (by omega)]; exact h.2.1
  · rw [mI_sI, if_pos rfl, if_pos rfl]
  · rw [mI_nk (by omega)]; exact h.2.2.2 i h1 h2
theorem X_an (hb : b = 15 ∨ b = 27) (hr : r = 137 ∨ r = 139) (hF : 2000000 ≤ F) (w : WI β0 Z) (h : CX μ b r Z) {v3 : Int32} : ∃ ν, (if (mI μ b 3) = 0 then some ((v3 + (1 : Int32)), (sI μ r 2 ((mI μ r 2) + (1 : Int32)))) else bd (f_X4_drawBy r 16 μ) fun x14 μ15 => (if (mI μ15 b 2) ≤ x14 then bd (f_X4_drawBy r 5 μ15) fun x17 μ18 => (f_X4_goOneWay F r b x17 μ18).bind fun μ20 => some ((v3 + (1 : Int32)), μ20) else (f_X4_sleepFor F r b 1 μ15).bind fun μ22 => some ((v3 + (1 : Int32)), μ22))) = some (v3 + 1, ν) ∧ CX ν b r (anZ Z) ∧ Ag (PX0 b r) μ ν := by
  obtain ⟨W, h5, h0, h2, hd⟩ := id w
  have bx := h.1
  have hl := drw_lt (d := Z.2.2.1)
  have w4 := W.1.2.2.2.2.2.2.1
  have w0 := W.1.1
  unfold anZ
  rw [bx.acc]
  by_cases z : Z.1 0 = 0
  · rw [if_pos (by rw [z]; rfl), if_pos z]
    exact ⟨_, rfl, X_ms hb hr h⟩
  · have d1 := X_dr (μ := μ) (r := r) h.2.2.1 hd (m := 16) (by omega) (by omega)
    obtain ⟨c1, c2⟩ := CX_dr hb hr h (d := drw Z.2.2.1)
    have w1 : WI β0 (Z.1, Z.2.1, drw Z.2.2.1, Z.2.2.2) := ⟨W, h5, h0, h2, hl⟩
    rw [if_neg (fun y => z ((eqL (n := 0) (by omega) (by decide)).mp y)), if_neg z, show f_X4_drawBy r 16 μ = _ from d1, bd_some, c1.1.odds]
    by_cases q : Z.1 4 ≤ drw Z.2.2.1 / 8 % 16
    · have d2 := X_dr (μ := sI μ r 7 (nI (drw Z.2.2.1))) (r := r) (Z := (Z.1, Z.2.1, drw Z.2.2.1, Z.2.2.2)) c1.2.2.1 hl (m := 5) (by omega) (by omega)
      obtain ⟨c3, c4⟩ := CX_dr hb hr c1 (d := drw (drw Z.2.2.1))
      have w2 : WI β0 (Z.1, Z.2.1, drw (drw Z.2.2.1), Z.2.2.2) := ⟨W, h5, h0, h2, drw_lt⟩
      obtain ⟨ν, y1, y2, y3⟩ := X_go hb hr hF w2 c3 (v := drw (drw Z.2.2.1) / 8 % 5) (by omega)
      rw [if_pos ((nIle (by show Z.1 4 < _; omega) (by omega)).mpr q), if_pos q, show f_X4_drawBy r 5 (sI μ r 7 (nI (drw Z.2.2.1))) = _ from d2, bd_some]
      have y1' : f_X4_goOneWay F r b (nI (drw (drw Z.2.2.1) / 8 % 5)) (sI (sI μ r 7 (nI (drw Z.2.2.1))) r 7 (nI (drw (drw Z.2.2.1)))) = some ν := y1
      rw [y1', Option.bind_some]
      exact ⟨ν, rfl, y2, (c2.tr c4).tr y3⟩
    · obtain ⟨ν, y1, y2, y3⟩ := X_sl hb hr hF w1 c1 (n := 1) (by omega)
      rw [if_neg (fun y => q ((nIle (by show Z.1 4 < _; omega) (by omega)).mp y)), if_neg q, show f_X4_sleepFor F r b 1 (sI μ r 7 (nI (drw Z.2.2.1))) = _ from y1, Option.bind_some]
      exact ⟨ν, rfl, y2, c2.tr y3⟩
end LIFEX
