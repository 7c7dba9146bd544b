/-! ===== nights ===== -/
abbrev PFn (a k : Nat) : Prop := (a = 141 ∧ (k ≤ 1 ∨ (8 ≤ k ∧ k ≤ 19) ∨ k = 26)) ∨ (a = 146 ∧ 1730 ≤ k)
section NIGHTS
variable {μ : Mm} {F : Nat}
theorem SQ_row {c : Nat} {ω ω' : Nat → Nat → Int32} {σ : Nat → Int32} (hω : ∀ r k, 1 ≤ r → ω' r k = ω r k) : ∀ {d h s t i j : Nat}, SQ c ω σ d h s t i j → SQ c ω' σ d h s t i j := by
  intro d
  induction d with
  | zero => intro hh s t i j h; exact h
  | succ d ih =>
    intro hh s t i j h
    rcases h with h | ⟨h1, h2, s', i', h3, h4, h5, h6, h7, h8, h9⟩
    · exact Or.inl h
    · refine Or.inr ⟨h1, h2, s', i', h3, h4, h5, h6, h7, ih h8, ?_⟩
      rcases h9 with ⟨h9, e1, e2⟩ | ⟨h9, eh, ee, e1, e2, e3, e4, e5, e6⟩
      · refine Or.inl ⟨?_, e1, e2⟩
        unfold SI
        rw [hω 1 i (by omega), hω 2 i (by omega), hω 3 i (by omega)]
        exact h9
      · refine Or.inr ⟨?_, eh, ee, e1, e2, by rw [hω _ _ (by omega)]; exact e3, by rw [hω _ _ (by omega)]; exact e4, by rw [hω _ _ (by omega)]; exact e5, ih e6⟩
        unfold SB
        rw [hω 1 i (by omega), hω 2 i (by omega), hω 3 i (by omega), hω 4 i (by omega)]
        exact h9
theorem M_ncopy (hF : 2000000 ≤ F) {s : Nat} (hs : s ≤ 30) (h26 : mI μ 141 26 = nI s) : L_X12_nights_82 F (fun μ12 => some ((mI μ12 141 26), μ12)) F 0 μ = some (nI s, putA μ 146 (fun k => mA μ 146 (1600 + k)) 130 (9 * s)) := by
  have lp : ∀ KK : Mm → Option (Int32 × Mm), L_X12_nights_82 F KK F 0 μ = KK (putA μ 146 (fun k => mA μ 146 (1600 + k)) 130 (9 * s)) := by
    intro KK
    have A : ∀ i, Ag (fun a k => a = 146 ∧ 130 ≤ k ∧ k < 130 + i) μ (putA μ 146 (fun k => mA μ 146 (1600 + k)) 130 i) := fun i => putA_ag (fun k h1 h2 => ⟨rfl, h1, h2⟩)
    have h9 : ∀ i, (9 : Int32) * mI (putA μ 146 (fun k => mA μ 146 (1600 + k)) 130 i) 141 26 = nI (9 * s) := fun i => by rw [(A i).i (by omega), h26, Lmul]
    refine iter2 (L := L_X12_nights_82 F KK) (fun i => nI i) (fun i => putA μ 146 (fun k => mA μ 146 (1600 + k)) 130 i) (N := 9 * s) (by omega) (fun i hi n => ?_) (fun n => ?_)
    · have r1 : rdA (putA μ 146 (fun k => mA μ 146 (1600 + k)) 130 i) 146 2000 ((1730 : Int32) + nI i) = some (mA μ 146 (1730 + i)) := by
        rw [Ladd, show rdA (putA μ 146 (fun k => mA μ 146 (1600 + k)) 130 i) 146 2000 (nI (1730 + i)) = some (mA (putA μ 146 (fun k => mA μ 146 (1600 + k)) 130 i) 146 (1730 + i)) from rdA_n (by omega) (by omega), (A i).a (by omega)]
      have w1 : wrA (putA μ 146 (fun k => mA μ 146 (1600 + k)) 130 i) 146 2000 ((130 : Int32) + nI i) (mA μ 146 (1730 + i)) = some (sA (putA μ 146 (fun k => mA μ 146 (1600 + k)) 130 i) 146 (130 + i) (mA μ 146 (1730 + i))) := by
        rw [Ladd]
        exact wrA_n (by show 130 + i < 2000; omega) (by omega)
      rw [L_X12_nights_82_s, h9, if_neg (fun z => by have := (nIle (by omega) (by omega)).mp z; omega), r1, Option.bind_some, w1, Option.bind_some, nI_1, putA_n, show 1600 + (130 + i) = 1730 + i by omega]
    · rw [L_X12_nights_82_s, h9, if_pos ((nIle (by omega) (by omega)).mpr (Nat.le_refl _))]
  rw [lp]
  have : mI (putA μ 146 (fun k => mA μ 146 (1600 + k)) 130 (9 * s)) 141 26 = nI s := by
    have A : Ag (fun a k => a = 146) μ (putA μ 146 (fun k => mA μ 146 (1600 + k)) 130 (9 * s)) := putA_ag (fun k h1 h2 => rfl)
    rw [A.i (by omega)]
    exact h26
  rw [this]
theorem M_nights (hF : 2000000 ≤ F) {β : Nat → Nat} {nm : Nat → Int64} (w : WF β) {m n : Nat} (hm : m ≤ 900) (hn : n ≤ m) (h3 : n ≤ 300) (h8 : mI μ 141 8 = nI m) {U : Nat → Nat} (hU : ∀ k, k < n → mB μ 145 k &&& 255 = nI (U k) ∧ U k < 256) (B : PGM μ β nm) (ω0 : Nat → Nat → Int32) : ∃ ζ, mI ζ 141 8 = nI 0 ∧ ((∃ f, nrn U n β nm (n + 1) (0, 0, 0, 0, (fun _ => 0), ω0) = .inl f ∧ f_X12_nights F (nI n) μ = some (-1, ζ) ∧ mI ζ 141 0 = 10 ∧ mI ζ 141 10 = nI f.1 ∧ mI ζ 141 11 = nI f.2 ∧ Ag PFn μ ζ) ∨ (∃ S, nrn U n β nm (n + 1) (0, 0, 0, 0, (fun _ => 0), ω0) = .inr S ∧ f_X12_nights F (nI n) μ = some (nI S.2.2.1, ζ) ∧ mI ζ 141 0 = 0 ∧ mI ζ 141 10 = 0 ∧ mI ζ 141 11 = -1 ∧ mA ζ 146 128 = 1 ∧ mA ζ 146 129 = nI S.2.2.1 ∧ (∃ d, SQ (cl β) S.2.2.2.2.2 (fun k => mA ζ 146 (128 + k)) d 3 0 S.2.2.1 0 S.2.1) ∧ Ag (fun a k => PFn a k ∨ (a = 146 ∧ 128 ≤ k ∧ k < 400)) μ ζ)) := by
  obtain ⟨μ1, hμ1⟩ : ∃ μ1, μ1 = sI (sI (sI (sI (sI (sI μ 141 1 0) 141 0 0) 141 9 (nI n)) 141 8 0) 141 16 0) 141 12 0 := ⟨_, rfl⟩
  have A1 : Ag PFn μ μ1 := by
    rw [hμ1]
    exact (((((Ag.sI (by omega)).tr (Ag.sI (by omega))).tr (Ag.sI (by omega))).tr (Ag.sI (by omega))).tr (Ag.sI (by omega))).tr (Ag.sI (by omega))
  have T0 : TkM0 μ1 U n := ⟨by omega, by rw [hμ1]; rfl, fun k hk => by rw [A1.b (by omega)]; exact hU k hk⟩
  obtain ⟨ν1, x1, x2, x3⟩ := M_advance (p := 0) T0 hF (by omega) (by rw [hμ1]; rfl)
  have st : f_X12_starts F (nI n) 300 (sI (sI μ 141 1 0) 141 0 0) = some (true, ν1) := by
    have m8 : mI (sI (sI μ 141 1 0) 141 0 0) 141 8 = nI m := h8
    unfold f_X12_starts
    rw [if_neg (nI_n0 (by omega)), m8, if_neg (fun z => by have := (nIlt (by omega) (by omega)).mp z; omega), if_pos ((leL (n := 300) (by omega) (by decide)).mpr (by show n ≤ 300; omega)), ← hμ1, x1]
    rfl
  obtain ⟨ν3, hν3⟩ : ∃ ν3, ν3 = sI ν1 141 26 0 := ⟨_, rfl⟩
  have A3 : Ag (fun a k => a = 141 ∧ k = 26) ν1 ν3 := by rw [hν3]; exact Ag.sI ⟨rfl, rfl⟩
  have A13 : Ag PFn μ ν3 := (A1.tr (x3.mono (fun a k q => by omega))).tr (A3.mono (fun a k q => by omega))
  have g : GZ U n β nm (0, 0, 0, 0, (fun _ => 0), ω0) ν3 := ⟨TkM0_ag (TkM0_ag T0 x3 (by omega) (fun k => by omega)) A3 (by omega) (fun k => by omega), TkM_ag x2 A3 (fun k h1 h2 => by omega), by rw [A3.i (by omega), x3.i (by omega), hμ1]; rfl, by rw [hν3]; rfl, PGM_ag B A13 (by omega) (by omega) (fun k => by omega)⟩
  have ni : NI n ((0, 0, 0, 0, (fun _ => 0), ω0) : NT) := ⟨by show 0 ≤ n; omega, by show 0 + 0 ≤ 2 * 0; omega, by show 0 ≤ 30; omega, by show 0 ≤ 3; omega, fun q hq => by have : q < 0 := hq; omega⟩
  obtain ⟨K, hK⟩ : ∃ K : Mm → Option (Int32 × Mm), K = fun μ5 => bd (f_X12_isWell μ5) fun x6 μ7 => (if x6 = true then (wrA μ7 146 2000 128 1).bind fun μ8 => (wrA μ8 146 2000 129 (mI μ8 141 26)).bind fun μ9 => L_X12_nights_82 F (fun μ12 => some ((mI μ12 141 26), μ12)) F 0 μ9 else some ((-1), μ7)) := ⟨_, rfl⟩
  obtain ⟨ν4, z1, z2, z3⟩ := LPn (U := U) (e := n) (β := β) (nm := nm) (L := L_X12_nights_28 F K) (K := K) (rc := t_X12_readStep F 9 0) (stop := fun S => tK U n S.1 = 0) (m := n + 1) (d0 := 0) (fun k ν hb => by rw [L_X12_nights_28_s, if_neg hb.1]) (fun k S ν g' z => by
      have z' : tK U n S.1 = 0 := z
      rw [L_X12_nights_28_s, if_pos g'.2.2.1, if_pos (by rw [g'.2.1.2.2.1, z']; rfl)]) (fun k S ν g' z => by
      have z' : ¬ tK U n S.1 = 0 := z
      have hk4 := tK_le (U := U) (e := n) (p := S.1)
      rw [L_X12_nights_28_s, if_pos g'.2.2.1, if_neg (fun y => by rw [g'.2.1.2.2.1] at y; exact z' ((eqL (n := 0) (by omega) (by decide)).mp y))]) (fun S ν h1 g' n' d' z => by
      have := M_step (F := F) hF w (n + 1) 9 S ν h1 (by omega) g' n' (fun _ => d') (fun y => absurd y z)
      rw [d'] at this
      exact this) F _ ν3 (by show n - 0 < n + 1; omega) (by show n - 0 + 1 < F; omega) g ni rfl
  have A4 : Ag PFn μ ν4 := A13.tr (z2.mono (fun a k q => by have : PO 0 a k := q; omega))
  have pre : f_X12_nights F (nI n) μ = K ν4 := by
    unfold f_X12_nights
    rw [st, bd_some, if_pos rfl, ← hν3, ← hK, z1]
  have z2' : Ag (PO 0) ν3 ν4 := z2
  have s8 : mI ν4 141 8 = nI 0 := by rw [z2'.i (by omega), A3.i (by omega), x3.i (by omega), hμ1]; rfl
  have s0 : mI ν4 141 0 = 0 := by rw [z2'.i (by omega), A3.i (by omega), x3.i (by omega), hμ1]; rfl
  rcases z3 with ⟨f, f1, f2, f3, f4, t, f5, f6⟩ | ⟨S, g2, n2, ⟨-, t, r1, r2⟩, st2, d2, -, -, od2, it2, dd, q2⟩
  · have hb := bad_of f1 f3 f4
    have iw : f_X12_isWell ν4 = some (false, sI (sI (sI ν4 141 10 (nI f.1)) 141 11 (nI f.2)) 141 0 10) := by
      unfold f_X12_isWell
      have e12 : mI (sI ν4 141 10 (mI ν4 141 12)) 141 12 = mI ν4 141 12 := rfl
      have e13 : mI (sI ν4 141 10 (mI ν4 141 12)) 141 13 = nI f.2 := f2
      rw [e12, if_neg hb.1, e13]
      have e12b : mI (sI (sI ν4 141 10 (mI ν4 141 12)) 141 11 (nI f.2)) 141 12 = mI ν4 141 12 := rfl
      rw [e12b, if_neg hb.1, f1]
      rfl
    refine ⟨sI (sI (sI ν4 141 10 (nI f.1)) 141 11 (nI f.2)) 141 0 10, s8, Or.inl ⟨f, ?_, ?_, rfl, rfl, rfl, ((A4.tr (Ag.sI (by omega))).tr (Ag.sI (by omega))).tr (Ag.sI (by omega))⟩⟩
    · have f5' : t ≤ n - 0 + 1 := f5
      have := f6 (n + 1 - t)
      rwa [show n + 1 - t + t = n + 1 by omega] at this
    · rw [pre, hK]
      dsimp only
      rw [iw, bd_some, if_neg (by decide)]
  · have b4 := g2.2.2.1
    have st2' : tK U n S.1 = 0 := st2
    have d2' : S.2.2.2.1 = 0 := d2
    have hS := n2.2.2.1
    have hS1 := n2.1
    have iw : f_X12_isWell ν4 = some (true, sI (sI ν4 141 10 0) 141 11 (-1)) := by
      unfold f_X12_isWell
      have e12 : mI (sI ν4 141 10 (mI ν4 141 12)) 141 12 = 0 := b4
      rw [e12, if_pos rfl, b4]
      have e12b : mI (sI (sI ν4 141 10 0) 141 11 (-1)) 141 12 = 0 := b4
      rw [e12b, if_pos rfl]
    obtain ⟨ν5, hν5⟩ : ∃ ν5, ν5 = sI (sI ν4 141 10 0) 141 11 (-1) := ⟨_, rfl⟩
    have A5 : Ag (fun a k => a = 141 ∧ (k = 10 ∨ k = 11)) ν4 ν5 := by rw [hν5]; exact (Ag.sI ⟨rfl, Or.inl rfl⟩).tr (Ag.sI ⟨rfl, Or.inr rfl⟩)
    have c26 : mI ν5 141 26 = nI S.2.2.1 := by rw [A5.i (by omega)]; exact g2.2.2.2.1
    obtain ⟨ν6, hν6⟩ : ∃ ν6, ν6 = sA (sA ν5 146 128 1) 146 129 (nI S.2.2.1) := ⟨_, rfl⟩
    have A6 : Ag (fun a k => a = 146 ∧ (k = 128 ∨ k = 129)) ν5 ν6 := by rw [hν6]; exact (Ag.sA ⟨rfl, Or.inl rfl⟩).tr (Ag.sA ⟨rfl, Or.inr rfl⟩)
    have w1 : wrA ν5 146 2000 128 1 = some (sA ν5 146 128 1) := by
      have : wrA ν5 146 2000 (nI 128) 1 = some (sA ν5 146 128 1) := wrA_n (by omega) (by omega)
      exact this
    have w2 : wrA (sA ν5 146 128 1) 146 2000 129 (mI (sA ν5 146 128 1) 141 26) = some ν6 := by
      have : wrA (sA ν5 146 128 1) 146 2000 (nI 129) (mI (sA ν5 146 128 1) 141 26) = some (sA (sA ν5 146 128 1) 146 129 (mI (sA ν5 146 128 1) 141 26)) := wrA_n (by omega) (by omega)
      rw [show mI (sA ν5 146 128 1) 141 26 = nI S.2.2.1 from c26] at this ⊢
      rw [hν6]
      exact this
    have cp := M_ncopy (μ := ν6) hF hS (by rw [A6.i (by omega)]; exact c26)
    obtain ⟨ζ, hζ⟩ : ∃ ζ, ζ = putA ν6 146 (fun k => mA ν6 146 (1600 + k)) 130 (9 * S.2.2.1) := ⟨_, rfl⟩
    rw [← hζ] at cp
    have A7 : Ag (fun a k => a = 146 ∧ 130 ≤ k ∧ k < 400) ν6 ζ := by rw [hζ]; exact putA_ag (fun k h1 h2 => ⟨rfl, h1, by omega⟩)
    refine ⟨ζ, ?_, Or.inr ⟨S, ?_, ?_, ?_, ?_, ?_, ?_, ?_, ⟨dd, ?_⟩, ?_⟩⟩
    · rw [A7.i (by omega), A6.i (by omega), A5.i (by omega)]; exact s8
    · have r1' : t ≤ S.1 - 0 := r1
      have := r2 (n + 1 - t)
      rw [show n + 1 - t + t = n + 1 by omega] at this
      rw [this, show n + 1 - t = (n - t) + 1 by omega]
      show (if tK U n S.1 = 0 then (if S.2.2.2.1 = 0 then .inr S else .inl (unf U n S.1)) else sb (nst U n β nm S) (nrn U n β nm (n - t))) = _
      rw [if_pos st2', if_pos d2']
    · rw [pre, hK]
      dsimp only
      rw [iw, bd_some, if_pos rfl, ← hν5, w1, Option.bind_some, w2, Option.bind_some, cp]
    · rw [A7.i (by omega), A6.i (by omega), A5.i (by omega)]; exact s0
    · rw [A7.i (by omega), A6.i (by omega), hν5]; rfl
    · rw [A7.i (by omega), A6.i (by omega), hν5]; rfl
    · rw [A7.a (by omega), hν6, mA_sA, if_pos rfl, if_neg (by omega), mA_sA, if_pos rfl, if_pos rfl]
    · rw [A7.a (by omega), hν6, mA_sA, if_pos rfl, if_pos rfl]
    · refine SQ_cong q2 (fun _ _ _ _ => rfl) (fun k k1 k2 => ?_)
      have k1' : 2 + 9 * 0 ≤ k := k1
      show mA ζ 146 (128 + k) = mA ν4 146 (1728 + k)
      rw [hζ, putA_mA, if_pos ⟨rfl, by omega, by omega⟩, show 1600 + (128 + k) = 1728 + k by omega, A6.a (by omega), A5.a (by omega)]
    · exact ((A4.mono (fun a k q => Or.inl q)).tr (A5.mono (fun a k q => by omega))).tr ((A6.mono (fun a k q => by omega)).tr (A7.mono (fun a k q => by omega)))
set_option maxHeartbeats 4000000 in
theorem op_nights (h : R μ) (hF : 2000000 ≤ F) (v : Int32) : Sm (f_X11_nights F v) (f_X12_nights F v) μ := by
  obtain ⟨m, tm1, tm2, tm3, tm4⟩ := h.tp
  have hrp := h.rp
  have hrn := h.rn
  unfold RefP at hrp
  unfold RefN at hrn
  by_cases v0 : v < 0
  · refine h.q 5 (-1) (by unfold f_X11_nights; rw [if_pos v0]; rfl) ?_
    unfold f_X12_nights f_X12_starts
    rw [if_pos v0]
    exact QM_r
  · obtain ⟨n, hn0, rfl⟩ := nI_of v0
    have m8 : mI (sI (sI (sI μ 0 0 5) 141 1 0) 141 0 0) 141 8 = nI m := tm3
    by_cases hn : n ≤ m
    · by_cases h3 : n ≤ 300
      · -- the text is read
        obtain ⟨β, nm, ωo, σo, pg⟩ := h.pg
        have w := pg.2.2.1
        have bx := pg.1
        have w0 := w.1.1
        have w1 := w.1.2.1
        have w2 := w.1.2.2.1
        obtain ⟨ν, A, many0, res⟩ := X_nfill (μ := μ) (F := F) (b := mR μ 0) (N := mR μ 3) (β := β) (nm := nm) (m := m) (n := n) (by omega) (by omega) hF w tm1 hn h3 tm2 (fun k hk => (tm4 k hk).2) h.sw ⟨bx.wide, bx.acc, pg.2.2.2.2.1⟩
        have gb := h.gb
        have gn := h.gn
        have gn1 := h.gn1
        have pre : f_X11_nights F (nI n) μ = bd (f_X6_fill F (mR μ 3) (mR μ 0) (nI n) μ) fun x9 μ10 => (if x9 = true then (gNt (mR μ10 2)).bind fun b11 => (gNt (mR μ10 3)).bind fun b13 => (gNt (mR (sR (sR μ10 2 b13) 3 b11) 2)).bind fun b15 => bd (f_X11_answer (mI (sR (sR μ10 2 b13) 3 b11) b15 1) (sR (sR μ10 2 b13) 3 b11)) fun x17 μ18 => some (x17, μ18) else bd (f_X11_refuse 10 μ10) fun x19 μ20 => some (x19, μ20)) := by
          unfold f_X11_nights
          rw [if_neg v0, tm2, if_neg (fun z => by have := (nIlt (by omega) (by omega)).mp z; omega), if_pos ((leL (n := 300) (by omega) (by decide)).mpr (by show n ≤ 300; omega)), gn1, Option.bind_some, gb, Option.bind_some]
        have hU : ∀ ξ : Mm, (∀ k, mB ξ 145 k = mB μ 145 k) → ∀ k, k < n → mB ξ 145 k &&& 255 = nI (uB (mB μ 10 k)) ∧ uB (mB μ 10 k) < 256 := fun ξ hξ k hk => by
          have hb := by_of (tm4 k (by omega)).2
          rw [hξ k, ← (tm4 k (by omega)).1]
          exact ⟨hb.2.1, hb.1⟩
        have B0 : PGM μ β nm := by
          have q2 := pg.2.1
          refine ⟨?_, ?_, fun a ha => ?_⟩
          · have := q2 0 (by omega)
            rwa [show 400 * 0 + 0 = 0 by omega] at this
          · have := q2 2 (by omega)
            rwa [show 400 * 0 + 2 = 2 by omega] at this
          · have := pg.2.2.2.2.2.1 a ha
            rwa [show 5 * 0 + a = a by omega] at this
        rcases res with ⟨f, r1, r2, r3, r4⟩ | ⟨S, r1, r2, r3, r4, ni, e0, e1, e2, rn⟩
        · -- a fault
          have A1 : Ag (fun a k => (a = 9 ∧ 1 ≤ k) ∨ (mR μ 3 ≤ a ∧ a < mR μ 3 + 6) ∨ (a = 13 ∧ k = 2) ∨ a = 14 ∨ (a = 0 ∧ k = 0)) μ (sI ν 0 0 10) := (A.mono (fun a k q => by
            rcases q with q | q | q | q
            · exact Or.inl q
            · exact Or.inr (Or.inl q)
            · exact Or.inr (Or.inr (Or.inl q))
            · exact Or.inr (Or.inr (Or.inr (Or.inl q))))).tr (Ag.sI (Or.inr (Or.inr (Or.inr (Or.inr ⟨rfl, rfl⟩)))))
          obtain ⟨ζ, z8, z⟩ := M_nights (μ := sI ν 0 0 10) (F := F) hF w tm1 hn h3 (by rw [A1.i (by omega)]; exact tm3) (U := fun k => uB (mB μ 10 k)) (hU _ (fun k => A1.b (by omega))) (PGM_ag B0 A1 (by omega) (by omega) (fun k => by omega)) (fun j k => mA μ (mR μ 3 + j) k)
          rcases z with ⟨f', q1, q2, q3, q4, q5, q6⟩ | ⟨s, q1, -⟩
          · rw [r1] at q1
            cases q1
            have A0 : Ag (fun a k => ((a = 9 ∧ 1 ≤ k) ∨ (mR μ 3 ≤ a ∧ a < mR μ 3 + 6) ∨ (a = 13 ∧ k = 2) ∨ a = 14 ∨ (a = 0 ∧ k = 0)) ∨ PFn a k) μ ζ := (A1.mono (fun a k q => Or.inl q)).tr (q6.mono (fun a k q => Or.inr q))
            refine ⟨-1, _, ζ, by rw [pre, r2, bd_some, if_neg (by decide)]; rfl, q2, ?_⟩
            have e0 : mI ζ 0 0 = 10 := by rw [q6.i (by omega)]; rfl
            refine ⟨rp_ag h.rp A0, rn_ag h.rn A0, rt_ag h.rt A0, by rw [e0, q3], eq_agJ h.top A0 (by omega) (by omega), eq_agJ h.bot A0 (by omega) (by omega), tr_ag h.tr A0 (fun a k q => by omega), ⟨0, by omega, ?_, z8, fun k hk => by omega⟩, ?_, ?_, sw_ag h.sw A0 (fun k => by omega), pg_ag h.pg A0 (fun i hi k => by omega) (fun k hk => by omega) (fun j hj k => by omega) (fun a ha => by omega), mk_ag h.mk A0 (by omega) (by omega) (fun a k h1 h2 => by omega) (fun k h1 h2 => by omega) (fun k h1 h2 => by omega), lv_ag h.lv A0 (fun k h1 h2 => by omega) (by omega) (fun k => by omega)⟩
            · rw [q6.i (by omega)]; exact many0
            · rw [q4, q6.i (by omega)]; exact r3
            · rw [q5, q6.i (by omega)]; exact r4
          · rw [r1] at q1; cases q1
        · -- nights
          obtain ⟨ν2, hν2⟩ : ∃ ν2, ν2 = sI (sR (sR ν 2 (mR μ 3)) 3 (mR μ 2)) 0 0 0 := ⟨_, rfl⟩
          have hX : f_X11_nights F (nI n) μ = some (nI S.2.2.1, ν2) := by
            rw [pre, r2, bd_some, if_pos rfl, A.2, gn, Option.bind_some, gn1, Option.bind_some]
            have m0 : mR (sR (sR ν 2 (mR μ 3)) 3 (mR μ 2)) 2 = mR μ 3 := rfl
            rw [m0, gn1, Option.bind_some]
            have a1 : mI (sR (sR ν 2 (mR μ 3)) 3 (mR μ 2)) (mR μ 3) 1 = nI S.2.2.1 := e1
            rw [a1, hν2]
            rfl
          have An : Ag (fun a k => (a = 9 ∧ 1 ≤ k) ∨ (mR μ 3 ≤ a ∧ a < mR μ 3 + 6) ∨ (a = 13 ∧ k = 2) ∨ a = 14 ∨ (a = 0 ∧ k = 0)) μ (wR ν2 (mR μ)) := by
            have q2 := (A.mono (Q := fun a k => (a = 9 ∧ 1 ≤ k) ∨ (mR μ 3 ≤ a ∧ a < mR μ 3 + 6) ∨ (a = 13 ∧ k = 2) ∨ a = 14 ∨ (a = 0 ∧ k = 0)) (fun a k q => by
              rcases q with q | q | q | q
              · exact Or.inl q
              · exact Or.inr (Or.inl q)
              · exact Or.inr (Or.inr (Or.inl q))
              · exact Or.inr (Or.inr (Or.inr (Or.inl q))))).tr (ξ := sI ν 0 0 0) (Ag.sI (Or.inr (Or.inr (Or.inr (Or.inr ⟨rfl, rfl⟩)))))
            rw [hν2]
            exact ⟨q2.1, rfl⟩
          have b145 : ∀ k, mB ν2 145 k = mB μ 145 k := fun k => An.b (by omega)
          have i8 : mI ν2 141 8 = nI m := by rw [show mI ν2 141 8 = mI μ 141 8 from An.i (by omega)]; exact tm3
          have B2 : PGM ν2 β nm := ⟨by rw [show mA ν2 146 0 = mA μ 146 0 from An.a (by omega)]; exact B0.1, by rw [show mA ν2 146 2 = mA μ 146 2 from An.a (by omega)]; exact B0.2.1, fun a ha => by rw [show mL ν2 149 a = mL μ 149 a from An.l (by omega)]; exact B0.2.2 a ha⟩
          obtain ⟨ζ, z8, z⟩ := M_nights (μ := ν2) (F := F) hF w tm1 hn h3 i8 (U := fun k => uB (mB μ 10 k)) (hU _ b145) B2 (fun j k => mA μ (mR μ 3 + j) k)
          rcases z with ⟨f', q1, -⟩ | ⟨S', q1, q2, q3, q4, q5, q6, q7, ⟨dd, q8⟩, q9⟩
          · rw [r1] at q1; cases q1
          · rw [r1] at q1
            cases q1
            refine ⟨nI S.2.2.1, ν2, ζ, hX, q2, ?_⟩
            have A0 : Ag (fun a k => ((a = 9 ∧ 1 ≤ k) ∨ (mR μ 3 ≤ a ∧ a < mR μ 3 + 6) ∨ (a = 13 ∧ k = 2) ∨ a = 14 ∨ (a = 0 ∧ k = 0)) ∨ (PFn a k ∨ (a = 146 ∧ 128 ≤ k ∧ k < 400))) μ (wR ζ (mR μ)) := (An.mono (fun a k q => Or.inl q)).tr (ξ := wR ζ (mR μ)) ⟨(q9.mono (Q := fun a k => ((a = 9 ∧ 1 ≤ k) ∨ (mR μ 3 ≤ a ∧ a < mR μ 3 + 6) ∨ (a = 13 ∧ k = 2) ∨ a = 14 ∨ (a = 0 ∧ k = 0)) ∨ (PFn a k ∨ (a = 146 ∧ 128 ≤ k ∧ k < 400))) (fun a k q => Or.inr q)).1, rfl⟩
            have rz : ∀ i, mR ζ i = if i = 2 then mR μ 3 else if i = 3 then mR μ 2 else mR μ i := fun i => by
              rw [q9.2, hν2]
              show (if i = 3 then mR μ 2 else if i = 2 then mR μ 3 else mR ν i) = _
              rw [A.2]
              by_cases z0 : i = 2
              · subst z0; rfl
              · by_cases z1 : i = 3
                · subst z1; rfl
                · rw [if_neg z1, if_neg z0, if_neg z0, if_neg z1]
            have z02 : mR ζ 2 = mR μ 3 := by rw [rz]; rfl
            have z03 : mR ζ 3 = mR μ 2 := by rw [rz]; rfl
            have zi : ∀ i, i ≠ 2 → i ≠ 3 → mR ζ i = mR μ i := fun i h1 h2 => by rw [rz, if_neg h1, if_neg h2]
            have e00 : mI ζ 0 0 = 0 := by rw [q9.i (by omega), hν2]; rfl
            have i9 : ∀ k, mI ζ 9 k = mI ν 9 k := fun k => by
              rw [q9.i (by omega), hν2, mI_ne (by omega)]
              rfl
            refine ⟨?_, ?_, ?_, by rw [e00, q3], eq_agJ (ν := wR ζ (mR μ)) h.top A0 (by omega) (by omega), eq_agJ (ν := wR ζ (mR μ)) h.bot A0 (by omega) (by omega), tr_ag (ν := wR ζ (mR μ)) h.tr A0 (fun a k q => by omega), ⟨0, by omega, by rw [i9]; exact many0, z8, fun k hk => by omega⟩, by rw [i9, q4]; exact r3, by rw [i9, q5]; exact r4, sw_ag (ν := wR ζ (mR μ)) h.sw A0 (fun k => by omega), ?_, mk_ag (ν := wR ζ (mR μ)) h.mk A0 (by omega) (by omega) (fun a k h1 h2 => by omega) (fun k h1 h2 => by omega) (fun k h1 h2 => by omega), lv_ag (ν := wR ζ (mR μ)) h.lv A0 (fun k h1 h2 => by omega) (by omega) (fun k => by omega)⟩
            · unfold RefP; rw [zi 0 (by omega) (by omega), zi 1 (by omega) (by omega)]; exact h.rp
            · unfold RefN; rw [z02, z03]; omega
            · refine ⟨fun i h1 h2 => ?_, fun i j h1 h2 h3 => ?_⟩
              · rw [zi i (by omega) (by omega)]; exact h.rt.1 i h1 h2
              · rw [zi i (by omega) (by omega), zi j (by omega) (by omega)]; exact h.rt.2 i j h1 h2 h3
            · rw [z02, zi 0 (by omega) (by omega)]
              have od := ni.2.2.1
              have it := ni.2.1
              refine ⟨β, nm, fun j k => if j = 0 then (if k = 0 then 1 else if k = 1 then nI S.2.2.1 else nI S.2.1) else S.2.2.2.2.2 j k, fun k => mA ζ 146 (128 + k), ?_, ?_, w, pg.2.2.2.1, ?_, ?_, ?_, ?_, fun k hk => by rw [show 400 * 0 + (128 + k) = 128 + k by omega], Or.inr ⟨rfl, q6, S.2.2.1, S.2.1, dd, od, by omega, q7, rfl, ?_⟩⟩
              · exact (bx.ag (ν := wR ζ (mR μ)) A0 (fun i hi k => by omega) : BX (wR ζ (mR μ)) (mR μ 0) β)
              · intro k hk
                rw [show mA ζ 146 (400 * 0 + k) = mA μ 146 (400 * 0 + k) from A0.a (by omega)]
                exact pg.2.1 k hk
              · intro a ha
                rw [show mL ζ (mR μ 0 + 7) a = mL μ (mR μ 0 + 7) a from A0.l (by omega)]
                exact pg.2.2.2.2.1 a ha
              · intro a ha
                rw [show mL ζ 149 (5 * 0 + a) = mL μ 149 (5 * 0 + a) from A0.l (by omega)]
                exact pg.2.2.2.2.2.1 a ha
              · intro k hk
                have : mI ζ (mR μ 3) k = mI ν (mR μ 3) k := by
                  rw [q9.i (by omega), hν2, mI_ne (by omega)]
                  rfl
                rw [this]
                have hk3 : k = 0 ∨ k = 1 ∨ k = 2 := by omega
                rcases hk3 with rfl | rfl | rfl
                · exact e0
                · exact e1
                · exact e2
              · intro j h1 h2 k hk
                rw [show mA ζ (mR μ 3 + j) k = mA ν2 (mR μ 3 + j) k from q9.a (by omega), hν2]
                show mA ν (mR μ 3 + j) k = if j = 0 then _ else S.2.2.2.2.2 j k
                rw [if_neg (by omega)]
                exact rn j h1 h2 k hk
              · exact SQ_row (fun r k hr => if_neg (by omega)) q8
      · refine h.q 5 (-1) ?_ ?_
        · unfold f_X11_nights
          rw [if_neg v0, tm2, if_neg (fun z => by have := (nIlt (by omega) (by omega)).mp z; omega), if_neg (fun z => h3 ((leL (n := 300) (by omega) (by decide)).mp z))]
          rfl
        · unfold f_X12_nights f_X12_starts
          rw [if_neg v0, m8, if_neg (fun z => by have := (nIlt (by omega) (by omega)).mp z; omega), if_neg (fun z => h3 ((leL (n := 300) (by omega) (by decide)).mp z))]
          exact QM_r
    · refine h.q 5 (-1) ?_ ?_
      · unfold f_X11_nights
        rw [if_neg v0, tm2, if_pos ((nIlt (by omega) (by omega)).mpr (by omega))]
        rfl
      · unfold f_X12_nights f_X12_starts
        rw [if_neg v0, m8, if_pos ((nIlt (by omega) (by omega)).mpr (by omega))]
        exact QM_r
end NIGHTS
