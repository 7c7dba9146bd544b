/-! ===== the reference reads nights: an order with all that is inside it ===== -/
section NM3
variable (U : Nat → Nat) (e : Nat) (β : Nat → Nat) (nm : Nat → Int64)
def Rc (S S' : NT) : Prop := S.1 ≤ S'.1 ∧ ∃ t, t ≤ S'.1 - S.1 ∧ ∀ n, nrn U e β nm (n + t) S = nrn U e β nm n S'
def FlN (S : NT) (f : Flt) : Prop := ∃ t, t ≤ e - S.1 + 1 ∧ ∀ n, nrn U e β nm (n + t) S = .inl f
def GZ (S : NT) (ν : Mm) : Prop := TkM0 ν U e ∧ TkM ν U e S.1 ∧ mI ν 141 12 = 0 ∧ mI ν 141 26 = nI S.2.2.1 ∧ PGM ν β nm
def FRn (S : NT) (ν : Mm) : Prop := ∃ f : Flt, mI ν 141 12 = nI f.1 ∧ mI ν 141 13 = nI f.2 ∧ 1 ≤ f.1 ∧ f.1 ≤ 7 ∧ FlN U e β nm S f
def SR (S : NT) (ν : Mm) : Prop := FRn U e β nm S ν ∨ (∃ S' : NT, GZ U e β nm S' ν ∧ NI e S' ∧ Rc U e β nm S S' ∧ S.1 < S'.1 ∧ S'.2.2.2.1 = S.2.2.2.1 ∧ (∀ q, q < S.2.2.2.1 → S'.2.2.2.2.1 q = S.2.2.2.2.1 q) ∧ (∀ r k, k < S.2.1 → S'.2.2.2.2.2 r k = S.2.2.2.2.2 r k) ∧ ∃ d, OR (cl β) S'.2.2.2.2.2 (sg ν) d (3 - S.2.2.2.1) S.2.2.1 S'.2.2.1 S.2.1 S'.2.1)
def LR (stop : NT → Prop) (S : NT) (ν : Mm) : Prop := FRn U e β nm S ν ∨ (∃ S' : NT, GZ U e β nm S' ν ∧ NI e S' ∧ Rc U e β nm S S' ∧ stop S' ∧ S'.2.2.2.1 = S.2.2.2.1 ∧ (∀ q, q < S.2.2.2.1 → S'.2.2.2.2.1 q = S.2.2.2.2.1 q) ∧ (∀ r k, k < S.2.1 → S'.2.2.2.2.2 r k = S.2.2.2.2.2 r k) ∧ S.2.2.1 ≤ S'.2.2.1 ∧ S.2.1 ≤ S'.2.1 ∧ ∃ d, SQ (cl β) S'.2.2.2.2.2 (sg ν) d (3 - S.2.2.2.1) S.2.2.1 S'.2.2.1 S.2.1 S'.2.1)
end NM3
section NM4
variable {U : Nat → Nat} {e F : Nat} {β : Nat → Nat} {nm : Nat → Int64}
theorem Rc_rf {S : NT} : Rc U e β nm S S := ⟨Nat.le_refl _, 0, Nat.zero_le _, fun n => rfl⟩
theorem Rc_tr {S S' S'' : NT} (a : Rc U e β nm S S') (b : Rc U e β nm S' S'') : Rc U e β nm S S'' := by
  obtain ⟨a0, t, a1, a2⟩ := a
  obtain ⟨b0, t', b1, b2⟩ := b
  exact ⟨by omega, t' + t, by omega, fun n => by rw [show n + (t' + t) = (n + t') + t by omega, a2, b2]⟩
theorem Rc_fl {S S' : NT} {f : Flt} (a : Rc U e β nm S S') (h : S'.1 ≤ e) (b : FlN U e β nm S' f) : FlN U e β nm S f := by
  obtain ⟨a0, t, a1, a2⟩ := a
  obtain ⟨t', b1, b2⟩ := b
  exact ⟨t' + t, by omega, fun n => by rw [show n + (t' + t) = (n + t') + t by omega, a2, b2]⟩
theorem nrn_s {S : NT} {n : Nat} (hK : tK U e S.1 ≠ 0) : nrn U e β nm (n + 1) S = sb (nst U e β nm S) (nrn U e β nm n) := if_neg hK
theorem Rc_1 {S S' : NT} (hK : tK U e S.1 ≠ 0) (h : nst U e β nm S = .inr S') (hl : S.1 < S'.1) : Rc U e β nm S S' := ⟨by omega, 1, by omega, fun n => by rw [nrn_s hK, h]; rfl⟩
theorem Fl_1 {S : NT} {f : Flt} (hK : tK U e S.1 ≠ 0) (h : nst U e β nm S = .inl f) : FlN U e β nm S f := ⟨1, by omega, fun n => by rw [nrn_s hK, h]; rfl⟩
theorem Fl_0 {S : NT} (hK : tK U e S.1 = 0) (hd : S.2.2.2.1 ≠ 0) : FlN U e β nm S (unf U e S.1) := ⟨1, by omega, fun n => by
  show (if tK U e S.1 = 0 then (if S.2.2.2.1 = 0 then .inr S else .inl (unf U e S.1)) else sb (nst U e β nm S) (nrn U e β nm n)) = _
  rw [if_pos hK, if_neg hd]⟩
theorem FR_bad {S : NT} {ν : Mm} (h : FRn U e β nm S ν) : Bad ν := by
  obtain ⟨f, f1, -, f3, f4, -⟩ := h
  exact bad_of f1 f3 f4
theorem FR_wr {S : NT} {ν : Mm} {k : Nat} {x : Int32} (h : FRn U e β nm S ν) : FRn U e β nm S (sA ν 146 k x) := h
/-- a row of orders -/
theorem LPn {ρ : Type} {L : Nat → Mm → Option ρ} {K : Mm → Option ρ} {rc : Mm → Option Mm} {stop : NT → Prop} {m d0 : Nat} (hB : ∀ n ν, Bad ν → L (n + 1) ν = K ν) (hS : ∀ n S ν, GZ U e β nm S ν → stop S → L (n + 1) ν = K ν) (hC : ∀ n S ν, GZ U e β nm S ν → ¬ stop S → L (n + 1) ν = (rc ν).bind (L n)) (hst : ∀ S ν, e - S.1 < m → GZ U e β nm S ν → NI e S → S.2.2.2.1 = d0 → ¬ stop S → ∃ ν', rc ν = some ν' ∧ Ag (PO S.2.2.1) ν ν' ∧ SR U e β nm S ν') : ∀ n (S : NT) (ν : Mm), e - S.1 < m → e - S.1 + 1 < n → GZ U e β nm S ν → NI e S → S.2.2.2.1 = d0 → ∃ ν', L n ν = K ν' ∧ Ag (PO S.2.2.1) ν ν' ∧ LR U e β nm stop S ν' := by
  intro n
  induction n with
  | zero => intro S ν _ h; omega
  | succ n ih =>
    intro S ν hm hn g ni hd
    by_cases z : stop S
    · exact ⟨ν, hS n S ν g z, Ag.rf, Or.inr ⟨S, g, ni, Rc_rf, z, rfl, fun _ _ => rfl, fun _ _ _ => rfl, Nat.le_refl _, Nat.le_refl _, 0, SQ_rf⟩⟩
    · obtain ⟨ν1, x1, x2, x3⟩ := hst S ν hm g ni hd z
      have e1 : L (n + 1) ν = L n ν1 := by rw [hC n S ν g z, x1]; rfl
      rcases x3 with x3 | ⟨S', g1, n1, r1, l1, d1, s1, w1, d, o1⟩
      · obtain ⟨n', rfl⟩ : ∃ n', n = n' + 1 := ⟨n - 1, by omega⟩
        exact ⟨ν1, by rw [e1, hB n' ν1 (FR_bad x3)], x2, Or.inl x3⟩
      · have le1 := n1.1
        obtain ⟨ν2, y1, y2, y3⟩ := ih S' ν1 (by omega) (by omega) g1 n1 (by omega)
        have ho := o1.1
        have hi := o1.2.1
        have A2 : Ag (PO S.2.2.1) ν ν2 := x2.tr (y2.mono (fun a k q => by omega))
        refine ⟨ν2, by rw [e1, y1], A2, ?_⟩
        rcases y3 with ⟨f, f1, f2, f3, f4, f5⟩ | ⟨S2, g2, n2, r2, st2, d2, s2, w2, od2, it2, dd, q2⟩
        · exact Or.inl ⟨f, f1, f2, f3, f4, Rc_fl r1 le1 f5⟩
        · rw [d1] at q2
          obtain ⟨d'', q''⟩ := SQ_cons o1 q2 od2 it2 (fun r k hk => w2 r k hk) (fun k hk => by
            show mA ν2 146 (1728 + k) = mA ν1 146 (1728 + k)
            exact y2.a (by omega))
          exact Or.inr ⟨S2, g2, n2, Rc_tr r1 r2, st2, by omega, fun q hq => by rw [s2 q (by omega), s1 q hq], fun r k hk => by rw [w2 r k (by omega), w1 r k hk], by omega, by omega, d'', q''⟩
theorem kd_lt {c : Nat} : kdO c < 8 := by
  unfold kdO
  repeat' split
  all_goals omega
theorem op_v {c : Nat} (hc : isOr c = true) : (if nI (kdO c) = 5 then (1 : Int32) else if nI (kdO c) = 6 then (1 : Int32) else 0) = if opn c = true then 1 else 0 := by
  rcases isOr_of hc with rfl | rfl | rfl | rfl | rfl | rfl | rfl | rfl <;> decide
theorem endB2 {μ : Mm} (h : Bad μ) {G : Mm → Option Mm} : ((f_X12_isSign 59 μ).bind fun x22 => (f_X12_must F (bI x22) μ).bind G) = G μ := by
  have := M_endB (F := F) h
  cases hx : f_X12_isSign 59 μ with
  | none => rw [hx] at this; cases this
  | some x => rw [Option.bind_some, M_mustB h]; rfl
theorem end2 {μ ν : Mm} (h : ((f_X12_isSign 59 μ).bind fun x7 => f_X12_must F (bI x7) μ) = some ν) {G : Mm → Option Mm} : ((f_X12_isSign 59 μ).bind fun x22 => (f_X12_must F (bI x22) μ).bind G) = G ν := by
  cases hx : f_X12_isSign 59 μ with
  | none => rw [hx] at h; cases h
  | some x =>
    rw [hx, Option.bind_some] at h
    rw [Option.bind_some, h]
    rfl
theorem GZ_ag {S : NT} {ν ν' : Mm} (h : GZ U e β nm S ν) (k : Nat) (hk : 128 ≤ k) (x : Int32) (hν : ν' = sA ν 146 k x) : GZ U e β nm S ν' := by
  have A : Ag (fun a i => a = 146 ∧ i = k) ν ν' := by rw [hν]; exact Ag.sA ⟨rfl, rfl⟩
  exact ⟨TkM0_ag h.1 A (by omega) (fun j => by omega), TkM_ag h.2.1 A (fun j h1 h2 => by omega), by rw [A.i (by omega)]; exact h.2.2.1, by rw [A.i (by omega)]; exact h.2.2.2.1, PGM_ag h.2.2.2.2 A (by omega) (by omega) (fun j => by omega)⟩
set_option maxHeartbeats 4000000 in
theorem M_step (hF : 2000000 ≤ F) (w : WF β) : ∀ (m D : Nat) (S : NT) (μ : Mm), e - S.1 < m → 4 ≤ D + S.2.2.2.1 → GZ U e β nm S μ → NI e S → (tO U e S.1 = some 26 → S.2.2.2.1 = 0) → (tK U e S.1 = 0 → S.2.2.2.1 ≠ 0) → ∃ ν, t_X12_readStep F D (nI S.2.2.2.1) μ = some ν ∧ Ag (PO S.2.2.1) μ ν ∧ SR U e β nm S ν := by
  intro m
  induction m with
  | zero => intro D S μ h; omega
  | succ m ih =>
    intro D S μ hm hD g ni h26 hK0
    obtain ⟨i1, i2, i3, i4, i5⟩ := id ni
    obtain ⟨D', rfl⟩ : ∃ D', D = D' + 1 := ⟨D - 1, by omega⟩
    obtain ⟨T0, T, b, g26, B⟩ := id g
    show ∃ ν, f_X12_readStep F (t_X12_readStep F D') (nI S.2.2.2.1) μ = some ν ∧ _
    unfold f_X12_readStep
    simp only [jn]
    by_cases hor : ∃ c, tO U e S.1 = some c ∧ isOr c = true
    · obtain ⟨c, ho, hc⟩ := hor
      have hK := tO_K ho
      have n26 : c ≠ 26 := fun z => by rw [z] at hc; cases hc
      have hn : nst U e β nm S = ordS U e β nm c S := by
        unfold nst
        rw [ho]
        dsimp only
        rw [if_neg n26, if_pos hc]
      have kd := kd_lt (c := c)
      have tn := tK0_le (U := U) i1 hK
      rw [M_ow1 T ho hc, Option.bind_some, if_pos (show (0 : Int32) ≤ nI (kdO c) from (Lle (n := 0) (by omega) (by decide)).mpr (Nat.zero_le _)), if_pos b, op_v hc]
      obtain ⟨vb, hvb⟩ : ∃ vb : Int32, vb = if opn c = true then 1 else 0 := ⟨_, rfl⟩
      rw [← hvb]
      have vb1 : opn c = true → ¬ vb = 0 := fun z => by rw [hvb, if_pos z]; decide
      have vb0 : opn c = false → vb = 0 := fun z => by rw [hvb, if_neg (by rw [z]; decide)]
      by_cases h30 : S.2.2.1 = 30
      · obtain ⟨ν1, x1, x2, x3, x4⟩ := M_fail b (v := 6) (w := mI μ 141 15) 6 (tS U e S.1) rfl T.1
        have hb := bad_of x2 (by omega) (by omega)
        rw [if_pos (show mI μ 141 26 = 30 by rw [g26, h30]; rfl), x1, Option.bind_some, if_neg hb.1, if_neg hb.2]
        refine ⟨ν1, rfl, x4.mono (fun a k q => by omega), Or.inl ⟨(6, tS U e S.1), x2, x3, by omega, by omega, Fl_1 hK ?_⟩⟩
        rw [hn]
        unfold ordS
        rw [if_pos (by omega)]
      · rw [if_neg (show ¬ mI μ 141 26 = 30 from fun z => by rw [g26] at z; have z2 : S.2.2.1 = 30 := (eqL (n := 30) (by omega) (by decide)).mp z; omega), if_pos b]
        by_cases h7 : opn c = true ∧ 3 ≤ S.2.2.2.1
        · obtain ⟨ν1, x1, x2, x3, x4⟩ := M_fail b (v := 7) (w := mI μ 141 15) 7 (tS U e S.1) rfl T.1
          have hb := bad_of x2 (by omega) (by omega)
          rw [if_neg (vb1 h7.1), if_pos (show nI S.2.2.2.1 = 3 by rw [show S.2.2.2.1 = 3 by omega]; rfl), x1, Option.bind_some, if_neg hb.2]
          refine ⟨ν1, rfl, x4.mono (fun a k q => by omega), Or.inl ⟨(7, tS U e S.1), x2, x3, by omega, by omega, Fl_1 hK ?_⟩⟩
          rw [hn]
          unfold ordS
          rw [if_neg (by omega), if_pos h7]
        · have e1 : ∀ (X Y : Option Mm), (if vb = 0 then X else if nI S.2.2.2.1 = 3 then Y else X) = X := fun X Y => by
            by_cases z : opn c = true
            · rw [if_neg (vb1 z), if_neg (fun y => by have y2 : S.2.2.2.1 = 3 := (eqL (n := 3) (by omega) (by decide)).mp y; exact h7 ⟨z, by omega⟩)]
            · rw [if_pos (vb0 (by simpa using z))]
          rw [e1, if_pos (z0 b), g26, show (1730 : Int32) + (9 : Int32) * nI S.2.2.1 = nI (1730 + 9 * S.2.2.1) by rw [Lmul, Ladd]]
          -- the word
          obtain ⟨ν0, hν0⟩ : ∃ ν0, ν0 = sI μ 141 26 (nI S.2.2.1 + 1) := ⟨_, rfl⟩
          have A0 : Ag (fun a k => a = 141 ∧ k = 26) μ ν0 := by rw [hν0]; exact Ag.sI ⟨rfl, rfl⟩
          rw [← hν0]
          obtain ⟨ν1, x1, x2, x3⟩ := M_advance (F := F) (p := tN U e S.1) (TkM0_ag T0 A0 (by omega) (fun k => by omega)) hF tn.2 (by rw [A0.i (by omega)]; exact T.2.1)
          obtain ⟨ν2, hν2⟩ : ∃ ν2, ν2 = sA ν1 146 (1730 + 9 * S.2.2.1) (nI (kdO c)) := ⟨_, rfl⟩
          have A2 : Ag (fun a k => a = 146 ∧ k = 1730 + 9 * S.2.2.1) ν1 ν2 := by rw [hν2]; exact Ag.sA ⟨rfl, rfl⟩
          have hw2 : wrA ν1 146 2000 (nI (1730 + 9 * S.2.2.1)) (nI (kdO c)) = some ν2 := by rw [hν2]; exact wrA_n (by omega) (by omega)
          have A02 : Ag (PO S.2.2.1) μ ν2 := ((A0.mono (fun a k q => by omega)).tr (x3.mono (fun a k q => by omega))).tr (A2.mono (fun a k q => by omega))
          rw [x1, Option.bind_some, hw2, Option.bind_some]
          have T02 : TkM0 ν2 U e := TkM0_ag T0 A02 (by omega) (fun k => by omega)
          have T2 : TkM ν2 U e (tN U e S.1) := TkM_ag x2 A2 (fun k h1 h2 => by omega)
          have b2 : mI ν2 141 12 = 0 := by rw [A2.i (by omega), x3.i (by omega), A0.i (by omega)]; exact b
          have B2 : PGM ν2 β nm := PGM_ag B A02 (by omega) (by omega) (fun k => by omega)
          have c26 : mI ν2 141 26 = nI (S.2.2.1 + 1) := by rw [A2.i (by omega), x3.i (by omega), hν0, mI_sI]; rw [if_pos rfl, if_pos rfl]; exact nI_1 _
          obtain ⟨ν3, y1, y2, y3⟩ := M_rest hF w T02 T2 tn.2 b2 B2 (s := S.2.2.1) (by omega) hc (by rw [hν2, mA_sA, if_pos rfl, if_pos rfl])
          have A3 : Ag (PO S.2.2.1) μ ν3 := A02.tr (y3.mono (fun a k q => by omega))
          rw [y1, Option.bind_some]
          -- the end of it
          have w8 : ∀ (ν : Mm) (x : Int32), wrA ν 146 2000 (nI (1730 + 9 * S.2.2.1) + 8) x = some (sA ν 146 (1730 + 9 * S.2.2.1 + 8) x) := fun ν x => M_wst (by omega) (by omega) (by omega) addL
          obtain ⟨K, hK'⟩ : ∃ K : Mm → Option Mm, K = fun μ28 => (if vb = 0 then (wrA μ28 146 2000 (nI (1730 + 9 * S.2.2.1) + 8) (mI μ28 141 26)).bind fun μ32 => some μ32 else (f_X12_isEnd μ28).bind fun x34 => (f_X12_must F (bI x34) μ28).bind fun μ36 => (f_X12_isSign 59 μ36).bind fun x37 => (f_X12_must F (bI x37) μ36).bind fun μ39 => (wrA μ39 146 2000 (nI (1730 + 9 * S.2.2.1) + 8) (mI μ39 141 26)).bind fun μ32 => some μ32) := ⟨_, rfl⟩
          have AW : ∀ (ν : Mm) (x : Int32), Ag (PO S.2.2.1) ν (sA ν 146 (1730 + 9 * S.2.2.1 + 8) x) := fun ν x => Ag.sA (by omega)
          have kB : ∀ ν, Bad ν → K ν = some (sA ν 146 (1730 + 9 * S.2.2.1 + 8) (mI ν 141 26)) := fun ν hb => by
            rw [hK']
            dsimp only
            by_cases z : vb = 0
            · rw [if_pos z, w8]; rfl
            · rw [if_neg z]
              obtain ⟨x, hx⟩ := isEnd_any (μ := ν)
              rw [hx, Option.bind_some, M_mustB hb, Option.bind_some, endB2 hb, w8]
              rfl
          have LB : ∀ n ν, Bad ν → L_X12_readStep_141 F (t_X12_readStep F D') (nI S.2.2.2.1) vb (nI (1730 + 9 * S.2.2.1)) K (n + 1) ν = K ν := fun n ν hb => by
            rw [L_X12_readStep_141_s, if_neg hb.1]
            split <;> rfl
          have LBF : ∀ ν, Bad ν → L_X12_readStep_141 F (t_X12_readStep F D') (nI S.2.2.2.1) vb (nI (1730 + 9 * S.2.2.1)) K F ν = K ν := fun ν hb => by
            have := LB (F - 1) ν hb
            rwa [show F - 1 + 1 = F by omega] at this
          have LF0 : ∀ ν, vb = 0 → L_X12_readStep_141 F (t_X12_readStep F D') (nI S.2.2.2.1) vb (nI (1730 + 9 * S.2.2.1)) K F ν = K ν := fun ν hb => by
            have := L_X12_readStep_141_s F (t_X12_readStep F D') (nI S.2.2.2.1) vb (nI (1730 + 9 * S.2.2.1)) K (F - 1) ν
            rwa [show F - 1 + 1 = F by omega, if_pos hb] at this
          have bd0 : ∀ ν (f : Flt), mI ν 141 12 = nI f.1 → mI ν 141 13 = nI f.2 → 1 ≤ f.1 → f.1 ≤ 7 → nst U e β nm S = .inl f → Ag (PO S.2.2.1) μ ν → ∃ ξ, K ν = some ξ ∧ Ag (PO S.2.2.1) μ ξ ∧ SR U e β nm S ξ := fun ν f f1 f2 f3 f4 f5 a => ⟨_, kB ν (bad_of f1 f3 f4), a.tr (AW ν _), Or.inl ⟨f, f1, f2, f3, f4, Fl_1 hK f5⟩⟩
          have goal : ∃ ξ, ((f_X12_isSign 59 ν3).bind fun x22 => (f_X12_must F (bI x22) ν3).bind fun μ24 => L_X12_readStep_141 F (t_X12_readStep F D') (nI S.2.2.2.1) vb (nI (1730 + 9 * S.2.2.1)) K F μ24) = some ξ ∧ Ag (PO S.2.2.1) μ ξ ∧ SR U e β nm S ξ := by
            have ord : ordS U e β nm c S = sb (rstS U e β nm c (tN U e S.1)) fun r => sb (endS U e r.1) fun q => .inr (q, S.2.1 + 1, S.2.2.1 + 1, (if opn c = true then S.2.2.2.1 + 1 else S.2.2.2.1), (if opn c = true then updN S.2.2.2.2.1 S.2.2.2.1 S.2.1 else S.2.2.2.2.1), setI S.2.2.2.2.2 S.2.1 (nI r.2.1) (nI r.2.2.1) (nI r.2.2.2.1) (nI r.2.2.2.2) (nI S.2.1)) := by
              unfold ordS
              rw [if_neg (by omega), if_neg h7]
            cases hr : rstS U e β nm c (tN U e S.1) with
            | inl f =>
              rw [hr] at y2 ord
              have hb := MO_bad y2
              rw [endB2 hb, LBF _ hb]
              exact bd0 ν3 f y2.1 y2.2.1 y2.2.2.1 y2.2.2.2 (by rw [hn, ord]; rfl) A3
            | inr r =>
              rw [hr] at y2 ord
              obtain ⟨b3, T3, rs⟩ := y2
              have rl := rst_ok w tn.2 hr
              have T03 : TkM0 ν3 U e := TkM0_ag T0 A3 (by omega) (fun k => by omega)
              obtain ⟨ν4, z1, z2, z3⟩ := M_end T03 T3 rl.2 hF b3
              have A4 : Ag (PO S.2.2.1) μ ν4 := A3.tr (z3.mono (fun a k q => by omega))
              rw [end2 z1]
              cases hq : endS U e r.1 with
              | inl f =>
                rw [hq] at z2
                have hb := MO_bad z2
                rw [LBF _ hb]
                exact bd0 ν4 f z2.1 z2.2.1 z2.2.2.1 z2.2.2.2 (by rw [hn, ord, sb_r, hq]; rfl) A4
              | inr q =>
                rw [hq] at z2
                obtain ⟨b4, T4⟩ := z2
                have hS1 : ordS U e β nm c S = .inr (q, S.2.1 + 1, S.2.2.1 + 1, (if opn c = true then S.2.2.2.1 + 1 else S.2.2.2.1), (if opn c = true then updN S.2.2.2.2.1 S.2.2.2.1 S.2.1 else S.2.2.2.2.1), setI S.2.2.2.2.2 S.2.1 (nI r.2.1) (nI r.2.2.1) (nI r.2.2.2.1) (nI r.2.2.2.2) (nI S.2.1)) := by rw [ord, sb_r, hq]; rfl
                obtain ⟨l1, n1⟩ := ord_ok w ni ho hS1
                have r1 := Rc_1 hK (hn.trans hS1) l1
                have f26 : mI ν4 141 26 = nI (S.2.2.1 + 1) := by rw [z3.i (by omega), y3.i (by omega)]; exact c26
                have g1 : GZ U e β nm (q, S.2.1 + 1, S.2.2.1 + 1, (if opn c = true then S.2.2.2.1 + 1 else S.2.2.2.1), (if opn c = true then updN S.2.2.2.2.1 S.2.2.2.1 S.2.1 else S.2.2.2.2.1), setI S.2.2.2.2.2 S.2.1 (nI r.2.1) (nI r.2.2.1) (nI r.2.2.2.1) (nI r.2.2.2.2) (nI S.2.1)) ν4 := ⟨TkM0_ag T0 A4 (by omega) (fun k => by omega), T4, b4, f26, PGM_ag B A4 (by omega) (by omega) (fun k => by omega)⟩
                by_cases hop : opn c = true
                · -- a block
                  rw [if_pos hop, if_pos hop] at hS1 n1 r1 g1 l1
                  have le1 := n1.1
                  have dp1 := n1.2.2.2.1
                  have nb := vb1 hop
                  have d1 : nI S.2.2.2.1 + (1 : Int32) = nI (S.2.2.2.1 + 1) := nI_1 _
                  obtain ⟨ν5, u1, u2, u3⟩ := LPn (U := U) (e := e) (β := β) (nm := nm) (L := L_X12_readStep_141 F (t_X12_readStep F D') (nI S.2.2.2.1) vb (nI (1730 + 9 * S.2.2.1)) K) (K := K) (rc := t_X12_readStep F D' (nI S.2.2.2.1 + 1)) (stop := fun S => tO U e S.1 = some 26) (m := m) (d0 := S.2.2.2.1 + 1) LB (fun n S' ν' g' z => by
                    rw [L_X12_readStep_141_s, if_neg nb, if_pos g'.2.2.1, M_isEnd g'.2.1, Option.bind_some, if_pos (decide_eq_true z)]) (fun n S' ν' g' z => by
                    rw [L_X12_readStep_141_s, if_neg nb, if_pos g'.2.2.1, M_isEnd g'.2.1, Option.bind_some, if_neg (fun y => z (of_decide_eq_true y))]) (fun S' ν' hm' g' n' d' z => by
                    rw [d1, ← d']
                    exact ih D' S' ν' hm' (by omega) g' n' (fun y => absurd y z) (fun _ => by omega)) F _ ν4 (by show e - q < m; have : S.1 < q := l1; omega) (by show e - q + 1 < F; have := T0.1; omega) g1 n1 rfl
                  have A5 : Ag (PO S.2.2.1) μ ν5 := A4.tr (u2.mono (fun a k y => by have : PO (S.2.2.1 + 1) a k := y; omega))
                  rw [u1]
                  rcases u3 with u3 | ⟨S2, g2, n2, r2, st2, d2, s2, ww2, od2, it2, dd, q2⟩
                  · obtain ⟨f, f1, f2, f3, f4, f5⟩ := u3
                    exact ⟨_, kB ν5 (bad_of f1 f3 f4), A5.tr (AW ν5 _), Or.inl ⟨f, f1, f2, f3, f4, Rc_fl r1 le1 f5⟩⟩
                  · have st2' : tO U e S2.1 = some 26 := st2
                    have hK2 := tO_K st2'
                    have tn2 := tK0_le (U := U) n2.1 hK2
                    have d2' : S2.2.2.2.1 = S.2.2.2.1 + 1 := d2
                    have od2' : S.2.2.1 + 1 ≤ S2.2.2.1 := od2
                    have it2' : S.2.1 + 1 ≤ S2.2.1 := it2
                    have hn2 : nst U e β nm S2 = ndS U e S2 := by
                      unfold nst
                      rw [st2']
                      rfl
                    have nd : ndS U e S2 = sb (endS U e (tN U e S2.1)) fun q => .inr (q, S2.2.1 + 1, S2.2.2.1, S2.2.2.2.1 - 1, S2.2.2.2.2.1, updW (setI S2.2.2.2.2.2 S2.2.1 26 0 0 0 (nI (S2.2.2.2.2.1 (S2.2.2.2.1 - 1)))) 5 (S2.2.2.2.2.1 (S2.2.2.2.1 - 1)) (nI S2.2.1)) := by
                      unfold ndS
                      rw [if_neg (by omega)]
                    obtain ⟨ν6, v1, v2, v3⟩ := M_must1 g2.1 g2.2.1 n2.1 hF g2.2.2.1 (v := bI true) (by decide)
                    have b6 : mI ν6 141 12 = 0 := by rw [v3.i (by omega)]; exact g2.2.2.1
                    have T06 : TkM0 ν6 U e := TkM0_ag g2.1 v3 (by omega) (fun k => by omega)
                    obtain ⟨ν7, k1, k2, k3⟩ := M_end T06 v2 tn2.2 hF b6
                    have A57 : Ag PMm ν5 ν7 := (PB_PM v3).tr k3
                    have A7 : Ag (PO S.2.2.1) μ ν7 := A5.tr (A57.mono (fun a k q => by omega))
                    have kE : K ν5 = some (sA ν7 146 (1730 + 9 * S.2.2.1 + 8) (mI ν7 141 26)) := by
                      rw [hK']
                      dsimp only
                      rw [if_neg nb, M_isEnd g2.2.1, Option.bind_some, show decide (tO U e S2.1 = some 26) = true from decide_eq_true st2', v1, Option.bind_some, end2 k1, w8]
                      rfl
                    rw [kE]
                    refine ⟨_, rfl, A7.tr (AW ν7 _), ?_⟩
                    cases hq2 : endS U e (tN U e S2.1) with
                    | inl f =>
                      rw [hq2] at k2 nd
                      exact Or.inl ⟨f, k2.1, k2.2.1, k2.2.2.1, k2.2.2.2, Rc_fl (Rc_tr r1 r2) n2.1 (Fl_1 hK2 (by rw [hn2, nd]; rfl))⟩
                    | inr q' =>
                      rw [hq2] at k2 nd
                      obtain ⟨b7, T7⟩ := k2
                      have sE : S2.2.2.2.2.1 (S2.2.2.2.1 - 1) = S.2.1 := by
                        rw [d2', show S.2.2.2.1 + 1 - 1 = S.2.2.2.1 by omega, s2 S.2.2.2.1 (by show S.2.2.2.1 < S.2.2.2.1 + 1; omega)]
                        exact updN_eq
                      rw [sb_r, sE, d2', show S.2.2.2.1 + 1 - 1 = S.2.2.2.1 by omega] at nd
                      obtain ⟨l3, n3⟩ := nd_ok n2 st2' nd
                      have r3 := Rc_1 hK2 (hn2.trans nd) l3
                      have j26 : mI ν7 141 26 = nI S2.2.2.1 := by rw [A57.i (by omega)]; exact g2.2.2.2.1
                      refine Or.inr ⟨(q', S2.2.1 + 1, S2.2.2.1, S.2.2.2.1, S2.2.2.2.2.1, updW (setI S2.2.2.2.2.2 S2.2.1 26 0 0 0 (nI S.2.1)) 5 S.2.1 (nI S2.2.1)), GZ_ag (ν := ν7) ⟨TkM0_ag T0 A7 (by omega) (fun k => by omega), T7, b7, j26, PGM_ag B A7 (by omega) (by omega) (fun k => by omega)⟩ (1730 + 9 * S.2.2.1 + 8) (by omega) _ rfl, n3, Rc_tr (Rc_tr r1 r2) r3, ?_, rfl, ?_, ?_, ?_⟩
                      · have := r2.1
                        have l1' : S.1 < q := l1
                        have r2' : q ≤ S2.1 := this
                        omega
                      · intro j hj
                        show S2.2.2.2.2.1 j = _
                        rw [s2 j (by show j < S.2.2.2.1 + 1; omega)]
                        exact updN_ne (by omega)
                      · intro r' k hk
                        show updW (setI S2.2.2.2.2.2 S2.2.1 26 0 0 0 (nI S.2.1)) 5 S.2.1 (nI S2.2.1) r' k = _
                        rw [updW_ne (by omega), setI_lo (by omega), ww2 r' k (by show k < S.2.1 + 1; omega)]
                        exact setI_lo (by omega)
                      · have sgE : ∀ k, k ≠ 10 + 9 * S.2.2.1 → sg (sA ν7 146 (1730 + 9 * S.2.2.1 + 8) (mI ν7 141 26)) k = sg ν5 k := fun k hk => by
                          show mA _ 146 (1728 + k) = mA ν5 146 (1728 + k)
                          rw [mA_sA, if_pos rfl, if_neg (by omega), A57.a (by omega)]
                        refine ⟨dd, by show S.2.2.1 < S2.2.2.1; omega, by show S.2.1 < S2.2.1 + 1; omega, ?_, Or.inr ⟨?_, by omega, S2.2.1, by omega, rfl, ?_, ?_, ?_, ?_⟩⟩
                        · show mA _ 146 (1728 + (10 + 9 * S.2.2.1)) = nI S2.2.2.1
                          rw [show 1728 + (10 + 9 * S.2.2.1) = 1730 + 9 * S.2.2.1 + 8 by omega, mA_sA, if_pos rfl, if_pos rfl, j26]
                        · refine SB_cong ((rs S.2.2.2.2.2 S.2.1).2 hop) (fun r' hr' => ?_) (fun k h1 h2 => ?_)
                          · show updW (setI S2.2.2.2.2.2 S2.2.1 26 0 0 0 (nI S.2.1)) 5 S.2.1 (nI S2.2.1) r' S.2.1 = _
                            rw [updW_ne (by omega), setI_lo (by omega), ww2 r' S.2.1 (by show S.2.1 < S.2.1 + 1; omega)]
                          · rw [sgE k (by omega)]
                            show mA ν5 146 (1728 + k) = mA ν3 146 (1728 + k)
                            rw [u2.a (by show ¬ PO (S.2.2.1 + 1) 146 (1728 + k); omega), z3.a (by omega)]
                        · show updW (setI S2.2.2.2.2.2 S2.2.1 26 0 0 0 (nI S.2.1)) 5 S.2.1 (nI S2.2.1) 1 S2.2.1 = _
                          rw [updW_ne (by omega), setI_1]
                        · show updW (setI S2.2.2.2.2.2 S2.2.1 26 0 0 0 (nI S.2.1)) 5 S.2.1 (nI S2.2.1) 5 S2.2.1 = _
                          rw [updW_ne (by omega), setI_5]
                        · exact updW_eq
                        · rw [show 3 - S.2.2.2.1 - 1 = 3 - (S.2.2.2.1 + 1) by omega]
                          refine SQ_cong q2 (fun r' k h1 h2 => ?_) (fun k h1 h2 => ?_)
                          · show updW (setI S2.2.2.2.2.2 S2.2.1 26 0 0 0 (nI S.2.1)) 5 S.2.1 (nI S2.2.1) r' k = _
                            have h1' : S.2.1 + 1 ≤ k := h1
                            rw [updW_ne (by omega), setI_lo (by omega)]
                          · have h1' : 2 + 9 * (S.2.2.1 + 1) ≤ k := h1
                            exact sgE k (by omega)
                · -- a single order
                  have hop' : opn c = false := by simpa using hop
                  rw [if_neg hop, if_neg hop] at hS1 n1 r1 g1 l1
                  have kE : K ν4 = some (sA ν4 146 (1730 + 9 * S.2.2.1 + 8) (mI ν4 141 26)) := by
                    rw [hK']
                    dsimp only
                    rw [if_pos (vb0 hop'), w8]
                    rfl
                  rw [LF0 _ (vb0 hop'), kE]
                  refine ⟨_, rfl, A4.tr (AW ν4 _), Or.inr ⟨_, GZ_ag g1 (1730 + 9 * S.2.2.1 + 8) (by omega) _ rfl, n1, r1, l1, rfl, fun _ _ => rfl, fun r' k hk => setI_lo (by omega), 0, by show S.2.2.1 < S.2.2.1 + 1; omega, by show S.2.1 < S.2.1 + 1; omega, ?_, Or.inl ⟨?_, rfl, rfl⟩⟩⟩
                  · show mA _ 146 (1728 + (10 + 9 * S.2.2.1)) = nI (S.2.2.1 + 1)
                    rw [show 1728 + (10 + 9 * S.2.2.1) = 1730 + 9 * S.2.2.1 + 8 by omega, mA_sA, if_pos rfl, if_pos rfl, f26]
                  · refine SI_cong ((rs S.2.2.2.2.2 S.2.1).1 hop') (fun r' hr' => rfl) (fun k h1 h2 => ?_)
                    show mA _ 146 (1728 + k) = mA ν3 146 (1728 + k)
                    rw [mA_sA, if_pos rfl, if_neg (by omega), z3.a (by omega)]
          rw [hK'] at goal
          exact goal
    · have no : ∀ c, tO U e S.1 = some c → isOr c = false := fun c hc => by
        cases hi : isOr c with
        | true => exact absurd ⟨c, hc, hi⟩ hor
        | false => rfl
      obtain ⟨ν1, x1, x2, x3, x4⟩ := M_amiss T b
      have hb := bad_of x2 unf_r.1 unf_r.2
      rw [M_ow0 T no, Option.bind_some, if_neg (show ¬ (0 : Int32) ≤ -1 by decide), x1, Option.bind_some, if_neg hb.1, if_neg hb.1, if_neg hb.2]
      refine ⟨ν1, rfl, x4.mono (fun a k q => by omega), Or.inl ⟨unf U e S.1, x2, x3, unf_r.1, unf_r.2, ?_⟩⟩
      by_cases hK : tK U e S.1 = 0
      · exact Fl_0 hK (hK0 hK)
      · refine Fl_1 hK ?_
        unfold nst
        cases ho : tO U e S.1 with
        | none => rfl
        | some c =>
          dsimp only
          by_cases z : c = 26
          · rw [if_pos z]
            unfold ndS
            rw [if_pos (h26 (by rw [ho, z]))]
          · rw [if_neg z, if_neg (by rw [no c ho]; decide)]
end NM4
