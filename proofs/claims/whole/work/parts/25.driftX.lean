/-! ===== the class: laws, drift, hours ===== -/
/-- sets as numbers -/
theorem bit_eq (s : Int32) (k : Nat) : bit s k = decide ((s >>> (nI k &&& 31)) &&& 1 = 1) := rfl
theorem i32_bv (a b : Int32) (h : a.toBitVec = b.toBitVec) : a = b := Int32.toBitVec_inj.mp h
theorem and1 (x : Int32) : x &&& 1 = 0 ∨ x &&& 1 = 1 := by
  have h : ∀ y : BitVec 32, y &&& 1#32 = 0#32 ∨ y &&& 1#32 = 1#32 := by
    intro y
    have : y &&& 1#32 = if y.getLsbD 0 then 1#32 else 0#32 := by
      apply BitVec.eq_of_getLsbD_eq
      intro i hi
      rw [BitVec.getLsbD_and]
      cases i with
      | zero => cases h0 : y.getLsbD 0 <;> simp
      | succ i => cases h0 : y.getLsbD 0 <;> simp
    rw [this]
    split
    · exact Or.inr rfl
    · exact Or.inl rfl
  rcases h x.toBitVec with q | q
  · exact Or.inl (i32_bv _ _ (by rw [Int32.toBitVec_and]; exact q))
  · exact Or.inr (i32_bv _ _ (by rw [Int32.toBitVec_and]; exact q))
theorem bit_lsb (s : Int32) {k : Nat} (hk : k < 32) : bit s k = s.toBitVec.getLsbD k := by
  have hm : ∀ k, k < 32 → (nI k &&& 31).toBitVec.smod 32 = BitVec.ofNat 32 k := by decide +kernel
  have h1 : ((s >>> (nI k &&& 31)) &&& 1).toBitVec.getLsbD 0 = s.toBitVec.getLsbD k := by
    rw [Int32.toBitVec_and, BitVec.getLsbD_and, Int32.toBitVec_shiftRight, hm k hk, BitVec.sshiftRight_eq', BitVec.getLsbD_sshiftRight]
    have : (BitVec.ofNat 32 k).toNat = k := by rw [BitVec.toNat_ofNat]; omega
    rw [this]
    simp [hk]
  unfold bit
  rcases and1 (s >>> (nI k &&& 31)) with q | q
  · rw [q] at h1; rw [q, ← h1]; decide
  · rw [q] at h1; rw [q, ← h1]; decide
theorem sh_lsb {k j : Nat} (hk : k < 32) (hj : j < 32) : ((1 : Int32) <<< (nI k &&& 31)).toBitVec.getLsbD j = decide (j = k) := by
  have : ∀ k, k < 32 → ∀ j, j < 32 → ((1 : Int32) <<< (nI k &&& 31)).toBitVec.getLsbD j = decide (j = k) := by decide +kernel
  exact this k hk j hj
theorem bit_or (s t : Int32) {k : Nat} (hk : k < 32) : bit (s ||| t) k = (bit s k || bit t k) := by
  rw [bit_lsb _ hk, bit_lsb _ hk, bit_lsb _ hk, Int32.toBitVec_or, BitVec.getLsbD_or]
theorem bit_sh {k j : Nat} (hk : k < 32) (hj : j < 32) : bit ((1 : Int32) <<< (nI k &&& 31)) j = decide (j = k) := by rw [bit_lsb _ hj, sh_lsb hk hj]
theorem bit_z {j : Nat} (hj : j < 32) : bit 0 j = false := by rw [bit_lsb _ hj]; simp
theorem bit_ext {s t : Int32} (h : ∀ k, k < 32 → bit s k = bit t k) : s = t := by
  apply i32_bv
  apply BitVec.eq_of_getLsbD_eq
  intro i hi
  rw [← bit_lsb _ hi, ← bit_lsb _ hi, h i hi]
theorem bit_n0 (s : Int32) (k : Nat) : ((s >>> (nI k &&& 31)) &&& 1 = 0) ↔ bit s k = false := by
  unfold bit
  rcases and1 (s >>> (nI k &&& 31)) with q | q
  · rw [q]; decide
  · rw [q]; decide
/-- a set made place by place -/
theorem bit_fold {h : Nat → Int32} {q : Nat → Bool} {j : Nat} (hj : j < 32) : ∀ {m i : Nat} {s : Int32}, (∀ k, i ≤ k → k < i + m → bit (h k) j = q k) → bit (foldF (fun k x => x ||| h k) i m s) j = (bit s j || (fndF q i m).isSome)
  | 0, i, s, _ => by rw [show fndF q i 0 = none from rfl]; simp only [Option.isSome_none, Bool.or_false]; rfl
  | m + 1, i, s, hq => by
    rw [foldF_s, bit_fold hj (fun k h1 h2 => hq k (by omega) (by omega)), bit_or _ _ hj, Bool.or_assoc, hq i (by omega) (by omega), fndF_s]
    cases q i <;> simp
section DX
variable {μ : Mm} {b : Nat} {β : Nat → Nat} {F : Nat}
theorem xW_at {p : Nat} (hp : p ≤ 4) : ∃ v, rdX xW 5 (nI p) = some (nI v) ∧ v ≤ 4 ∧ (1 ≤ p → ∀ k, wayF β k v = bes β k p) := by
  have h5 : p = 0 ∨ p = 1 ∨ p = 2 ∨ p = 3 ∨ p = 4 := by omega
  rcases h5 with e | e | e | e | e <;> subst e
  · exact ⟨4, rfl, by omega, fun h => by omega⟩
  · exact ⟨2, rfl, by omega, fun _ k => rfl⟩
  · exact ⟨3, rfl, by omega, fun _ k => rfl⟩
  · exact ⟨0, rfl, by omega, fun _ k => rfl⟩
  · exact ⟨1, rfl, by omega, fun _ k => rfl⟩
theorem X_bearing (h : BX μ b β) (w : WF β) (hF : 2000000 ≤ F) {r : Nat} {d : Nat → Nat} (hr : Row μ r (cl β) d) (hd : ∀ k, k < cl β → d k ≤ 9) {k : Nat} (hk : k < cl β) : f_X0_bearing F b r (nI k) μ = some (oI (lawOf β d k)) := by
  have hc := w.cl_le
  have hw := w.1.2.2.2.1
  unfold f_X0_bearing lawOf
  have key := seek1 (L := L_X0_bearing_2 F b r (nI k) (some (-1)) μ) (K := some (-1)) (G := fun l => some (nI l)) (F := F) (N := β 1) (fun l => brs β d l k) 0 (by omega) (fun i hi n => ?_) (fun n => ?_)
  · rw [nI_0] at key
    rw [key]
    cases fndF (fun l => brs β d l k) 0 (β 1) <;> rfl
  · obtain ⟨l1, l2, l3, l4⟩ := w.2.2.2 i (by omega)
    have hdk := hd k hk
    obtain ⟨v, e1, e2, e3⟩ := xW_at (β := β) l3
    rw [L_X0_bearing_2_s, h.laws]
    simp only [Nat.zero_add]
    simp (disch := omega) only [Option.bind_some, bd_some, eqL, leL, ltL, Lle, Llt, addL, Ladd, Lmul, mulL, nIle, nIlt, nIeq, nI_add, pk_mul, h.rF w, h.rP w, h.rB w, hr.rd hc, e1, X_gone h w hk]
    rw [if_neg (by omega)]
    unfold brs
    by_cases q : β (88 + i) = d k
    · rw [if_pos q, decide_eq_true q, Bool.true_and]
      by_cases z : β (108 + i) = 0
      · rw [if_pos z, decide_eq_true z, Bool.true_or, if_pos rfl]
      · rw [if_neg z, decide_eq_false z, Bool.false_or, e3 (by omega)]
        cases hb : bes β k (β (108 + i)) with
        | none => rw [if_pos oI_none]; rfl
        | some j =>
          have hj := bes_lt w hk hb
          have hdj := hd j hj
          rw [oI_some, if_neg (by rw [neg_ne (by omega)]; exact id)]
          simp (disch := omega) only [Option.bind_some, bd_some, eqL, leL, ltL, Lle, Llt, addL, Ladd, Lmul, mulL, nIle, nIlt, nIeq, nI_add, pk_mul, hr.rd hc]
          simp only [decide_eq_true_eq]
    · rw [if_neg q, decide_eq_false q, Bool.false_and, if_neg (by decide)]
  · rw [L_X0_bearing_2_s, h.laws, Nat.zero_add, if_pos ((nIle (by omega) (by omega)).mpr (by omega))]
theorem X_drifted (h : BX μ b β) (w : WF β) (hF : 2000000 ≤ F) {r : Nat} {d : Nat → Nat} (hr : Row μ r (cl β) d) (hd : ∀ k, k < cl β → d k ≤ 9) {k : Nat} (hk : k < cl β) : f_X0_drifted F b r (nI k) μ = some (nI (becomes β d k)) := by
  have hc := w.cl_le
  have hw := w.1.2.2.2.1
  unfold f_X0_drifted becomes
  rw [X_bearing h w hF hr hd hk, Option.bind_some]
  cases hl : lawOf β d k with
  | none => rw [if_pos oI_none]; simp (disch := omega) only [Option.bind_some, bd_some, eqL, leL, ltL, Lle, Llt, addL, Ladd, Lmul, mulL, nIle, nIlt, nIeq, nI_add, pk_mul, hr.rd hc]
  | some l =>
    have := lawOf_lt hl
    rw [oI_some, if_neg (by rw [neg_ne (by omega)]; exact id)]
    simp (disch := omega) only [Option.bind_some, bd_some, eqL, leL, ltL, Lle, Llt, addL, Ladd, Lmul, mulL, nIle, nIlt, nIeq, nI_add, pk_mul, h.rS w]
def tchd (β : Nat → Nat) : Int32 := foldF (fun k x => x ||| ((1 : Int32) <<< (nI (β (88 + k)) &&& 31))) 0 (β 1) 0
theorem X_touched (h : BX μ b β) (w : WF β) (hF : 2000000 ≤ F) : f_X3_touched F (b + 1) μ = some (tchd β) := by
  have hw := w.1.2.2.2.1
  unfold f_X3_touched
  refine iter2 (L := L_X3_touched_4 F (b + 1) _ μ) (fun i => foldF (fun k x => x ||| ((1 : Int32) <<< (nI (β (88 + k)) &&& 31))) 0 i 0) (fun i => nI i) (N := β 1) (by omega) (fun i hi n => ?_) (fun n => ?_)
  · obtain ⟨l1, l2, l3, l4⟩ := w.2.2.2 i (by omega)
    rw [L_X3_touched_4_s, h.laws]
    simp (disch := omega) only [Option.bind_some, bd_some, eqL, leL, ltL, Lle, Llt, addL, Ladd, Lmul, mulL, nIle, nIlt, nIeq, nI_add, pk_mul, h.rF w]
    rw [if_neg (by omega), foldF_n, Nat.zero_add]
  · rw [L_X3_touched_4_s, h.laws]
    simp (disch := omega) only [Option.bind_some, bd_some, eqL, leL, ltL, Lle, Llt, addL, Ladd, Lmul, mulL, nIle, nIlt, nIeq, nI_add, pk_mul]
    rw [if_pos (by omega)]
    rfl
theorem tchd_no (w : WF β) {d : Nat → Nat} {k : Nat} (hd : d k ≤ 9) (h : bit (tchd β) (d k) = false) : lawOf β d k = none := by
  have hw := w.1.2.2.2.1
  unfold tchd at h
  rw [bit_fold (q := fun l => decide (d k = β (88 + l))) (by omega) (fun l h1 h2 => bit_sh (by have := (w.2.2.2 l (by omega)).1; omega) (by omega)), bit_z (by omega), Bool.false_or] at h
  unfold lawOf
  cases hl : fndF (fun l => brs β d l k) 0 (β 1) with
  | none => rfl
  | some l =>
    obtain ⟨q1, q2, q3⟩ := fndF_some hl
    exfalso
    cases hf : fndF (fun l => decide (d k = β (88 + l))) 0 (β 1) with
    | some j => rw [hf] at h; cases h
    | none =>
      have := fndF_none hf l q1 q2
      have q4 := of_decide_eq_false this
      unfold brs at q3
      rw [Bool.and_eq_true] at q3
      exact q4 (of_decide_eq_true q3.1).symm
/-- where a row goes, held being the taps -/
def drfR (β d t : Nat → Nat) (k : Nat) : Nat := if t k = 0 then becomes β d k else d k
theorem X_drift (h : BX μ b β) (w : WF β) (hF : 2000000 ≤ F) {r s o : Nat} {d t : Nat → Nat} (hr : Row μ r (cl β) d) (hd : ∀ k, k < cl β → d k ≤ 9) (hs : Row μ s (cl β) t) (ht : ∀ k, k < cl β → t k ≤ 9) (ho1 : o ≠ r) (ho2 : o ≠ s) (hob : ∀ i, i ≤ 10 → o ≠ b + i) : f_X0_drift F b r s o μ = some (foldF (fun k x => x || decide (drfR β d t k ≠ d k)) 0 (cl β) false, putA μ o (fun k => nI (drfR β d t k)) 0 (cl β)) := by
  have hc := w.cl_le
  have hw := w.1.2.2.2.1
  unfold f_X0_drift
  rw [X_touched h w hF, Option.bind_some]
  refine iter3 (L := L_X0_drift_15 F b r s o (tchd β) _) (fun i => bI (foldF (fun k x => x || decide (drfR β d t k ≠ d k)) 0 i false)) (fun i => nI i) (fun i => putA μ o (fun k => nI (drfR β d t k)) 0 i) (N := cl β) (by omega) (fun i hi n => ?_) (fun n => ?_)
  · have hA : Ag (fun a _ => a = o) μ (putA μ o (fun k => nI (drfR β d t k)) 0 i) := putA_ag (P := fun a _ => a = o) (fun _ _ _ => rfl)
    have h' : BX (putA μ o (fun k => nI (drfR β d t k)) 0 i) b β := h.ag hA (fun j hj _ e => hob j hj e.symm)
    have hr' : Row (putA μ o (fun k => nI (drfR β d t k)) 0 i) r (cl β) d := fun k hk => by rw [hA.A (fun _ => Ne.symm ho1)]; exact hr k hk
    have hs' : Row (putA μ o (fun k => nI (drfR β d t k)) 0 i) s (cl β) t := fun k hk => by rw [hA.A (fun _ => Ne.symm ho2)]; exact hs k hk
    have hdi := hd i hi
    have hti := ht i hi
    have hbd : drfR β d t i ≤ 9 := by
      unfold drfR
      split
      · exact becomes_le w hdi
      · exact hdi
    rw [putA_n, foldF_n, Nat.zero_add]
    generalize putA μ o (fun k => nI (drfR β d t k)) 0 i = ξ at *
    generalize foldF (fun k x => x || decide (drfR β d t k ≠ d k)) 0 i false = v
    have hrd : rdA (sA ξ o i (nI (drfR β d t i))) o 25 (nI i) = some (nI (drfR β d t i)) := by rw [rdA_n (by omega) (by omega), mA_sA, if_pos rfl, if_pos rfl]
    have hrr : rdA (sA ξ o i (nI (drfR β d t i))) r 25 (nI i) = some (nI (d i)) := by rw [rdA_n (by omega) (by omega), mA_ne (Ne.symm ho1), hr' i hi]
    have fin : ∀ n, ((wrA ξ o 25 (nI i) (nI (drfR β d t i))).bind fun μ13 => (if bI v = 0 then (rdA μ13 o 25 (nI i)).bind fun x15 => (rdA μ13 r 25 (nI i)).bind fun x16 => L_X0_drift_15 F b r s o (tchd β) (fun u27 μ28 => (if u27 = 0 then some (false, μ28) else if u27 = 1 then some (true, μ28) else none)) n (if x15 = x16 then (0 : Int32) else 1) (nI i + 1) μ13 else L_X0_drift_15 F b r s o (tchd β) (fun u27 μ28 => (if u27 = 0 then some (false, μ28) else if u27 = 1 then some (true, μ28) else none)) n 1 (nI i + 1) μ13)) = L_X0_drift_15 F b r s o (tchd β) (fun u27 μ28 => (if u27 = 0 then some (false, μ28) else if u27 = 1 then some (true, μ28) else none)) n (bI (v || decide (drfR β d t i ≠ d i))) (nI (i + 1)) (sA ξ o i (nI (drfR β d t i))) := by
      intro n
      rw [wrA_n (by omega) (by omega), Option.bind_some, hrd, hrr]
      simp (disch := omega) only [Option.bind_some, bd_some, eqL, leL, ltL, Lle, Llt, addL, Ladd, Lmul, mulL, nIle, nIlt, nIeq, nI_add, pk_mul]
      cases v with
      | true => rw [if_neg (by decide)]; rfl
      | false =>
        rw [if_pos (by decide)]
        by_cases e : drfR β d t i = d i
        · rw [if_pos e]; simp [e, bI]
        · rw [if_neg e]; simp [e, bI]
    rw [L_X0_drift_15_s]
    unfold jn
    rw [X_cells h', Option.bind_some, if_neg (fun q => by have := (nIle (by omega) (by omega)).mp q; omega), hs'.rd hc hi, Option.bind_some, X_bearing h' w hF hr' hd hi, hr'.rd hc hi]
    simp only [Option.bind_some]
    by_cases e : t i = 0
    · have ef : drfR β d t i = becomes β d i := by unfold drfR; rw [if_pos e]
      rw [if_neg (by rw [e]; decide)]
      by_cases eb : bit (tchd β) (d i) = true
      · rw [if_neg (fun q => by rw [(bit_n0 _ _).mp q] at eb; cases eb), if_pos trivial]
        cases hl : lawOf β d i with
        | none =>
          rw [if_pos oI_none]
          have : drfR β d t i = d i := by rw [ef]; unfold becomes; rw [hl]
          rw [← fin n, this]
        | some l =>
          have hll := lawOf_lt hl
          rw [oI_some, if_neg (by rw [neg_ne (by omega)]; exact id), h'.rS w hll, Option.bind_some]
          have : drfR β d t i = β (98 + l) := by rw [ef]; unfold becomes; rw [hl]
          rw [← fin n, this]
      · have eb2 : bit (tchd β) (d i) = false := by cases hh : bit (tchd β) (d i); rfl; exact absurd hh eb
        rw [if_pos ((bit_n0 _ _).mpr eb2), if_neg (by decide), if_pos trivial]
        have : drfR β d t i = d i := by rw [ef]; unfold becomes; rw [tchd_no w hdi eb2]
        rw [← fin n, this]
    · have ef : drfR β d t i = d i := by unfold drfR; rw [if_neg e]
      rw [if_pos ((Llt (n := 0) (by omega) (by decide)).mpr (Nat.pos_of_ne_zero e)), if_neg (by decide), if_pos trivial, ← fin n, ef]
  · have hA : Ag (fun a _ => a = o) μ (putA μ o (fun k => nI (drfR β d t k)) 0 (cl β)) := putA_ag (P := fun a _ => a = o) (fun _ _ _ => rfl)
    have h' : BX (putA μ o (fun k => nI (drfR β d t k)) 0 (cl β)) b β := h.ag hA (fun j hj _ e => hob j hj e.symm)
    rw [L_X0_drift_15_s, X_cells h', Option.bind_some, if_pos ((nIle (by omega) (by omega)).mpr (by omega))]
    exact bI_ret _ _
end DX
