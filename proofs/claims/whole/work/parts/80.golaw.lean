/-! ===== the law's own loop: the fixed world, and the script beside it ===== -/
def XS (sb sL : Nat) (sx : Nat → Int32) (g : GG) (s : State) : Prop := va_X sb sL sx s s.heap ∧ sb < gb g
def GoL {ρ : Type} (sb sL : Nat) (sx : Nat → Int32) (g : GG) (own : String) (cc : ByteArray) (n : Nat) (rk : Instr) (d : Nat) (cv : ρ → Option Value × Mm) (pc : Nat) (lv : List (Nat × Value)) (st : List Value) (μ : Mm) (o : Option ρ) : Prop :=
  ∀ r, o = some r → ∀ (p : Program) (e : Env) (s : State) (m : MethodId) (args : Array Value) (below : List Frame) (meth : Method) (c : Code) (H : Heap) (locs : List Loc) (ls : Array Slot) (R : Room) (cells slots : Nat) (Q : State → Prop), Cx g own cc n p s m args c → XS sb sL sx g s → Rm d R cells slots → HP g μ H → va_S (gA g) s.heap H locs → lv_has ls n lv →
    (∀ (H' : Heap) (locs' : List Loc) (pc' : Nat) (ls' : Array Slot), HP g (cv r).2 H' → va_S (gA g) s.heap H' locs' → decode cc pc' = .ok (rk, 1) → W p g.1 e R s m args below meth c H' locs' cells slots Q (F0 m pc' ls' (cv r).1.toList)) →
    W p g.1 e R s m args below meth c H locs cells slots Q (F0 m pc ls st)
section GL
variable {sb sL : Nat} {sx : Nat → Int32} {ρ : Type} {g : GG} {own : String} {cc : ByteArray} {n : Nat} {rk : Instr} {d : Nat} {cv : ρ → Option Value × Mm} {pc : Nat} {lv lv' : List (Nat × Value)} {st : List Value} {μ μ' : Mm} {o o1 o2 : Option ρ}
theorem k_iconst {z : Int} {v : Int32} (hd : decode cc pc = .ok (.iconst z, 1)) (hv : Int32.ofInt z = v) (k : GoL sb sL sx g own cc n rk d cv (pc + 1) lv (.int v :: st) μ o) : GoL sb sL sx g own cc n rk d cv pc lv st μ o := by
  intro r hr p e s m args below meth c H locs ls R cells slots Q X hXS hR hP hS hl hq
  exact lv_iconst X.1 X.2.1 hd hv (k r hr p e s m args below meth c H locs ls R cells slots Q X hXS hR hP hS hl hq)
theorem k_bipush {z : Int} {v : Int32} (hd : decode cc pc = .ok (.bipush z, 2)) (hv : (Int8.ofInt z).toInt32 = v) (k : GoL sb sL sx g own cc n rk d cv (pc + 2) lv (.int v :: st) μ o) : GoL sb sL sx g own cc n rk d cv pc lv st μ o := by
  intro r hr p e s m args below meth c H locs ls R cells slots Q X hXS hR hP hS hl hq
  exact lv_bipush X.1 X.2.1 hd hv (k r hr p e s m args below meth c H locs ls R cells slots Q X hXS hR hP hS hl hq)
theorem k_iload_n {k0 : Fin 4} {x : Int32} (hd : decode cc pc = .ok (.iload_n k0, 1)) (q : Nat) (hk : lv[q]? = some ((k0 : Nat), .int x)) (k : GoL sb sL sx g own cc n rk d cv (pc + 1) lv (.int x :: st) μ o) : GoL sb sL sx g own cc n rk d cv pc lv st μ o := by
  intro r hr p e s m args below meth c H locs ls R cells slots Q X hXS hR hP hS hl hq
  exact lv_iload_n X.1 X.2.1 hd rfl (lv_at hl q hk) (k r hr p e s m args below meth c H locs ls R cells slots Q X hXS hR hP hS hl hq)
theorem k_aload_n {k0 : Fin 4} {x : Nat} (hd : decode cc pc = .ok (.aload_n k0, 1)) (q : Nat) (hk : lv[q]? = some ((k0 : Nat), .ref x)) (k : GoL sb sL sx g own cc n rk d cv (pc + 1) lv (.ref x :: st) μ o) : GoL sb sL sx g own cc n rk d cv pc lv st μ o := by
  intro r hr p e s m args below meth c H locs ls R cells slots Q X hXS hR hP hS hl hq
  exact lv_aload_n X.1 X.2.1 hd rfl (lv_at hl q hk) (k r hr p e s m args below meth c H locs ls R cells slots Q X hXS hR hP hS hl hq)
theorem k_iinc {i : Nat} {z : Int} {x v : Int32} (hd : decode cc pc = .ok (.iinc i z, 3)) (q : Nat) (hk : lv[q]? = some (i, .int x)) (he : x + Int32.ofInt z = v) (hn : i < n) (hv : (i, Value.int v) :: lv.filter (fun q => !(q.1 == i) && !(q.1 + 1 == i && q.2.category == 2)) = lv') (k : GoL sb sL sx g own cc n rk d cv (pc + 3) lv' st μ o) : GoL sb sL sx g own cc n rk d cv pc lv st μ o := by
  intro r hr p e s m args below meth c H locs ls R cells slots Q X hXS hR hP hS hl hq
  exact lv_iinc X.1 X.2.1 hd hl hk he hn hv (fun ls hl => k r hr p e s m args below meth c H locs ls R cells slots Q X hXS hR hP hS hl hq)
theorem k_iadd {x y : Int32} (hd : decode cc pc = .ok (.iadd, 1))  (k : GoL sb sL sx g own cc n rk d cv (pc + 1) lv (.int (x + y) :: st) μ o) : GoL sb sL sx g own cc n rk d cv pc lv (.int y :: .int x :: st) μ o := by
  intro r hr p e s m args below meth c H locs ls R cells slots Q X hXS hR hP hS hl hq
  exact lv_iadd X.1 X.2.1 hd  (k r hr p e s m args below meth c H locs ls R cells slots Q X hXS hR hP hS hl hq)
theorem k_isub {x y : Int32} (hd : decode cc pc = .ok (.isub, 1))  (k : GoL sb sL sx g own cc n rk d cv (pc + 1) lv (.int (x - y) :: st) μ o) : GoL sb sL sx g own cc n rk d cv pc lv (.int y :: .int x :: st) μ o := by
  intro r hr p e s m args below meth c H locs ls R cells slots Q X hXS hR hP hS hl hq
  exact lv_isub X.1 X.2.1 hd  (k r hr p e s m args below meth c H locs ls R cells slots Q X hXS hR hP hS hl hq)
theorem k_iand {x y : Int32} (hd : decode cc pc = .ok (.iand, 1))  (k : GoL sb sL sx g own cc n rk d cv (pc + 1) lv (.int (x &&& y) :: st) μ o) : GoL sb sL sx g own cc n rk d cv pc lv (.int y :: .int x :: st) μ o := by
  intro r hr p e s m args below meth c H locs ls R cells slots Q X hXS hR hP hS hl hq
  exact lv_iand X.1 X.2.1 hd  (k r hr p e s m args below meth c H locs ls R cells slots Q X hXS hR hP hS hl hq)
theorem k_land {x y : Int64} (hd : decode cc pc = .ok (.land, 1))  (k : GoL sb sL sx g own cc n rk d cv (pc + 1) lv (.long (x &&& y) :: st) μ o) : GoL sb sL sx g own cc n rk d cv pc lv (.long y :: .long x :: st) μ o := by
  intro r hr p e s m args below meth c H locs ls R cells slots Q X hXS hR hP hS hl hq
  exact lv_land X.1 X.2.1 hd  (k r hr p e s m args below meth c H locs ls R cells slots Q X hXS hR hP hS hl hq)
theorem k_lor {x y : Int64} (hd : decode cc pc = .ok (.lor, 1))  (k : GoL sb sL sx g own cc n rk d cv (pc + 1) lv (.long (x ||| y) :: st) μ o) : GoL sb sL sx g own cc n rk d cv pc lv (.long y :: .long x :: st) μ o := by
  intro r hr p e s m args below meth c H locs ls R cells slots Q X hXS hR hP hS hl hq
  exact lv_lor X.1 X.2.1 hd  (k r hr p e s m args below meth c H locs ls R cells slots Q X hXS hR hP hS hl hq)
theorem k_lshl {x : Int64} {y : Int32} (hd : decode cc pc = .ok (.lshl, 1))  (k : GoL sb sL sx g own cc n rk d cv (pc + 1) lv (.long (x <<< (y.toInt64 &&& 63)) :: st) μ o) : GoL sb sL sx g own cc n rk d cv pc lv (.int y :: .long x :: st) μ o := by
  intro r hr p e s m args below meth c H locs ls R cells slots Q X hXS hR hP hS hl hq
  exact lv_lshl X.1 X.2.1 hd rfl (k r hr p e s m args below meth c H locs ls R cells slots Q X hXS hR hP hS hl hq)
theorem k_i2l {x : Int32} (hd : decode cc pc = .ok (.i2l, 1))  (k : GoL sb sL sx g own cc n rk d cv (pc + 1) lv (.long x.toInt64 :: st) μ o) : GoL sb sL sx g own cc n rk d cv pc lv (.int x :: st) μ o := by
  intro r hr p e s m args below meth c H locs ls R cells slots Q X hXS hR hP hS hl hq
  exact lv_i2l X.1 X.2.1 hd rfl (k r hr p e s m args below meth c H locs ls R cells slots Q X hXS hR hP hS hl hq)
theorem k_lcmp {x y : Int64} (hd : decode cc pc = .ok (.lcmp, 1))  (k : GoL sb sL sx g own cc n rk d cv (pc + 1) lv (.int (lg_cmp x y) :: st) μ o) : GoL sb sL sx g own cc n rk d cv pc lv (.long y :: .long x :: st) μ o := by
  intro r hr p e s m args below meth c H locs ls R cells slots Q X hXS hR hP hS hl hq
  exact W.lcmp X.1 X.2.1 hd  (k r hr p e s m args below meth c H locs ls R cells slots Q X hXS hR hP hS hl hq)
theorem k_if_eq {x : Int32} {off : Int} {tgt : Nat} (hd : decode cc pc = .ok (.ifCond .eq off, 3)) (ht : (pc : Int) + off = (tgt : Int)) (kt : x = 0 → GoL sb sL sx g own cc n rk d cv tgt lv st μ o1) (kf : ¬ x = 0 → GoL sb sL sx g own cc n rk d cv (pc + 3) lv st μ o2) : GoL sb sL sx g own cc n rk d cv pc lv (.int x :: st) μ (if x = 0 then o1 else o2) := by
  intro r hr p e s m args below meth c H locs ls R cells slots Q X hXS hR hP hS hl hq
  by_cases h : x = 0
  · rw [if_pos h] at hr
    exact lv_if_eq X.1 X.2.1 hd ht (fun _ => kt h r hr p e s m args below meth c H locs ls R cells slots Q X hXS hR hP hS hl hq) (fun h2 => absurd h h2)
  · rw [if_neg h] at hr
    exact lv_if_eq X.1 X.2.1 hd ht (fun h2 => absurd h2 h) (fun _ => kf h r hr p e s m args below meth c H locs ls R cells slots Q X hXS hR hP hS hl hq)
theorem k_icmp_gt {x y : Int32} {off : Int} {tgt : Nat} (hd : decode cc pc = .ok (.if_icmp .gt off, 3)) (ht : (pc : Int) + off = (tgt : Int)) (kt : y < x → GoL sb sL sx g own cc n rk d cv tgt lv st μ o1) (kf : ¬ y < x → GoL sb sL sx g own cc n rk d cv (pc + 3) lv st μ o2) : GoL sb sL sx g own cc n rk d cv pc lv (.int y :: .int x :: st) μ (if y < x then o1 else o2) := by
  intro r hr p e s m args below meth c H locs ls R cells slots Q X hXS hR hP hS hl hq
  by_cases h : y < x
  · rw [if_pos h] at hr
    exact lv_icmp_gt X.1 X.2.1 hd ht (fun _ => kt h r hr p e s m args below meth c H locs ls R cells slots Q X hXS hR hP hS hl hq) (fun h2 => absurd h h2)
  · rw [if_neg h] at hr
    exact lv_icmp_gt X.1 X.2.1 hd ht (fun h2 => absurd h2 h) (fun _ => kf h r hr p e s m args below meth c H locs ls R cells slots Q X hXS hR hP hS hl hq)
theorem k_icmp_eq {x y : Int32} {off : Int} {tgt : Nat} (hd : decode cc pc = .ok (.if_icmp .eq off, 3)) (ht : (pc : Int) + off = (tgt : Int)) (kt : x = y → GoL sb sL sx g own cc n rk d cv tgt lv st μ o1) (kf : ¬ x = y → GoL sb sL sx g own cc n rk d cv (pc + 3) lv st μ o2) : GoL sb sL sx g own cc n rk d cv pc lv (.int y :: .int x :: st) μ (if x = y then o1 else o2) := by
  intro r hr p e s m args below meth c H locs ls R cells slots Q X hXS hR hP hS hl hq
  by_cases h : x = y
  · rw [if_pos h] at hr
    exact lv_icmp_eq X.1 X.2.1 hd ht (fun _ => kt h r hr p e s m args below meth c H locs ls R cells slots Q X hXS hR hP hS hl hq) (fun h2 => absurd h h2)
  · rw [if_neg h] at hr
    exact lv_icmp_eq X.1 X.2.1 hd ht (fun h2 => absurd h2 h) (fun _ => kf h r hr p e s m args below meth c H locs ls R cells slots Q X hXS hR hP hS hl hq)
theorem k_goto {off : Int} {tgt : Nat} (hd : decode cc pc = .ok (.goto off, 3)) (ht : (pc : Int) + off = (tgt : Int)) (k : GoL sb sL sx g own cc n rk d cv tgt lv st μ o) : GoL sb sL sx g own cc n rk d cv pc lv st μ o := by
  intro r hr p e s m args below meth c H locs ls R cells slots Q X hXS hR hP hS hl hq
  exact lv_goto X.1 X.2.1 hd ht (k r hr p e s m args below meth c H locs ls R cells slots Q X hXS hR hP hS hl hq)
theorem k_tswIn {x : Int32} (v : Int32) {dflt lo hi off : Int} {offs : Array Int} {len tgt : Nat} (hd : decode cc pc = .ok (.tableswitch dflt lo hi offs, len)) (hx : x = v) (h1 : ¬ v.toInt < lo) (h2 : ¬ hi < v.toInt) (ho : offs[(v.toInt - lo).toNat]? = some off) (ht : (pc : Int) + off = (tgt : Int)) (k : GoL sb sL sx g own cc n rk d cv tgt lv st μ o) : GoL sb sL sx g own cc n rk d cv pc lv (.int x :: st) μ o := by
  intro r hr p e s m args below meth c H locs ls R cells slots Q X hXS hR hP hS hl hq
  subst hx
  exact lv_tableIn X.1 X.2.1 hd h1 h2 ho ht (k r hr p e s m args below meth c H locs ls R cells slots Q X hXS hR hP hS hl hq)
theorem k_tswOut {x : Int32} {dflt lo hi : Int} {offs : Array Int} {len tgt : Nat} (hd : decode cc pc = .ok (.tableswitch dflt lo hi offs, len)) (h : x.toInt < lo ∨ hi < x.toInt) (ht : (pc : Int) + dflt = (tgt : Int)) (k : GoL sb sL sx g own cc n rk d cv tgt lv st μ o) : GoL sb sL sx g own cc n rk d cv pc lv (.int x :: st) μ o := by
  intro r hr p e s m args below meth c H locs ls R cells slots Q X hXS hR hP hS hl hq
  exact lv_tableOut X.1 X.2.1 hd h ht (k r hr p e s m args below meth c H locs ls R cells slots Q X hXS hR hP hS hl hq)
theorem k_ldc2 {i : Nat} {v : Int64} (hw : Cond.constantLong own i v ∈ lw_good) (hd : decode cc pc = .ok (.ldc2_w i, 3)) (k : GoL sb sL sx g own cc n rk d cv (pc + 3) lv (.long v :: st) μ o) : GoL sb sL sx g own cc n rk d cv pc lv st μ o := by
  intro r hr p e s m args below meth c H locs ls R cells slots Q X hXS hR hP hS hl hq
  exact lv_ldc2 X.1 X.2.1 X.2.2.2.1 (X.2.2.2.2.1 _ hw) hd (k r hr p e s m args below meth c H locs ls R cells slots Q X hXS hR hP hS hl hq)
theorem k_lv (ks : List Nat) (h : lv_pick lv ks = lv') (k : GoL sb sL sx g own cc n rk d cv pc lv' st μ o) : GoL sb sL sx g own cc n rk d cv pc lv st μ o := by
  intro r hr p e s m args below meth c H locs ls R cells slots Q X hXS hR hP hS hl hq
  exact k r hr p e s m args below meth c H locs ls R cells slots Q X hXS hR hP hS (lv_sub hl ks h) hq
theorem k_ret {r0 : ρ} (hd : decode cc pc = .ok (rk, 1)) (hst : st = (cv r0).1.toList) (hm : (cv r0).2 = μ) : GoL sb sL sx g own cc n rk d cv pc lv st μ (some r0) := by
  intro r hr p e s m args below meth c H locs ls R cells slots Q X hXS hR hP hS hl hq
  cases hr
  rw [hst]
  exact hq H locs pc ls (by rw [hm]; exact hP) hS hd
theorem k_sld {i : Nat} (h31 : sL < 2147483648) (hi : i < sL) (hd : decode cc pc = .ok (.iaload, 1)) (kk : GoL sb sL sx g own cc n rk d cv (pc + 1) lv (.int (sx i) :: st) μ o) : GoL sb sL sx g own cc n rk d cv pc lv (.int (nI i) :: .ref sb :: st) μ o := by
  intro r hr p e s m args below meth c H locs ls R cells slots Q X hXS hR hP hS hl hq
  obtain ⟨-, -, ⟨b1, b2, b3⟩, -⟩ := X.2.2.2.2.2.2
  refine va_sld (A := gA g) X.1 X.2.1 hXS.1 (Nat.lt_of_lt_of_le hXS.2 b3) (fun q => Nat.lt_irrefl _ (Nat.lt_of_lt_of_le hXS.2 q)) hS (nI_in hi (by omega)) hd ?_
  rw [nIcl (by omega)]
  exact kk r hr p e s m args below meth c H locs ls R cells slots Q X hXS hR hP hS hl hq
theorem k_slen (hd : decode cc pc = .ok (.arraylength, 1)) (kk : GoL sb sL sx g own cc n rk d cv (pc + 1) lv (.int (Int32.ofNat sL) :: st) μ o) : GoL sb sL sx g own cc n rk d cv pc lv (.ref sb :: st) μ o := by
  intro r hr p e s m args below meth c H locs ls R cells slots Q X hXS hR hP hS hl hq
  obtain ⟨-, -, ⟨b1, b2, b3⟩, -⟩ := X.2.2.2.2.2.2
  exact va_slen (A := gA g) X.1 X.2.1 hXS.1 (Nat.lt_of_lt_of_le hXS.2 b3) (fun q => Nat.lt_irrefl _ (Nat.lt_of_lt_of_le hXS.2 q)) hS hd (kk r hr p e s m args below meth c H locs ls R cells slots Q X hXS hR hP hS hl hq)
theorem k_callV {σ : Type} {cv2 : σ → Option Value × Mm} {r2 : σ} {y : MethodName} {c2 : ByteArray} {n2 np d2 idx b ci w : Nat} {ret : Option FieldType} {st0 : List Value} (As rest : List Value) (M : MwV own idx ci y c2 n2 ret np) (hC : Ct g y c2 n2 ret d2 cv2 (.ref (gb g + b) :: As) μ (some r2)) (hdd : d2 + 1 ≤ d) (hs : shp b = (10 + ci, w)) (hw : 10 + ci ≠ 99) (hn : As.length = np) (hst : st0 = As.reverse ++ .ref (gb g + b) :: rest) (hrm : (rest.map fun v => v.category).sum ≤ 8) (hd : decode cc pc = .ok (.invokevirtual idx, 3))
    (kk : GoL sb sL sx g own cc n rk d cv (pc + 3) lv ((cv2 r2).1.toList ++ rest) (cv2 r2).2 o) : GoL sb sL sx g own cc n rk d cv pc lv st0 μ o := by
  intro r hr p e s m args below meth c H locs ls R cells slots Q X hXS hR hP hS hl hq
  have hM := hC r2 rfl
  obtain ⟨w1, w2, w3, w4, w5, w6, w7, q, w8, w9⟩ := M
  have ht := X.2.2.2.2.1
  have hcw : CallW R s args own y.cls idx y c2 n2 ret (Cond.code y c2 n2 ret :: lw_good) (rmv d2) 0 0 np := ⟨callB_of np ht (good_self w5) rfl rfl rfl (ht _ w4) (ht _ w1) w6 (rm_call hdd w7 hR), ht _ w2, ht _ w3⟩
  have hrun := va_runV (g := F0 m pc ls st0) (e := e) (below := below) (meth := meth) (locs := locs) (cells := cells) (slots := slots) (rest := rest) (As := As) ⟨X.1, X.2.1, X.2.2.1, X.2.2.2.1, ht⟩ hM hcw ⟨pk_blind g _ μ, by have h9 := va_recv X.2.2.2.2.2.1 hP w8 (WL_atE g μ (shp_lt hs hw) (cell_ob hs)); rw [w9] at h9; exact h9, fun U hU hW => ⟨rfl, va_K.moved hW.alike X.2.2.2.2.2.1, by rw [hU]; exact ZK.go X.2.2.2.2.2.2 hS hW, by rw [hU]; exact hP⟩⟩ rfl hn hl.1 hst (lv_room hrm) hd ⟨hR.2.2.1, hR.2.2.2⟩
  exact g_of_run hrun hS (fun H1 locs1 hP1 hS1 => kk r hr p e s m args below meth c H1 locs1 ls R cells slots Q X hXS hR hP1 hS1 hl hq)
end GL
