/-! ===== contracts and calls over the growing world ===== -/
def rmN (d mc ms : Nat) : Room := { frames := d, cells := mc, slots := ms, locals := 64 * d }
def PKn (g : GG) (zs : Nat × Nat) (ib : Nat) (cs : List va_E) (U : State) : Prop := va_K (gD g) vwCl (gty g) U ∧ ZK g U U.heap ∧ SK g zs U U.heap ∧ GP g ib cs U.heap
def Cn (g : GG) (zs : Nat × Nat) (y : MethodName) (cc : ByteArray) (n : Nat) (ret : Option FieldType) (d ib mc ms : Nat) (as : List Value) (cs res : List va_E) (rv : Option Value) : Prop :=
  Met g.1 y (Cond.code y cc n ret :: lw_good) (rmN d mc ms) (va_Pc as (PKn g zs ib cs)) (fun _ st oc t => oc = .returned rv ∧ GP g ib res t.heap ∧ va_F (gI g ib) st t) mc ms (gI g ib)
theorem pkn_blind (g : GG) (zs : Nat × Nat) (ib : Nat) (as : List Value) (cs : List va_E) : FrameBlind (va_Pc as (PKn g zs ib cs)) := fun a U f mk q => ⟨q.1, va_K.moved (u := U) (U := U.calling f mk a) (Vm.Alike.refl U.vm) q.2.1, ZK.go (U := U.calling f mk a) (H := U.heap) q.2.2.1 va_S.rf (State.WarmedH.refl U), SK.go (U := U.calling f mk a) (H := U.heap) q.2.2.2.1 va_S.rf (State.WarmedH.refl U), q.2.2.2.2⟩
section CNR
variable {g : GG} {zs : Nat × Nat} {y : MethodName} {cc : ByteArray} {n d ib mc ms pcF : Nat} {as : List Value} {lvF : List (Nat × Value)} {cs res : List va_E}
theorem cn_go {rv : Option Value} {ret : Option FieldType} (hpl : plainName y.cls = true) (hlen : (lg_sl as).length ≤ n) (h : Gn g zs y.cls y.name cc n d ib mc ms 0 (lv_args 0 as) [] cs (pcF, lvF, rv.toList, res))
    (hret : ∀ (p : Program) (e : Env) (s : State) (m : MethodId) (args : Array Value) (below : List Frame) (meth : Method) (c : Code) (H : Heap) (locs : List Loc) (ls : Array Slot), p.tables.exec = Jvm.exec → c.code = cc → meth.sig.returnType = ret → meth.locks = false → va_S (gI g ib) s.heap H locs → GP g ib res H → W p g.1 e (rmN d mc ms) s m args below meth c H locs mc ms (MQ below (fun _ st oc t => oc = .returned rv ∧ GP g ib res t.heap ∧ va_F (gI g ib) st t) args s mc ms (gI g ib)) (F0 m pcF ls rv.toList)) : Cn g zs y cc n ret d ib mc ms as cs res rv := by
  refine Met.ofW (cc := cc) (maxL := n) (ret := ret) hpl rfl ?_
  intro p e s m args below meth c s₁ B hml hv
  obtain ⟨rfl, hK, hZ, hSk, hP⟩ := hv
  have hts := atoms_spec (ws := Cond.code y cc n ret :: lw_good) B.pre
  have hown : s.vm.findClass y.cls = some m.cls := findClass_of_methodNamed B.named
  have hin : meth.name = y.name := (name_of_methodNamed B.named B.method).1
  have hl := lv_entry as (n := n) hlen
  rw [lg_entry_eq]
  exact h p e s m as.toArray below meth c s.heap [] _ (rmN d mc ms) 0 0 _ ⟨⟨B.exec, B.bytes, hml, hown, fun w hw => hts w (List.mem_cons_of_mem _ hw), hK, hZ⟩, hSk, hin, by have := hP.2; omega⟩ ⟨Nat.le_refl _, Nat.le_refl _, by show 0 + mc ≤ mc; omega, by show 0 + ms ≤ ms; omega⟩ hP va_S.rf hl (fun H' locs' ls' hP' hS' _ => by
    rw [Nat.zero_add, Nat.zero_add]
    exact hret p e s m as.toArray below meth c H' locs' ls' B.exec B.bytes B.returns B.notSynchronized hS' hP')
theorem cn_V (hpl : plainName y.cls = true) (hlen : (lg_sl as).length ≤ n) (hd : decode cc pcF = .ok (.return_, 1)) (h : Gn g zs y.cls y.name cc n d ib mc ms 0 (lv_args 0 as) [] cs (pcF, lvF, [], res)) : Cn g zs y cc n none d ib mc ms as cs res none :=
  cn_go (rv := none) hpl hlen h (fun p e s m args below meth c H locs ls hx hb hr hlk hS hP => W.vret hx hb hr (fun t ht _ => ⟨rfl, by rw [ht]; exact hP, hS.F ht⟩) hS.2.2 hd hlk)
theorem cn_I {x : Int32} (hpl : plainName y.cls = true) (hlen : (lg_sl as).length ≤ n) (hd : decode cc pcF = .ok (.ireturn, 1)) (h : Gn g zs y.cls y.name cc n d ib mc ms 0 (lv_args 0 as) [] cs (pcF, lvF, [.int x], res)) : Cn g zs y cc n (some .int) d ib mc ms as cs res (some (.int x)) :=
  cn_go (rv := some (.int x)) hpl hlen h (fun p e s m args below meth c H locs ls hx hb hr hlk hS hP => W.iret hx hb hr (fun t ht _ => ⟨rfl, by rw [ht]; exact hP, hS.F ht⟩) hS.2.2 hd hlk)
theorem cn_Z {x : Int32} {ty : FieldType} (hn : narrow ty (.int x) = .int x) (hpl : plainName y.cls = true) (hlen : (lg_sl as).length ≤ n) (hd : decode cc pcF = .ok (.ireturn, 1)) (h : Gn g zs y.cls y.name cc n d ib mc ms 0 (lv_args 0 as) [] cs (pcF, lvF, [.int x], res)) : Cn g zs y cc n (some ty) d ib mc ms as cs res (some (.int x)) :=
  cn_go (rv := some (.int x)) hpl hlen h (fun p e s m args below meth c H locs ls hx hb hr hlk hS hP => W.zret hx hb hr hn (fun t ht _ => ⟨rfl, by rw [ht]; exact hP, hS.F ht⟩) hS.2.2 hd hlk)
end CNR
section CNC
variable {g : GG} {zs : Nat × Nat} {own nm : String} {cc : ByteArray} {n d ib kc ks pc : Nat} {lv lv' : List (Nat × Value)} {st : List Value} {cs cs' : List va_E} {fn : FN}
theorem n_of_run {p : Program} {e : Env} {s : State} {m : MethodId} {args : Array Value} {below : List Frame} {meth : Method} {c : Code} {H : Heap} {locs : List Loc} {ls : Array Slot} {R : Room} {cells slots mc ms j : Nat} {Q : State → Prop} {st0 rest : List Value} {v0 : Option Value} {ys : List va_E}
    (hrun : va_Run p g.1 e R s m args below meth c H locs cells slots mc ms (F0 m pc ls st0) rest (fun st oc t => oc = .returned v0 ∧ GP g j ys t.heap ∧ va_F (gI g j) st t) (gI g j)) (hij : ib ≤ j) (hS : va_S (gI g ib) s.heap H locs)
    (kk : ∀ (H1 : Heap) (locs1 : List Loc), GP g j ys H1 → (∀ q : Nat, q < H.size → ¬ gI g j q → H1[q]? = H[q]?) → va_S (gI g ib) s.heap H1 locs1 → W p g.1 e R s m args below meth c H1 locs1 (cells + mc) (slots + ms) Q (F0 m (pc + 3) ls (v0.toList ++ rest))) : W p g.1 e R s m args below meth c H locs cells slots Q (F0 m pc ls st0) := by
  intro T hT X
  obtain ⟨v, st₀, t, T', L, h0, X', hL, e1, e2, ⟨hv, hp, hz, hk⟩, st⟩ := hrun T hT X
  cases hv
  rw [h0] at hz hk
  have hsub : ∀ q, gI g j q → gI g ib q := fun q h => by have h2 : gb g + j ≤ q := h; show gb g + ib ≤ q; omega
  obtain ⟨t2, a1, b1⟩ := kk T'.heap (locs ++ L) (by rw [e1]; exact hp) (fun q h1 h2 => by rw [e1]; exact hk q h1 h2) ⟨Nat.le_trans hS.1 (by rw [e1]; exact hz), fun q h1 h2 => by rw [e1, hk q (Nat.lt_of_lt_of_le h1 hS.1) (fun z => h2 (hsub q z))]; exact hS.2.1 q h1 h2, fun q hq => by
      rcases List.mem_append.mp hq with h | h
      · exact hS.2.2 q h
      · exact hsub _ (hL q h)⟩ T' rfl X'
  exact ⟨t2, st t2 a1, b1⟩
theorem rmN_call {d2 n2 mc ms : Nat} {R : Room} (h : d2 + 1 ≤ d) (hn : n2 ≤ 45) (h1 : d ≤ R.frames) (h2 : 64 * d ≤ R.locals) : (rmN d2 mc ms).frames + 1 ≤ R.frames ∧ 8 + (n2 + 11) + (rmN d2 mc ms).locals ≤ R.locals := by
  refine ⟨?_, ?_⟩
  · show d2 + 1 ≤ R.frames
    omega
  · show 8 + (n2 + 11) + 64 * d2 ≤ R.locals
    omega
theorem pkn_at {p : Program} {s U : State} {m : MethodId} {args : Array Value} {meth : Method} {c : Code} {H : Heap} {locs : List Loc} {j : Nat} {ys : List va_E} (X : CXN g zs own nm cc n ib p s m args meth c) (hS : va_S (gI g ib) s.heap H locs) (hU : U.heap = H) (hW : s.WarmedH U.vm) (hP : GP g j ys H) : PKn g zs j ys U :=
  ⟨va_K.moved hW.alike X.1.2.2.2.2.2.1, by rw [hU]; exact ZK.go X.1.2.2.2.2.2.2 (vS_wk hS gI_A) hW, by rw [hU]; exact SK.go X.2.1 (vS_wk hS gI_A) hW, by rw [hU]; exact hP⟩
/-- a constructor's own words -/
def MyI (y : MethodName) (c2 : ByteArray) (n2 np : Nat) : Prop := Cond.instanceMethod y ∈ lw_good ∧ Cond.initialized y.cls ∈ lw_good ∧ Cond.code y c2 n2 none ∈ lw_good ∧ (y.cls ≠ "java/lang/invoke/MethodHandle" ∧ y.cls ≠ "java/lang/invoke/VarHandle" ∧ (parseMethodDescriptor y.desc).map (fun d => d.parameters.length) = some np) ∧ n2 ≤ 45 ∧ y.name = "<init>"
def MwI (own : String) (idx : Nat) (y : MethodName) (c2 : ByteArray) (n2 np : Nat) : Prop := (Cond.methodLink own idx y ∈ lw_good ∨ ∃ host, Cond.methodLinkNest own idx y host ∈ lw_tbl) ∧ MyI y c2 n2 np
theorem GP.last {x : va_E} {H : Heap} {j : Nat} (h : GP g ib (cs ++ [x]) H) (hj : ib + cs.length = j) : GP g j [x] H := by
  subst hj
  obtain ⟨h1, h2⟩ := h
  rw [List.length_append] at h2
  refine ⟨fun k q hq => ?_, by rw [h2]; show _ = _; simp only [List.length_cons, List.length_nil]; omega⟩
  obtain ⟨e1, e2⟩ := LB_of hq
  obtain ⟨qa, qe⟩ := q
  dsimp only at e1 e2
  subst e1
  have hz : k < 1 := (List.getElem?_eq_some_iff.mp e2).1
  have h0 : k = 0 := by omega
  subst h0
  have h3 := h1 cs.length _ (LB_at (x := x) (by simp))
  cases e2
  rw [show gb g + (ib + cs.length) + 0 = gb g + ib + cs.length by omega]
  exact h3
theorem n_init {idx j n2 np d2 mc ms : Nat} {y : MethodName} {c2 : ByteArray} {x : va_E} {ys : List va_E} {st0 : List Value} (As rest : List Value) (M : MwI own idx y c2 n2 np) (hC : Cn g zs y c2 n2 none d2 j mc ms (.ref (gb g + j) :: As) [x] ys none) (hdd : d2 + 1 ≤ d) (hj : ib + cs.length = j) (hn : As.length = np) (hst : st0 = As.reverse ++ .ref (gb g + j) :: rest) (hrm : (rest.map fun v => v.category).sum ≤ 8) (hd : decode cc pc = .ok (.invokespecial idx, 3)) (kk : Gn g zs own nm cc n d ib kc ks (pc + 3) lv rest (cs ++ ys) fn) : Gn g zs own nm cc n d ib (kc + mc) (ks + ms) pc lv st0 (cs ++ [x]) fn := by
  intro p e s m args below meth c H locs ls R cells slots Q X hR hP hS hl hq
  obtain ⟨w1, w2, w3, w4, w5, w6, w7⟩ := M
  have ht := X.1.2.2.2.2.1
  have hpre : PreS s H (va_Pc (.ref (gb g + j) :: As) (PKn g zs j [x])) (.ref (gb g + j) :: As) := ⟨pkn_blind g zs j _ _, fun U hU hW => ⟨rfl, pkn_at X hS hU hW (hP.last hj)⟩⟩
  have hrun : va_Run p g.1 e R s m args below meth c H locs cells slots mc ms (F0 m pc ls st0) rest (fun st oc t => oc = .returned none ∧ GP g j ys t.heap ∧ va_F (gI g j) st t) (gI g j) := by
    rcases w1 with w1 | ⟨host, w1⟩
    · exact va_runI (g := F0 m pc ls st0) (e := e) (below := below) (meth := meth) (locs := locs) (cells := cells) (slots := slots) (rest := rest) (As := As) ⟨X.1.1, X.1.2.1, X.1.2.2.1, X.1.2.2.2.1, ht⟩ hC ⟨callB_of np ht (good_self w4) rfl rfl rfl (ht _ w3) (ht _ w1) w5 (rmN_call hdd w6 hR.1 hR.2.1), w7, ht _ w2⟩ hpre rfl hn hl.1 hst (lv_room hrm) hd ⟨by omega, by omega⟩
    · exact va_runIN (g := F0 m pc ls st0) (e := e) (below := below) (meth := meth) (locs := locs) (cells := cells) (slots := slots) (rest := rest) (As := As) ⟨X.1.1, X.1.2.1, X.1.2.2.1, X.1.2.2.2.1, ht⟩ hC ⟨va_cnB np ht (good_self w4) rfl rfl rfl (X.1.2.2.2.2.2.2.2.2.2 _ w1 rfl) (ht _ w3) w5 (rmN_call hdd w6 hR.1 hR.2.1), w7, ht _ w2⟩ hpre rfl hn hl.1 hst (lv_room hrm) hd ⟨by omega, by omega⟩
  refine n_of_run (ib := ib) hrun (by omega) hS (fun H1 locs1 hP1 ho hS1 => ?_)
  exact kk p e s m args below meth c H1 locs1 ls R (cells + mc) (slots + ms) Q X ⟨hR.1, hR.2.1, by omega, by omega⟩ (hP.join hj hP1 ho) hS1 hl (fun H' locs' ls' a1 a2 a3 => by
    have h9 := hq H' locs' ls' a1 a2 a3
    rw [show cells + (kc + mc) = cells + mc + kc by omega, show slots + (ks + ms) = slots + ms + ks by omega] at h9
    exact h9)
/-- a call that makes nothing, of a static method -/
theorem n_callS {idx n2 np d2 : Nat} {ret : Option FieldType} {y : MethodName} {c2 : ByteArray} {ys : List va_E} {st0 : List Value} {rv : Option Value} (As rest : List Value) (w1 : Cond.methodLink own idx y ∈ lw_good) (M : MyS y c2 n2 ret np) (hC : Cn g zs y c2 n2 ret d2 ib 0 0 As cs ys rv) (hdd : d2 + 1 ≤ d) (hn : As.length = np) (hst : st0 = As.reverse ++ rest) (hrm : (rest.map fun v => v.category).sum ≤ 8) (hd : decode cc pc = .ok (.invokestatic idx, 3)) (kk : Gn g zs own nm cc n d ib kc ks (pc + 3) lv (rv.toList ++ rest) ys fn) : Gn g zs own nm cc n d ib kc ks pc lv st0 cs fn := by
  intro p e s m args below meth c H locs ls R cells slots Q X hR hP hS hl hq
  obtain ⟨w3, w4, w5, w6, w7⟩ := M
  have ht := X.1.2.2.2.2.1
  have hpre : PreS s H (va_Pc As (PKn g zs ib cs)) As := ⟨pkn_blind g zs ib _ _, fun U hU hW => ⟨rfl, pkn_at X hS hU hW hP⟩⟩
  have hrun := va_runS (g := F0 m pc ls st0) (e := e) (below := below) (meth := meth) (locs := locs) (cells := cells) (slots := slots) (rest := rest) (As := As) ⟨X.1.1, X.1.2.1, X.1.2.2.1, X.1.2.2.2.1, ht⟩ hC ⟨callB_of np ht (good_self w5) rfl rfl rfl (ht _ w4) (ht _ w1) w6 (rmN_call hdd w7 hR.1 hR.2.1), ht _ w3⟩ hpre rfl hn hl.1 hst (lv_room hrm) hd ⟨by omega, by omega⟩
  refine n_of_run (ib := ib) hrun (Nat.le_refl _) hS (fun H1 locs1 hP1 ho hS1 => ?_)
  exact kk p e s m args below meth c H1 locs1 ls R cells slots Q X hR hP1 hS1 hl hq
/-- a call that makes nothing, of a method of an object of the world -/
theorem n_callV {idx ci q j n2 np d2 : Nat} {ret : Option FieldType} {y : MethodName} {c2 : ByteArray} {ys : List va_E} {fs st0 : List Value} {rv : Option Value} (As rest : List Value) (M : MwV own idx ci y c2 n2 ret np) (hj : ib + q = j) (he : cs[q]? = some (.inr (ci, fs))) (hC : Cn g zs y c2 n2 ret d2 ib 0 0 (.ref (gb g + j) :: As) cs ys rv) (hdd : d2 + 1 ≤ d) (hn : As.length = np) (hst : st0 = As.reverse ++ .ref (gb g + j) :: rest) (hrm : (rest.map fun v => v.category).sum ≤ 8) (hd : decode cc pc = .ok (.invokevirtual idx, 3)) (kk : Gn g zs own nm cc n d ib kc ks (pc + 3) lv (rv.toList ++ rest) ys fn) : Gn g zs own nm cc n d ib kc ks pc lv st0 cs fn := by
  intro p e s m args below meth c H locs ls R cells slots Q X hR hP hS hl hq
  obtain ⟨w1, w2, w3, w4, w5, w6, w7, r, w8, w9⟩ := M
  have ht := X.1.2.2.2.2.1
  have hat := LB_at (b := gb g + ib) he
  rw [show gb g + ib + q = gb g + j by omega] at hat
  have hcw : CallW R s args own y.cls idx y c2 n2 ret (Cond.code y c2 n2 ret :: lw_good) (rmN d2 0 0) 0 0 np := ⟨callB_of np ht (good_self w5) rfl rfl rfl (ht _ w4) (ht _ w1) w6 (rmN_call hdd w7 hR.1 hR.2.1), ht _ w2, ht _ w3⟩
  have hrun := va_runV (g := F0 m pc ls st0) (e := e) (below := below) (meth := meth) (locs := locs) (cells := cells) (slots := slots) (rest := rest) (As := As) ⟨X.1.1, X.1.2.1, X.1.2.2.1, X.1.2.2.2.1, ht⟩ hC hcw ⟨pkn_blind g zs ib _ _, by have h9 := va_recv X.1.2.2.2.2.2.1 hP.1 w8 hat; rw [w9] at h9; exact h9, fun U hU hW => ⟨rfl, pkn_at X hS hU hW hP⟩⟩ rfl hn hl.1 hst (lv_room hrm) hd ⟨by omega, by omega⟩
  refine n_of_run (ib := ib) hrun (Nat.le_refl _) hS (fun H1 locs1 hP1 ho hS1 => ?_)
  exact kk p e s m args below meth c H1 locs1 ls R cells slots Q X hR hP1 hS1 hl hq
/-- a method of the text -/
def MyT (y : MethodName) (c2 : ByteArray) (n2 : Nat) (ret : Option FieldType) (np : Nat) : Prop := Cond.instanceMethod y ∈ lw_good ∧ Cond.selects "java/lang/String" y y ∈ lw_good ∧ Cond.initialized y.cls ∈ lw_good ∧ Cond.code y c2 n2 ret ∈ lw_good ∧ (y.cls ≠ "java/lang/invoke/MethodHandle" ∧ y.cls ≠ "java/lang/invoke/VarHandle" ∧ (parseMethodDescriptor y.desc).map (fun d => d.parameters.length) = some np) ∧ n2 ≤ 45
theorem n_callT {idx n2 np d2 : Nat} {ret : Option FieldType} {y : MethodName} {c2 : ByteArray} {ys : List va_E} {st0 : List Value} {rv : Option Value} (As rest : List Value) (w1 : Cond.methodLink own idx y ∈ lw_good) (M : MyT y c2 n2 ret np) (hC : Cn g zs y c2 n2 ret d2 ib 0 0 (.ref zs.1 :: As) cs ys rv) (hdd : d2 + 1 ≤ d) (hn : As.length = np) (hst : st0 = As.reverse ++ .ref zs.1 :: rest) (hrm : (rest.map fun v => v.category).sum ≤ 8) (hd : decode cc pc = .ok (.invokevirtual idx, 3)) (kk : Gn g zs own nm cc n d ib kc ks (pc + 3) lv (rv.toList ++ rest) ys fn) : Gn g zs own nm cc n d ib kc ks pc lv st0 cs fn := by
  intro p e s m args below meth c H locs ls R cells slots Q X hR hP hS hl hq
  obtain ⟨w2, w3, w4, w5, w6, w7⟩ := M
  have ht := X.1.2.2.2.2.1
  have hcw : CallW R s args own "java/lang/String" idx y c2 n2 ret (Cond.code y c2 n2 ret :: lw_good) (rmN d2 0 0) 0 0 np := ⟨callB_of np ht (good_self w5) rfl rfl rfl (ht _ w4) (ht _ w1) w6 (rmN_call hdd w7 hR.1 hR.2.1), ht _ w2, ht _ w3⟩
  have hrun := va_runV (g := F0 m pc ls st0) (e := e) (below := below) (meth := meth) (locs := locs) (cells := cells) (slots := slots) (rest := rest) (As := As) ⟨X.1.1, X.1.2.1, X.1.2.2.1, X.1.2.2.2.1, ht⟩ hC hcw ⟨pkn_blind g zs ib _ _, va_Orecv X.2.1.2.2.1.1 (vS_wk hS gI_A), fun U hU hW => ⟨rfl, pkn_at X hS hU hW hP⟩⟩ rfl hn hl.1 hst (lv_room hrm) hd ⟨by omega, by omega⟩
  refine n_of_run (ib := ib) hrun (Nat.le_refl _) hS (fun H1 locs1 hP1 ho hS1 => ?_)
  exact kk p e s m args below meth c H1 locs1 ls R cells slots Q X hR hP1 hS1 hl hq
/-! the text and the statics -/
theorem n_ldcS (hown : own = RX9) (hd : decode cc pc = .ok (.ldc 26, 2)) (kk : Gn g zs own nm cc n d ib kc ks (pc + 2) lv (.ref zs.1 :: st) cs fn) : Gn g zs own nm cc n d ib kc ks pc lv st cs fn := by
  subst hown
  intro p e s m args below meth c H locs ls R cells slots Q X hR hP hS hl hq
  exact va_ldcS X.1.1 X.1.2.1 X.1.2.2.2.1 X.2.1.2.1 hd (kk p e s m args below meth c H locs ls R cells slots Q X hR hP hS hl hq)
theorem n_gcomp {idx : Nat} (w1 : Cond.fieldLink own idx "java/lang/String" "COMPACT_STRINGS" "Z" ∈ lw_good) (hd : decode cc pc = .ok (.getstatic idx, 3)) (kk : Gn g zs own nm cc n d ib kc ks (pc + 3) lv (.int 1 :: st) cs fn) : Gn g zs own nm cc n d ib kc ks pc lv st cs fn := by
  intro p e s m args below meth c H locs ls R cells slots Q X hR hP hS hl hq
  exact va_gets X.1.1 X.1.2.1 X.2.1.2.2.2.1 (vS_wk hS gI_A) X.1.2.2.2.1 (X.1.2.2.2.2.1 _ w1) (fun _ h => h) hd (kk p e s m args below meth c H locs ls R cells slots Q X hR hP hS hl hq)
theorem n_gform {idx : Nat} (w1 : Cond.fieldLink own idx "jdk/internal/util/Preconditions" "SIOOBE_FORMATTER" "Ljava/util/function/BiFunction;" ∈ lw_good) (hd : decode cc pc = .ok (.getstatic idx, 3)) (kk : ∀ v : Value, (v = .null ∨ ∃ t, v = .ref t) → Gn g zs own nm cc n d ib kc ks (pc + 3) lv (v :: st) cs fn) : Gn g zs own nm cc n d ib kc ks pc lv st cs fn := by
  intro p e s m args below meth c H locs ls R cells slots Q X hR hP hS hl hq
  rcases X.2.1.2.2.2.2 with h | ⟨t, h⟩
  · exact va_gets X.1.1 X.1.2.1 h (vS_wk hS gI_A) X.1.2.2.2.1 (X.1.2.2.2.2.1 _ w1) (fun _ h => h) hd (kk .null (Or.inl rfl) p e s m args below meth c H locs ls R cells slots Q X hR hP hS hl hq)
  · exact va_gets X.1.1 X.1.2.1 h (vS_wk hS gI_A) X.1.2.2.2.1 (X.1.2.2.2.2.1 _ w1) (fun _ h => h) hd (kk (.ref t) (Or.inr ⟨t, rfl⟩) p e s m args below meth c H locs ls R cells slots Q X hR hP hS hl hq)
theorem n_gcoder {idx : Nat} (w1 : Cond.fieldLink own idx "java/lang/String" "coder" "B" ∈ lw_good) (hd : decode cc pc = .ok (.getfield idx, 3)) (kk : Gn g zs own nm cc n d ib kc ks (pc + 3) lv (.int 0 :: st) cs fn) : Gn g zs own nm cc n d ib kc ks pc lv (.ref zs.1 :: st) cs fn := by
  intro p e s m args below meth c H locs ls R cells slots Q X hR hP hS hl hq
  exact vk_getf X.1.1 X.1.2.1 X.2.1.2.2.1.2.1 (vS_wk hS gI_A) X.1.2.2.2.1 (X.1.2.2.2.2.1 _ w1) (fun _ h => h) hd (kk p e s m args below meth c H locs ls R cells slots Q X hR hP hS hl hq)
theorem n_gvalue {idx : Nat} (w1 : Cond.fieldLink own idx "java/lang/String" "value" "[B" ∈ lw_good) (hd : decode cc pc = .ok (.getfield idx, 3)) (kk : Gn g zs own nm cc n d ib kc ks (pc + 3) lv (.ref zs.2 :: st) cs fn) : Gn g zs own nm cc n d ib kc ks pc lv (.ref zs.1 :: st) cs fn := by
  intro p e s m args below meth c H locs ls R cells slots Q X hR hP hS hl hq
  exact vk_getf X.1.1 X.1.2.1 X.2.1.2.2.1.2.2.1 (vS_wk hS gI_A) X.1.2.2.2.1 (X.1.2.2.2.2.1 _ w1) (fun _ h => h) hd (kk p e s m args below meth c H locs ls R cells slots Q X hR hP hS hl hq)
theorem n_tb {x : Int32} (hin : vp_in x 149) (hd : decode cc pc = .ok (.baload, 1)) (kk : Gn g zs own nm cc n d ib kc ks (pc + 1) lv (.int (TXB x.toNatClampNeg) :: st) cs fn) : Gn g zs own nm cc n d ib kc ks pc lv (.int x :: .ref zs.2 :: st) cs fn := by
  intro p e s m args below meth c H locs ls R cells slots Q X hR hP hS hl hq
  exact va_tb X.1.1 X.1.2.1 X.2.1.2.2.1.2.2.2 (vS_wk hS gI_A) hin rfl hd (kk p e s m args below meth c H locs ls R cells slots Q X hR hP hS hl hq)
theorem n_tlen (hd : decode cc pc = .ok (.arraylength, 1)) (kk : Gn g zs own nm cc n d ib kc ks (pc + 1) lv (.int (nI 149) :: st) cs fn) : Gn g zs own nm cc n d ib kc ks pc lv (.ref zs.2 :: st) cs fn := by
  intro p e s m args below meth c H locs ls R cells slots Q X hR hP hS hl hq
  exact va_tlen X.1.1 X.1.2.1 X.2.1.2.2.1.2.2.2 (vS_wk hS gI_A) rfl hd (kk p e s m args below meth c H locs ls R cells slots Q X hR hP hS hl hq)
end CNC
theorem n_cs {g : GG} {zs : Nat × Nat} {own nm : String} {cc : ByteArray} {n d ib kc ks pc : Nat} {lv : List (Nat × Value)} {st : List Value} {cs cs' : List va_E} {fn : FN} (h : cs = cs') (k : Gn g zs own nm cc n d ib kc ks pc lv st cs' fn) : Gn g zs own nm cc n d ib kc ks pc lv st cs fn := h ▸ k
