/-! ===== the growing world: cells one after the other from gb g + ib on ===== -/
def LB (b : Nat) : List va_E → va_W
  | [] => []
  | x :: cs => (b, x) :: LB (b + 1) cs
theorem LB_at {x : va_E} : ∀ {cs : List va_E} {b k : Nat}, cs[k]? = some x → (LB b cs)[k]? = some (b + k, x)
  | [], b, k, h => by simp at h
  | y :: cs, b, 0, h => by
    have h2 : y = x := by simpa using h
    subst h2
    rfl
  | y :: cs, b, k + 1, h => by
    have h2 : cs[k]? = some x := by simpa using h
    have h3 := LB_at (b := b + 1) h2
    show (LB (b + 1) cs)[k]? = _
    rw [h3, show b + 1 + k = b + (k + 1) by omega]
theorem LB_of : ∀ {cs : List va_E} {b k : Nat} {q : Nat × va_E}, (LB b cs)[k]? = some q → q.1 = b + k ∧ cs[k]? = some q.2
  | [], b, k, q, h => by simp [LB] at h
  | y :: cs, b, 0, q, h => by
    have h2 : (b, y) = q := by simpa [LB] using h
    subst h2
    exact ⟨rfl, rfl⟩
  | y :: cs, b, k + 1, q, h => by
    have h2 : (LB (b + 1) cs)[k]? = some q := by simpa [LB] using h
    obtain ⟨e1, e2⟩ := LB_of h2
    exact ⟨by omega, by simpa using e2⟩
theorem LB_set {x : va_E} : ∀ {cs : List va_E} {b k : Nat}, (LB b cs).set k (b + k, x) = LB b (cs.set k x)
  | [], b, k => by simp [LB]
  | y :: cs, b, 0 => rfl
  | y :: cs, b, k + 1 => by
    show (b, y) :: (LB (b + 1) cs).set k (b + (k + 1), x) = (b, y) :: LB (b + 1) (cs.set k x)
    rw [show b + (k + 1) = b + 1 + k by omega, LB_set]
theorem LB_D (b : Nat) (cs : List va_E) : va_D (fun q => b ≤ q) (LB b cs) := ⟨fun i j p q hi hj h => by
    have h1 := (LB_of hi).1
    have h2 := (LB_of hj).1
    omega, fun k q hk => by
    have h1 := (LB_of hk).1
    show b ≤ q.1
    omega⟩
def gI (g : GG) (ib : Nat) : Nat → Prop := fun q => gb g + ib ≤ q
def GP (g : GG) (ib : Nat) (cs : List va_E) (H : Heap) : Prop := va_P (gD g) vwCl (LB (gb g + ib) cs) H ∧ H.size = gb g + ib + cs.length
theorem GP.grow {g : GG} {ib : Nat} {cs xs : List va_E} {H H1 : Heap} (h : GP g ib cs H) (hs : H1.size = H.size + xs.length) (ho : ∀ q : Nat, q < H.size → H1[q]? = H[q]?) (hn : ∀ (k : Nat) (x : va_E), xs[k]? = some x → va_at (gD g) vwCl (gb g + ib + cs.length + k, x) H1) : GP g ib (cs ++ xs) H1 := by
  obtain ⟨h1, h2⟩ := h
  refine ⟨fun k q hq => ?_, by rw [List.length_append]; omega⟩
  obtain ⟨e1, e2⟩ := LB_of hq
  obtain ⟨qa, qe⟩ := q
  dsimp only at e1 e2
  subst e1
  by_cases hk : k < cs.length
  · rw [List.getElem?_append_left hk] at e2
    have h3 := h1 k _ (LB_at e2)
    exact h3.kept (ho _ h3.lt)
  · rw [List.getElem?_append_right (by omega)] at e2
    have h3 := hn _ _ e2
    rw [show gb g + ib + cs.length + (k - cs.length) = gb g + ib + k by omega] at h3
    exact h3
theorem GP.join {g : GG} {ib j : Nat} {pre ys : List va_E} {x : va_E} {H H1 : Heap} (h : GP g ib (pre ++ [x]) H) (hj : ib + pre.length = j) (h2 : GP g j ys H1) (ho : ∀ q : Nat, q < H.size → ¬ gI g j q → H1[q]? = H[q]?) : GP g ib (pre ++ ys) H1 := by
  subst hj
  obtain ⟨p1, s1⟩ := h
  obtain ⟨p2, s2⟩ := h2
  refine ⟨fun k q hq => ?_, by rw [List.length_append]; omega⟩
  obtain ⟨e1, e2⟩ := LB_of hq
  obtain ⟨qa, qe⟩ := q
  dsimp only at e1 e2
  subst e1
  by_cases hk : k < pre.length
  · have e3 : (pre ++ [x])[k]? = some qe := by
      rw [List.getElem?_append_left hk] at e2
      rw [List.getElem?_append_left hk]
      exact e2
    have h3 := p1 k _ (LB_at e3)
    exact h3.kept (ho _ h3.lt (fun z => by have : gb g + (ib + pre.length) ≤ gb g + ib + k := z; omega))
  · rw [List.getElem?_append_right (by omega)] at e2
    have h3 := p2 _ _ (LB_at e2)
    rw [show gb g + (ib + pre.length) + (k - pre.length) = gb g + ib + k by omega] at h3
    exact h3
theorem vS_wk {A B : Nat → Prop} {H0 H : Heap} {locs : List Loc} (h : va_S A H0 H locs) (hAB : ∀ q, A q → B q) : va_S B H0 H locs := ⟨h.1, fun q h1 h2 => h.2.1 q h1 (fun z => h2 (hAB q z)), fun l hl => hAB _ (h.2.2 l hl)⟩
theorem gI_A {g : GG} {ib : Nat} : ∀ q, gI g ib q → gA g q := fun q h => by have h2 : gb g + ib ≤ q := h; show gb g ≤ q; omega
theorem AOA.moved {t : FieldType} {u U : State} (hvm : u.vm.Alike U.vm) (h : AOA t u) : AOA t U := by
  obtain ⟨comp, c, k, h1, h2, h3, h4, h5⟩ := AOA_spec h
  obtain ⟨k', hk', he⟩ := hvm.2.2 _ _ h3
  have hi : (U.vm.classes.findIdx? fun (x : Class) => match x.kind with | .array component _ => component == comp | _ => false) = some c := by
    have hbe : U.vm.bare = u.vm.bare := by first | exact hvm.bare_eq | exact hvm.bare_eq.symm
    have q1 := va_idx_bare U.vm comp
    rw [hbe] at q1
    exact q1.symm.trans ((va_idx_bare u.vm comp).trans h2)
  have hkind : k'.kind = .array comp (.array t) := by rw [he]; exact h4
  have f1 : U.vm.findClass (FieldType.array t).toString = some comp := by rw [hvm.findClass]; exact h1
  have f2 : U.vm.findClass ("[" ++ (FieldType.array t).toString) = some c := by rw [hvm.findClass]; exact h5
  unfold AOA Cond.before Cond.holds
  simp only [Cond.value]
  rw [f1, Option.bind_some]
  refine (congrArg (fun o : Option Nat => (o.bind (fun c => (U.vm.classes[c]?).map fun (k : Class) => match k.kind with | .array _ ty => decide (ty = FieldType.array t) && decide (U.vm.findClass ("[" ++ (FieldType.array t).toString) = some c) | _ => false) == some true)) hi).trans ?_
  simp [hk', hkind, f2]
/-! the text of the set words, and the statics that its methods read -/

def TXT : String := "wide tap odds account debit credit law becomes left right above below watch step up down stay doze mend steal any when wrong digit even loop end stop"
def TXL : List Int32 := [119, 105, 100, 101, 32, 116, 97, 112, 32, 111, 100, 100, 115, 32, 97, 99, 99, 111, 117, 110, 116, 32, 100, 101, 98, 105, 116, 32, 99, 114, 101, 100, 105, 116, 32, 108, 97, 119, 32, 98, 101, 99, 111, 109, 101, 115, 32, 108, 101, 102, 116, 32, 114, 105, 103, 104, 116, 32, 97, 98, 111, 118, 101, 32, 98, 101, 108, 111, 119, 32, 119, 97, 116, 99, 104, 32, 115, 116, 101, 112, 32, 117, 112, 32, 100, 111, 119, 110, 32, 115, 116, 97, 121, 32, 100, 111, 122, 101, 32, 109, 101, 110, 100, 32, 115, 116, 101, 97, 108, 32, 97, 110, 121, 32, 119, 104, 101, 110, 32, 119, 114, 111, 110, 103, 32, 100, 105, 103, 105, 116, 32, 101, 118, 101, 110, 32, 108, 111, 111, 112, 32, 101, 110, 100, 32, 115, 116, 111, 112]
def TXB (j : Nat) : Int32 := TXL.getD j 0
def SK (g : GG) (z : Nat × Nat) (U : State) (H : Heap) : Prop := (va_AO RX0 U ∧ va_AO RX5 U ∧ AOA .int U ∧ AOA .long U) ∧ vk_R RX9 26 TXT z.1 U ∧ (va_O "java/lang/String" z.1 (gA g) U H ∧ va_OF "java/lang/String" "coder" "B" (.int 0) z.1 (gA g) U H ∧ va_OF "java/lang/String" "value" "[B" (.ref z.2) z.1 (gA g) U H ∧ va_T .byte z.2 149 (fun j => .int (TXB j)) (gA g) U H) ∧ va_Z "java/lang/String" "COMPACT_STRINGS" "Z" (.int 1) (gA g) U H ∧ va_Zq "jdk/internal/util/Preconditions" "SIOOBE_FORMATTER" "Ljava/util/function/BiFunction;" (gA g) U H
theorem SK.go {g : GG} {z : Nat × Nat} {s U : State} {H0 H : Heap} {locs : List Loc} (h : SK g z s H0) (hS : va_S (gA g) H0 H locs) (hW : s.WarmedH U.vm) : SK g z U H := by
  obtain ⟨⟨a1, a2, a3, a4⟩, b, ⟨c1, c2, c3, c4⟩, d1, d2⟩ := h
  have hk : ∀ a : Nat, a < H0.size → ¬ gA g a → H[a]? = H0[a]? := fun a h1 h2 => hS.2.1 a h1 h2
  exact ⟨⟨a1.moved hW.alike, a2.moved hW.alike, a3.moved hW.alike, a4.moved hW.alike⟩, b.warm hW, ⟨(c1.moved hW.alike).kept hk, (c2.moved hW.alike).kept hk, (c3.moved hW.alike).kept hk, (c4.moved hW.alike).kept hk⟩, (d1.moved hW.alike).kept hk, (d2.moved hW.alike).kept hk⟩
def CXN (g : GG) (zs : Nat × Nat) (own nm : String) (cc : ByteArray) (n ib : Nat) (p : Program) (s : State) (m : MethodId) (args : Array Value) (meth : Method) (c : Code) : Prop := Cx g own cc n p s m args c ∧ SK g zs s s.heap ∧ meth.name = nm ∧ gb g + ib ≤ s.heap.size
abbrev FN : Type := Nat × (List (Nat × Value) × (List Value × List va_E))
/-- from this frame, over these cells, the machine comes to the frame and the cells that fn says, with kc cells of ks slots made -/
def Gn (g : GG) (zs : Nat × Nat) (own nm : String) (cc : ByteArray) (n d ib kc ks pc : Nat) (lv : List (Nat × Value)) (st : List Value) (cs : List va_E) (fn : FN) : Prop :=
  ∀ (p : Program) (e : Env) (s : State) (m : MethodId) (args : Array Value) (below : List Frame) (meth : Method) (c : Code) (H : Heap) (locs : List Loc) (ls : Array Slot) (R : Room) (cells slots : Nat) (Q : State → Prop), CXN g zs own nm cc n ib p s m args meth c → (d ≤ R.frames ∧ 64 * d ≤ R.locals ∧ cells + kc ≤ R.cells ∧ slots + ks ≤ R.slots) → GP g ib cs H → va_S (gI g ib) s.heap H locs → lv_has ls n lv →
    (∀ (H' : Heap) (locs' : List Loc) (ls' : Array Slot), GP g ib fn.2.2.2 H' → va_S (gI g ib) s.heap H' locs' → lv_has ls' n fn.2.1 → W p g.1 e R s m args below meth c H' locs' (cells + kc) (slots + ks) Q (F0 m fn.1 ls' fn.2.2.1)) →
    W p g.1 e R s m args below meth c H locs cells slots Q (F0 m pc ls st)
section GNR
variable {g : GG} {zs : Nat × Nat} {own nm : String} {cc : ByteArray} {n d ib kc ks pc : Nat} {lv lv' : List (Nat × Value)} {st : List Value} {cs cs' : List va_E} {fn : FN}
theorem n_end {pcF : Nat} {lvF : List (Nat × Value)} {stF : List Value} {res : List va_E} (h1 : cs = res) : Gn g zs own nm cc n d ib 0 0 pcF lvF stF cs (pcF, lvF, stF, res) := by
  intro p e s m args below meth c H locs ls R cells slots Q X hR hP hS hl hq
  subst h1
  exact hq H locs ls hP hS hl
theorem n_iconst {z : Int} {v : Int32} (hd : decode cc pc = .ok (.iconst z, 1)) (hv : Int32.ofInt z = v) (k : Gn g zs own nm cc n d ib kc ks (pc + 1) lv (.int v :: st) cs fn) : Gn g zs own nm cc n d ib kc ks pc lv st cs fn := by
  intro p e s m args below meth c H locs ls R cells slots Q X hR hP hS hl hq
  exact lv_iconst X.1.1 X.1.2.1 hd hv (k p e s m args below meth c H locs ls R cells slots Q X hR hP hS hl hq)
theorem n_bipush {z : Int} {v : Int32} (hd : decode cc pc = .ok (.bipush z, 2)) (hv : (Int8.ofInt z).toInt32 = v) (k : Gn g zs own nm cc n d ib kc ks (pc + 2) lv (.int v :: st) cs fn) : Gn g zs own nm cc n d ib kc ks pc lv st cs fn := by
  intro p e s m args below meth c H locs ls R cells slots Q X hR hP hS hl hq
  exact lv_bipush X.1.1 X.1.2.1 hd hv (k p e s m args below meth c H locs ls R cells slots Q X hR hP hS hl hq)
theorem n_sipush {z : Int} {v : Int32} (hd : decode cc pc = .ok (.sipush z, 3)) (hv : (Int16.ofInt z).toInt32 = v) (k : Gn g zs own nm cc n d ib kc ks (pc + 3) lv (.int v :: st) cs fn) : Gn g zs own nm cc n d ib kc ks pc lv st cs fn := by
  intro p e s m args below meth c H locs ls R cells slots Q X hR hP hS hl hq
  exact lv_sipush X.1.1 X.1.2.1 hd hv (k p e s m args below meth c H locs ls R cells slots Q X hR hP hS hl hq)
theorem n_lconst {z : Fin 2} {v : Int64} (hd : decode cc pc = .ok (.lconst z, 1)) (hv : Int64.ofNat (z : Nat) = v) (k : Gn g zs own nm cc n d ib kc ks (pc + 1) lv (.long v :: st) cs fn) : Gn g zs own nm cc n d ib kc ks pc lv st cs fn := by
  intro p e s m args below meth c H locs ls R cells slots Q X hR hP hS hl hq
  exact lv_lconst X.1.1 X.1.2.1 hd hv (k p e s m args below meth c H locs ls R cells slots Q X hR hP hS hl hq)
theorem n_iload_n {k0 : Fin 4} {x : Int32} (hd : decode cc pc = .ok (.iload_n k0, 1)) (q : Nat) (hk : lv[q]? = some ((k0 : Nat), .int x)) (k : Gn g zs own nm cc n d ib kc ks (pc + 1) lv (.int x :: st) cs fn) : Gn g zs own nm cc n d ib kc ks pc lv st cs fn := by
  intro p e s m args below meth c H locs ls R cells slots Q X hR hP hS hl hq
  exact lv_iload_n X.1.1 X.1.2.1 hd rfl (lv_at hl q hk) (k p e s m args below meth c H locs ls R cells slots Q X hR hP hS hl hq)
theorem n_aload_n {k0 : Fin 4} {x : Nat} (hd : decode cc pc = .ok (.aload_n k0, 1)) (q : Nat) (hk : lv[q]? = some ((k0 : Nat), .ref x)) (k : Gn g zs own nm cc n d ib kc ks (pc + 1) lv (.ref x :: st) cs fn) : Gn g zs own nm cc n d ib kc ks pc lv st cs fn := by
  intro p e s m args below meth c H locs ls R cells slots Q X hR hP hS hl hq
  exact lv_aload_n X.1.1 X.1.2.1 hd rfl (lv_at hl q hk) (k p e s m args below meth c H locs ls R cells slots Q X hR hP hS hl hq)
theorem n_istore_n {x : Int32} {k0 : Fin 4} {i : Nat} (hd : decode cc pc = .ok (.istore_n k0, 1)) (hi : (k0 : Nat) = i) (hn : i < n) (hv : (i, Value.int x) :: lv.filter (fun q => !(q.1 == i) && !(q.1 + 1 == i && q.2.category == 2)) = lv') (k : Gn g zs own nm cc n d ib kc ks (pc + 1) lv' st cs fn) : Gn g zs own nm cc n d ib kc ks pc lv (.int x :: st) cs fn := by
  intro p e s m args below meth c H locs ls R cells slots Q X hR hP hS hl hq
  exact lv_istore_n X.1.1 X.1.2.1 hd hi hl hn hv (fun ls hl => k p e s m args below meth c H locs ls R cells slots Q X hR hP hS hl hq)
theorem n_astore_n {x : Nat} {k0 : Fin 4} {i : Nat} (hd : decode cc pc = .ok (.astore_n k0, 1)) (hi : (k0 : Nat) = i) (hn : i < n) (hv : (i, Value.ref x) :: lv.filter (fun q => !(q.1 == i) && !(q.1 + 1 == i && q.2.category == 2)) = lv') (k : Gn g zs own nm cc n d ib kc ks (pc + 1) lv' st cs fn) : Gn g zs own nm cc n d ib kc ks pc lv (.ref x :: st) cs fn := by
  intro p e s m args below meth c H locs ls R cells slots Q X hR hP hS hl hq
  exact lv_astore_n X.1.1 X.1.2.1 hd hi hl hn hv (fun ls hl => k p e s m args below meth c H locs ls R cells slots Q X hR hP hS hl hq)
theorem n_iinc {i : Nat} {z : Int} {x v : Int32} (hd : decode cc pc = .ok (.iinc i z, 3)) (q : Nat) (hk : lv[q]? = some (i, .int x)) (he : x + Int32.ofInt z = v) (hn : i < n) (hv : (i, Value.int v) :: lv.filter (fun q => !(q.1 == i) && !(q.1 + 1 == i && q.2.category == 2)) = lv') (k : Gn g zs own nm cc n d ib kc ks (pc + 3) lv' st cs fn) : Gn g zs own nm cc n d ib kc ks pc lv st cs fn := by
  intro p e s m args below meth c H locs ls R cells slots Q X hR hP hS hl hq
  exact lv_iinc X.1.1 X.1.2.1 hd hl hk he hn hv (fun ls hl => k p e s m args below meth c H locs ls R cells slots Q X hR hP hS hl hq)
theorem n_lv (is : List Nat) (h : lv_pick lv is = lv') (k : Gn g zs own nm cc n d ib kc ks pc lv' st cs fn) : Gn g zs own nm cc n d ib kc ks pc lv st cs fn := by
  intro p e s m args below meth c H locs ls R cells slots Q X hR hP hS hl hq
  exact k p e s m args below meth c H locs ls R cells slots Q X hR hP hS (lv_sub hl is h) hq
theorem n_iand {x y : Int32} (hd : decode cc pc = .ok (.iand, 1))  (k : Gn g zs own nm cc n d ib kc ks (pc + 1) lv (.int (x &&& y) :: st) cs fn) : Gn g zs own nm cc n d ib kc ks pc lv (.int y :: .int x :: st) cs fn := by
  intro p e s m args below meth c H locs ls R cells slots Q X hR hP hS hl hq
  exact lv_iand X.1.1 X.1.2.1 hd  (k p e s m args below meth c H locs ls R cells slots Q X hR hP hS hl hq)
theorem n_ishr {x y : Int32} (hd : decode cc pc = .ok (.ishr, 1))  (k : Gn g zs own nm cc n d ib kc ks (pc + 1) lv (.int (x >>> (y &&& 31)) :: st) cs fn) : Gn g zs own nm cc n d ib kc ks pc lv (.int y :: .int x :: st) cs fn := by
  intro p e s m args below meth c H locs ls R cells slots Q X hR hP hS hl hq
  exact lv_ishr X.1.1 X.1.2.1 hd  (k p e s m args below meth c H locs ls R cells slots Q X hR hP hS hl hq)
theorem n_iadd {x y : Int32} (hd : decode cc pc = .ok (.iadd, 1))  (k : Gn g zs own nm cc n d ib kc ks (pc + 1) lv (.int (x + y) :: st) cs fn) : Gn g zs own nm cc n d ib kc ks pc lv (.int y :: .int x :: st) cs fn := by
  intro p e s m args below meth c H locs ls R cells slots Q X hR hP hS hl hq
  exact lv_iadd X.1.1 X.1.2.1 hd  (k p e s m args below meth c H locs ls R cells slots Q X hR hP hS hl hq)
theorem n_imul {x y : Int32} (hd : decode cc pc = .ok (.imul, 1))  (k : Gn g zs own nm cc n d ib kc ks (pc + 1) lv (.int (x * y) :: st) cs fn) : Gn g zs own nm cc n d ib kc ks pc lv (.int y :: .int x :: st) cs fn := by
  intro p e s m args below meth c H locs ls R cells slots Q X hR hP hS hl hq
  exact lv_imul X.1.1 X.1.2.1 hd  (k p e s m args below meth c H locs ls R cells slots Q X hR hP hS hl hq)
theorem n_i2c {x : Int32} (hd : decode cc pc = .ok (.i2c, 1))  (k : Gn g zs own nm cc n d ib kc ks (pc + 1) lv (.int ((x.toUInt32 % 65536).toInt32) :: st) cs fn) : Gn g zs own nm cc n d ib kc ks pc lv (.int x :: st) cs fn := by
  intro p e s m args below meth c H locs ls R cells slots Q X hR hP hS hl hq
  exact lv_i2c X.1.1 X.1.2.1 hd rfl (k p e s m args below meth c H locs ls R cells slots Q X hR hP hS hl hq)
theorem n_i2l {x : Int32} (hd : decode cc pc = .ok (.i2l, 1))  (k : Gn g zs own nm cc n d ib kc ks (pc + 1) lv (.long x.toInt64 :: st) cs fn) : Gn g zs own nm cc n d ib kc ks pc lv (.int x :: st) cs fn := by
  intro p e s m args below meth c H locs ls R cells slots Q X hR hP hS hl hq
  exact lv_i2l X.1.1 X.1.2.1 hd rfl (k p e s m args below meth c H locs ls R cells slots Q X hR hP hS hl hq)
theorem n_ladd {x y : Int64} (hd : decode cc pc = .ok (.ladd, 1))  (k : Gn g zs own nm cc n d ib kc ks (pc + 1) lv (.long (x + y) :: st) cs fn) : Gn g zs own nm cc n d ib kc ks pc lv (.long y :: .long x :: st) cs fn := by
  intro p e s m args below meth c H locs ls R cells slots Q X hR hP hS hl hq
  exact lv_ladd X.1.1 X.1.2.1 hd  (k p e s m args below meth c H locs ls R cells slots Q X hR hP hS hl hq)
theorem n_lsub {x y : Int64} (hd : decode cc pc = .ok (.lsub, 1))  (k : Gn g zs own nm cc n d ib kc ks (pc + 1) lv (.long (x - y) :: st) cs fn) : Gn g zs own nm cc n d ib kc ks pc lv (.long y :: .long x :: st) cs fn := by
  intro p e s m args below meth c H locs ls R cells slots Q X hR hP hS hl hq
  exact lv_lsub X.1.1 X.1.2.1 hd  (k p e s m args below meth c H locs ls R cells slots Q X hR hP hS hl hq)
theorem n_lmul {x y : Int64} (hd : decode cc pc = .ok (.lmul, 1))  (k : Gn g zs own nm cc n d ib kc ks (pc + 1) lv (.long (x * y) :: st) cs fn) : Gn g zs own nm cc n d ib kc ks pc lv (.long y :: .long x :: st) cs fn := by
  intro p e s m args below meth c H locs ls R cells slots Q X hR hP hS hl hq
  exact lv_lmul X.1.1 X.1.2.1 hd  (k p e s m args below meth c H locs ls R cells slots Q X hR hP hS hl hq)
theorem n_dup {va : Value} (hd : decode cc pc = .ok (.dup, 1)) (h1 : va.category = 1) (k : Gn g zs own nm cc n d ib kc ks (pc + 1) lv (va :: va :: st) cs fn) : Gn g zs own nm cc n d ib kc ks pc lv (va :: st) cs fn := by
  intro p e s m args below meth c H locs ls R cells slots Q X hR hP hS hl hq
  exact lv_dup X.1.1 X.1.2.1 hd h1 (k p e s m args below meth c H locs ls R cells slots Q X hR hP hS hl hq)
theorem n_pop {va : Value} (hd : decode cc pc = .ok (.pop, 1)) (h1 : va.category = 1) (k : Gn g zs own nm cc n d ib kc ks (pc + 1) lv st cs fn) : Gn g zs own nm cc n d ib kc ks pc lv (va :: st) cs fn := by
  intro p e s m args below meth c H locs ls R cells slots Q X hR hP hS hl hq
  exact lv_pop X.1.1 X.1.2.1 hd h1 (k p e s m args below meth c H locs ls R cells slots Q X hR hP hS hl hq)
theorem n_goto {off : Int} {tgt : Nat} (hd : decode cc pc = .ok (.goto off, 3)) (ht : (pc : Int) + off = (tgt : Int)) (k : Gn g zs own nm cc n d ib kc ks tgt lv st cs fn) : Gn g zs own nm cc n d ib kc ks pc lv st cs fn := by
  intro p e s m args below meth c H locs ls R cells slots Q X hR hP hS hl hq
  exact lv_goto X.1.1 X.1.2.1 hd ht (k p e s m args below meth c H locs ls R cells slots Q X hR hP hS hl hq)
theorem n_ldc2 {i : Nat} {v : Int64} (hw : Cond.constantLong own i v ∈ lw_good) (hd : decode cc pc = .ok (.ldc2_w i, 3)) (k : Gn g zs own nm cc n d ib kc ks (pc + 3) lv (.long v :: st) cs fn) : Gn g zs own nm cc n d ib kc ks pc lv st cs fn := by
  intro p e s m args below meth c H locs ls R cells slots Q X hR hP hS hl hq
  exact lv_ldc2 X.1.1 X.1.2.1 X.1.2.2.2.1 (X.1.2.2.2.2.1 _ hw) hd (k p e s m args below meth c H locs ls R cells slots Q X hR hP hS hl hq)
theorem n_icmp_ge_t {x y : Int32} {off : Int} {tgt : Nat} (hd : decode cc pc = .ok (.if_icmp .ge off, 3)) (ht : (pc : Int) + off = (tgt : Int)) (h : y ≤ x) (k : Gn g zs own nm cc n d ib kc ks tgt lv st cs fn) : Gn g zs own nm cc n d ib kc ks pc lv (.int y :: .int x :: st) cs fn := by
  intro p e s m args below meth c H locs ls R cells slots Q X hR hP hS hl hq
  exact lv_icmp_ge X.1.1 X.1.2.1 hd ht (fun _ => k p e s m args below meth c H locs ls R cells slots Q X hR hP hS hl hq) (fun h2 => absurd h h2)
theorem n_icmp_ge_f {x y : Int32} {off : Int} {tgt : Nat} (hd : decode cc pc = .ok (.if_icmp .ge off, 3)) (ht : (pc : Int) + off = (tgt : Int)) (h : ¬ y ≤ x) (k : Gn g zs own nm cc n d ib kc ks (pc + 3) lv st cs fn) : Gn g zs own nm cc n d ib kc ks pc lv (.int y :: .int x :: st) cs fn := by
  intro p e s m args below meth c H locs ls R cells slots Q X hR hP hS hl hq
  exact lv_icmp_ge X.1.1 X.1.2.1 hd ht (fun h2 => absurd h2 h) (fun _ => k p e s m args below meth c H locs ls R cells slots Q X hR hP hS hl hq)
theorem n_icmp_lt_t {x y : Int32} {off : Int} {tgt : Nat} (hd : decode cc pc = .ok (.if_icmp .lt off, 3)) (ht : (pc : Int) + off = (tgt : Int)) (h : x < y) (k : Gn g zs own nm cc n d ib kc ks tgt lv st cs fn) : Gn g zs own nm cc n d ib kc ks pc lv (.int y :: .int x :: st) cs fn := by
  intro p e s m args below meth c H locs ls R cells slots Q X hR hP hS hl hq
  exact lv_icmp_lt X.1.1 X.1.2.1 hd ht (fun _ => k p e s m args below meth c H locs ls R cells slots Q X hR hP hS hl hq) (fun h2 => absurd h h2)
theorem n_icmp_lt_f {x y : Int32} {off : Int} {tgt : Nat} (hd : decode cc pc = .ok (.if_icmp .lt off, 3)) (ht : (pc : Int) + off = (tgt : Int)) (h : ¬ x < y) (k : Gn g zs own nm cc n d ib kc ks (pc + 3) lv st cs fn) : Gn g zs own nm cc n d ib kc ks pc lv (.int y :: .int x :: st) cs fn := by
  intro p e s m args below meth c H locs ls R cells slots Q X hR hP hS hl hq
  exact lv_icmp_lt X.1.1 X.1.2.1 hd ht (fun h2 => absurd h2 h) (fun _ => k p e s m args below meth c H locs ls R cells slots Q X hR hP hS hl hq)
theorem n_icmp_ne_t {x y : Int32} {off : Int} {tgt : Nat} (hd : decode cc pc = .ok (.if_icmp .ne off, 3)) (ht : (pc : Int) + off = (tgt : Int)) (h : ¬ x = y) (k : Gn g zs own nm cc n d ib kc ks tgt lv st cs fn) : Gn g zs own nm cc n d ib kc ks pc lv (.int y :: .int x :: st) cs fn := by
  intro p e s m args below meth c H locs ls R cells slots Q X hR hP hS hl hq
  exact lv_icmp_ne X.1.1 X.1.2.1 hd ht (fun _ => k p e s m args below meth c H locs ls R cells slots Q X hR hP hS hl hq) (fun h2 => absurd h2 h)
theorem n_icmp_ne_f {x y : Int32} {off : Int} {tgt : Nat} (hd : decode cc pc = .ok (.if_icmp .ne off, 3)) (ht : (pc : Int) + off = (tgt : Int)) (h : x = y) (k : Gn g zs own nm cc n d ib kc ks (pc + 3) lv st cs fn) : Gn g zs own nm cc n d ib kc ks pc lv (.int y :: .int x :: st) cs fn := by
  intro p e s m args below meth c H locs ls R cells slots Q X hR hP hS hl hq
  exact lv_icmp_ne X.1.1 X.1.2.1 hd ht (fun h2 => absurd h h2) (fun _ => k p e s m args below meth c H locs ls R cells slots Q X hR hP hS hl hq)
theorem n_if_eq_t {x : Int32} {off : Int} {tgt : Nat} (hd : decode cc pc = .ok (.ifCond .eq off, 3)) (ht : (pc : Int) + off = (tgt : Int)) (h : x = 0) (k : Gn g zs own nm cc n d ib kc ks tgt lv st cs fn) : Gn g zs own nm cc n d ib kc ks pc lv (.int x :: st) cs fn := by
  intro p e s m args below meth c H locs ls R cells slots Q X hR hP hS hl hq
  exact lv_if_eq X.1.1 X.1.2.1 hd ht (fun _ => k p e s m args below meth c H locs ls R cells slots Q X hR hP hS hl hq) (fun h2 => absurd h h2)
theorem n_if_eq_f {x : Int32} {off : Int} {tgt : Nat} (hd : decode cc pc = .ok (.ifCond .eq off, 3)) (ht : (pc : Int) + off = (tgt : Int)) (h : ¬ x = 0) (k : Gn g zs own nm cc n d ib kc ks (pc + 3) lv st cs fn) : Gn g zs own nm cc n d ib kc ks pc lv (.int x :: st) cs fn := by
  intro p e s m args below meth c H locs ls R cells slots Q X hR hP hS hl hq
  exact lv_if_eq X.1.1 X.1.2.1 hd ht (fun h2 => absurd h2 h) (fun _ => k p e s m args below meth c H locs ls R cells slots Q X hR hP hS hl hq)
theorem n_if_ne_t {x : Int32} {off : Int} {tgt : Nat} (hd : decode cc pc = .ok (.ifCond .ne off, 3)) (ht : (pc : Int) + off = (tgt : Int)) (h : ¬ x = 0) (k : Gn g zs own nm cc n d ib kc ks tgt lv st cs fn) : Gn g zs own nm cc n d ib kc ks pc lv (.int x :: st) cs fn := by
  intro p e s m args below meth c H locs ls R cells slots Q X hR hP hS hl hq
  exact lv_if_ne X.1.1 X.1.2.1 hd ht (fun _ => k p e s m args below meth c H locs ls R cells slots Q X hR hP hS hl hq) (fun h2 => absurd h2 h)
theorem n_if_ne_f {x : Int32} {off : Int} {tgt : Nat} (hd : decode cc pc = .ok (.ifCond .ne off, 3)) (ht : (pc : Int) + off = (tgt : Int)) (h : x = 0) (k : Gn g zs own nm cc n d ib kc ks (pc + 3) lv st cs fn) : Gn g zs own nm cc n d ib kc ks pc lv (.int x :: st) cs fn := by
  intro p e s m args below meth c H locs ls R cells slots Q X hR hP hS hl hq
  exact lv_if_ne X.1.1 X.1.2.1 hd ht (fun h2 => absurd h h2) (fun _ => k p e s m args below meth c H locs ls R cells slots Q X hR hP hS hl hq)
theorem n_if_lt_t {x : Int32} {off : Int} {tgt : Nat} (hd : decode cc pc = .ok (.ifCond .lt off, 3)) (ht : (pc : Int) + off = (tgt : Int)) (h : x < 0) (k : Gn g zs own nm cc n d ib kc ks tgt lv st cs fn) : Gn g zs own nm cc n d ib kc ks pc lv (.int x :: st) cs fn := by
  intro p e s m args below meth c H locs ls R cells slots Q X hR hP hS hl hq
  exact lv_if_lt X.1.1 X.1.2.1 hd ht (fun _ => k p e s m args below meth c H locs ls R cells slots Q X hR hP hS hl hq) (fun h2 => absurd h h2)
theorem n_if_lt_f {x : Int32} {off : Int} {tgt : Nat} (hd : decode cc pc = .ok (.ifCond .lt off, 3)) (ht : (pc : Int) + off = (tgt : Int)) (h : ¬ x < 0) (k : Gn g zs own nm cc n d ib kc ks (pc + 3) lv st cs fn) : Gn g zs own nm cc n d ib kc ks pc lv (.int x :: st) cs fn := by
  intro p e s m args below meth c H locs ls R cells slots Q X hR hP hS hl hq
  exact lv_if_lt X.1.1 X.1.2.1 hd ht (fun h2 => absurd h2 h) (fun _ => k p e s m args below meth c H locs ls R cells slots Q X hR hP hS hl hq)
theorem n_obj {idx a : Nat} (hl0 : Cond.methodLink own idx objectInit ∈ lw_good ∧ Cond.instanceMethod objectInit ∈ lw_good ∧ Cond.code objectInit ⟨#[0xb1]⟩ 1 none ∈ lw_good) (hdd : 1 ≤ d) (hs : (st.map fun v => v.category).sum ≤ 8) (hd : decode cc pc = .ok (.invokespecial idx, 3)) (k : Gn g zs own nm cc n d ib kc ks (pc + 3) lv st cs fn) : Gn g zs own nm cc n d ib kc ks pc lv (.ref a :: st) cs fn := by
  intro p e s m args below meth c H locs ls R cells slots Q X hR hP hS hl hq
  have ht := X.1.2.2.2.2.1
  have hq8 := lv_room (m := m) (pc := pc) (ls := ls) (rest := .ref a :: st) hs
  exact W.objInit X.1.1 X.1.2.1 X.1.2.2.2.1 (ht _ hl0.1) (ht _ hl0.2.1) (ht _ hl0.2.2) (g := F0 m pc ls (.ref a :: st)) rfl (hl.1.trans X.1.2.2.1.symm) rfl hd (by omega) (by omega) (k p e s m args below meth c H locs ls R cells slots Q X hR hP hS hl hq)
theorem n_get {idx ci k q j : Nat} {t : FieldType} {fin : Bool} {v : Value} {fs : List Value} (F : Fl own idx ci k t fin) (hj : ib + q = j) (he : cs[q]? = some (.inr (ci, fs))) (hv : fs[k]? = some v) (hd : decode cc pc = .ok (.getfield idx, 3)) (kk : Gn g zs own nm cc n d ib kc ks (pc + 3) lv (v :: st) cs fn) : Gn g zs own nm cc n d ib kc ks pc lv (.ref (gb g + j) :: st) cs fn := by
  intro p e s m args below meth c H locs ls R cells slots Q X hR hP hS hl hq
  obtain ⟨C, T, N, ty, h1, h2, h3, h4, h5, h6, h7, h8, h9⟩ := F
  have hat := LB_at (b := gb g + ib) he
  rw [show gb g + ib + q = gb g + j by omega] at hat
  exact va_get (v := v) X.1.1 X.1.2.1 X.1.2.2.2.2.1 h2 X.1.2.2.2.1 X.1.2.2.2.2.2.1 hP.1 q hat h1 k h5 (X.1.2.2.2.2.1 _ h9) (fun _ h => h) hv hd (kk p e s m args below meth c H locs ls R cells slots Q X hR hP hS hl hq)
theorem n_put {idx ci k q j : Nat} {t : FieldType} {v : Value} {fs : List Value} (F : Fl own idx ci k t false) (hj : ib + q = j) (he : cs[q]? = some (.inr (ci, fs))) (hn : narrow t v = v) (hf : fits t v = true) (hlen : k < fs.length) (hd : decode cc pc = .ok (.putfield idx, 3)) (kk : Gn g zs own nm cc n d ib kc ks (pc + 3) lv st (cs.set q (.inr (ci, fs.set k v))) fn) : Gn g zs own nm cc n d ib kc ks pc lv (v :: .ref (gb g + j) :: st) cs fn := by
  intro p e s m args below meth c H locs ls R cells slots Q X hR hP hS hl hq
  obtain ⟨C, T, N, ty, h1, h2, h3, h4, h5, h6, h7, h8, h9⟩ := F
  have hat := LB_at (b := gb g + ib) he
  have ej : gb g + ib + q = gb g + j := by omega
  rw [← ej]
  have hts := X.1.2.2.2.2.1
  have hK := X.1.2.2.2.2.2.1
  have hap := va_apart (own := own) hts h2 ty h3 h4 hK h1
  obtain ⟨r, hr1, cell, q1, q2, q3, q4⟩ := hP.1 q _ hat
  have hr : r = (C, T, N) := Option.some.inj (hr1.symm.trans h1)
  subst hr
  obtain ⟨hSl, hfc, kC, hkC, hkind⟩ := hK.1 ci _ h1
  obtain ⟨cf, kf, fi, f, hi, hsl⟩ := hSl k h5
  have hlay := hts _ (h2 _ (u_in_lay h5))
  unfold u_lay at hlay
  rw [if_neg (by rw [h7]; decide)] at hlay
  have hst := (u_facts hfc hkC (u_lays hts h2 h5) hi).1
  have h6b := u_store hfc hkC hkind hlay hi (h3 k h5) (v := v) (by rw [h6]; exact hn) (by rw [h6]; exact hf)
  refine W.putK X.1.1 X.1.2.1 (f := f) ⟨X.1.2.2.2.1, hts _ h9, ⟨_, _, _, hi⟩, hst⟩ (by rw [q2]; exact h6b) q1 q3 (by rw [hsl]; exact k2_hasslot (q4 k h5)) rfl rfl hd fun H' e1 e2 e3 => ?_
  rw [hsl] at e1 ⊢
  have hP1 := hP.1.set (LB_D (gb g + ib) cs) (e := .inr (ci, fs.set k v)) hat ⟨_, h1, t_OB.to (V := updV (vp_V fs) k v) ⟨_, e1, q2, q3, t_set q4 hap h5 v⟩ (fun j _ => vp_updV_set hlen v j)⟩ e3
  rw [LB_set] at hP1
  exact kk p e s m args below meth c H' _ ls R cells slots Q X hR ⟨hP1, by rw [e2, hP.2, List.length_set]⟩ (hS.put e2 e3 ((LB_D (gb g + ib) cs).2 q _ hat)) hl hq
/-- the class that declares a field -/
def FdC (own : String) (ci k : Nat) : Prop := ∃ (C : String) (T : u_T) (N : Nat), vwCl[ci]? = some (C, T, N) ∧ (T k).1 = own
theorem n_putF {idx ci k q j : Nat} {t : FieldType} {v : Value} {fs : List Value} (F : Fl own idx ci k t true) (D : FdC own ci k) (hnm : nm = "<init>") (hj : ib + q = j) (he : cs[q]? = some (.inr (ci, fs))) (hn : narrow t v = v) (hf : fits t v = true) (hlen : k < fs.length) (hd : decode cc pc = .ok (.putfield idx, 3)) (kk : Gn g zs own nm cc n d ib kc ks (pc + 3) lv st (cs.set q (.inr (ci, fs.set k v))) fn) : Gn g zs own nm cc n d ib kc ks pc lv (v :: .ref (gb g + j) :: st) cs fn := by
  intro p e s m args below meth c H locs ls R cells slots Q X hR hP hS hl hq
  obtain ⟨C, T, N, ty, h1, h2, h3, h4, h5, h6, h7, h8, h9⟩ := F
  obtain ⟨C2, T2, N2, hD1, hdecl⟩ := D
  cases h1.symm.trans hD1
  have hat := LB_at (b := gb g + ib) he
  have ej : gb g + ib + q = gb g + j := by omega
  rw [← ej]
  have hts := X.1.2.2.2.2.1
  have hK := X.1.2.2.2.2.2.1
  have hown := X.1.2.2.2.1
  have hap := va_apart (own := own) hts h2 ty h3 h4 hK h1
  obtain ⟨r, hr1, cell, q1, q2, q3, q4⟩ := hP.1 q _ hat
  have hr : r = (C, T, N) := Option.some.inj (hr1.symm.trans h1)
  subst hr
  obtain ⟨hSl, hfc, kC, hkC, hkind⟩ := hK.1 ci _ h1
  obtain ⟨cf, kf, fi, f, hi, hsl⟩ := hSl k h5
  have hlay := hts _ (h2 _ (u_in_lay h5))
  unfold u_lay at hlay
  rw [if_pos h7] at hlay
  have hst := (u_facts hfc hkC (u_lays hts h2 h5) hi).1
  have hcf : m.cls = cf := by
    obtain ⟨_, _, c', _, _, _, -, -, hf', -, -, -, hown2, -⟩ := Cond.laysFinal_spec hlay
    have e1 : c' = cf := by have := hi.symm.trans hf'; simp at this; exact this.1.symm
    rw [hdecl] at hown2
    rw [← e1]; exact Option.some.inj (hown.symm.trans hown2)
  have h6b := u_fits hfc hkC hkind (Or.inr hlay) hi (h3 k h5) (v := v) (by rw [h6]; exact hn) (by rw [h6]; exact hf)
  refine W.putFinK X.1.1 X.1.2.1 hown (hts _ h9) hi hst hcf (X.2.2.1.trans hnm) (by rw [q2]; exact h6b) q1 q3 (by rw [hsl]; exact k2_hasslot (q4 k h5)) rfl rfl hd fun H' e1 e2 e3 => ?_
  rw [hsl] at e1 ⊢
  have hP1 := hP.1.set (LB_D (gb g + ib) cs) (e := .inr (ci, fs.set k v)) hat ⟨_, h1, t_OB.to (V := updV (vp_V fs) k v) ⟨_, e1, q2, q3, t_set q4 hap h5 v⟩ (fun j _ => vp_updV_set hlen v j)⟩ e3
  rw [LB_set] at hP1
  exact kk p e s m args below meth c H' _ ls R cells slots Q X hR ⟨hP1, by rw [e2, hP.2, List.length_set]⟩ (hS.put e2 e3 ((LB_D (gb g + ib) cs).2 q _ hat)) hl hq
/-- 'new' of a class -/
def Nw (own : String) (idx ci N : Nat) (fs : List Value) : Prop := ∃ (C : String) (T : u_T) (ty : Nat → FieldType), vwCl[ci]? = some (C, T, N) ∧ (∀ w ∈ u_ws C T N, w ∈ lw_good) ∧ (∀ j, j < N → parseFieldDescriptor (T j).2.2.1 = some (ty j)) ∧ Cond.classLink own idx C ∈ lw_good ∧ Cond.instantiable C N ∈ lw_good ∧ Cond.initialized C ∈ lw_good ∧ ∀ j, j < N → defaultValue (ty j) = vp_V fs j
theorem n_new {idx ci N j : Nat} {fs : List Value} (F : Nw own idx ci N fs) (hj : ib + cs.length = j) (hd : decode cc pc = .ok (.new idx, 3)) (kk : Gn g zs own nm cc n d ib kc ks (pc + 3) lv (.ref (gb g + j) :: st) (cs ++ [.inr (ci, fs)]) fn) : Gn g zs own nm cc n d ib (kc + 1) (ks + N) pc lv st cs fn := by
  intro p e s m args below meth c H locs ls R cells slots Q X hR hP hS hl hq
  obtain ⟨C, T, ty, h1, h2, h3, w1, w2, w3, h4⟩ := F
  have hts := X.1.2.2.2.2.1
  have hK := X.1.2.2.2.2.2.1
  have hKn := hK.1 ci _ h1
  have ej : H.size = gb g + j := by have := hP.2; omega
  refine W.newcK X.1.1 X.1.2.1 X.1.2.2.2.1 (hts _ w1) (hts _ w2) (hts _ w3) rfl hd (by omega) (by omega) hKn.2.1 rfl fun H1 kC hkC e1 z1 o1 => ?_
  have hg : GP g ib (cs ++ [.inr (ci, fs)]) H1 := hP.grow (xs := [.inr (ci, fs)]) z1 o1 (fun k x hx => by
    have hz : k < 1 := (List.getElem?_eq_some_iff.mp hx).1
    rw [show k = 0 by omega] at hx ⊢
    cases hx
    rw [show gb g + ib + cs.length + 0 = H.size by have := hP.2; omega]
    exact ⟨_, h1, (u_born ty hts h2 hKn hkC e1 h3).to h4⟩)
  have hk := kk p e s m args below meth c H1 locs ls R (cells + 1) (slots + N) Q X ⟨hR.1, hR.2.1, by omega, by omega⟩ hg ⟨Nat.le_trans hS.1 (by omega), fun x g1 g2 => (o1 x (Nat.lt_of_lt_of_le g1 hS.1)).trans (hS.2.1 x g1 g2), hS.2.2⟩ hl (fun H' locs' ls' a1 a2 a3 => by
    have h9 := hq H' locs' ls' a1 a2 a3
    rw [show cells + (kc + 1) = cells + 1 + kc by omega, show slots + (ks + N) = slots + N + ks by omega] at h9
    exact h9)
  rw [← ej] at hk
  exact hk
theorem n_newa {atype : ArrayType} {ty : FieldType} {t0 : Nat} {cA0 : ClassId} {x : Int32} {N j : Nat} {a0 : vp_A} (hty : newarray.typeOf atype = ty) (hw : Cond.arrayClass ty ∈ lw_good) (hk : (gty g)[t0]? = some (cA0, ty)) (hRA : ∀ (U : State) (cA : ClassId), va_RA U cA ty → U.vm.findClass ("[" ++ ty.toString) = some cA) (ha : ∀ cA : ClassId, vp_cell cA a0 = arrV cA N (fun _ => defaultValue ty)) (hn : ¬ x < 0) (hN : x.toNatClampNeg = N) (hb : N * componentBytes ty ≤ 536870912) (hj : ib + cs.length = j) (hd : decode cc pc = .ok (.newarray atype, 2)) (kk : Gn g zs own nm cc n d ib kc ks (pc + 2) lv (.ref (gb g + j) :: st) (cs ++ [.inl (cA0, a0)]) fn) : Gn g zs own nm cc n d ib (kc + 1) (ks + N) pc lv (.int x :: st) cs fn := by
  intro p e s m args below meth c H locs ls R cells slots Q X hR hP hS hl hq
  have hts := X.1.2.2.2.2.1
  have hK := X.1.2.2.2.2.2.1
  have ej : H.size = gb g + j := by have := hP.2; omega
  subst hty
  refine va_newaK X.1.1 X.1.2.1 (hts _ hw) (g := F0 m pc ls (.int x :: st)) rfl hd rfl hn hN hb (by omega) (by omega) rfl fun H1 cA e1 z1 o1 hAr hNm => ?_
  have hc : cA0 = cA := Option.some.inj ((hRA s cA0 (hK.2 t0 _ hk).2).symm.trans hNm)
  subst hc
  have hg : GP g ib (cs ++ [.inl (cA0, a0)]) H1 := hP.grow (xs := [.inl (cA0, a0)]) z1 o1 (fun k y hx => by
    have hz : k < 1 := (List.getElem?_eq_some_iff.mp hx).1
    rw [show k = 0 by omega] at hx ⊢
    cases hx
    rw [show gb g + ib + cs.length + 0 = H.size by have := hP.2; omega]
    show H1[H.size]? = some (vp_cell _ _)
    rw [ha]
    exact e1)
  have hk2 := kk p e s m args below meth c H1 locs ls R (cells + 1) (slots + N) Q X ⟨hR.1, hR.2.1, by omega, by omega⟩ hg ⟨Nat.le_trans hS.1 (by omega), fun x g1 g2 => (o1 x (Nat.lt_of_lt_of_le g1 hS.1)).trans (hS.2.1 x g1 g2), hS.2.2⟩ hl (fun H' locs' ls' a1 a2 a3 => by
    have h9 := hq H' locs' ls' a1 a2 a3
    rw [show cells + (kc + 1) = cells + 1 + kc by omega, show slots + (ks + N) = slots + N + ks by omega] at h9
    exact h9)
  rw [← ej] at hk2
  exact hk2
theorem n_newI {x : Int32} {N j : Nat} (hn : ¬ x < 0) (hN : x.toNatClampNeg = N) (hb : N * componentBytes .int ≤ 536870912) (hj : ib + cs.length = j) (hw : Cond.arrayClass .int ∈ lw_good) (hd : decode cc pc = .ok (.newarray .int, 2)) (kk : Gn g zs own nm cc n d ib kc ks (pc + 2) lv (.ref (gb g + j) :: st) (cs ++ [.inl (gc g 0, N, .inl (fun _ => 0))]) fn) : Gn g zs own nm cc n d ib (kc + 1) (ks + N) pc lv (.int x :: st) cs fn :=
  n_newa (ty := .int) (t0 := 0) rfl hw rfl (fun _ _ h => h) (fun _ => rfl) hn hN hb hj hd kk
theorem n_newL {x : Int32} {N j : Nat} (hn : ¬ x < 0) (hN : x.toNatClampNeg = N) (hb : N * componentBytes .long ≤ 536870912) (hj : ib + cs.length = j) (hw : Cond.arrayClass .long ∈ lw_good) (hd : decode cc pc = .ok (.newarray .long, 2)) (kk : Gn g zs own nm cc n d ib kc ks (pc + 2) lv (.ref (gb g + j) :: st) (cs ++ [.inl (gc g 1, N, .inr (.inl (fun _ => 0)))]) fn) : Gn g zs own nm cc n d ib (kc + 1) (ks + N) pc lv (.int x :: st) cs fn :=
  n_newa (ty := .long) (t0 := 1) rfl hw rfl (fun _ _ h => h) (fun _ => rfl) hn hN hb hj hd kk
theorem n_newB {x : Int32} {N j : Nat} (hn : ¬ x < 0) (hN : x.toNatClampNeg = N) (hb : N * componentBytes .byte ≤ 536870912) (hj : ib + cs.length = j) (hw : Cond.arrayClass .byte ∈ lw_good) (hd : decode cc pc = .ok (.newarray .byte, 2)) (kk : Gn g zs own nm cc n d ib kc ks (pc + 2) lv (.ref (gb g + j) :: st) (cs ++ [.inl (gc g 2, N, .inl (fun _ => 0))]) fn) : Gn g zs own nm cc n d ib (kc + 1) (ks + N) pc lv (.int x :: st) cs fn :=
  n_newa (ty := .byte) (t0 := 2) rfl hw rfl (fun _ _ h => h) (fun _ => rfl) hn hN hb hj hd kk
theorem n_newq {C : String} {t0 idx : Nat} {cA0 : ClassId} {x : Int32} {N j : Nat} (hw : Cond.classLink own idx C ∈ lw_good) (hO : ∀ U : State, va_AO RX0 U ∧ va_AO RX5 U → va_AO C U) (hk : (gty g)[t0]? = some (cA0, .object C)) (hn : ¬ x < 0) (hN : x.toNatClampNeg = N) (hb : N * 4 ≤ 536870912) (hj : ib + cs.length = j) (hd : decode cc pc = .ok (.anewarray idx, 3)) (kk : Gn g zs own nm cc n d ib kc ks (pc + 3) lv (.ref (gb g + j) :: st) (cs ++ [.inl (cA0, N, .inr (.inr (.inr (.inr (fun _ => none)))))]) fn) : Gn g zs own nm cc n d ib (kc + 1) (ks + N) pc lv (.int x :: st) cs fn := by
  intro p e s m args below meth c H locs ls R cells slots Q X hR hP hS hl hq
  have hts := X.1.2.2.2.2.1
  have hK := X.1.2.2.2.2.2.1
  have ej : H.size = gb g + j := by have := hP.2; omega
  subst hN
  refine W.anew X.1.1 X.1.2.1 X.1.2.2.2.1 (hts _ hw) (va_AO.use (hO s ⟨X.2.1.1.1, X.2.1.1.2.1⟩)) (g := F0 m pc ls (.int x :: st)) rfl hd rfl hn hb (by omega) (by omega) fun cA kA comp f1 f2 f3 f4 => ?_
  generalize hH1 : H.push ({ cls := cA, slots := Array.replicate x.toNatClampNeg .null, vm := .none } : Cell) = H1
  have z1 : H1.size = H.size + 1 := by rw [← hH1, Array.size_push]
  have e1 : H1[H.size]? = some (arrV cA x.toNatClampNeg (fun _ => .null)) := by rw [← hH1, Array.getElem?_push_size, ← arrV_new]
  have o1 : ∀ q : Nat, q < H.size → H1[q]? = H[q]? := fun q hq => by rw [← hH1, Array.getElem?_push, if_neg (Nat.ne_of_lt hq)]
  obtain ⟨_, _, _, _, _, r4⟩ := (hK.2 t0 _ hk).2
  have hc : cA0 = cA := Option.some.inj (r4.symm.trans f1)
  subst hc
  have hg : GP g ib (cs ++ [.inl (cA0, x.toNatClampNeg, .inr (.inr (.inr (.inr (fun _ => none)))))]) H1 := hP.grow (xs := [.inl (cA0, x.toNatClampNeg, .inr (.inr (.inr (.inr (fun _ => none)))))]) z1 o1 (fun k y hx => by
    have hz : k < 1 := (List.getElem?_eq_some_iff.mp hx).1
    rw [show k = 0 by omega] at hx ⊢
    cases hx
    rw [show gb g + ib + cs.length + 0 = H.size by have := hP.2; omega]
    show H1[H.size]? = some (vp_cell _ _)
    rw [vp_cell_q]
    exact e1)
  have hk2 := kk p e s m args below meth c H1 locs ls R (cells + 1) (slots + x.toNatClampNeg) Q X ⟨hR.1, hR.2.1, by omega, by omega⟩ hg ⟨Nat.le_trans hS.1 (by omega), fun x g1 g2 => (o1 x (Nat.lt_of_lt_of_le g1 hS.1)).trans (hS.2.1 x g1 g2), hS.2.2⟩ hl (fun H' locs' ls' a1 a2 a3 => by
    have h9 := hq H' locs' ls' a1 a2 a3
    rw [show cells + (kc + 1) = cells + 1 + kc by omega, show slots + (ks + x.toNatClampNeg) = slots + x.toNatClampNeg + ks by omega] at h9
    exact h9)
  rw [← ej] at hk2
  exact hk2
/-- new T[N][K] -/
theorem n_mna {ty : FieldType} {idx tA tB : Nat} {cA0 cB0 : ClassId} {x y : Int32} {N K j : Nat} {a0 : vp_A} (hw : Cond.classLink own idx ("[" ++ (FieldType.array ty).toString) ∈ lw_good) (hO : ∀ U : State, AOA .int U ∧ AOA .long U → AOA ty U) (hw2 : Cond.arrayClass ty ∈ lw_good) (hkA : (gty g)[tA]? = some (cA0, .array ty)) (hkB : (gty g)[tB]? = some (cB0, ty)) (hRA : ∀ (U : State) (cA : ClassId), va_RA U cA ty → U.vm.findClass (FieldType.array ty).toString = some cA) (ha : ∀ cA : ClassId, vp_cell cA a0 = arrV cA K (fun _ => defaultValue ty)) (hn : ¬ x < 0) (hn0 : ¬ x = 0) (hN : x.toNatClampNeg = N) (hn2 : ¬ y < 0) (hK2 : y.toNatClampNeg = K) (hb1 : N * 4 ≤ 536870912) (hb2 : K * componentBytes ty ≤ 536870912) (hb3 : K ≤ 536870912) (hdf : fits ty (defaultValue ty) = true) (hj : ib + cs.length = j) (hd : decode cc pc = .ok (.multianewarray idx 2, 4)) (kk : Gn g zs own nm cc n d ib kc ks (pc + 4) lv (.ref (gb g + j) :: st) (cs ++ (.inl (cA0, N, .inr (.inr (.inr (.inr (fun q => if q < N then some (gb g + j + 1 + q) else none))))) :: List.replicate N (.inl (cB0, a0)))) fn) : Gn g zs own nm cc n d ib (kc + (1 + N)) (ks + (N + N * K)) pc lv (.int y :: .int x :: st) cs fn := by
  intro p e s m args below meth c H locs ls R cells slots Q X hR hP hS hl hq
  have hts := X.1.2.2.2.2.1
  have hK := X.1.2.2.2.2.2.1
  have ej : H.size = gb g + j := by have := hP.2; omega
  refine mn_rule2 X.1.1 X.1.2.1 X.1.2.2.2.1 (hts _ hw) (hO s ⟨X.2.1.1.2.2.1, X.2.1.1.2.2.2⟩) (hts _ hw2) hn hn0 hn2 hN hK2 hb1 hb2 hb3 hdf (by omega) (by omega) hd fun H1 L cA cB hL f1 f2 z1 o1 e1 e2 => ?_
  have hcA : cA0 = cA := Option.some.inj ((show s.vm.findClass ("[" ++ (FieldType.array ty).toString) = some cA0 from (hK.2 tA _ hkA).2).symm.trans f1)
  have hcB : cB0 = cB := Option.some.inj ((hRA s cB0 (hK.2 tB _ hkB).2).symm.trans f2)
  subst hcA
  subst hcB
  have hg : GP g ib (cs ++ (.inl (cA0, N, .inr (.inr (.inr (.inr (fun q => if q < N then some (gb g + j + 1 + q) else none))))) :: List.replicate N (.inl (cB0, a0)))) H1 := hP.grow (by rw [List.length_cons, List.length_replicate]; omega) o1 (fun k u hx => by
    rw [show gb g + ib + cs.length + k = H.size + k by have := hP.2; omega]
    cases k with
    | zero =>
      cases hx
      show H1[H.size]? = some (vp_cell _ _)
      rw [vp_cell_q, e1, ej]
    | succ k =>
      rw [List.getElem?_cons_succ] at hx
      have hk : k < N := by
        have := (List.getElem?_eq_some_iff.mp hx).1
        rwa [List.length_replicate] at this
      rw [List.getElem?_replicate, if_pos hk] at hx
      cases hx
      show H1[H.size + (k + 1)]? = some (vp_cell _ _)
      rw [ha, show H.size + (k + 1) = H.size + 1 + k by omega]
      exact e2 k hk)
  have hk2 := kk p e s m args below meth c H1 (locs ++ L) ls R (cells + 1 + N) (slots + N + N * K) Q X ⟨hR.1, hR.2.1, by omega, by omega⟩ hg ⟨Nat.le_trans hS.1 (by omega), fun x g1 g2 => (o1 x (Nat.lt_of_lt_of_le g1 hS.1)).trans (hS.2.1 x g1 g2), fun l hl => by
      rcases List.mem_append.mp hl with z | z
      · exact hS.2.2 l z
      · rw [hL l z]
        show gb g + ib ≤ H.size
        omega⟩ hl (fun H' locs' ls' a1 a2 a3 => by
    have h9 := hq H' locs' ls' a1 a2 a3
    rw [show cells + (kc + (1 + N)) = cells + 1 + N + kc by omega, show slots + (ks + (N + N * K)) = slots + N + N * K + ks by omega] at h9
    exact h9)
  rw [← ej] at hk2
  exact hk2
theorem n_iast {q j N : Nat} {f : Nat → Int32} {x v : Int32} (hj : ib + q = j) (he : cs[q]? = some (.inl (gc g 0, N, .inl f))) (hin : vp_in x N) (hd : decode cc pc = .ok (.iastore, 1)) (kk : Gn g zs own nm cc n d ib kc ks (pc + 1) lv st (cs.set q (.inl (gc g 0, N, .inl (upd f x.toNatClampNeg v)))) fn) : Gn g zs own nm cc n d ib kc ks pc lv (.int v :: .int x :: .ref (gb g + j) :: st) cs fn := by
  intro p e s m args below meth c H locs ls R cells slots Q X hR hP hS hl hq
  have hK := X.1.2.2.2.2.2.1
  have hat := LB_at (b := gb g + ib) he
  have ej : gb g + ib + q = gb g + j := by omega
  rw [← ej]
  refine W.iast X.1.1 X.1.2.1 (hP.1 q _ hat) ((hK.2 0 (gc g 0, .int) rfl).1 N (fun j => .int (f j))) (fun q => by cases q) (by show ¬ (x < 0 ∨ (arrV _ _ _).slots.size ≤ _); rw [arrV_size]; exact hin) rfl rfl hd fun H1 e1 z1 oq => ?_
  have hP1 := hP.1.set (LB_D (gb g + ib) cs) hat (show va_at (gD g) vwCl (gb g + ib + q, .inl (gc g 0, N, .inl (upd f x.toNatClampNeg v))) H1 by
    show H1[gb g + ib + q]? = some (vp_cell _ _)
    rw [e1]
    rw [vp_cell_i, vp_cell_i, arrV_store]
    congr 2
    funext w
    by_cases hw : w = x.toNatClampNeg
    · subst hw
      simp [updV, upd]
    · simp [updV, upd, hw]) oq
  rw [LB_set] at hP1
  exact kk p e s m args below meth c H1 _ ls R cells slots Q X hR ⟨hP1, by rw [z1, hP.2, List.length_set]⟩ (hS.put z1 oq ((LB_D (gb g + ib) cs).2 q _ hat)) hl hq
theorem n_last {q j N : Nat} {f : Nat → Int64} {x : Int32} {v : Int64} (hj : ib + q = j) (he : cs[q]? = some (.inl (gc g 1, N, .inr (.inl f)))) (hin : vp_in x N) (hd : decode cc pc = .ok (.lastore, 1)) (kk : Gn g zs own nm cc n d ib kc ks (pc + 1) lv st (cs.set q (.inl (gc g 1, N, .inr (.inl (vp_updL f x.toNatClampNeg v))))) fn) : Gn g zs own nm cc n d ib kc ks pc lv (.long v :: .int x :: .ref (gb g + j) :: st) cs fn := by
  intro p e s m args below meth c H locs ls R cells slots Q X hR hP hS hl hq
  have hK := X.1.2.2.2.2.2.1
  have hat := LB_at (b := gb g + ib) he
  have ej : gb g + ib + q = gb g + j := by omega
  rw [← ej]
  refine W.last X.1.1 X.1.2.1 (hP.1 q _ hat) ((hK.2 1 (gc g 1, .long) rfl).1 N (fun j => .long (f j))) (fun q => by cases q) (by show ¬ (x < 0 ∨ (arrV _ _ _).slots.size ≤ _); rw [arrV_size]; exact hin) rfl rfl hd fun H1 e1 z1 oq => ?_
  have hP1 := hP.1.set (LB_D (gb g + ib) cs) hat (show va_at (gD g) vwCl (gb g + ib + q, .inl (gc g 1, N, .inr (.inl (vp_updL f x.toNatClampNeg v)))) H1 by
    show H1[gb g + ib + q]? = some (vp_cell _ _)
    rw [e1]
    rw [vp_cell_l, vp_cell_l, arrV_store]
    congr 2
    funext w
    by_cases hw : w = x.toNatClampNeg
    · subst hw
      simp [updV, vp_updL]
    · simp [updV, vp_updL, hw]) oq
  rw [LB_set] at hP1
  exact kk p e s m args below meth c H1 _ ls R cells slots Q X hR ⟨hP1, by rw [z1, hP.2, List.length_set]⟩ (hS.put z1 oq ((LB_D (gb g + ib) cs).2 q _ hat)) hl hq
theorem n_lald {q j N : Nat} {f : Nat → Int64} {x : Int32} (hj : ib + q = j) (he : cs[q]? = some (.inl (gc g 1, N, .inr (.inl f)))) (hin : vp_in x N) (hd : decode cc pc = .ok (.laload, 1)) (kk : Gn g zs own nm cc n d ib kc ks (pc + 1) lv (.long (f x.toNatClampNeg) :: st) cs fn) : Gn g zs own nm cc n d ib kc ks pc lv (.int x :: .ref (gb g + j) :: st) cs fn := by
  intro p e s m args below meth c H locs ls R cells slots Q X hR hP hS hl hq
  have hat := LB_at (b := gb g + ib) he
  rw [show gb g + ib + q = gb g + j by omega] at hat
  exact va_lald X.1.1 X.1.2.1 X.1.2.2.2.2.2.1 hP.1 q 1 hat rfl hin hd (kk p e s m args below meth c H locs ls R cells slots Q X hR hP hS hl hq)
theorem n_alen {q j t0 : Nat} {cA : ClassId} {x : vp_A} {ty : FieldType} {v : Int32} (hj : ib + q = j) (he : cs[q]? = some (.inl (cA, x))) (ht : (gty g)[t0]? = some (cA, ty)) (hv : Int32.ofNat x.1 = v) (hd : decode cc pc = .ok (.arraylength, 1)) (kk : Gn g zs own nm cc n d ib kc ks (pc + 1) lv (.int v :: st) cs fn) : Gn g zs own nm cc n d ib kc ks pc lv (.ref (gb g + j) :: st) cs fn := by
  intro p e s m args below meth c H locs ls R cells slots Q X hR hP hS hl hq
  have hat := LB_at (b := gb g + ib) he
  rw [show gb g + ib + q = gb g + j by omega] at hat
  exact va_alen X.1.1 X.1.2.1 X.1.2.2.2.2.2.1 hP.1 q t0 hat ht hv hd (kk p e s m args below meth c H locs ls R cells slots Q X hR hP hS hl hq)
theorem n_aast {q j t0 qk ci jv N : Nat} {cA : ClassId} {r : vw_C} {vs : List Value} {f : Nat → Option Nat} {x : Int32} (hj : ib + q = j) (he : cs[q]? = some (.inl (cA, N, .inr (.inr (.inr (.inr f)))))) (ht : (gty g)[t0]? = some (cA, .object r.1)) (hjv : ib + qk = jv) (hv : cs[qk]? = some (.inr (ci, vs))) (hc : vwCl[ci]? = some r) (hin : vp_in x N) (hd : decode cc pc = .ok (.aastore, 1)) (kk : Gn g zs own nm cc n d ib kc ks (pc + 1) lv st (cs.set q (.inl (cA, N, .inr (.inr (.inr (.inr (va_up f x.toNatClampNeg (some (gb g + jv)))))))))  fn) : Gn g zs own nm cc n d ib kc ks pc lv (.ref (gb g + jv) :: .int x :: .ref (gb g + j) :: st) cs fn := by
  intro p e s m args below meth c H locs ls R cells slots Q X hR hP hS hl hq
  have hK := X.1.2.2.2.2.2.1
  have hat := LB_at (b := gb g + ib) he
  have hav := LB_at (b := gb g + ib) hv
  have ej : gb g + ib + q = gb g + j := by omega
  rw [← ej]
  rw [show gb g + ib + qk = gb g + jv by omega] at hav
  have hlt : x.toNatClampNeg < N := Nat.not_le.mp fun q => hin (Or.inr q)
  have h0 : ¬ x < 0 := fun q => hin (Or.inl q)
  obtain ⟨r', hr', cellV, g1, g2, g3, -⟩ := hP.1 qk _ hav
  have hcls := (hK.1 ci r hc).2
  obtain ⟨kA, comp, k1, k2, k3, -⟩ := (hK.2 t0 _ ht).2
  have hcomp : comp = (gD g).1 ci := Option.some.inj (k3.symm.trans hcls.1)
  subst hcomp
  obtain ⟨kC, hkC, -⟩ := hcls.2
  refine W.aast X.1.1 X.1.2.1 (hP.1 q _ hat) (fun q h => by cases h) (fun h => by cases h) k1 k2 rfl hkC ⟨h0, by show _ < (arrV _ _ _).slots.size; rw [arrV_size]; exact hlt⟩ g1 (fun q h => by rw [g3] at h; cases h) (by rw [g2]; exact hkC) (by rw [g2]; exact va_assign hcls) rfl rfl hd fun H1 e1 z1 oq => ?_
  have hP1 := hP.1.set (LB_D (gb g + ib) cs) hat (show va_at (gD g) vwCl (gb g + ib + q, .inl (cA, N, .inr (.inr (.inr (.inr (va_up f x.toNatClampNeg (some (gb g + jv)))))))) H1 by
    show H1[gb g + ib + q]? = some (vp_cell _ _)
    rw [e1]
    rw [vp_cell_q, vp_cell_q, arrV_store]
    congr 2
    funext w
    by_cases hw : w = x.toNatClampNeg
    · subst hw
      simp [updV, va_up, va_rf]
    · simp [updV, va_up, hw]) oq
  rw [LB_set] at hP1
  exact kk p e s m args below meth c H1 _ ls R cells slots Q X hR ⟨hP1, by rw [z1, hP.2, List.length_set]⟩ (hS.put z1 oq ((LB_D (gb g + ib) cs).2 q _ hat)) hl hq

end GNR
