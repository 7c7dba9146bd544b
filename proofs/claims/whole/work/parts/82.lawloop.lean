/-! ===== the law's loop ===== -/
section LAWL
variable {sb sL : Nat} {sx : Nat → Int32} {g : GG} {F : Nat}
theorem and63 (x : Int32) : ∃ k, k < 64 ∧ x &&& (63 : Int32) = nI k := by
  refine ⟨(x.toBitVec &&& 63#32).toNat, ?_, ?_⟩
  · rw [BitVec.toNat_and]
    exact Nat.lt_of_le_of_lt Nat.and_le_right (by decide)
  · apply Int32.toBitVec_inj.mp
    show x.toBitVec &&& 63#32 = BitVec.ofNat 32 ((x.toBitVec &&& 63#32).toNat)
    rw [BitVec.ofNat_toNat, BitVec.setWidth_eq]
theorem law_1652 {i : Nat} {ξ : Mm} {o : Option Mm} (k : GL sb sL sx g 18 (i + 6) [] ξ o) : GL sb sL sx g 1652 i [] ξ o := by
  refine k_iinc dL_law_1652 0 rfl (v := nI (i + 6)) ?_ (by decide) (lv' := lvL sb g (i + 6)) rfl ?_
  · show nI i + (6 : Int32) = _
    exact addL
  · exact k_goto dL_law_1655 rfl k
theorem law_end {i : Nat} {μ : Mm} : GL sb sL sx g 1658 i [] μ (some μ) := by
  refine k_iconst (v := 1) dL_law_1658 rfl ?_
  exact k_ret dL_law_1659 rfl rfl
theorem law_sw (hF : 2000000 ≤ F) {i : Nat} {μ : Mm} (hR : R μ) (h31 : sL < 2147483648) (hi : i + 6 ≤ sL) {k : Nat} (hk : k < 64) : ∃ ξ, R ξ ∧ ∀ o, GL sb sL sx g 1652 i [] ξ o → GL sb sL sx g 33 i [.int (nI k)] μ o := by
  by_cases h52 : 52 < k
  · refine ⟨μ, hR, fun o K => k_tswOut dL_law_33 (Or.inr ?_) rfl K⟩
    rw [nI_ti (by omega)]
    omega
  by_cases z0 : k = 0
  · subst z0
    obtain ⟨ξ, a, b⟩ := law_0 (sb := sb) (sx := sx) (g := g) hF hR h31 hi
    exact ⟨ξ, a, fun o K => k_tswIn (nI 0) (off := 227) dL_law_33 rfl (by decide) (by decide) (by decide) (by decide) (b o K)⟩
  by_cases z1 : k = 1
  · subst z1
    obtain ⟨ξ, a, b⟩ := law_1 (sb := sb) (sx := sx) (g := g) hF hR h31 hi
    exact ⟨ξ, a, fun o K => k_tswIn (nI 1) (off := 240) dL_law_33 rfl (by decide) (by decide) (by decide) (by decide) (b o K)⟩
  by_cases z2 : k = 2
  · subst z2
    obtain ⟨ξ, a, b⟩ := law_2 (sb := sb) (sx := sx) (g := g) hF hR h31 hi
    exact ⟨ξ, a, fun o K => k_tswIn (nI 2) (off := 254) dL_law_33 rfl (by decide) (by decide) (by decide) (by decide) (b o K)⟩
  by_cases z3 : k = 3
  · subst z3
    obtain ⟨ξ, a, b⟩ := law_3 (sb := sb) (sx := sx) (g := g) hF hR h31 hi
    exact ⟨ξ, a, fun o K => k_tswIn (nI 3) (off := 268) dL_law_33 rfl (by decide) (by decide) (by decide) (by decide) (b o K)⟩
  by_cases z4 : k = 4
  · subst z4
    obtain ⟨ξ, a, b⟩ := law_4 (sb := sb) (sx := sx) (g := g) hF hR h31 hi
    exact ⟨ξ, a, fun o K => k_tswIn (nI 4) (off := 311) dL_law_33 rfl (by decide) (by decide) (by decide) (by decide) (b o K)⟩
  by_cases z5 : k = 5
  · subst z5
    obtain ⟨ξ, a, b⟩ := law_5 (sb := sb) (sx := sx) (g := g) hF hR h31 hi
    exact ⟨ξ, a, fun o K => k_tswIn (nI 5) (off := 384) dL_law_33 rfl (by decide) (by decide) (by decide) (by decide) (b o K)⟩
  by_cases z6 : k = 6
  · subst z6
    obtain ⟨ξ, a, b⟩ := law_6 (sb := sb) (sx := sx) (g := g) hF hR h31 hi
    exact ⟨ξ, a, fun o K => k_tswIn (nI 6) (off := 418) dL_law_33 rfl (by decide) (by decide) (by decide) (by decide) (b o K)⟩
  by_cases z7 : k = 7
  · subst z7
    obtain ⟨ξ, a, b⟩ := law_7 (sb := sb) (sx := sx) (g := g) hF hR h31 hi
    exact ⟨ξ, a, fun o K => k_tswIn (nI 7) (off := 481) dL_law_33 rfl (by decide) (by decide) (by decide) (by decide) (b o K)⟩
  by_cases z8 : k = 8
  · subst z8
    obtain ⟨ξ, a, b⟩ := law_8 (sb := sb) (sx := sx) (g := g) hF hR h31 hi
    exact ⟨ξ, a, fun o K => k_tswIn (nI 8) (off := 544) dL_law_33 rfl (by decide) (by decide) (by decide) (by decide) (b o K)⟩
  by_cases z9 : k = 9
  · subst z9
    obtain ⟨ξ, a, b⟩ := law_9 (sb := sb) (sx := sx) (g := g) hF hR h31 hi
    exact ⟨ξ, a, fun o K => k_tswIn (nI 9) (off := 567) dL_law_33 rfl (by decide) (by decide) (by decide) (by decide) (b o K)⟩
  by_cases z10 : k = 10
  · subst z10
    obtain ⟨ξ, a, b⟩ := law_10 (sb := sb) (sx := sx) (g := g) hF hR h31 hi
    exact ⟨ξ, a, fun o K => k_tswIn (nI 10) (off := 590) dL_law_33 rfl (by decide) (by decide) (by decide) (by decide) (b o K)⟩
  by_cases z11 : k = 11
  · subst z11
    obtain ⟨ξ, a, b⟩ := law_11 (sb := sb) (sx := sx) (g := g) hF hR h31 hi
    exact ⟨ξ, a, fun o K => k_tswIn (nI 11) (off := 613) dL_law_33 rfl (by decide) (by decide) (by decide) (by decide) (b o K)⟩
  by_cases z12 : k = 12
  · subst z12
    obtain ⟨ξ, a, b⟩ := law_12 (sb := sb) (sx := sx) (g := g) hF hR h31 hi
    exact ⟨ξ, a, fun o K => k_tswIn (nI 12) (off := 636) dL_law_33 rfl (by decide) (by decide) (by decide) (by decide) (b o K)⟩
  by_cases z13 : k = 13
  · subst z13
    obtain ⟨ξ, a, b⟩ := law_13 (sb := sb) (sx := sx) (g := g) hF hR h31 hi
    exact ⟨ξ, a, fun o K => k_tswIn (nI 13) (off := 669) dL_law_33 rfl (by decide) (by decide) (by decide) (by decide) (b o K)⟩
  by_cases z14 : k = 14
  · subst z14
    obtain ⟨ξ, a, b⟩ := law_14 (sb := sb) (sx := sx) (g := g) hF hR h31 hi
    exact ⟨ξ, a, fun o K => k_tswIn (nI 14) (off := 682) dL_law_33 rfl (by decide) (by decide) (by decide) (by decide) (b o K)⟩
  by_cases z15 : k = 15
  · subst z15
    obtain ⟨ξ, a, b⟩ := law_15 (sb := sb) (sx := sx) (g := g) hF hR h31 hi
    exact ⟨ξ, a, fun o K => k_tswIn (nI 15) (off := 715) dL_law_33 rfl (by decide) (by decide) (by decide) (by decide) (b o K)⟩
  by_cases z16 : k = 16
  · subst z16
    obtain ⟨ξ, a, b⟩ := law_16 (sb := sb) (sx := sx) (g := g) hF hR h31 hi
    exact ⟨ξ, a, fun o K => k_tswIn (nI 16) (off := 748) dL_law_33 rfl (by decide) (by decide) (by decide) (by decide) (b o K)⟩
  by_cases z17 : k = 17
  · subst z17
    obtain ⟨ξ, a, b⟩ := law_17 (sb := sb) (sx := sx) (g := g) hF hR h31 hi
    exact ⟨ξ, a, fun o K => k_tswIn (nI 17) (off := 761) dL_law_33 rfl (by decide) (by decide) (by decide) (by decide) (b o K)⟩
  by_cases z18 : k = 18
  · subst z18
    obtain ⟨ξ, a, b⟩ := law_18 (sb := sb) (sx := sx) (g := g) hF hR h31 hi
    exact ⟨ξ, a, fun o K => k_tswIn (nI 18) (off := 784) dL_law_33 rfl (by decide) (by decide) (by decide) (by decide) (b o K)⟩
  by_cases z19 : k = 19
  · subst z19
    obtain ⟨ξ, a, b⟩ := law_19 (sb := sb) (sx := sx) (g := g) hF hR h31 hi
    exact ⟨ξ, a, fun o K => k_tswIn (nI 19) (off := 807) dL_law_33 rfl (by decide) (by decide) (by decide) (by decide) (b o K)⟩
  by_cases z20 : k = 20
  · subst z20
    obtain ⟨ξ, a, b⟩ := law_20 (sb := sb) (sx := sx) (g := g) hF hR h31 hi
    exact ⟨ξ, a, fun o K => k_tswIn (nI 20) (off := 830) dL_law_33 rfl (by decide) (by decide) (by decide) (by decide) (b o K)⟩
  by_cases z21 : k = 21
  · subst z21
    obtain ⟨ξ, a, b⟩ := law_21 (sb := sb) (sx := sx) (g := g) hF hR h31 hi
    exact ⟨ξ, a, fun o K => k_tswIn (nI 21) (off := 853) dL_law_33 rfl (by decide) (by decide) (by decide) (by decide) (b o K)⟩
  by_cases z22 : k = 22
  · subst z22
    obtain ⟨ξ, a, b⟩ := law_22 (sb := sb) (sx := sx) (g := g) hF hR h31 hi
    exact ⟨ξ, a, fun o K => k_tswIn (nI 22) (off := 876) dL_law_33 rfl (by decide) (by decide) (by decide) (by decide) (b o K)⟩
  by_cases z23 : k = 23
  · subst z23
    obtain ⟨ξ, a, b⟩ := law_23 (sb := sb) (sx := sx) (g := g) hF hR h31 hi
    exact ⟨ξ, a, fun o K => k_tswIn (nI 23) (off := 909) dL_law_33 rfl (by decide) (by decide) (by decide) (by decide) (b o K)⟩
  by_cases z24 : k = 24
  · subst z24
    obtain ⟨ξ, a, b⟩ := law_24 (sb := sb) (sx := sx) (g := g) hF hR h31 hi
    exact ⟨ξ, a, fun o K => k_tswIn (nI 24) (off := 932) dL_law_33 rfl (by decide) (by decide) (by decide) (by decide) (b o K)⟩
  by_cases z25 : k = 25
  · subst z25
    obtain ⟨ξ, a, b⟩ := law_25 (sb := sb) (sx := sx) (g := g) hF hR h31 hi
    exact ⟨ξ, a, fun o K => k_tswIn (nI 25) (off := 985) dL_law_33 rfl (by decide) (by decide) (by decide) (by decide) (b o K)⟩
  by_cases z26 : k = 26
  · subst z26
    obtain ⟨ξ, a, b⟩ := law_26 (sb := sb) (sx := sx) (g := g) hF hR h31 hi
    exact ⟨ξ, a, fun o K => k_tswIn (nI 26) (off := 1008) dL_law_33 rfl (by decide) (by decide) (by decide) (by decide) (b o K)⟩
  by_cases z27 : k = 27
  · subst z27
    obtain ⟨ξ, a, b⟩ := law_27 (sb := sb) (sx := sx) (g := g) hF hR h31 hi
    exact ⟨ξ, a, fun o K => k_tswIn (nI 27) (off := 1041) dL_law_33 rfl (by decide) (by decide) (by decide) (by decide) (b o K)⟩
  by_cases z28 : k = 28
  · subst z28
    obtain ⟨ξ, a, b⟩ := law_28 (sb := sb) (sx := sx) (g := g) hF hR h31 hi
    exact ⟨ξ, a, fun o K => k_tswIn (nI 28) (off := 1074) dL_law_33 rfl (by decide) (by decide) (by decide) (by decide) (b o K)⟩
  by_cases z29 : k = 29
  · subst z29
    obtain ⟨ξ, a, b⟩ := law_29 (sb := sb) (sx := sx) (g := g) hF hR h31 hi
    exact ⟨ξ, a, fun o K => k_tswIn (nI 29) (off := 1097) dL_law_33 rfl (by decide) (by decide) (by decide) (by decide) (b o K)⟩
  by_cases z30 : k = 30
  · subst z30
    obtain ⟨ξ, a, b⟩ := law_30 (sb := sb) (sx := sx) (g := g) hF hR h31 hi
    exact ⟨ξ, a, fun o K => k_tswIn (nI 30) (off := 1120) dL_law_33 rfl (by decide) (by decide) (by decide) (by decide) (b o K)⟩
  by_cases z31 : k = 31
  · subst z31
    obtain ⟨ξ, a, b⟩ := law_31 (sb := sb) (sx := sx) (g := g) hF hR h31 hi
    exact ⟨ξ, a, fun o K => k_tswIn (nI 31) (off := 1133) dL_law_33 rfl (by decide) (by decide) (by decide) (by decide) (b o K)⟩
  by_cases z32 : k = 32
  · subst z32
    obtain ⟨ξ, a, b⟩ := law_32 (sb := sb) (sx := sx) (g := g) hF hR h31 hi
    exact ⟨ξ, a, fun o K => k_tswIn (nI 32) (off := 1146) dL_law_33 rfl (by decide) (by decide) (by decide) (by decide) (b o K)⟩
  by_cases z33 : k = 33
  · subst z33
    obtain ⟨ξ, a, b⟩ := law_33 (sb := sb) (sx := sx) (g := g) hF hR h31 hi
    exact ⟨ξ, a, fun o K => k_tswIn (nI 33) (off := 1169) dL_law_33 rfl (by decide) (by decide) (by decide) (by decide) (b o K)⟩
  by_cases z34 : k = 34
  · subst z34
    obtain ⟨ξ, a, b⟩ := law_34 (sb := sb) (sx := sx) (g := g) hF hR h31 hi
    exact ⟨ξ, a, fun o K => k_tswIn (nI 34) (off := 1202) dL_law_33 rfl (by decide) (by decide) (by decide) (by decide) (b o K)⟩
  by_cases z35 : k = 35
  · subst z35
    obtain ⟨ξ, a, b⟩ := law_35 (sb := sb) (sx := sx) (g := g) hF hR h31 hi
    exact ⟨ξ, a, fun o K => k_tswIn (nI 35) (off := 1245) dL_law_33 rfl (by decide) (by decide) (by decide) (by decide) (b o K)⟩
  by_cases z36 : k = 36
  · subst z36
    obtain ⟨ξ, a, b⟩ := law_36 (sb := sb) (sx := sx) (g := g) hF hR h31 hi
    exact ⟨ξ, a, fun o K => k_tswIn (nI 36) (off := 1268) dL_law_33 rfl (by decide) (by decide) (by decide) (by decide) (b o K)⟩
  by_cases z37 : k = 37
  · subst z37
    obtain ⟨ξ, a, b⟩ := law_37 (sb := sb) (sx := sx) (g := g) hF hR h31 hi
    exact ⟨ξ, a, fun o K => k_tswIn (nI 37) (off := 1291) dL_law_33 rfl (by decide) (by decide) (by decide) (by decide) (b o K)⟩
  by_cases z38 : k = 38
  · subst z38
    obtain ⟨ξ, a, b⟩ := law_38 (sb := sb) (sx := sx) (g := g) hF hR h31 hi
    exact ⟨ξ, a, fun o K => k_tswIn (nI 38) (off := 1324) dL_law_33 rfl (by decide) (by decide) (by decide) (by decide) (b o K)⟩
  by_cases z39 : k = 39
  · subst z39
    obtain ⟨ξ, a, b⟩ := law_39 (sb := sb) (sx := sx) (g := g) hF hR h31 hi
    exact ⟨ξ, a, fun o K => k_tswIn (nI 39) (off := 1347) dL_law_33 rfl (by decide) (by decide) (by decide) (by decide) (b o K)⟩
  by_cases z40 : k = 40
  · subst z40
    obtain ⟨ξ, a, b⟩ := law_40 (sb := sb) (sx := sx) (g := g) hF hR h31 hi
    exact ⟨ξ, a, fun o K => k_tswIn (nI 40) (off := 1370) dL_law_33 rfl (by decide) (by decide) (by decide) (by decide) (b o K)⟩
  by_cases z41 : k = 41
  · subst z41
    obtain ⟨ξ, a, b⟩ := law_41 (sb := sb) (sx := sx) (g := g) hF hR h31 hi
    exact ⟨ξ, a, fun o K => k_tswIn (nI 41) (off := 1383) dL_law_33 rfl (by decide) (by decide) (by decide) (by decide) (b o K)⟩
  by_cases z42 : k = 42
  · subst z42
    obtain ⟨ξ, a, b⟩ := law_42 (sb := sb) (sx := sx) (g := g) hF hR h31 hi
    exact ⟨ξ, a, fun o K => k_tswIn (nI 42) (off := 1396) dL_law_33 rfl (by decide) (by decide) (by decide) (by decide) (b o K)⟩
  by_cases z43 : k = 43
  · subst z43
    obtain ⟨ξ, a, b⟩ := law_43 (sb := sb) (sx := sx) (g := g) hF hR h31 hi
    exact ⟨ξ, a, fun o K => k_tswIn (nI 43) (off := 1409) dL_law_33 rfl (by decide) (by decide) (by decide) (by decide) (b o K)⟩
  by_cases z44 : k = 44
  · subst z44
    obtain ⟨ξ, a, b⟩ := law_44 (sb := sb) (sx := sx) (g := g) hF hR h31 hi
    exact ⟨ξ, a, fun o K => k_tswIn (nI 44) (off := 1422) dL_law_33 rfl (by decide) (by decide) (by decide) (by decide) (b o K)⟩
  by_cases z45 : k = 45
  · subst z45
    obtain ⟨ξ, a, b⟩ := law_45 (sb := sb) (sx := sx) (g := g) hF hR h31 hi
    exact ⟨ξ, a, fun o K => k_tswIn (nI 45) (off := 1445) dL_law_33 rfl (by decide) (by decide) (by decide) (by decide) (b o K)⟩
  by_cases z46 : k = 46
  · subst z46
    obtain ⟨ξ, a, b⟩ := law_46 (sb := sb) (sx := sx) (g := g) hF hR h31 hi
    exact ⟨ξ, a, fun o K => k_tswIn (nI 46) (off := 1468) dL_law_33 rfl (by decide) (by decide) (by decide) (by decide) (b o K)⟩
  by_cases z47 : k = 47
  · subst z47
    obtain ⟨ξ, a, b⟩ := law_47 (sb := sb) (sx := sx) (g := g) hF hR h31 hi
    exact ⟨ξ, a, fun o K => k_tswIn (nI 47) (off := 1501) dL_law_33 rfl (by decide) (by decide) (by decide) (by decide) (b o K)⟩
  by_cases z48 : k = 48
  · subst z48
    obtain ⟨ξ, a, b⟩ := law_48 (sb := sb) (sx := sx) (g := g) hF hR h31 hi
    exact ⟨ξ, a, fun o K => k_tswIn (nI 48) (off := 1514) dL_law_33 rfl (by decide) (by decide) (by decide) (by decide) (b o K)⟩
  by_cases z49 : k = 49
  · subst z49
    obtain ⟨ξ, a, b⟩ := law_49 (sb := sb) (sx := sx) (g := g) hF hR h31 hi
    exact ⟨ξ, a, fun o K => k_tswIn (nI 49) (off := 1537) dL_law_33 rfl (by decide) (by decide) (by decide) (by decide) (b o K)⟩
  by_cases z50 : k = 50
  · subst z50
    obtain ⟨ξ, a, b⟩ := law_50 (sb := sb) (sx := sx) (g := g) hF hR h31 hi
    exact ⟨ξ, a, fun o K => k_tswIn (nI 50) (off := 1560) dL_law_33 rfl (by decide) (by decide) (by decide) (by decide) (b o K)⟩
  by_cases z51 : k = 51
  · subst z51
    obtain ⟨ξ, a, b⟩ := law_51 (sb := sb) (sx := sx) (g := g) hF hR h31 hi
    exact ⟨ξ, a, fun o K => k_tswIn (nI 51) (off := 1593) dL_law_33 rfl (by decide) (by decide) (by decide) (by decide) (b o K)⟩
  by_cases z52 : k = 52
  · subst z52
    obtain ⟨ξ, a, b⟩ := law_52 (sb := sb) (sx := sx) (g := g) hF hR h31 hi
    exact ⟨ξ, a, fun o K => k_tswIn (nI 52) (off := 1606) dL_law_33 rfl (by decide) (by decide) (by decide) (by decide) (b o K)⟩
  exact absurd hk (by omega)
theorem law_loop (hF : 2000000 ≤ F) (h31 : sL < 2147483640) : ∀ (m i : Nat) (μ : Mm), sL ≤ i + m → i < 2147483640 → R μ → ∃ r, GL sb sL sx g 18 i [] μ (some r) := by
  intro m
  induction m using Nat.strongRecOn with
  | ind m ih =>
    intro i μ hm hi31 hR
    have pre : ∀ o, GoL sb sL sx g RL cL_law 4 .ireturn 120 cvW 24 (lvL sb g i) [.int (nI sL - 6), .int (nI i)] μ o → GL sb sL sx g 18 i [] μ o := fun o k => by
      refine k_iload_n dL_law_18 0 rfl ?_
      refine k_aload_n dL_law_19 1 rfl ?_
      refine k_slen dL_law_20 ?_
      refine k_bipush (v := (6 : Int32)) dL_law_21 rfl ?_
      exact k_isub dL_law_23 k
    by_cases hi : i + 6 ≤ sL
    · have ng : ¬ nI sL - 6 < nI i := by
        rw [show (6 : Int32) = nI 6 from rfl, nIsub (by omega), nIlt (by omega) (by omega)]
        omega
      obtain ⟨k, hk, e⟩ := and63 (sx i)
      obtain ⟨ξ, hξ, K⟩ := law_sw (sb := sb) (sx := sx) (g := g) hF hR (by omega) hi hk
      obtain ⟨r, hr⟩ := ih (m - 6) (by omega) (i + 6) ξ (by omega) (by omega) hξ
      refine ⟨r, pre _ ?_⟩
      have t := k_icmp_gt (sb := sb) (sL := sL) (sx := sx) (g := g) (own := RL) (n := 4) (rk := .ireturn) (d := 120) (cv := cvW) (μ := μ) (lv := lvL sb g i) (st := []) (x := nI i) (y := nI sL - 6) (o1 := none) (o2 := some r) (tgt := 1658) dL_law_24 rfl (fun h => absurd h ng) (fun _ => by
        refine k_aload_n dL_law_27 1 rfl ?_
        refine k_iload_n dL_law_28 0 rfl ?_
        refine k_sld (by omega) (by omega) dL_law_29 ?_
        refine k_bipush (v := (63 : Int32)) dL_law_30 rfl ?_
        refine k_iand dL_law_32 ?_
        rw [e]
        exact K _ (law_1652 hr))
      rwa [if_neg ng] at t
    · have gt : nI sL - 6 < nI i := by
        by_cases h6 : 6 ≤ sL
        · rw [show (6 : Int32) = nI 6 from rfl, nIsub (by omega), nIlt (by omega) (by omega)]
          omega
        · have h0 : nI sL - 6 < 0 := by
            have : sL = 0 ∨ sL = 1 ∨ sL = 2 ∨ sL = 3 ∨ sL = 4 ∨ sL = 5 := by omega
            rcases this with rfl | rfl | rfl | rfl | rfl | rfl <;> decide
          rw [fa_lt] at h0 ⊢
          rw [nI_ti (by omega)]
          have z : (0 : Int32).toInt = 0 := by decide
          omega
      refine ⟨μ, pre _ ?_⟩
      have t := k_icmp_gt (sb := sb) (sL := sL) (sx := sx) (g := g) (own := RL) (n := 4) (rk := .ireturn) (d := 120) (cv := cvW) (μ := μ) (lv := lvL sb g i) (st := []) (x := nI i) (y := nI sL - 6) (o1 := some μ) (o2 := none) (tgt := 1658) dL_law_24 rfl (fun _ => law_end) (fun h => absurd gt h)
      rwa [if_pos gt] at t
end LAWL
