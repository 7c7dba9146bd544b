theorem sh_0 : shp 0 = (20, 18) := rfl
theorem sh_1 : shp 1 = (19, 3) := rfl
theorem sh_2 : shp 2 = (6, 4) := rfl
theorem sh_3 : shp 3 = (1, 60) := rfl
theorem sh_4 : shp 4 = (1, 60) := rfl
theorem sh_5 : shp 5 = (1, 60) := rfl
theorem sh_6 : shp 6 = (1, 60) := rfl
theorem sh_7 : shp 7 = (0, 4) := rfl
theorem sh_8 : shp 8 = (0, 4) := rfl
theorem sh_9 : shp 9 = (18, 12) := rfl
theorem sh_10 : shp 10 = (2, 900) := rfl
theorem sh_11 : shp 11 = (1, 28) := rfl
theorem sh_12 : shp 12 = (11, 2) := rfl
theorem sh_13 : shp 13 = (15, 3) := rfl
theorem sh_14 : shp 14 = (0, 3) := rfl
theorem sh_15 : shp 15 = (10, 14) := rfl
theorem sh_16 : shp 16 = (12, 5) := rfl
theorem sh_17 : shp 17 = (0, 10) := rfl
theorem sh_18 : shp 18 = (0, 10) := rfl
theorem sh_19 : shp 19 = (0, 10) := rfl
theorem sh_20 : shp 20 = (0, 10) := rfl
theorem sh_21 : shp 21 = (0, 5) := rfl
theorem sh_22 : shp 22 = (1, 5) := rfl
theorem sh_23 : shp 23 = (0, 25) := rfl
theorem sh_24 : shp 24 = (0, 25) := rfl
theorem sh_25 : shp 25 = (0, 25) := rfl
theorem sh_26 : shp 26 = (0, 25) := rfl
theorem sh_27 : shp 27 = (10, 14) := rfl
theorem sh_28 : shp 28 = (12, 5) := rfl
theorem sh_29 : shp 29 = (0, 10) := rfl
theorem sh_30 : shp 30 = (0, 10) := rfl
theorem sh_31 : shp 31 = (0, 10) := rfl
theorem sh_32 : shp 32 = (0, 10) := rfl
theorem sh_33 : shp 33 = (0, 5) := rfl
theorem sh_34 : shp 34 = (1, 5) := rfl
theorem sh_35 : shp 35 = (0, 25) := rfl
theorem sh_36 : shp 36 = (0, 25) := rfl
theorem sh_37 : shp 37 = (0, 25) := rfl
theorem sh_38 : shp 38 = (0, 25) := rfl
theorem sh_39 : shp 39 = (14, 8) := rfl
theorem sh_40 : shp 40 = (0, 60) := rfl
theorem sh_41 : shp 41 = (0, 60) := rfl
theorem sh_42 : shp 42 = (0, 60) := rfl
theorem sh_43 : shp 43 = (0, 60) := rfl
theorem sh_44 : shp 44 = (0, 60) := rfl
theorem sh_45 : shp 45 = (14, 8) := rfl
theorem sh_46 : shp 46 = (0, 60) := rfl
theorem sh_47 : shp 47 = (0, 60) := rfl
theorem sh_48 : shp 48 = (0, 60) := rfl
theorem sh_49 : shp 49 = (0, 60) := rfl
theorem sh_50 : shp 50 = (0, 60) := rfl
theorem sh_51 : shp 51 = (3, 3) := rfl
theorem sh_52 : shp 52 = (4, 3) := rfl
theorem sh_53 : shp 53 = (10, 14) := rfl
theorem sh_54 : shp 54 = (12, 5) := rfl
theorem sh_55 : shp 55 = (0, 10) := rfl
theorem sh_56 : shp 56 = (0, 10) := rfl
theorem sh_57 : shp 57 = (0, 10) := rfl
theorem sh_58 : shp 58 = (0, 10) := rfl
theorem sh_59 : shp 59 = (0, 5) := rfl
theorem sh_60 : shp 60 = (1, 5) := rfl
theorem sh_61 : shp 61 = (0, 25) := rfl
theorem sh_62 : shp 62 = (0, 25) := rfl
theorem sh_63 : shp 63 = (0, 25) := rfl
theorem sh_64 : shp 64 = (0, 25) := rfl
theorem sh_65 : shp 65 = (14, 8) := rfl
theorem sh_66 : shp 66 = (0, 60) := rfl
theorem sh_67 : shp 67 = (0, 60) := rfl
theorem sh_68 : shp 68 = (0, 60) := rfl
theorem sh_69 : shp 69 = (0, 60) := rfl
theorem sh_70 : shp 70 = (0, 60) := rfl
theorem sh_71 : shp 71 = (10, 14) := rfl
theorem sh_72 : shp 72 = (12, 5) := rfl
theorem sh_73 : shp 73 = (0, 10) := rfl
theorem sh_74 : shp 74 = (0, 10) := rfl
theorem sh_75 : shp 75 = (0, 10) := rfl
theorem sh_76 : shp 76 = (0, 10) := rfl
theorem sh_77 : shp 77 = (0, 5) := rfl
theorem sh_78 : shp 78 = (1, 5) := rfl
theorem sh_79 : shp 79 = (0, 25) := rfl
theorem sh_80 : shp 80 = (0, 25) := rfl
theorem sh_81 : shp 81 = (0, 25) := rfl
theorem sh_82 : shp 82 = (0, 25) := rfl
theorem sh_83 : shp 83 = (14, 8) := rfl
theorem sh_84 : shp 84 = (0, 60) := rfl
theorem sh_85 : shp 85 = (0, 60) := rfl
theorem sh_86 : shp 86 = (0, 60) := rfl
theorem sh_87 : shp 87 = (0, 60) := rfl
theorem sh_88 : shp 88 = (0, 60) := rfl
theorem sh_89 : shp 89 = (10, 14) := rfl
theorem sh_90 : shp 90 = (12, 5) := rfl
theorem sh_91 : shp 91 = (0, 10) := rfl
theorem sh_92 : shp 92 = (0, 10) := rfl
theorem sh_93 : shp 93 = (0, 10) := rfl
theorem sh_94 : shp 94 = (0, 10) := rfl
theorem sh_95 : shp 95 = (0, 5) := rfl
theorem sh_96 : shp 96 = (1, 5) := rfl
theorem sh_97 : shp 97 = (0, 25) := rfl
theorem sh_98 : shp 98 = (0, 25) := rfl
theorem sh_99 : shp 99 = (0, 25) := rfl
theorem sh_100 : shp 100 = (0, 25) := rfl
theorem sh_101 : shp 101 = (14, 8) := rfl
theorem sh_102 : shp 102 = (0, 60) := rfl
theorem sh_103 : shp 103 = (0, 60) := rfl
theorem sh_104 : shp 104 = (0, 60) := rfl
theorem sh_105 : shp 105 = (0, 60) := rfl
theorem sh_106 : shp 106 = (0, 60) := rfl
theorem sh_107 : shp 107 = (17, 9) := rfl
theorem sh_108 : shp 108 = (0, 5) := rfl
theorem sh_109 : shp 109 = (0, 5) := rfl
theorem sh_110 : shp 110 = (5, 6) := rfl
theorem sh_111 : shp 111 = (0, 25) := rfl
theorem sh_112 : shp 112 = (0, 25) := rfl
theorem sh_113 : shp 113 = (0, 25) := rfl
theorem sh_114 : shp 114 = (0, 25) := rfl
theorem sh_115 : shp 115 = (0, 25) := rfl
theorem sh_116 : shp 116 = (0, 25) := rfl
theorem sh_117 : shp 117 = (5, 6) := rfl
theorem sh_118 : shp 118 = (0, 25) := rfl
theorem sh_119 : shp 119 = (0, 25) := rfl
theorem sh_120 : shp 120 = (0, 25) := rfl
theorem sh_121 : shp 121 = (0, 25) := rfl
theorem sh_122 : shp 122 = (0, 25) := rfl
theorem sh_123 : shp 123 = (0, 25) := rfl
theorem sh_124 : shp 124 = (5, 6) := rfl
theorem sh_125 : shp 125 = (0, 25) := rfl
theorem sh_126 : shp 126 = (0, 25) := rfl
theorem sh_127 : shp 127 = (0, 25) := rfl
theorem sh_128 : shp 128 = (0, 25) := rfl
theorem sh_129 : shp 129 = (0, 25) := rfl
theorem sh_130 : shp 130 = (0, 25) := rfl
theorem sh_131 : shp 131 = (16, 7) := rfl
theorem sh_132 : shp 132 = (0, 25) := rfl
theorem sh_133 : shp 133 = (0, 110) := rfl
theorem sh_134 : shp 134 = (0, 110) := rfl
theorem sh_135 : shp 135 = (0, 110) := rfl
theorem sh_136 : shp 136 = (0, 110) := rfl
theorem sh_137 : shp 137 = (13, 9) := rfl
theorem sh_138 : shp 138 = (0, 60) := rfl
theorem sh_139 : shp 139 = (13, 9) := rfl
theorem sh_140 : shp 140 = (0, 60) := rfl
theorem sh_141 : shp 141 = (21, 49) := rfl
theorem sh_142 : shp 142 = (0, 4) := rfl
theorem sh_143 : shp 143 = (0, 4) := rfl
theorem sh_144 : shp 144 = (1, 240) := rfl
theorem sh_145 : shp 145 = (2, 900) := rfl
theorem sh_146 : shp 146 = (0, 2000) := rfl
theorem sh_147 : shp 147 = (0, 128) := rfl
theorem sh_148 : shp 148 = (0, 128) := rfl
theorem sh_149 : shp 149 = (1, 25) := rfl
theorem sh_150 : shp 150 = (0, 25) := rfl
theorem sh_151 : shp 151 = (0, 768) := rfl
theorem sh_152 : shp 152 = (0, 5) := rfl
theorem sh_153 : shp 153 = (0, 5) := rfl
theorem sh_154 : shp 154 = (0, 5) := rfl
theorem sh_155 : shp 155 = (1, 13) := rfl
theorem sh_156 : shp 156 = (0, 5) := rfl
def Bk (b : Nat) : Prop := b = 15 ∨ b = 27 ∨ b = 53 ∨ b = 71 ∨ b = 89
theorem bk_0 {b : Nat} (h : Bk b) : shp (b) = (10, 14) := by rcases h with rfl | rfl | rfl | rfl | rfl <;> rfl
theorem bk_1 {b : Nat} (h : Bk b) : shp (b + 1) = (12, 5) := by rcases h with rfl | rfl | rfl | rfl | rfl <;> rfl
theorem bk_2 {b : Nat} (h : Bk b) : shp (b + 2) = (0, 10) := by rcases h with rfl | rfl | rfl | rfl | rfl <;> rfl
theorem bk_3 {b : Nat} (h : Bk b) : shp (b + 3) = (0, 10) := by rcases h with rfl | rfl | rfl | rfl | rfl <;> rfl
theorem bk_4 {b : Nat} (h : Bk b) : shp (b + 4) = (0, 10) := by rcases h with rfl | rfl | rfl | rfl | rfl <;> rfl
theorem bk_5 {b : Nat} (h : Bk b) : shp (b + 5) = (0, 10) := by rcases h with rfl | rfl | rfl | rfl | rfl <;> rfl
theorem bk_6 {b : Nat} (h : Bk b) : shp (b + 6) = (0, 5) := by rcases h with rfl | rfl | rfl | rfl | rfl <;> rfl
theorem bk_7 {b : Nat} (h : Bk b) : shp (b + 7) = (1, 5) := by rcases h with rfl | rfl | rfl | rfl | rfl <;> rfl
theorem bk_8 {b : Nat} (h : Bk b) : shp (b + 8) = (0, 25) := by rcases h with rfl | rfl | rfl | rfl | rfl <;> rfl
theorem bk_9 {b : Nat} (h : Bk b) : shp (b + 9) = (0, 25) := by rcases h with rfl | rfl | rfl | rfl | rfl <;> rfl
theorem bk_10 {b : Nat} (h : Bk b) : shp (b + 10) = (0, 25) := by rcases h with rfl | rfl | rfl | rfl | rfl <;> rfl
theorem bk_11 {b : Nat} (h : Bk b) : shp (b + 11) = (0, 25) := by rcases h with rfl | rfl | rfl | rfl | rfl <;> rfl
def Lw (l : Nat) : Prop := l = 16 ∨ l = 28 ∨ l = 54 ∨ l = 72 ∨ l = 90
theorem lw_0 {l : Nat} (h : Lw l) : shp (l) = (12, 5) := by rcases h with rfl | rfl | rfl | rfl | rfl <;> rfl
theorem lw_1 {l : Nat} (h : Lw l) : shp (l + 1) = (0, 10) := by rcases h with rfl | rfl | rfl | rfl | rfl <;> rfl
theorem lw_2 {l : Nat} (h : Lw l) : shp (l + 2) = (0, 10) := by rcases h with rfl | rfl | rfl | rfl | rfl <;> rfl
theorem lw_3 {l : Nat} (h : Lw l) : shp (l + 3) = (0, 10) := by rcases h with rfl | rfl | rfl | rfl | rfl <;> rfl
theorem lw_4 {l : Nat} (h : Lw l) : shp (l + 4) = (0, 10) := by rcases h with rfl | rfl | rfl | rfl | rfl <;> rfl
def Nt (t : Nat) : Prop := t = 39 ∨ t = 45 ∨ t = 65 ∨ t = 83 ∨ t = 101
theorem nt_0 {t : Nat} (h : Nt t) : shp (t) = (14, 8) := by rcases h with rfl | rfl | rfl | rfl | rfl <;> rfl
theorem nt_1 {t : Nat} (h : Nt t) : shp (t + 1) = (0, 60) := by rcases h with rfl | rfl | rfl | rfl | rfl <;> rfl
theorem nt_2 {t : Nat} (h : Nt t) : shp (t + 2) = (0, 60) := by rcases h with rfl | rfl | rfl | rfl | rfl <;> rfl
theorem nt_3 {t : Nat} (h : Nt t) : shp (t + 3) = (0, 60) := by rcases h with rfl | rfl | rfl | rfl | rfl <;> rfl
theorem nt_4 {t : Nat} (h : Nt t) : shp (t + 4) = (0, 60) := by rcases h with rfl | rfl | rfl | rfl | rfl <;> rfl
theorem nt_5 {t : Nat} (h : Nt t) : shp (t + 5) = (0, 60) := by rcases h with rfl | rfl | rfl | rfl | rfl <;> rfl
def Li (f : Nat) : Prop := f = 137 ∨ f = 139
theorem li_0 {f : Nat} (h : Li f) : shp (f) = (13, 9) := by rcases h with rfl | rfl <;> rfl
theorem li_1 {f : Nat} (h : Li f) : shp (f + 1) = (0, 60) := by rcases h with rfl | rfl <;> rfl
def Pt (q : Nat) : Prop := q = 133 ∨ q = 134 ∨ q = 135 ∨ q = 136
theorem pt_0 {q : Nat} (h : Pt q) : shp (q) = (0, 110) := by rcases h with rfl | rfl | rfl | rfl <;> rfl
theorem bk_lw {b : Nat} (h : Bk b) : Lw (b + 1) := by rcases h with rfl | rfl | rfl | rfl | rfl <;> simp [Lw]
theorem tb1 (i : Nat) {w : Cond} (h : tables_1_1[i]? = some w) : w ∈ lw_tbl := List.mem_append_right _ (show w ∈ tables_1 from List.mem_append_left _ (List.mem_of_getElem? h))
theorem tb2 (i : Nat) {w : Cond} (h : tables_1_2[i]? = some w) : w ∈ lw_tbl := List.mem_append_right _ (show w ∈ tables_1 from List.mem_append_right _ (List.mem_append_left _ (List.mem_of_getElem? h)))
theorem tb3 (i : Nat) {w : Cond} (h : tables_1_3[i]? = some w) : w ∈ lw_tbl := List.mem_append_right _ (show w ∈ tables_1 from List.mem_append_right _ (List.mem_append_right _ (List.mem_append_left _ (List.mem_of_getElem? h))))
theorem tb4 (i : Nat) {w : Cond} (h : tables_1_4[i]? = some w) : w ∈ lw_tbl := List.mem_append_right _ (show w ∈ tables_1 from List.mem_append_right _ (List.mem_append_right _ (List.mem_append_right _ (List.mem_append_left _ (List.mem_of_getElem? h)))))
theorem tb5 (i : Nat) {w : Cond} (h : tables_1_5[i]? = some w) : w ∈ lw_tbl := List.mem_append_right _ (show w ∈ tables_1 from List.mem_append_right _ (List.mem_append_right _ (List.mem_append_right _ (List.mem_append_right _ (List.mem_append_left _ (List.mem_of_getElem? h))))))
theorem tb6 (i : Nat) {w : Cond} (h : tables_1_6[i]? = some w) : w ∈ lw_tbl := List.mem_append_right _ (show w ∈ tables_1 from List.mem_append_right _ (List.mem_append_right _ (List.mem_append_right _ (List.mem_append_right _ (List.mem_append_right _ (List.mem_append_left _ (List.mem_of_getElem? h)))))))
theorem tb7 (i : Nat) {w : Cond} (h : tables_1_7[i]? = some w) : w ∈ lw_tbl := List.mem_append_right _ (show w ∈ tables_1 from List.mem_append_right _ (List.mem_append_right _ (List.mem_append_right _ (List.mem_append_right _ (List.mem_append_right _ (List.mem_append_right _ (List.mem_append_left _ (List.mem_of_getElem? h))))))))
theorem tb8 (i : Nat) {w : Cond} (h : tables_1_8[i]? = some w) : w ∈ lw_tbl := List.mem_append_right _ (show w ∈ tables_1 from List.mem_append_right _ (List.mem_append_right _ (List.mem_append_right _ (List.mem_append_right _ (List.mem_append_right _ (List.mem_append_right _ (List.mem_append_right _ (List.mem_append_left _ (List.mem_of_getElem? h)))))))))
theorem tb9 (i : Nat) {w : Cond} (h : tables_1_9[i]? = some w) : w ∈ lw_tbl := List.mem_append_right _ (show w ∈ tables_1 from List.mem_append_right _ (List.mem_append_right _ (List.mem_append_right _ (List.mem_append_right _ (List.mem_append_right _ (List.mem_append_right _ (List.mem_append_right _ (List.mem_append_right _ ((List.mem_of_getElem? h))))))))))
theorem sl_in (i : Nat) {w : Cond} (h : (k2_sels lw_privs)[i]? = some w) : w ∈ lw_tbl := List.mem_append_left _ (List.mem_of_getElem? h)
theorem igX0 : ∀ w ∈ wsX00, w ∈ lw_good := fun w h => in_good (inX0 w h) (List.all_eq_true.mp (by decide +kernel : (wsX00).all goodWord = true) w h)
theorem igX1 : ∀ w ∈ wsX10, w ∈ lw_good := fun w h => in_good (inX1 w h) (List.all_eq_true.mp (by decide +kernel : (wsX10).all goodWord = true) w h)
theorem igX3 : ∀ w ∈ wsX30, w ∈ lw_good := fun w h => in_good (inX3 w h) (List.all_eq_true.mp (by decide +kernel : (wsX30).all goodWord = true) w h)
theorem igX4 : ∀ w ∈ wsX40, w ∈ lw_good := fun w h => in_good (inX4 w h) (List.all_eq_true.mp (by decide +kernel : (wsX40).all goodWord = true) w h)
theorem igX5 : ∀ w ∈ wsX50, w ∈ lw_good := fun w h => in_good (inX5 w h) (List.all_eq_true.mp (by decide +kernel : (wsX50).all goodWord = true) w h)
theorem igX6 : ∀ w ∈ wsX60, w ∈ lw_good := fun w h => in_good (inX6 w h) (List.all_eq_true.mp (by decide +kernel : (wsX60).all goodWord = true) w h)
theorem igX7 : ∀ w ∈ wsX70, w ∈ lw_good := fun w h => in_good (inX7 w h) (List.all_eq_true.mp (by decide +kernel : (wsX70).all goodWord = true) w h)
theorem igX8 : ∀ w ∈ wsX80, w ∈ lw_good := fun w h => in_good (inX8 w h) (List.all_eq_true.mp (by decide +kernel : (wsX80).all goodWord = true) w h)
theorem igX9 : ∀ w ∈ wsX90, w ∈ lw_good := fun w h => in_good (inX9 w h) (List.all_eq_true.mp (by decide +kernel : (wsX90).all goodWord = true) w h)
theorem igX10 : ∀ w ∈ wsX100, w ∈ lw_good := fun w h => in_good (inX10 w h) (List.all_eq_true.mp (by decide +kernel : (wsX100).all goodWord = true) w h)
theorem igX11 : ∀ w ∈ wsX110, w ∈ lw_good := fun w h => in_good (inX11 w h) (List.all_eq_true.mp (by decide +kernel : (wsX110).all goodWord = true) w h)
theorem igX12 : ∀ w ∈ wsX120, w ∈ lw_good := fun w h => in_good (inX12 w h) (List.all_eq_true.mp (by decide +kernel : (wsX120).all goodWord = true) w h)
theorem fl_X10_13 : Fl RX10 13 9 0 (.array (.array .long)) true := ⟨RX10, TX10, 3, tyX10, rfl, igX10, tyX10_ok, nmX10, by decide, rfl, rfl, rfl, in_good (tb1 41 rfl) rfl⟩
theorem fl_X11_132 : Fl RX11 132 9 0 (.array (.array .long)) true := ⟨RX10, TX10, 3, tyX10, rfl, igX10, tyX10_ok, nmX10, by decide, rfl, rfl, rfl, in_good (tb1 42 rfl) rfl⟩
theorem fl_X10_16 : Fl RX10 16 9 1 (.array .int) true := ⟨RX10, TX10, 3, tyX10, rfl, igX10, tyX10_ok, nmX10, by decide, rfl, rfl, rfl, in_good (tb1 43 rfl) rfl⟩
theorem fl_X10_20 : Fl RX10 20 9 2 (.array .int) true := ⟨RX10, TX10, 3, tyX10, rfl, igX10, tyX10_ok, nmX10, by decide, rfl, rfl, rfl, in_good (tb1 44 rfl) rfl⟩
theorem fl_X11_141 : Fl RX11 141 9 2 (.array .int) true := ⟨RX10, TX10, 3, tyX10, rfl, igX10, tyX10_ok, nmX10, by decide, rfl, rfl, rfl, in_good (tb1 45 rfl) rfl⟩
theorem fl_X9_11 : Fl RX9 11 8 0 (.array .byte) true := ⟨RX9, TX9, 12, tyX9, rfl, igX9, tyX9_ok, nmX9, by decide, rfl, rfl, rfl, in_good (tb1 112 rfl) rfl⟩
theorem fl_X9_42 : Fl RX9 42 8 1 (.int) false := ⟨RX9, TX9, 12, tyX9, rfl, igX9, tyX9_ok, nmX9, by decide, rfl, rfl, rfl, in_good (tb1 113 rfl) rfl⟩
theorem fl_X11_154 : Fl RX11 154 8 1 (.int) false := ⟨RX9, TX9, 12, tyX9, rfl, igX9, tyX9_ok, nmX9, by decide, rfl, rfl, rfl, in_good (tb1 114 rfl) rfl⟩
theorem fl_X9_15 : Fl RX9 15 8 2 (.int) false := ⟨RX9, TX9, 12, tyX9, rfl, igX9, tyX9_ok, nmX9, by decide, rfl, rfl, rfl, in_good (tb1 115 rfl) rfl⟩
theorem fl_X11_184 : Fl RX11 184 8 2 (.int) false := ⟨RX9, TX9, 12, tyX9, rfl, igX9, tyX9_ok, nmX9, by decide, rfl, rfl, rfl, in_good (tb1 116 rfl) rfl⟩
theorem fl_X9_19 : Fl RX9 19 8 3 (.int) false := ⟨RX9, TX9, 12, tyX9, rfl, igX9, tyX9_ok, nmX9, by decide, rfl, rfl, rfl, in_good (tb1 117 rfl) rfl⟩
theorem fl_X11_187 : Fl RX11 187 8 3 (.int) false := ⟨RX9, TX9, 12, tyX9, rfl, igX9, tyX9_ok, nmX9, by decide, rfl, rfl, rfl, in_good (tb1 118 rfl) rfl⟩
theorem fl_X1_30 : Fl RX1 30 8 4 (.int) false := ⟨RX9, TX9, 12, tyX9, rfl, igX9, tyX9_ok, nmX9, by decide, rfl, rfl, rfl, in_good (tb1 119 rfl) rfl⟩
theorem fl_X6_33 : Fl RX6 33 8 4 (.int) false := ⟨RX9, TX9, 12, tyX9, rfl, igX9, tyX9_ok, nmX9, by decide, rfl, rfl, rfl, in_good (tb1 120 rfl) rfl⟩
theorem fl_X9_63 : Fl RX9 63 8 4 (.int) false := ⟨RX9, TX9, 12, tyX9, rfl, igX9, tyX9_ok, nmX9, by decide, rfl, rfl, rfl, in_good (tb1 121 rfl) rfl⟩
theorem fl_X9_86 : Fl RX9 86 8 5 (.int) false := ⟨RX9, TX9, 12, tyX9, rfl, igX9, tyX9_ok, nmX9, by decide, rfl, rfl, rfl, in_good (tb1 122 rfl) rfl⟩
theorem fl_X1_133 : Fl RX1 133 8 5 (.int) false := ⟨RX9, TX9, 12, tyX9, rfl, igX9, tyX9_ok, nmX9, by decide, rfl, rfl, rfl, in_good (tb1 123 rfl) rfl⟩
theorem fl_X6_132 : Fl RX6 132 8 5 (.int) false := ⟨RX9, TX9, 12, tyX9, rfl, igX9, tyX9_ok, nmX9, by decide, rfl, rfl, rfl, in_good (tb1 124 rfl) rfl⟩
theorem fl_X9_82 : Fl RX9 82 8 6 (.long) false := ⟨RX9, TX9, 12, tyX9, rfl, igX9, tyX9_ok, nmX9, by decide, rfl, rfl, rfl, in_good (tb1 125 rfl) rfl⟩
theorem fl_X1_114 : Fl RX1 114 8 6 (.long) false := ⟨RX9, TX9, 12, tyX9, rfl, igX9, tyX9_ok, nmX9, by decide, rfl, rfl, rfl, in_good (tb1 126 rfl) rfl⟩
theorem fl_X1_93 : Fl RX1 93 8 7 (.int) false := ⟨RX9, TX9, 12, tyX9, rfl, igX9, tyX9_ok, nmX9, by decide, rfl, rfl, rfl, in_good (tb1 127 rfl) rfl⟩
theorem fl_X6_111 : Fl RX6 111 8 7 (.int) false := ⟨RX9, TX9, 12, tyX9, rfl, igX9, tyX9_ok, nmX9, by decide, rfl, rfl, rfl, in_good (tb1 128 rfl) rfl⟩
theorem fl_X9_103 : Fl RX9 103 8 7 (.int) false := ⟨RX9, TX9, 12, tyX9, rfl, igX9, tyX9_ok, nmX9, by decide, rfl, rfl, rfl, in_good (tb1 129 rfl) rfl⟩
theorem fl_X9_22 : Fl RX9 22 8 8 (.array .long) true := ⟨RX9, TX9, 12, tyX9, rfl, igX9, tyX9_ok, nmX9, by decide, rfl, rfl, rfl, in_good (tb1 130 rfl) rfl⟩
theorem fl_X9_60 : Fl RX9 60 8 9 (.int) false := ⟨RX9, TX9, 12, tyX9, rfl, igX9, tyX9_ok, nmX9, by decide, rfl, rfl, rfl, in_good (tb1 131 rfl) rfl⟩
theorem fl_X9_54 : Fl RX9 54 8 10 (.int) false := ⟨RX9, TX9, 12, tyX9, rfl, igX9, tyX9_ok, nmX9, by decide, rfl, rfl, rfl, in_good (tb1 132 rfl) rfl⟩
theorem fl_X9_51 : Fl RX9 51 8 11 (.int) false := ⟨RX9, TX9, 12, tyX9, rfl, igX9, tyX9_ok, nmX9, by decide, rfl, rfl, rfl, in_good (tb1 133 rfl) rfl⟩
theorem fl_X1_9 : Fl RX1 9 1 0 (.object "SumsNightwatch$Tape") true := ⟨RX1, TX1, 2, tyX1, rfl, igX1, tyX1_ok, nmX1, by decide, rfl, rfl, rfl, in_good (tb1 166 rfl) rfl⟩
theorem fl_X1_15 : Fl RX1 15 1 1 (.int) false := ⟨RX1, TX1, 2, tyX1, rfl, igX1, tyX1_ok, nmX1, by decide, rfl, rfl, rfl, in_good (tb1 167 rfl) rfl⟩
theorem fl_X6_15 : Fl RX6 15 5 0 (.object "SumsNightwatch$Tape") true := ⟨RX6, TX6, 3, tyX6, rfl, igX6, tyX6_ok, nmX6, by decide, rfl, rfl, rfl, in_good (tb1 179 rfl) rfl⟩
theorem fl_X6_11 : Fl RX6 11 5 1 (.array .int) true := ⟨RX6, TX6, 3, tyX6, rfl, igX6, tyX6_ok, nmX6, by decide, rfl, rfl, rfl, in_good (tb1 180 rfl) rfl⟩
theorem fl_X6_19 : Fl RX6 19 5 2 (.int) false := ⟨RX6, TX6, 3, tyX6, rfl, igX6, tyX6_ok, nmX6, by decide, rfl, rfl, rfl, in_good (tb1 181 rfl) rfl⟩
theorem fl_X3_24 : Fl RX3 24 2 0 (.int) false := ⟨RX3, TX3, 5, tyX3, rfl, igX3, tyX3_ok, nmX3, by decide, rfl, rfl, rfl, in_good (tb1 201 rfl) rfl⟩
theorem fl_X0_63 : Fl RX0 63 2 0 (.int) false := ⟨RX3, TX3, 5, tyX3, rfl, igX3, tyX3_ok, nmX3, by decide, rfl, rfl, rfl, in_good (tb1 202 rfl) rfl⟩
theorem fl_X1_140 : Fl RX1 140 2 0 (.int) false := ⟨RX3, TX3, 5, tyX3, rfl, igX3, tyX3_ok, nmX3, by decide, rfl, rfl, rfl, in_good (tb1 203 rfl) rfl⟩
theorem fl_X11_194 : Fl RX11 194 2 0 (.int) false := ⟨RX3, TX3, 5, tyX3, rfl, igX3, tyX3_ok, nmX3, by decide, rfl, rfl, rfl, in_good (tb1 204 rfl) rfl⟩
theorem fl_X3_9 : Fl RX3 9 2 1 (.array .int) true := ⟨RX3, TX3, 5, tyX3, rfl, igX3, tyX3_ok, nmX3, by decide, rfl, rfl, rfl, in_good (tb1 205 rfl) rfl⟩
theorem fl_X0_102 : Fl RX0 102 2 1 (.array .int) true := ⟨RX3, TX3, 5, tyX3, rfl, igX3, tyX3_ok, nmX3, by decide, rfl, rfl, rfl, in_good (tb1 206 rfl) rfl⟩
theorem fl_X11_261 : Fl RX11 261 2 1 (.array .int) true := ⟨RX3, TX3, 5, tyX3, rfl, igX3, tyX3_ok, nmX3, by decide, rfl, rfl, rfl, in_good (tb1 207 rfl) rfl⟩
theorem fl_X3_15 : Fl RX3 15 2 2 (.array .int) true := ⟨RX3, TX3, 5, tyX3, rfl, igX3, tyX3_ok, nmX3, by decide, rfl, rfl, rfl, in_good (tb1 208 rfl) rfl⟩
theorem fl_X0_122 : Fl RX0 122 2 2 (.array .int) true := ⟨RX3, TX3, 5, tyX3, rfl, igX3, tyX3_ok, nmX3, by decide, rfl, rfl, rfl, in_good (tb1 209 rfl) rfl⟩
theorem fl_X11_264 : Fl RX11 264 2 2 (.array .int) true := ⟨RX3, TX3, 5, tyX3, rfl, igX3, tyX3_ok, nmX3, by decide, rfl, rfl, rfl, in_good (tb1 210 rfl) rfl⟩
theorem fl_X3_18 : Fl RX3 18 2 3 (.array .int) true := ⟨RX3, TX3, 5, tyX3, rfl, igX3, tyX3_ok, nmX3, by decide, rfl, rfl, rfl, in_good (tb1 211 rfl) rfl⟩
theorem fl_X0_105 : Fl RX0 105 2 3 (.array .int) true := ⟨RX3, TX3, 5, tyX3, rfl, igX3, tyX3_ok, nmX3, by decide, rfl, rfl, rfl, in_good (tb1 212 rfl) rfl⟩
theorem fl_X11_267 : Fl RX11 267 2 3 (.array .int) true := ⟨RX3, TX3, 5, tyX3, rfl, igX3, tyX3_ok, nmX3, by decide, rfl, rfl, rfl, in_good (tb1 213 rfl) rfl⟩
theorem fl_X3_21 : Fl RX3 21 2 4 (.array .int) true := ⟨RX3, TX3, 5, tyX3, rfl, igX3, tyX3_ok, nmX3, by decide, rfl, rfl, rfl, in_good (tb1 214 rfl) rfl⟩
theorem fl_X0_115 : Fl RX0 115 2 4 (.array .int) true := ⟨RX3, TX3, 5, tyX3, rfl, igX3, tyX3_ok, nmX3, by decide, rfl, rfl, rfl, in_good (tb1 215 rfl) rfl⟩
theorem fl_X11_270 : Fl RX11 270 2 4 (.array .int) true := ⟨RX3, TX3, 5, tyX3, rfl, igX3, tyX3_ok, nmX3, by decide, rfl, rfl, rfl, in_good (tb1 216 rfl) rfl⟩
theorem fl_X0_41 : Fl RX0 41 0 0 (.int) false := ⟨RX0, TX0, 14, tyX0, rfl, igX0, tyX0_ok, nmX0, by decide, rfl, rfl, rfl, in_good (tb1 232 rfl) rfl⟩
theorem fl_X7_51 : Fl RX7 51 0 0 (.int) false := ⟨RX0, TX0, 14, tyX0, rfl, igX0, tyX0_ok, nmX0, by decide, rfl, rfl, rfl, in_good (tb1 233 rfl) rfl⟩
theorem fl_X1_96 : Fl RX1 96 0 0 (.int) false := ⟨RX0, TX0, 14, tyX0, rfl, igX0, tyX0_ok, nmX0, by decide, rfl, rfl, rfl, in_good (tb1 234 rfl) rfl⟩
theorem fl_X6_118 : Fl RX6 118 0 0 (.int) false := ⟨RX0, TX0, 14, tyX0, rfl, igX0, tyX0_ok, nmX0, by decide, rfl, rfl, rfl, in_good (tb1 235 rfl) rfl⟩
theorem fl_X9_115 : Fl RX9 115 0 0 (.int) false := ⟨RX0, TX0, 14, tyX0, rfl, igX0, tyX0_ok, nmX0, by decide, rfl, rfl, rfl, in_good (tb1 236 rfl) rfl⟩
theorem fl_X11_199 : Fl RX11 199 0 0 (.int) false := ⟨RX0, TX0, 14, tyX0, rfl, igX0, tyX0_ok, nmX0, by decide, rfl, rfl, rfl, in_good (tb1 237 rfl) rfl⟩
theorem fl_X0_45 : Fl RX0 45 0 1 (.int) false := ⟨RX0, TX0, 14, tyX0, rfl, igX0, tyX0_ok, nmX0, by decide, rfl, rfl, rfl, in_good (tb1 238 rfl) rfl⟩
theorem fl_X8_89 : Fl RX8 89 0 1 (.int) false := ⟨RX0, TX0, 14, tyX0, rfl, igX0, tyX0_ok, nmX0, by decide, rfl, rfl, rfl, in_good (tb1 239 rfl) rfl⟩
theorem fl_X1_102 : Fl RX1 102 0 1 (.int) false := ⟨RX0, TX0, 14, tyX0, rfl, igX0, tyX0_ok, nmX0, by decide, rfl, rfl, rfl, in_good (tb2 0 rfl) rfl⟩
theorem fl_X11_202 : Fl RX11 202 0 1 (.int) false := ⟨RX0, TX0, 14, tyX0, rfl, igX0, tyX0_ok, nmX0, by decide, rfl, rfl, rfl, in_good (tb2 1 rfl) rfl⟩
theorem fl_X0_48 : Fl RX0 48 0 2 (.int) false := ⟨RX0, TX0, 14, tyX0, rfl, igX0, tyX0_ok, nmX0, by decide, rfl, rfl, rfl, in_good (tb2 2 rfl) rfl⟩
theorem fl_X4_93 : Fl RX4 93 0 2 (.int) false := ⟨RX0, TX0, 14, tyX0, rfl, igX0, tyX0_ok, nmX0, by decide, rfl, rfl, rfl, in_good (tb2 3 rfl) rfl⟩
theorem fl_X1_105 : Fl RX1 105 0 2 (.int) false := ⟨RX0, TX0, 14, tyX0, rfl, igX0, tyX0_ok, nmX0, by decide, rfl, rfl, rfl, in_good (tb2 4 rfl) rfl⟩
theorem fl_X11_205 : Fl RX11 205 0 2 (.int) false := ⟨RX0, TX0, 14, tyX0, rfl, igX0, tyX0_ok, nmX0, by decide, rfl, rfl, rfl, in_good (tb2 5 rfl) rfl⟩
theorem fl_X0_51 : Fl RX0 51 0 3 (.int) false := ⟨RX0, TX0, 14, tyX0, rfl, igX0, tyX0_ok, nmX0, by decide, rfl, rfl, rfl, in_good (tb2 6 rfl) rfl⟩
theorem fl_X4_84 : Fl RX4 84 0 3 (.int) false := ⟨RX0, TX0, 14, tyX0, rfl, igX0, tyX0_ok, nmX0, by decide, rfl, rfl, rfl, in_good (tb2 7 rfl) rfl⟩
theorem fl_X1_83 : Fl RX1 83 0 3 (.int) false := ⟨RX0, TX0, 14, tyX0, rfl, igX0, tyX0_ok, nmX0, by decide, rfl, rfl, rfl, in_good (tb2 8 rfl) rfl⟩
theorem fl_X11_172 : Fl RX11 172 0 3 (.int) false := ⟨RX0, TX0, 14, tyX0, rfl, igX0, tyX0_ok, nmX0, by decide, rfl, rfl, rfl, in_good (tb2 9 rfl) rfl⟩
theorem fl_X0_54 : Fl RX0 54 0 4 (.int) false := ⟨RX0, TX0, 14, tyX0, rfl, igX0, tyX0_ok, nmX0, by decide, rfl, rfl, rfl, in_good (tb2 10 rfl) rfl⟩
theorem fl_X8_60 : Fl RX8 60 0 4 (.int) false := ⟨RX0, TX0, 14, tyX0, rfl, igX0, tyX0_ok, nmX0, by decide, rfl, rfl, rfl, in_good (tb2 11 rfl) rfl⟩
theorem fl_X4_100 : Fl RX4 100 0 4 (.int) false := ⟨RX0, TX0, 14, tyX0, rfl, igX0, tyX0_ok, nmX0, by decide, rfl, rfl, rfl, in_good (tb2 12 rfl) rfl⟩
theorem fl_X2_47 : Fl RX2 47 0 4 (.int) false := ⟨RX0, TX0, 14, tyX0, rfl, igX0, tyX0_ok, nmX0, by decide, rfl, rfl, rfl, in_good (tb2 13 rfl) rfl⟩
theorem fl_X1_156 : Fl RX1 156 0 4 (.int) false := ⟨RX0, TX0, 14, tyX0, rfl, igX0, tyX0_ok, nmX0, by decide, rfl, rfl, rfl, in_good (tb2 14 rfl) rfl⟩
theorem fl_X11_242 : Fl RX11 242 0 4 (.int) false := ⟨RX0, TX0, 14, tyX0, rfl, igX0, tyX0_ok, nmX0, by decide, rfl, rfl, rfl, in_good (tb2 15 rfl) rfl⟩
theorem fl_X0_57 : Fl RX0 57 0 5 (.int) false := ⟨RX0, TX0, 14, tyX0, rfl, igX0, tyX0_ok, nmX0, by decide, rfl, rfl, rfl, in_good (tb2 16 rfl) rfl⟩
theorem fl_X4_107 : Fl RX4 107 0 5 (.int) false := ⟨RX0, TX0, 14, tyX0, rfl, igX0, tyX0_ok, nmX0, by decide, rfl, rfl, rfl, in_good (tb2 17 rfl) rfl⟩
theorem fl_X11_208 : Fl RX11 208 0 5 (.int) false := ⟨RX0, TX0, 14, tyX0, rfl, igX0, tyX0_ok, nmX0, by decide, rfl, rfl, rfl, in_good (tb2 18 rfl) rfl⟩
theorem fl_X0_60 : Fl RX0 60 0 6 (.int) false := ⟨RX0, TX0, 14, tyX0, rfl, igX0, tyX0_ok, nmX0, by decide, rfl, rfl, rfl, in_good (tb2 19 rfl) rfl⟩
theorem fl_X11_221 : Fl RX11 221 0 6 (.int) false := ⟨RX0, TX0, 14, tyX0, rfl, igX0, tyX0_ok, nmX0, by decide, rfl, rfl, rfl, in_good (tb2 20 rfl) rfl⟩
theorem fl_X0_12 : Fl RX0 12 0 7 (.object "SumsNightwatch$Laws") true := ⟨RX0, TX0, 14, tyX0, rfl, igX0, tyX0_ok, nmX0, by decide, rfl, rfl, rfl, in_good (tb2 21 rfl) rfl⟩
theorem fl_X1_136 : Fl RX1 136 0 7 (.object "SumsNightwatch$Laws") true := ⟨RX0, TX0, 14, tyX0, rfl, igX0, tyX0_ok, nmX0, by decide, rfl, rfl, rfl, in_good (tb2 22 rfl) rfl⟩
theorem fl_X11_190 : Fl RX11 190 0 7 (.object "SumsNightwatch$Laws") true := ⟨RX0, TX0, 14, tyX0, rfl, igX0, tyX0_ok, nmX0, by decide, rfl, rfl, rfl, in_good (tb2 23 rfl) rfl⟩
theorem fl_X0_18 : Fl RX0 18 0 8 (.array .int) true := ⟨RX0, TX0, 14, tyX0, rfl, igX0, tyX0_ok, nmX0, by decide, rfl, rfl, rfl, in_good (tb2 24 rfl) rfl⟩
theorem fl_X1_126 : Fl RX1 126 0 8 (.array .int) true := ⟨RX0, TX0, 14, tyX0, rfl, igX0, tyX0_ok, nmX0, by decide, rfl, rfl, rfl, in_good (tb2 25 rfl) rfl⟩
theorem fl_X11_248 : Fl RX11 248 0 8 (.array .int) true := ⟨RX0, TX0, 14, tyX0, rfl, igX0, tyX0_ok, nmX0, by decide, rfl, rfl, rfl, in_good (tb2 26 rfl) rfl⟩
theorem fl_X0_22 : Fl RX0 22 0 9 (.array .long) true := ⟨RX0, TX0, 14, tyX0, rfl, igX0, tyX0_ok, nmX0, by decide, rfl, rfl, rfl, in_good (tb2 27 rfl) rfl⟩
theorem fl_X1_122 : Fl RX1 122 0 9 (.array .long) true := ⟨RX0, TX0, 14, tyX0, rfl, igX0, tyX0_ok, nmX0, by decide, rfl, rfl, rfl, in_good (tb2 28 rfl) rfl⟩
theorem fl_X0_26 : Fl RX0 26 0 10 (.array .int) true := ⟨RX0, TX0, 14, tyX0, rfl, igX0, tyX0_ok, nmX0, by decide, rfl, rfl, rfl, in_good (tb2 29 rfl) rfl⟩
theorem fl_X7_27 : Fl RX7 27 0 10 (.array .int) true := ⟨RX0, TX0, 14, tyX0, rfl, igX0, tyX0_ok, nmX0, by decide, rfl, rfl, rfl, in_good (tb2 30 rfl) rfl⟩
theorem fl_X2_9 : Fl RX2 9 0 10 (.array .int) true := ⟨RX0, TX0, 14, tyX0, rfl, igX0, tyX0_ok, nmX0, by decide, rfl, rfl, rfl, in_good (tb2 31 rfl) rfl⟩
theorem fl_X8_48 : Fl RX8 48 0 10 (.array .int) true := ⟨RX0, TX0, 14, tyX0, rfl, igX0, tyX0_ok, nmX0, by decide, rfl, rfl, rfl, in_good (tb2 32 rfl) rfl⟩
theorem fl_X1_37 : Fl RX1 37 0 10 (.array .int) true := ⟨RX0, TX0, 14, tyX0, rfl, igX0, tyX0_ok, nmX0, by decide, rfl, rfl, rfl, in_good (tb2 33 rfl) rfl⟩
theorem fl_X4_130 : Fl RX4 130 0 10 (.array .int) true := ⟨RX0, TX0, 14, tyX0, rfl, igX0, tyX0_ok, nmX0, by decide, rfl, rfl, rfl, in_good (tb2 34 rfl) rfl⟩
theorem fl_X11_230 : Fl RX11 230 0 10 (.array .int) true := ⟨RX0, TX0, 14, tyX0, rfl, igX0, tyX0_ok, nmX0, by decide, rfl, rfl, rfl, in_good (tb2 35 rfl) rfl⟩
theorem fl_X0_29 : Fl RX0 29 0 11 (.array .int) true := ⟨RX0, TX0, 14, tyX0, rfl, igX0, tyX0_ok, nmX0, by decide, rfl, rfl, rfl, in_good (tb2 36 rfl) rfl⟩
theorem fl_X1_41 : Fl RX1 41 0 11 (.array .int) true := ⟨RX0, TX0, 14, tyX0, rfl, igX0, tyX0_ok, nmX0, by decide, rfl, rfl, rfl, in_good (tb2 37 rfl) rfl⟩
theorem fl_X8_92 : Fl RX8 92 0 11 (.array .int) true := ⟨RX0, TX0, 14, tyX0, rfl, igX0, tyX0_ok, nmX0, by decide, rfl, rfl, rfl, in_good (tb2 38 rfl) rfl⟩
theorem fl_X4_124 : Fl RX4 124 0 11 (.array .int) true := ⟨RX0, TX0, 14, tyX0, rfl, igX0, tyX0_ok, nmX0, by decide, rfl, rfl, rfl, in_good (tb2 39 rfl) rfl⟩
theorem fl_X11_233 : Fl RX11 233 0 11 (.array .int) true := ⟨RX0, TX0, 14, tyX0, rfl, igX0, tyX0_ok, nmX0, by decide, rfl, rfl, rfl, in_good (tb2 40 rfl) rfl⟩
theorem fl_X0_32 : Fl RX0 32 0 12 (.array .int) true := ⟨RX0, TX0, 14, tyX0, rfl, igX0, tyX0_ok, nmX0, by decide, rfl, rfl, rfl, in_good (tb2 41 rfl) rfl⟩
theorem fl_X8_58 : Fl RX8 58 0 12 (.array .int) true := ⟨RX0, TX0, 14, tyX0, rfl, igX0, tyX0_ok, nmX0, by decide, rfl, rfl, rfl, in_good (tb2 42 rfl) rfl⟩
theorem fl_X11_236 : Fl RX11 236 0 12 (.array .int) true := ⟨RX0, TX0, 14, tyX0, rfl, igX0, tyX0_ok, nmX0, by decide, rfl, rfl, rfl, in_good (tb2 43 rfl) rfl⟩
theorem fl_X0_35 : Fl RX0 35 0 13 (.array .int) true := ⟨RX0, TX0, 14, tyX0, rfl, igX0, tyX0_ok, nmX0, by decide, rfl, rfl, rfl, in_good (tb2 44 rfl) rfl⟩
theorem fl_X5_25 : Fl RX5 25 4 0 (.boolean) false := ⟨RX5, TX5, 8, tyX5, rfl, igX5, tyX5_ok, nmX5, by decide, rfl, rfl, rfl, in_good (tb2 80 rfl) rfl⟩
theorem fl_X6_52 : Fl RX6 52 4 0 (.boolean) false := ⟨RX5, TX5, 8, tyX5, rfl, igX5, tyX5_ok, nmX5, by decide, rfl, rfl, rfl, in_good (tb2 81 rfl) rfl⟩
theorem fl_X11_372 : Fl RX11 372 4 0 (.boolean) false := ⟨RX5, TX5, 8, tyX5, rfl, igX5, tyX5_ok, nmX5, by decide, rfl, rfl, rfl, in_good (tb2 82 rfl) rfl⟩
theorem fl_X5_29 : Fl RX5 29 4 1 (.int) false := ⟨RX5, TX5, 8, tyX5, rfl, igX5, tyX5_ok, nmX5, by decide, rfl, rfl, rfl, in_good (tb2 83 rfl) rfl⟩
theorem fl_X6_77 : Fl RX6 77 4 1 (.int) false := ⟨RX5, TX5, 8, tyX5, rfl, igX5, tyX5_ok, nmX5, by decide, rfl, rfl, rfl, in_good (tb2 84 rfl) rfl⟩
theorem fl_X11_181 : Fl RX11 181 4 1 (.int) false := ⟨RX5, TX5, 8, tyX5, rfl, igX5, tyX5_ok, nmX5, by decide, rfl, rfl, rfl, in_good (tb2 85 rfl) rfl⟩
theorem fl_X5_33 : Fl RX5 33 4 2 (.int) false := ⟨RX5, TX5, 8, tyX5, rfl, igX5, tyX5_ok, nmX5, by decide, rfl, rfl, rfl, in_good (tb2 86 rfl) rfl⟩
theorem fl_X4_44 : Fl RX4 44 4 2 (.int) false := ⟨RX5, TX5, 8, tyX5, rfl, igX5, tyX5_ok, nmX5, by decide, rfl, rfl, rfl, in_good (tb2 87 rfl) rfl⟩
theorem fl_X5_9 : Fl RX5 9 4 3 (.array .int) true := ⟨RX5, TX5, 8, tyX5, rfl, igX5, tyX5_ok, nmX5, by decide, rfl, rfl, rfl, in_good (tb2 88 rfl) rfl⟩
theorem fl_X4_51 : Fl RX4 51 4 3 (.array .int) true := ⟨RX5, TX5, 8, tyX5, rfl, igX5, tyX5_ok, nmX5, by decide, rfl, rfl, rfl, in_good (tb2 89 rfl) rfl⟩
theorem fl_X6_90 : Fl RX6 90 4 3 (.array .int) true := ⟨RX5, TX5, 8, tyX5, rfl, igX5, tyX5_ok, nmX5, by decide, rfl, rfl, rfl, in_good (tb2 90 rfl) rfl⟩
theorem fl_X5_13 : Fl RX5 13 4 4 (.array .int) true := ⟨RX5, TX5, 8, tyX5, rfl, igX5, tyX5_ok, nmX5, by decide, rfl, rfl, rfl, in_good (tb2 91 rfl) rfl⟩
theorem fl_X4_65 : Fl RX4 65 4 4 (.array .int) true := ⟨RX5, TX5, 8, tyX5, rfl, igX5, tyX5_ok, nmX5, by decide, rfl, rfl, rfl, in_good (tb2 92 rfl) rfl⟩
theorem fl_X6_108 : Fl RX6 108 4 4 (.array .int) true := ⟨RX5, TX5, 8, tyX5, rfl, igX5, tyX5_ok, nmX5, by decide, rfl, rfl, rfl, in_good (tb2 93 rfl) rfl⟩
theorem fl_X5_16 : Fl RX5 16 4 5 (.array .int) true := ⟨RX5, TX5, 8, tyX5, rfl, igX5, tyX5_ok, nmX5, by decide, rfl, rfl, rfl, in_good (tb2 94 rfl) rfl⟩
theorem fl_X4_75 : Fl RX4 75 4 5 (.array .int) true := ⟨RX5, TX5, 8, tyX5, rfl, igX5, tyX5_ok, nmX5, by decide, rfl, rfl, rfl, in_good (tb2 95 rfl) rfl⟩
theorem fl_X6_123 : Fl RX6 123 4 5 (.array .int) true := ⟨RX5, TX5, 8, tyX5, rfl, igX5, tyX5_ok, nmX5, by decide, rfl, rfl, rfl, in_good (tb2 96 rfl) rfl⟩
theorem fl_X5_19 : Fl RX5 19 4 6 (.array .int) true := ⟨RX5, TX5, 8, tyX5, rfl, igX5, tyX5_ok, nmX5, by decide, rfl, rfl, rfl, in_good (tb2 97 rfl) rfl⟩
theorem fl_X4_141 : Fl RX4 141 4 6 (.array .int) true := ⟨RX5, TX5, 8, tyX5, rfl, igX5, tyX5_ok, nmX5, by decide, rfl, rfl, rfl, in_good (tb2 98 rfl) rfl⟩
theorem fl_X6_135 : Fl RX6 135 4 6 (.array .int) true := ⟨RX5, TX5, 8, tyX5, rfl, igX5, tyX5_ok, nmX5, by decide, rfl, rfl, rfl, in_good (tb2 99 rfl) rfl⟩
theorem fl_X5_22 : Fl RX5 22 4 7 (.array .int) true := ⟨RX5, TX5, 8, tyX5, rfl, igX5, tyX5_ok, nmX5, by decide, rfl, rfl, rfl, in_good (tb2 100 rfl) rfl⟩
theorem fl_X4_62 : Fl RX4 62 4 7 (.array .int) true := ⟨RX5, TX5, 8, tyX5, rfl, igX5, tyX5_ok, nmX5, by decide, rfl, rfl, rfl, in_good (tb2 101 rfl) rfl⟩
theorem fl_X6_63 : Fl RX6 63 4 7 (.array .int) true := ⟨RX5, TX5, 8, tyX5, rfl, igX5, tyX5_ok, nmX5, by decide, rfl, rfl, rfl, in_good (tb2 102 rfl) rfl⟩
theorem fl_X8_42 : Fl RX8 42 7 0 (.int) false := ⟨RX8, TX8, 9, tyX8, rfl, igX8, tyX8_ok, nmX8, by decide, rfl, rfl, rfl, in_good (tb2 130 rfl) rfl⟩
theorem fl_X11_313 : Fl RX11 313 7 0 (.int) false := ⟨RX8, TX8, 9, tyX8, rfl, igX8, tyX8_ok, nmX8, by decide, rfl, rfl, rfl, in_good (tb2 131 rfl) rfl⟩
theorem fl_X8_9 : Fl RX8 9 7 1 (.array .int) true := ⟨RX8, TX8, 9, tyX8, rfl, igX8, tyX8_ok, nmX8, by decide, rfl, rfl, rfl, in_good (tb2 132 rfl) rfl⟩
theorem fl_X11_316 : Fl RX11 316 7 1 (.array .int) true := ⟨RX8, TX8, 9, tyX8, rfl, igX8, tyX8_ok, nmX8, by decide, rfl, rfl, rfl, in_good (tb2 133 rfl) rfl⟩
theorem fl_X8_45 : Fl RX8 45 7 2 (.int) false := ⟨RX8, TX8, 9, tyX8, rfl, igX8, tyX8_ok, nmX8, by decide, rfl, rfl, rfl, in_good (tb2 134 rfl) rfl⟩
theorem fl_X8_29 : Fl RX8 29 7 3 (.int) false := ⟨RX8, TX8, 9, tyX8, rfl, igX8, tyX8_ok, nmX8, by decide, rfl, rfl, rfl, in_good (tb2 135 rfl) rfl⟩
theorem fl_X8_39 : Fl RX8 39 7 4 (.int) false := ⟨RX8, TX8, 9, tyX8, rfl, igX8, tyX8_ok, nmX8, by decide, rfl, rfl, rfl, in_good (tb2 136 rfl) rfl⟩
theorem fl_X8_15 : Fl RX8 15 7 5 (.array .int) true := ⟨RX8, TX8, 9, tyX8, rfl, igX8, tyX8_ok, nmX8, by decide, rfl, rfl, rfl, in_good (tb2 137 rfl) rfl⟩
theorem fl_X8_20 : Fl RX8 20 7 6 (.array (.array .int)) true := ⟨RX8, TX8, 9, tyX8, rfl, igX8, tyX8_ok, nmX8, by decide, rfl, rfl, rfl, in_good (tb2 138 rfl) rfl⟩
theorem fl_X8_23 : Fl RX8 23 7 7 (.array (.array .int)) true := ⟨RX8, TX8, 9, tyX8, rfl, igX8, tyX8_ok, nmX8, by decide, rfl, rfl, rfl, in_good (tb2 139 rfl) rfl⟩
theorem fl_X8_26 : Fl RX8 26 7 8 (.array (.array .int)) true := ⟨RX8, TX8, 9, tyX8, rfl, igX8, tyX8_ok, nmX8, by decide, rfl, rfl, rfl, in_good (tb2 140 rfl) rfl⟩
theorem fl_X7_38 : Fl RX7 38 6 0 (.int) false := ⟨RX7, TX7, 7, tyX7, rfl, igX7, tyX7_ok, nmX7, by decide, rfl, rfl, rfl, in_good (tb2 166 rfl) rfl⟩
theorem fl_X11_326 : Fl RX11 326 6 0 (.int) false := ⟨RX7, TX7, 7, tyX7, rfl, igX7, tyX7_ok, nmX7, by decide, rfl, rfl, rfl, in_good (tb2 167 rfl) rfl⟩
theorem fl_X7_42 : Fl RX7 42 6 1 (.int) false := ⟨RX7, TX7, 7, tyX7, rfl, igX7, tyX7_ok, nmX7, by decide, rfl, rfl, rfl, in_good (tb2 168 rfl) rfl⟩
theorem fl_X11_333 : Fl RX11 333 6 1 (.int) false := ⟨RX7, TX7, 7, tyX7, rfl, igX7, tyX7_ok, nmX7, by decide, rfl, rfl, rfl, in_good (tb2 169 rfl) rfl⟩
theorem fl_X7_9 : Fl RX7 9 6 2 (.array .int) true := ⟨RX7, TX7, 7, tyX7, rfl, igX7, tyX7_ok, nmX7, by decide, rfl, rfl, rfl, in_good (tb2 170 rfl) rfl⟩
theorem fl_X7_15 : Fl RX7 15 6 3 (.array .int) false := ⟨RX7, TX7, 7, tyX7, rfl, igX7, tyX7_ok, nmX7, by decide, rfl, rfl, rfl, in_good (tb2 171 rfl) rfl⟩
theorem fl_X7_18 : Fl RX7 18 6 4 (.array .int) false := ⟨RX7, TX7, 7, tyX7, rfl, igX7, tyX7_ok, nmX7, by decide, rfl, rfl, rfl, in_good (tb2 172 rfl) rfl⟩
theorem fl_X7_21 : Fl RX7 21 6 5 (.array .int) false := ⟨RX7, TX7, 7, tyX7, rfl, igX7, tyX7_ok, nmX7, by decide, rfl, rfl, rfl, in_good (tb2 173 rfl) rfl⟩
theorem fl_X7_24 : Fl RX7 24 6 6 (.array .int) false := ⟨RX7, TX7, 7, tyX7, rfl, igX7, tyX7_ok, nmX7, by decide, rfl, rfl, rfl, in_good (tb2 174 rfl) rfl⟩
theorem fl_X4_17 : Fl RX4 17 3 0 (.boolean) false := ⟨RX4, TX4, 9, tyX4, rfl, igX4, tyX4_ok, nmX4, by decide, rfl, rfl, rfl, in_good (tb2 196 rfl) rfl⟩
theorem fl_X11_383 : Fl RX11 383 3 0 (.boolean) false := ⟨RX4, TX4, 9, tyX4, rfl, igX4, tyX4_ok, nmX4, by decide, rfl, rfl, rfl, in_good (tb2 197 rfl) rfl⟩
theorem fl_X4_21 : Fl RX4 21 3 1 (.int) false := ⟨RX4, TX4, 9, tyX4, rfl, igX4, tyX4_ok, nmX4, by decide, rfl, rfl, rfl, in_good (tb2 198 rfl) rfl⟩
theorem fl_X11_380 : Fl RX11 380 3 1 (.int) false := ⟨RX4, TX4, 9, tyX4, rfl, igX4, tyX4_ok, nmX4, by decide, rfl, rfl, rfl, in_good (tb2 199 rfl) rfl⟩
theorem fl_X4_25 : Fl RX4 25 3 2 (.int) false := ⟨RX4, TX4, 9, tyX4, rfl, igX4, tyX4_ok, nmX4, by decide, rfl, rfl, rfl, in_good (tb2 200 rfl) rfl⟩
theorem fl_X11_386 : Fl RX11 386 3 2 (.int) false := ⟨RX4, TX4, 9, tyX4, rfl, igX4, tyX4_ok, nmX4, by decide, rfl, rfl, rfl, in_good (tb2 201 rfl) rfl⟩
theorem fl_X4_28 : Fl RX4 28 3 3 (.int) false := ⟨RX4, TX4, 9, tyX4, rfl, igX4, tyX4_ok, nmX4, by decide, rfl, rfl, rfl, in_good (tb2 202 rfl) rfl⟩
theorem fl_X11_389 : Fl RX11 389 3 3 (.int) false := ⟨RX4, TX4, 9, tyX4, rfl, igX4, tyX4_ok, nmX4, by decide, rfl, rfl, rfl, in_good (tb2 203 rfl) rfl⟩
theorem fl_X4_31 : Fl RX4 31 3 4 (.int) false := ⟨RX4, TX4, 9, tyX4, rfl, igX4, tyX4_ok, nmX4, by decide, rfl, rfl, rfl, in_good (tb2 204 rfl) rfl⟩
theorem fl_X11_392 : Fl RX11 392 3 4 (.int) false := ⟨RX4, TX4, 9, tyX4, rfl, igX4, tyX4_ok, nmX4, by decide, rfl, rfl, rfl, in_good (tb2 205 rfl) rfl⟩
theorem fl_X4_34 : Fl RX4 34 3 5 (.int) false := ⟨RX4, TX4, 9, tyX4, rfl, igX4, tyX4_ok, nmX4, by decide, rfl, rfl, rfl, in_good (tb2 206 rfl) rfl⟩
theorem fl_X11_395 : Fl RX11 395 3 5 (.int) false := ⟨RX4, TX4, 9, tyX4, rfl, igX4, tyX4_ok, nmX4, by decide, rfl, rfl, rfl, in_good (tb2 207 rfl) rfl⟩
theorem fl_X4_37 : Fl RX4 37 3 6 (.int) false := ⟨RX4, TX4, 9, tyX4, rfl, igX4, tyX4_ok, nmX4, by decide, rfl, rfl, rfl, in_good (tb2 208 rfl) rfl⟩
theorem fl_X11_396 : Fl RX11 396 3 6 (.int) false := ⟨RX4, TX4, 9, tyX4, rfl, igX4, tyX4_ok, nmX4, by decide, rfl, rfl, rfl, in_good (tb2 209 rfl) rfl⟩
theorem fl_X4_40 : Fl RX4 40 3 7 (.int) false := ⟨RX4, TX4, 9, tyX4, rfl, igX4, tyX4_ok, nmX4, by decide, rfl, rfl, rfl, in_good (tb2 210 rfl) rfl⟩
theorem fl_X4_11 : Fl RX4 11 3 8 (.array .int) true := ⟨RX4, TX4, 9, tyX4, rfl, igX4, tyX4_ok, nmX4, by decide, rfl, rfl, rfl, in_good (tb2 211 rfl) rfl⟩
theorem fl_X11_7 : Fl RX11 7 10 0 (.int) false := ⟨RX11, TX11, 18, tyX11, rfl, igX11, tyX11_ok, nmX11, by decide, rfl, rfl, rfl, in_good (tb2 231 rfl) rfl⟩
theorem fl_X11_13 : Fl RX11 13 10 1 (.long) false := ⟨RX11, TX11, 18, tyX11, rfl, igX11, tyX11_ok, nmX11, by decide, rfl, rfl, rfl, in_good (tb2 232 rfl) rfl⟩
theorem fl_X11_17 : Fl RX11 17 10 2 (.long) false := ⟨RX11, TX11, 18, tyX11, rfl, igX11, tyX11_ok, nmX11, by decide, rfl, rfl, rfl, in_good (tb2 233 rfl) rfl⟩
theorem fl_X11_20 : Fl RX11 20 10 3 (.int) false := ⟨RX11, TX11, 18, tyX11, rfl, igX11, tyX11_ok, nmX11, by decide, rfl, rfl, rfl, in_good (tb2 234 rfl) rfl⟩
theorem fl_X11_26 : Fl RX11 26 10 4 (.object "SumsNightwatch$Trays") true := ⟨RX11, TX11, 18, tyX11, rfl, igX11, tyX11_ok, nmX11, by decide, rfl, rfl, rfl, in_good (tb2 235 rfl) rfl⟩
theorem fl_X11_33 : Fl RX11 33 10 5 (.object "SumsNightwatch$Tape") true := ⟨RX11, TX11, 18, tyX11, rfl, igX11, tyX11_ok, nmX11, by decide, rfl, rfl, rfl, in_good (tb2 236 rfl) rfl⟩
theorem fl_X11_42 : Fl RX11 42 10 6 (.object "SumsNightwatch$BookReader") true := ⟨RX11, TX11, 18, tyX11, rfl, igX11, tyX11_ok, nmX11, by decide, rfl, rfl, rfl, in_good (tb2 237 rfl) rfl⟩
theorem fl_X11_49 : Fl RX11 49 10 7 (.object "SumsNightwatch$NightsReader") true := ⟨RX11, TX11, 18, tyX11, rfl, igX11, tyX11_ok, nmX11, by decide, rfl, rfl, rfl, in_good (tb2 238 rfl) rfl⟩
theorem fl_X11_56 : Fl RX11 56 10 8 (.object "SumsNightwatch$Book") false := ⟨RX11, TX11, 18, tyX11, rfl, igX11, tyX11_ok, nmX11, by decide, rfl, rfl, rfl, in_good (tb2 239 rfl) rfl⟩
theorem fl_X11_60 : Fl RX11 60 10 9 (.object "SumsNightwatch$Book") false := ⟨RX11, TX11, 18, tyX11, rfl, igX11, tyX11_ok, nmX11, by decide, rfl, rfl, rfl, in_good (tb3 0 rfl) rfl⟩
theorem fl_X11_66 : Fl RX11 66 10 10 (.object "SumsNightwatch$Nights") false := ⟨RX11, TX11, 18, tyX11, rfl, igX11, tyX11_ok, nmX11, by decide, rfl, rfl, rfl, in_good (tb3 1 rfl) rfl⟩
theorem fl_X11_70 : Fl RX11 70 10 11 (.object "SumsNightwatch$Nights") false := ⟨RX11, TX11, 18, tyX11, rfl, igX11, tyX11_ok, nmX11, by decide, rfl, rfl, rfl, in_good (tb3 2 rfl) rfl⟩
theorem fl_X11_73 : Fl RX11 73 10 12 (.array (.object "SumsNightwatch$Book")) true := ⟨RX11, TX11, 18, tyX11, rfl, igX11, tyX11_ok, nmX11, by decide, rfl, rfl, rfl, in_good (tb3 3 rfl) rfl⟩
theorem fl_X11_77 : Fl RX11 77 10 13 (.array (.object "SumsNightwatch$Nights")) true := ⟨RX11, TX11, 18, tyX11, rfl, igX11, tyX11_ok, nmX11, by decide, rfl, rfl, rfl, in_good (tb3 4 rfl) rfl⟩
theorem fl_X11_84 : Fl RX11 84 10 14 (.object "SumsNightwatch$Rounds") true := ⟨RX11, TX11, 18, tyX11, rfl, igX11, tyX11_ok, nmX11, by decide, rfl, rfl, rfl, in_good (tb3 5 rfl) rfl⟩
theorem fl_X11_91 : Fl RX11 91 10 15 (.object "SumsNightwatch$Pasts") true := ⟨RX11, TX11, 18, tyX11, rfl, igX11, tyX11_ok, nmX11, by decide, rfl, rfl, rfl, in_good (tb3 6 rfl) rfl⟩
theorem fl_X11_98 : Fl RX11 98 10 16 (.object "SumsNightwatch$Life") true := ⟨RX11, TX11, 18, tyX11, rfl, igX11, tyX11_ok, nmX11, by decide, rfl, rfl, rfl, in_good (tb3 7 rfl) rfl⟩
theorem fl_X11_102 : Fl RX11 102 10 17 (.object "SumsNightwatch$Life") true := ⟨RX11, TX11, 18, tyX11, rfl, igX11, tyX11_ok, nmX11, by decide, rfl, rfl, rfl, in_good (tb3 8 rfl) rfl⟩
theorem fl_X12_75 : Fl RX12 75 11 0 (.int) false := ⟨RX12, TX12, 49, tyX12, rfl, igX12, tyX12_ok, nmX12, by decide, rfl, rfl, rfl, in_good (tb6 95 rfl) rfl⟩
theorem fl_X12_72 : Fl RX12 72 11 1 (.int) false := ⟨RX12, TX12, 49, tyX12, rfl, igX12, tyX12_ok, nmX12, by decide, rfl, rfl, rfl, in_good (tb6 96 rfl) rfl⟩
theorem fl_X12_78 : Fl RX12 78 11 2 (.long) false := ⟨RX12, TX12, 49, tyX12, rfl, igX12, tyX12_ok, nmX12, by decide, rfl, rfl, rfl, in_good (tb6 97 rfl) rfl⟩
theorem fl_X12_7 : Fl RX12 7 11 3 (.long) false := ⟨RX12, TX12, 49, tyX12, rfl, igX12, tyX12_ok, nmX12, by decide, rfl, rfl, rfl, in_good (tb6 98 rfl) rfl⟩
theorem fl_X12_13 : Fl RX12 13 11 4 (.array .int) true := ⟨RX12, TX12, 49, tyX12, rfl, igX12, tyX12_ok, nmX12, by decide, rfl, rfl, rfl, in_good (tb6 99 rfl) rfl⟩
theorem fl_X12_17 : Fl RX12 17 11 5 (.array .int) true := ⟨RX12, TX12, 49, tyX12, rfl, igX12, tyX12_ok, nmX12, by decide, rfl, rfl, rfl, in_good (tb6 100 rfl) rfl⟩
theorem fl_X12_20 : Fl RX12 20 11 6 (.array .long) true := ⟨RX12, TX12, 49, tyX12, rfl, igX12, tyX12_ok, nmX12, by decide, rfl, rfl, rfl, in_good (tb6 101 rfl) rfl⟩
theorem fl_X12_24 : Fl RX12 24 11 7 (.array .byte) true := ⟨RX12, TX12, 49, tyX12, rfl, igX12, tyX12_ok, nmX12, by decide, rfl, rfl, rfl, in_good (tb6 102 rfl) rfl⟩
theorem fl_X12_220 : Fl RX12 220 11 8 (.int) false := ⟨RX12, TX12, 49, tyX12, rfl, igX12, tyX12_ok, nmX12, by decide, rfl, rfl, rfl, in_good (tb6 103 rfl) rfl⟩
theorem fl_X12_111 : Fl RX12 111 11 9 (.int) false := ⟨RX12, TX12, 49, tyX12, rfl, igX12, tyX12_ok, nmX12, by decide, rfl, rfl, rfl, in_good (tb6 104 rfl) rfl⟩
theorem fl_X12_28 : Fl RX12 28 11 10 (.int) false := ⟨RX12, TX12, 49, tyX12, rfl, igX12, tyX12_ok, nmX12, by decide, rfl, rfl, rfl, in_good (tb6 105 rfl) rfl⟩
theorem fl_X12_32 : Fl RX12 32 11 11 (.int) false := ⟨RX12, TX12, 49, tyX12, rfl, igX12, tyX12_ok, nmX12, by decide, rfl, rfl, rfl, in_good (tb6 106 rfl) rfl⟩
theorem fl_X12_204 : Fl RX12 204 11 12 (.int) false := ⟨RX12, TX12, 49, tyX12, rfl, igX12, tyX12_ok, nmX12, by decide, rfl, rfl, rfl, in_good (tb6 107 rfl) rfl⟩
theorem fl_X12_207 : Fl RX12 207 11 13 (.int) false := ⟨RX12, TX12, 49, tyX12, rfl, igX12, tyX12_ok, nmX12, by decide, rfl, rfl, rfl, in_good (tb6 108 rfl) rfl⟩
theorem fl_X12_123 : Fl RX12 123 11 14 (.int) false := ⟨RX12, TX12, 49, tyX12, rfl, igX12, tyX12_ok, nmX12, by decide, rfl, rfl, rfl, in_good (tb6 109 rfl) rfl⟩
theorem fl_X12_117 : Fl RX12 117 11 15 (.int) false := ⟨RX12, TX12, 49, tyX12, rfl, igX12, tyX12_ok, nmX12, by decide, rfl, rfl, rfl, in_good (tb6 110 rfl) rfl⟩
theorem fl_X12_114 : Fl RX12 114 11 16 (.int) false := ⟨RX12, TX12, 49, tyX12, rfl, igX12, tyX12_ok, nmX12, by decide, rfl, rfl, rfl, in_good (tb6 111 rfl) rfl⟩
theorem fl_X12_142 : Fl RX12 142 11 17 (.int) false := ⟨RX12, TX12, 49, tyX12, rfl, igX12, tyX12_ok, nmX12, by decide, rfl, rfl, rfl, in_good (tb6 112 rfl) rfl⟩
theorem fl_X12_136 : Fl RX12 136 11 18 (.int) false := ⟨RX12, TX12, 49, tyX12, rfl, igX12, tyX12_ok, nmX12, by decide, rfl, rfl, rfl, in_good (tb6 113 rfl) rfl⟩
theorem fl_X12_129 : Fl RX12 129 11 19 (.long) false := ⟨RX12, TX12, 49, tyX12, rfl, igX12, tyX12_ok, nmX12, by decide, rfl, rfl, rfl, in_good (tb6 114 rfl) rfl⟩
theorem fl_X12_35 : Fl RX12 35 11 20 (.array .int) true := ⟨RX12, TX12, 49, tyX12, rfl, igX12, tyX12_ok, nmX12, by decide, rfl, rfl, rfl, in_good (tb6 115 rfl) rfl⟩
theorem fl_X12_38 : Fl RX12 38 11 21 (.array .int) true := ⟨RX12, TX12, 49, tyX12, rfl, igX12, tyX12_ok, nmX12, by decide, rfl, rfl, rfl, in_good (tb6 116 rfl) rfl⟩
theorem fl_X12_41 : Fl RX12 41 11 22 (.array .int) true := ⟨RX12, TX12, 49, tyX12, rfl, igX12, tyX12_ok, nmX12, by decide, rfl, rfl, rfl, in_good (tb6 117 rfl) rfl⟩
theorem fl_X12_44 : Fl RX12 44 11 23 (.array .long) true := ⟨RX12, TX12, 49, tyX12, rfl, igX12, tyX12_ok, nmX12, by decide, rfl, rfl, rfl, in_good (tb6 118 rfl) rfl⟩
theorem fl_X12_540 : Fl RX12 540 11 24 (.int) false := ⟨RX12, TX12, 49, tyX12, rfl, igX12, tyX12_ok, nmX12, by decide, rfl, rfl, rfl, in_good (tb6 119 rfl) rfl⟩
theorem fl_X12_239 : Fl RX12 239 11 25 (.int) false := ⟨RX12, TX12, 49, tyX12, rfl, igX12, tyX12_ok, nmX12, by decide, rfl, rfl, rfl, in_good (tb6 120 rfl) rfl⟩
theorem fl_X12_292 : Fl RX12 292 11 26 (.int) false := ⟨RX12, TX12, 49, tyX12, rfl, igX12, tyX12_ok, nmX12, by decide, rfl, rfl, rfl, in_good (tb6 121 rfl) rfl⟩
theorem fl_X12_47 : Fl RX12 47 11 27 (.array .int) true := ⟨RX12, TX12, 49, tyX12, rfl, igX12, tyX12_ok, nmX12, by decide, rfl, rfl, rfl, in_good (tb6 122 rfl) rfl⟩
theorem fl_X12_50 : Fl RX12 50 11 28 (.array .int) true := ⟨RX12, TX12, 49, tyX12, rfl, igX12, tyX12_ok, nmX12, by decide, rfl, rfl, rfl, in_good (tb6 123 rfl) rfl⟩
theorem fl_X12_53 : Fl RX12 53 11 29 (.array .int) true := ⟨RX12, TX12, 49, tyX12, rfl, igX12, tyX12_ok, nmX12, by decide, rfl, rfl, rfl, in_good (tb6 124 rfl) rfl⟩
theorem fl_X12_56 : Fl RX12 56 11 30 (.array .int) true := ⟨RX12, TX12, 49, tyX12, rfl, igX12, tyX12_ok, nmX12, by decide, rfl, rfl, rfl, in_good (tb6 125 rfl) rfl⟩
theorem fl_X12_394 : Fl RX12 394 11 31 (.int) false := ⟨RX12, TX12, 49, tyX12, rfl, igX12, tyX12_ok, nmX12, by decide, rfl, rfl, rfl, in_good (tb6 126 rfl) rfl⟩
theorem fl_X12_397 : Fl RX12 397 11 32 (.int) false := ⟨RX12, TX12, 49, tyX12, rfl, igX12, tyX12_ok, nmX12, by decide, rfl, rfl, rfl, in_good (tb6 127 rfl) rfl⟩
theorem fl_X12_59 : Fl RX12 59 11 33 (.array .int) true := ⟨RX12, TX12, 49, tyX12, rfl, igX12, tyX12_ok, nmX12, by decide, rfl, rfl, rfl, in_good (tb6 128 rfl) rfl⟩
theorem fl_X12_423 : Fl RX12 423 11 34 (.int) false := ⟨RX12, TX12, 49, tyX12, rfl, igX12, tyX12_ok, nmX12, by decide, rfl, rfl, rfl, in_good (tb6 129 rfl) rfl⟩
theorem fl_X12_426 : Fl RX12 426 11 35 (.int) false := ⟨RX12, TX12, 49, tyX12, rfl, igX12, tyX12_ok, nmX12, by decide, rfl, rfl, rfl, in_good (tb6 130 rfl) rfl⟩
theorem fl_X12_429 : Fl RX12 429 11 36 (.int) false := ⟨RX12, TX12, 49, tyX12, rfl, igX12, tyX12_ok, nmX12, by decide, rfl, rfl, rfl, in_good (tb6 131 rfl) rfl⟩
theorem fl_X12_461 : Fl RX12 461 11 37 (.int) false := ⟨RX12, TX12, 49, tyX12, rfl, igX12, tyX12_ok, nmX12, by decide, rfl, rfl, rfl, in_good (tb6 132 rfl) rfl⟩
theorem fl_X12_62 : Fl RX12 62 11 38 (.array .long) true := ⟨RX12, TX12, 49, tyX12, rfl, igX12, tyX12_ok, nmX12, by decide, rfl, rfl, rfl, in_good (tb6 133 rfl) rfl⟩
theorem fl_X12_65 : Fl RX12 65 11 39 (.array .int) true := ⟨RX12, TX12, 49, tyX12, rfl, igX12, tyX12_ok, nmX12, by decide, rfl, rfl, rfl, in_good (tb6 134 rfl) rfl⟩
theorem fl_X12_537 : Fl RX12 537 11 40 (.boolean) false := ⟨RX12, TX12, 49, tyX12, rfl, igX12, tyX12_ok, nmX12, by decide, rfl, rfl, rfl, in_good (tb6 135 rfl) rfl⟩
theorem fl_X12_510 : Fl RX12 510 11 41 (.boolean) false := ⟨RX12, TX12, 49, tyX12, rfl, igX12, tyX12_ok, nmX12, by decide, rfl, rfl, rfl, in_good (tb6 136 rfl) rfl⟩
theorem fl_X12_482 : Fl RX12 482 11 42 (.int) false := ⟨RX12, TX12, 49, tyX12, rfl, igX12, tyX12_ok, nmX12, by decide, rfl, rfl, rfl, in_good (tb6 137 rfl) rfl⟩
theorem fl_X12_507 : Fl RX12 507 11 43 (.int) false := ⟨RX12, TX12, 49, tyX12, rfl, igX12, tyX12_ok, nmX12, by decide, rfl, rfl, rfl, in_good (tb6 138 rfl) rfl⟩
theorem fl_X12_517 : Fl RX12 517 11 44 (.int) false := ⟨RX12, TX12, 49, tyX12, rfl, igX12, tyX12_ok, nmX12, by decide, rfl, rfl, rfl, in_good (tb6 139 rfl) rfl⟩
theorem fl_X12_489 : Fl RX12 489 11 45 (.int) false := ⟨RX12, TX12, 49, tyX12, rfl, igX12, tyX12_ok, nmX12, by decide, rfl, rfl, rfl, in_good (tb6 140 rfl) rfl⟩
theorem fl_X12_486 : Fl RX12 486 11 46 (.int) false := ⟨RX12, TX12, 49, tyX12, rfl, igX12, tyX12_ok, nmX12, by decide, rfl, rfl, rfl, in_good (tb6 141 rfl) rfl⟩
theorem fl_X12_504 : Fl RX12 504 11 47 (.int) false := ⟨RX12, TX12, 49, tyX12, rfl, igX12, tyX12_ok, nmX12, by decide, rfl, rfl, rfl, in_good (tb6 142 rfl) rfl⟩
theorem fl_X12_514 : Fl RX12 514 11 48 (.int) false := ⟨RX12, TX12, 49, tyX12, rfl, igX12, tyX12_ok, nmX12, by decide, rfl, rfl, rfl, in_good (tb6 143 rfl) rfl⟩
theorem my_J7_fill_53178 : MyS yJ7_fill_53178 cJ7_fill_53178 4 none 2 := ⟨in_good (tb1 39 rfl) rfl, in_good (tb1 3 rfl) rfl, in_good (tb1 40 rfl) rfl, ⟨by decide +kernel, by decide +kernel, by decide +kernel⟩, by decide⟩
theorem mw_X10_23 : MwS RX10 23 yJ7_fill_53178 cJ7_fill_53178 4 none 2 := ⟨Or.inl (in_good (tb1 38 rfl) rfl), my_J7_fill_53178⟩
theorem my_J1_charAt_3b067 : MyS yJ1_charAt_3b067 cJ1_charAt_3b067 2 (some (.char)) 2 := ⟨in_good (tb1 81 rfl) rfl, in_good (tb1 6 rfl) rfl, in_good (tb1 82 rfl) rfl, ⟨by decide +kernel, by decide +kernel, by decide +kernel⟩, by decide⟩
theorem mw_J0_495 : MwS RJ0 495 yJ1_charAt_3b067 cJ1_charAt_3b067 2 (some (.char)) 2 := ⟨Or.inl (in_good (tb1 80 rfl) rfl), my_J1_charAt_3b067⟩
theorem my_J0_checkIndex_df160 : MyS yJ0_checkIndex_df160 cJ0_checkIndex_df160 2 none 2 := ⟨in_good (tb1 84 rfl) rfl, in_good (tb1 5 rfl) rfl, in_good (tb1 85 rfl) rfl, ⟨by decide +kernel, by decide +kernel, by decide +kernel⟩, by decide⟩
theorem mw_J1_9 : MwS RJ1 9 yJ0_checkIndex_df160 cJ0_checkIndex_df160 2 none 2 := ⟨Or.inl (in_good (tb1 83 rfl) rfl), my_J0_checkIndex_df160⟩
theorem my_J3_checkIndex_8e157 : MyS yJ3_checkIndex_8e157 cJ3_checkIndex_8e157 3 (some (.int)) 3 := ⟨in_good (tb1 89 rfl) rfl, in_good (tb1 7 rfl) rfl, in_good (tb1 90 rfl) rfl, ⟨by decide +kernel, by decide +kernel, by decide +kernel⟩, by decide⟩
theorem mw_J0_1059 : MwS RJ0 1059 yJ3_checkIndex_8e157 cJ3_checkIndex_8e157 3 (some (.int)) 3 := ⟨Or.inl (in_good (tb1 88 rfl) rfl), my_J3_checkIndex_8e157⟩
theorem my_J2_charAt_3b067 : MyS yJ2_charAt_3b067 cJ2_charAt_3b067 2 (some (.char)) 2 := ⟨in_good (tb1 92 rfl) rfl, in_good (tb1 8 rfl) rfl, in_good (tb1 93 rfl) rfl, ⟨by decide +kernel, by decide +kernel, by decide +kernel⟩, by decide⟩
theorem mw_J0_498 : MwS RJ0 498 yJ2_charAt_3b067 cJ2_charAt_3b067 2 (some (.char)) 2 := ⟨Or.inl (in_good (tb1 91 rfl) rfl), my_J2_charAt_3b067⟩
theorem my_J2_checkIndex_2214a : MyS yJ2_checkIndex_2214a cJ2_checkIndex_2214a 2 none 2 := ⟨in_good (tb1 95 rfl) rfl, in_good (tb1 8 rfl) rfl, in_good (tb1 96 rfl) rfl, ⟨by decide +kernel, by decide +kernel, by decide +kernel⟩, by decide⟩
theorem mw_J2_67 : MwS RJ2 67 yJ2_checkIndex_2214a cJ2_checkIndex_2214a 2 none 2 := ⟨Or.inl (in_good (tb1 94 rfl) rfl), my_J2_checkIndex_2214a⟩
theorem my_J2_length_9d52b : MyS yJ2_length_9d52b cJ2_length_9d52b 1 (some (.int)) 1 := ⟨in_good (tb1 98 rfl) rfl, in_good (tb1 8 rfl) rfl, in_good (tb1 99 rfl) rfl, ⟨by decide +kernel, by decide +kernel, by decide +kernel⟩, by decide⟩
theorem mw_J2_48 : MwS RJ2 48 yJ2_length_9d52b cJ2_length_9d52b 1 (some (.int)) 1 := ⟨Or.inl (in_good (tb1 97 rfl) rfl), my_J2_length_9d52b⟩
theorem mw_J2_414 : MwS RJ2 414 yJ0_checkIndex_df160 cJ0_checkIndex_df160 2 none 2 := ⟨Or.inl (in_good (tb1 100 rfl) rfl), my_J0_checkIndex_df160⟩
theorem my_J2_getChar_3b067 : MyS yJ2_getChar_3b067 cJ2_getChar_3b067 2 (some (.char)) 2 := ⟨in_good (tb1 102 rfl) rfl, in_good (tb1 8 rfl) rfl, in_good (tb1 103 rfl) rfl, ⟨by decide +kernel, by decide +kernel, by decide +kernel⟩, by decide⟩
theorem mw_J2_71 : MwS RJ2 71 yJ2_getChar_3b067 cJ2_getChar_3b067 2 (some (.char)) 2 := ⟨Or.inl (in_good (tb1 101 rfl) rfl), my_J2_getChar_3b067⟩
theorem my_X0_setBare : MyV 0 yX0_setBare cX0_setBare 1 none 0 := ⟨in_good (tb1 230 rfl) rfl, in_good (sl_in 0 rfl) rfl, in_good (tb1 11 rfl) rfl, in_good (tb1 231 rfl) rfl, ⟨by decide +kernel, by decide +kernel, by decide +kernel⟩, by decide, _, rfl, rfl⟩
theorem mw_X0_38 : MwV RX0 38 0 yX0_setBare cX0_setBare 1 none 0 := ⟨in_good (tb1 228 rfl) rfl, my_X0_setBare⟩
theorem my_X11_status : MyV 10 yX11_status cX11_status 1 (some (.int)) 0 := ⟨in_good (tb3 47 rfl) rfl, in_good (tb3 48 rfl) rfl, in_good (tb1 1 rfl) rfl, in_good (tb3 49 rfl) rfl, ⟨by decide +kernel, by decide +kernel, by decide +kernel⟩, by decide, _, rfl, rfl⟩
theorem mw_L_13 : MwV RL 13 10 yX11_status cX11_status 1 (some (.int)) 0 := ⟨in_good (tb3 46 rfl) rfl, my_X11_status⟩
theorem my_X11_top : MyV 10 yX11_top cX11_top 1 (some (.long)) 0 := ⟨in_good (tb3 51 rfl) rfl, in_good (tb3 52 rfl) rfl, in_good (tb1 1 rfl) rfl, in_good (tb3 53 rfl) rfl, ⟨by decide +kernel, by decide +kernel, by decide +kernel⟩, by decide, _, rfl, rfl⟩
theorem mw_L_18 : MwV RL 18 10 yX11_top cX11_top 1 (some (.long)) 0 := ⟨in_good (tb3 50 rfl) rfl, my_X11_top⟩
theorem my_X11_bottom : MyV 10 yX11_bottom cX11_bottom 1 (some (.long)) 0 := ⟨in_good (tb3 55 rfl) rfl, in_good (tb3 56 rfl) rfl, in_good (tb1 1 rfl) rfl, in_good (tb3 57 rfl) rfl, ⟨by decide +kernel, by decide +kernel, by decide +kernel⟩, by decide, _, rfl, rfl⟩
theorem mw_L_23 : MwV RL 23 10 yX11_bottom cX11_bottom 1 (some (.long)) 0 := ⟨in_good (tb3 54 rfl) rfl, my_X11_bottom⟩
theorem my_X11_tray : MyV 10 yX11_tray cX11_tray 4 (some (.boolean)) 3 := ⟨in_good (tb3 59 rfl) rfl, in_good (tb3 60 rfl) rfl, in_good (tb1 1 rfl) rfl, in_good (tb3 61 rfl) rfl, ⟨by decide +kernel, by decide +kernel, by decide +kernel⟩, by decide, _, rfl, rfl⟩
theorem mw_L_27 : MwV RL 27 10 yX11_tray cX11_tray 4 (some (.boolean)) 3 := ⟨in_good (tb3 58 rfl) rfl, my_X11_tray⟩
theorem my_X10_isNumber : MyV 9 yX10_isNumber cX10_isNumber 2 (some (.boolean)) 1 := ⟨in_good (tb3 63 rfl) rfl, in_good (tb3 64 rfl) rfl, in_good (tb1 2 rfl) rfl, in_good (tb3 65 rfl) rfl, ⟨by decide +kernel, by decide +kernel, by decide +kernel⟩, by decide, _, rfl, rfl⟩
theorem mw_X11_113 : MwV RX11 113 9 yX10_isNumber cX10_isNumber 2 (some (.boolean)) 1 := ⟨in_good (tb3 62 rfl) rfl, my_X10_isNumber⟩
theorem my_X11_within : MyS yX11_within cX11_within 3 (some (.boolean)) 3 := ⟨in_good (tb3 67 rfl) rfl, in_good (tb1 1 rfl) rfl, in_good (tb3 68 rfl) rfl, ⟨by decide +kernel, by decide +kernel, by decide +kernel⟩, by decide⟩
theorem mw_X10_29 : MwS RX10 29 yX11_within cX11_within 3 (some (.boolean)) 3 := ⟨Or.inr ⟨"SumsNightwatch", tb3 66 rfl⟩, my_X11_within⟩
theorem mw_X11_116 : MwS RX11 116 yX11_within cX11_within 3 (some (.boolean)) 3 := ⟨Or.inl (in_good (tb3 69 rfl) rfl), my_X11_within⟩
theorem my_X11_verdict : MyV 10 yX11_verdict cX11_verdict 2 (some (.boolean)) 1 := ⟨in_good (tb3 72 rfl) rfl, in_good (sl_in 1 rfl) rfl, in_good (tb1 1 rfl) rfl, in_good (tb3 73 rfl) rfl, ⟨by decide +kernel, by decide +kernel, by decide +kernel⟩, by decide, _, rfl, rfl⟩
theorem mw_X11_109 : MwV RX11 109 10 yX11_verdict cX11_verdict 2 (some (.boolean)) 1 := ⟨in_good (tb3 70 rfl) rfl, my_X11_verdict⟩
theorem my_X10_make : MyV 9 yX10_make cX10_make 4 none 3 := ⟨in_good (tb3 75 rfl) rfl, in_good (tb3 76 rfl) rfl, in_good (tb1 2 rfl) rfl, in_good (tb3 77 rfl) rfl, ⟨by decide +kernel, by decide +kernel, by decide +kernel⟩, by decide, _, rfl, rfl⟩
theorem mw_X11_120 : MwV RX11 120 9 yX10_make cX10_make 4 none 3 := ⟨in_good (tb3 74 rfl) rfl, my_X10_make⟩
theorem my_J7_fill_d0a16 : MyS yJ7_fill_d0a16 cJ7_fill_d0a16 5 none 2 := ⟨in_good (tb3 79 rfl) rfl, in_good (tb1 3 rfl) rfl, in_good (tb3 80 rfl) rfl, ⟨by decide +kernel, by decide +kernel, by decide +kernel⟩, by decide⟩
theorem mw_X10_33 : MwS RX10 33 yJ7_fill_d0a16 cJ7_fill_d0a16 5 none 2 := ⟨Or.inl (in_good (tb3 78 rfl) rfl), my_J7_fill_d0a16⟩
theorem my_X11_write : MyV 10 yX11_write cX11_write 6 (some (.boolean)) 3 := ⟨in_good (tb3 82 rfl) rfl, in_good (tb3 83 rfl) rfl, in_good (tb1 1 rfl) rfl, in_good (tb3 84 rfl) rfl, ⟨by decide +kernel, by decide +kernel, by decide +kernel⟩, by decide, _, rfl, rfl⟩
theorem mw_L_34 : MwV RL 34 10 yX11_write cX11_write 6 (some (.boolean)) 3 := ⟨in_good (tb3 81 rfl) rfl, my_X11_write⟩
theorem my_X10_lookAt : MyV 9 yX10_lookAt cX10_lookAt 3 (some (.int)) 2 := ⟨in_good (tb3 86 rfl) rfl, in_good (tb3 87 rfl) rfl, in_good (tb1 2 rfl) rfl, in_good (tb3 88 rfl) rfl, ⟨by decide +kernel, by decide +kernel, by decide +kernel⟩, by decide, _, rfl, rfl⟩
theorem mw_X11_124 : MwV RX11 124 9 yX10_lookAt cX10_lookAt 3 (some (.int)) 2 := ⟨in_good (tb3 85 rfl) rfl, my_X10_lookAt⟩
theorem mw_X10_36 : MwV RX10 36 9 yX10_isNumber cX10_isNumber 2 (some (.boolean)) 1 := ⟨in_good (tb3 89 rfl) rfl, my_X10_isNumber⟩
theorem my_X10_isMissing : MyV 9 yX10_isMissing cX10_isMissing 2 (some (.boolean)) 1 := ⟨in_good (tb3 91 rfl) rfl, in_good (tb3 92 rfl) rfl, in_good (tb1 2 rfl) rfl, in_good (tb3 93 rfl) rfl, ⟨by decide +kernel, by decide +kernel, by decide +kernel⟩, by decide, _, rfl, rfl⟩
theorem mw_X10_40 : MwV RX10 40 9 yX10_isMissing cX10_isMissing 2 (some (.boolean)) 1 := ⟨in_good (tb3 90 rfl) rfl, my_X10_isMissing⟩
theorem my_X10_put : MyV 9 yX10_put cX10_put 5 none 3 := ⟨in_good (tb3 95 rfl) rfl, in_good (tb3 96 rfl) rfl, in_good (tb1 2 rfl) rfl, in_good (tb3 97 rfl) rfl, ⟨by decide +kernel, by decide +kernel, by decide +kernel⟩, by decide, _, rfl, rfl⟩
theorem mw_X11_128 : MwV RX11 128 9 yX10_put cX10_put 5 none 3 := ⟨in_good (tb3 94 rfl) rfl, my_X10_put⟩
theorem my_X10_cut : MyS yX10_cut cX10_cut 3 (some (.long)) 2 := ⟨in_good (tb3 99 rfl) rfl, in_good (tb1 2 rfl) rfl, in_good (tb3 100 rfl) rfl, ⟨by decide +kernel, by decide +kernel, by decide +kernel⟩, by decide⟩
theorem mw_X10_43 : MwS RX10 43 yX10_cut cX10_cut 3 (some (.long)) 2 := ⟨Or.inl (in_good (tb3 98 rfl) rfl), my_X10_cut⟩
theorem my_X11_read : MyV 10 yX11_read cX11_read 4 (some (.long)) 2 := ⟨in_good (tb3 102 rfl) rfl, in_good (tb3 103 rfl) rfl, in_good (tb1 1 rfl) rfl, in_good (tb3 104 rfl) rfl, ⟨by decide +kernel, by decide +kernel, by decide +kernel⟩, by decide, _, rfl, rfl⟩
theorem mw_L_39 : MwV RL 39 10 yX11_read cX11_read 4 (some (.long)) 2 := ⟨in_good (tb3 101 rfl) rfl, my_X11_read⟩
theorem my_X11_pour : MyV 10 yX11_pour cX11_pour 6 (some (.boolean)) 5 := ⟨in_good (tb3 107 rfl) rfl, in_good (tb3 108 rfl) rfl, in_good (tb1 1 rfl) rfl, in_good (tb3 109 rfl) rfl, ⟨by decide +kernel, by decide +kernel, by decide +kernel⟩, by decide, _, rfl, rfl⟩
theorem mw_L_44 : MwV RL 44 10 yX11_pour cX11_pour 6 (some (.boolean)) 5 := ⟨in_good (tb3 106 rfl) rfl, my_X11_pour⟩
theorem mw_X11_138 : MwV RX11 138 9 yX10_isMissing cX10_isMissing 2 (some (.boolean)) 1 := ⟨in_good (tb3 110 rfl) rfl, my_X10_isMissing⟩
theorem my_X10_holds : MyV 9 yX10_holds cX10_holds 4 (some (.boolean)) 3 := ⟨in_good (tb3 112 rfl) rfl, in_good (tb3 113 rfl) rfl, in_good (tb1 2 rfl) rfl, in_good (tb3 114 rfl) rfl, ⟨by decide +kernel, by decide +kernel, by decide +kernel⟩, by decide, _, rfl, rfl⟩
theorem mw_X11_145 : MwV RX11 145 9 yX10_holds cX10_holds 4 (some (.boolean)) 3 := ⟨in_good (tb3 111 rfl) rfl, my_X10_holds⟩
theorem mw_X11_148 : MwC RX11 148 := ⟨in_good (tb3 115 rfl) rfl, in_good (tb3 117 rfl) rfl, in_good (tb3 116 rfl) rfl, in_good (tb1 18 rfl) rfl⟩
theorem my_X11_feed : MyV 10 yX11_feed cX11_feed 6 (some (.int)) 5 := ⟨in_good (tb3 119 rfl) rfl, in_good (tb3 120 rfl) rfl, in_good (tb1 1 rfl) rfl, in_good (tb3 121 rfl) rfl, ⟨by decide +kernel, by decide +kernel, by decide +kernel⟩, by decide, _, rfl, rfl⟩
theorem mw_L_49 : MwV RL 49 10 yX11_feed cX11_feed 6 (some (.int)) 5 := ⟨in_good (tb3 118 rfl) rfl, my_X11_feed⟩
theorem my_X9_append : MyV 8 yX9_append cX9_append 3 none 1 := ⟨in_good (tb3 123 rfl) rfl, in_good (tb3 124 rfl) rfl, in_good (tb1 4 rfl) rfl, in_good (tb3 125 rfl) rfl, ⟨by decide +kernel, by decide +kernel, by decide +kernel⟩, by decide, _, rfl, rfl⟩
theorem mw_X11_157 : MwV RX11 157 8 yX9_append cX9_append 3 none 1 := ⟨in_good (tb3 122 rfl) rfl, my_X9_append⟩
theorem my_X11_book : MyV 10 yX11_book cX11_book 3 (some (.int)) 1 := ⟨in_good (tb3 127 rfl) rfl, in_good (tb3 128 rfl) rfl, in_good (tb1 1 rfl) rfl, in_good (tb3 129 rfl) rfl, ⟨by decide +kernel, by decide +kernel, by decide +kernel⟩, by decide, _, rfl, rfl⟩
theorem mw_L_54 : MwV RL 54 10 yX11_book cX11_book 3 (some (.int)) 1 := ⟨in_good (tb3 126 rfl) rfl, my_X11_book⟩
theorem my_X11_refuse : MyV 10 yX11_refuse cX11_refuse 2 (some (.int)) 1 := ⟨in_good (tb3 132 rfl) rfl, in_good (sl_in 2 rfl) rfl, in_good (tb1 1 rfl) rfl, in_good (tb3 133 rfl) rfl, ⟨by decide +kernel, by decide +kernel, by decide +kernel⟩, by decide, _, rfl, rfl⟩
theorem mw_X11_161 : MwV RX11 161 10 yX11_refuse cX11_refuse 2 (some (.int)) 1 := ⟨in_good (tb3 130 rfl) rfl, my_X11_refuse⟩
theorem my_X1_fill : MyV 1 yX1_fill cX1_fill 4 (some (.boolean)) 2 := ⟨in_good (tb3 135 rfl) rfl, in_good (tb3 136 rfl) rfl, in_good (tb1 9 rfl) rfl, in_good (tb3 137 rfl) rfl, ⟨by decide +kernel, by decide +kernel, by decide +kernel⟩, by decide, _, rfl, rfl⟩
theorem mw_X11_165 : MwV RX11 165 1 yX1_fill cX1_fill 4 (some (.boolean)) 2 := ⟨in_good (tb3 134 rfl) rfl, my_X1_fill⟩
theorem my_X0_empty : MyV 0 yX0_empty cX0_empty 1 none 0 := ⟨in_good (tb3 139 rfl) rfl, in_good (tb3 140 rfl) rfl, in_good (tb1 11 rfl) rfl, in_good (tb3 141 rfl) rfl, ⟨by decide +kernel, by decide +kernel, by decide +kernel⟩, by decide, _, rfl, rfl⟩
theorem mw_X1_19 : MwV RX1 19 0 yX0_empty cX0_empty 1 none 0 := ⟨in_good (tb3 138 rfl) rfl, my_X0_empty⟩
theorem mw_X0_66 : MwS RX0 66 yJ7_fill_53178 cJ7_fill_53178 4 none 2 := ⟨Or.inl (in_good (tb3 142 rfl) rfl), my_J7_fill_53178⟩
theorem my_X9_open : MyV 8 yX9_open cX9_open 2 none 1 := ⟨in_good (tb3 144 rfl) rfl, in_good (tb3 145 rfl) rfl, in_good (tb1 4 rfl) rfl, in_good (tb3 146 rfl) rfl, ⟨by decide +kernel, by decide +kernel, by decide +kernel⟩, by decide, _, rfl, rfl⟩
theorem mw_X1_24 : MwV RX1 24 8 yX9_open cX9_open 2 none 1 := ⟨in_good (tb3 143 rfl) rfl, my_X9_open⟩
theorem my_J9_min_7cf53 : MyS yJ9_min_7cf53 cJ9_min_7cf53 2 (some (.int)) 2 := ⟨in_good (tb3 148 rfl) rfl, in_good (tb1 19 rfl) rfl, in_good (tb3 149 rfl) rfl, ⟨by decide +kernel, by decide +kernel, by decide +kernel⟩, by decide⟩
theorem mw_X9_45 : MwM RX9 45 yJ9_min_7cf53 cJ9_min_7cf53 2 (some (.int)) 2 := ⟨in_good (tb3 147 rfl) rfl, my_J9_min_7cf53⟩
theorem my_X9_advance : MyV 8 yX9_advance cX9_advance 1 none 0 := ⟨in_good (tb3 151 rfl) rfl, in_good (tb3 152 rfl) rfl, in_good (tb1 4 rfl) rfl, in_good (tb3 153 rfl) rfl, ⟨by decide +kernel, by decide +kernel, by decide +kernel⟩, by decide, _, rfl, rfl⟩
theorem mw_X9_57 : MwV RX9 57 8 yX9_advance cX9_advance 1 none 0 := ⟨in_good (tb3 150 rfl) rfl, my_X9_advance⟩
theorem my_X9_isLetter : MyS yX9_isLetter cX9_isLetter 1 (some (.boolean)) 1 := ⟨in_good (tb3 155 rfl) rfl, in_good (tb1 4 rfl) rfl, in_good (tb3 156 rfl) rfl, ⟨by decide +kernel, by decide +kernel, by decide +kernel⟩, by decide⟩
theorem mw_X9_66 : MwS RX9 66 yX9_isLetter cX9_isLetter 1 (some (.boolean)) 1 := ⟨Or.inl (in_good (tb3 154 rfl) rfl), my_X9_isLetter⟩
theorem my_X9_lookAtWord : MyV 8 yX9_lookAtWord cX9_lookAtWord 4 none 0 := ⟨in_good (tb3 159 rfl) rfl, in_good (sl_in 3 rfl) rfl, in_good (tb1 4 rfl) rfl, in_good (tb3 160 rfl) rfl, ⟨by decide +kernel, by decide +kernel, by decide +kernel⟩, by decide, _, rfl, rfl⟩
theorem mw_X9_70 : MwV RX9 70 8 yX9_lookAtWord cX9_lookAtWord 4 none 0 := ⟨in_good (tb3 157 rfl) rfl, my_X9_lookAtWord⟩
theorem my_X9_isFigure : MyS yX9_isFigure cX9_isFigure 1 (some (.boolean)) 1 := ⟨in_good (tb3 162 rfl) rfl, in_good (tb1 4 rfl) rfl, in_good (tb3 163 rfl) rfl, ⟨by decide +kernel, by decide +kernel, by decide +kernel⟩, by decide⟩
theorem mw_X9_73 : MwS RX9 73 yX9_isFigure cX9_isFigure 1 (some (.boolean)) 1 := ⟨Or.inl (in_good (tb3 161 rfl) rfl), my_X9_isFigure⟩
theorem my_X9_lookAtNumber : MyV 8 yX9_lookAtNumber cX9_lookAtNumber 1 none 0 := ⟨in_good (tb3 166 rfl) rfl, in_good (sl_in 4 rfl) rfl, in_good (tb1 4 rfl) rfl, in_good (tb3 167 rfl) rfl, ⟨by decide +kernel, by decide +kernel, by decide +kernel⟩, by decide, _, rfl, rfl⟩
theorem mw_X9_76 : MwV RX9 76 8 yX9_lookAtNumber cX9_lookAtNumber 1 none 0 := ⟨in_good (tb3 164 rfl) rfl, my_X9_lookAtNumber⟩
theorem my_X9_lookAtSign : MyV 8 yX9_lookAtSign cX9_lookAtSign 2 none 0 := ⟨in_good (tb3 170 rfl) rfl, in_good (sl_in 5 rfl) rfl, in_good (tb1 4 rfl) rfl, in_good (tb3 171 rfl) rfl, ⟨by decide +kernel, by decide +kernel, by decide +kernel⟩, by decide, _, rfl, rfl⟩
theorem mw_X9_79 : MwV RX9 79 8 yX9_lookAtSign cX9_lookAtSign 2 none 0 := ⟨in_good (tb3 168 rfl) rfl, my_X9_lookAtSign⟩
theorem my_X1_takePart : MyV 1 yX1_takePart cX1_takePart 2 (some (.boolean)) 1 := ⟨in_good (tb3 174 rfl) rfl, in_good (sl_in 6 rfl) rfl, in_good (tb1 9 rfl) rfl, in_good (tb3 175 rfl) rfl, ⟨by decide +kernel, by decide +kernel, by decide +kernel⟩, by decide, _, rfl, rfl⟩
theorem mw_X1_33 : MwV RX1 33 1 yX1_takePart cX1_takePart 2 (some (.boolean)) 1 := ⟨in_good (tb3 172 rfl) rfl, my_X1_takePart⟩
theorem my_X9_setWord : MyV 8 yX9_setWord cX9_setWord 1 (some (.int)) 0 := ⟨in_good (tb3 177 rfl) rfl, in_good (tb3 178 rfl) rfl, in_good (tb1 4 rfl) rfl, in_good (tb3 179 rfl) rfl, ⟨by decide +kernel, by decide +kernel, by decide +kernel⟩, by decide, _, rfl, rfl⟩
theorem mw_X1_50 : MwV RX1 50 8 yX9_setWord cX9_setWord 1 (some (.int)) 0 := ⟨in_good (tb3 176 rfl) rfl, my_X9_setWord⟩
theorem my_X1_takeWide : MyV 1 yX1_takeWide cX1_takeWide 2 (some (.boolean)) 1 := ⟨in_good (tb3 182 rfl) rfl, in_good (sl_in 7 rfl) rfl, in_good (tb1 9 rfl) rfl, in_good (tb3 183 rfl) rfl, ⟨by decide +kernel, by decide +kernel, by decide +kernel⟩, by decide, _, rfl, rfl⟩
theorem mw_X1_54 : MwV RX1 54 1 yX1_takeWide cX1_takeWide 2 (some (.boolean)) 1 := ⟨in_good (tb3 180 rfl) rfl, my_X1_takeWide⟩
theorem my_X9_refuseToken : MyV 8 yX9_refuseToken cX9_refuseToken 2 (some (.boolean)) 1 := ⟨in_good (tb3 185 rfl) rfl, in_good (tb3 186 rfl) rfl, in_good (tb1 4 rfl) rfl, in_good (tb3 187 rfl) rfl, ⟨by decide +kernel, by decide +kernel, by decide +kernel⟩, by decide, _, rfl, rfl⟩
theorem mw_X1_76 : MwV RX1 76 8 yX9_refuseToken cX9_refuseToken 2 (some (.boolean)) 1 := ⟨in_good (tb3 184 rfl) rfl, my_X9_refuseToken⟩
theorem my_X1_takeWordOnce : MyV 1 yX1_takeWordOnce cX1_takeWordOnce 2 (some (.boolean)) 1 := ⟨in_good (tb3 190 rfl) rfl, in_good (sl_in 8 rfl) rfl, in_good (tb1 9 rfl) rfl, in_good (tb3 191 rfl) rfl, ⟨by decide +kernel, by decide +kernel, by decide +kernel⟩, by decide, _, rfl, rfl⟩
theorem mw_X1_86 : MwV RX1 86 1 yX1_takeWordOnce cX1_takeWordOnce 2 (some (.boolean)) 1 := ⟨in_good (tb3 188 rfl) rfl, my_X1_takeWordOnce⟩
theorem my_X9_takeWord : MyV 8 yX9_takeWord cX9_takeWord 2 (some (.boolean)) 1 := ⟨in_good (tb3 193 rfl) rfl, in_good (tb3 194 rfl) rfl, in_good (tb1 4 rfl) rfl, in_good (tb3 195 rfl) rfl, ⟨by decide +kernel, by decide +kernel, by decide +kernel⟩, by decide, _, rfl, rfl⟩
theorem mw_X1_80 : MwV RX1 80 8 yX9_takeWord cX9_takeWord 2 (some (.boolean)) 1 := ⟨in_good (tb3 192 rfl) rfl, my_X9_takeWord⟩
theorem mw_X9_92 : MwV RX9 92 8 yX9_setWord cX9_setWord 1 (some (.int)) 0 := ⟨in_good (tb3 196 rfl) rfl, my_X9_setWord⟩
theorem my_X9_refuseUnfit : MyV 8 yX9_refuseUnfit cX9_refuseUnfit 1 (some (.boolean)) 0 := ⟨in_good (tb3 198 rfl) rfl, in_good (tb3 199 rfl) rfl, in_good (tb1 4 rfl) rfl, in_good (tb3 200 rfl) rfl, ⟨by decide +kernel, by decide +kernel, by decide +kernel⟩, by decide, _, rfl, rfl⟩
theorem mw_X9_95 : MwV RX9 95 8 yX9_refuseUnfit cX9_refuseUnfit 1 (some (.boolean)) 0 := ⟨in_good (tb3 197 rfl) rfl, my_X9_refuseUnfit⟩
theorem mw_X9_89 : MwV RX9 89 8 yX9_refuseToken cX9_refuseToken 2 (some (.boolean)) 1 := ⟨in_good (tb3 201 rfl) rfl, my_X9_refuseToken⟩
theorem my_X9_takeNumber : MyV 8 yX9_takeNumber cX9_takeNumber 3 (some (.boolean)) 2 := ⟨in_good (tb3 203 rfl) rfl, in_good (tb3 204 rfl) rfl, in_good (tb1 4 rfl) rfl, in_good (tb3 205 rfl) rfl, ⟨by decide +kernel, by decide +kernel, by decide +kernel⟩, by decide, _, rfl, rfl⟩
theorem mw_X1_89 : MwV RX1 89 8 yX9_takeNumber cX9_takeNumber 3 (some (.boolean)) 2 := ⟨in_good (tb3 202 rfl) rfl, my_X9_takeNumber⟩
theorem mw_X9_99 : MwS RX9 99 yX11_within cX11_within 3 (some (.boolean)) 3 := ⟨Or.inr ⟨"SumsNightwatch", tb3 206 rfl⟩, my_X11_within⟩
theorem my_X9_takeEndOfPart : MyV 8 yX9_takeEndOfPart cX9_takeEndOfPart 1 (some (.boolean)) 0 := ⟨in_good (tb3 208 rfl) rfl, in_good (tb3 209 rfl) rfl, in_good (tb1 4 rfl) rfl, in_good (tb3 210 rfl) rfl, ⟨by decide +kernel, by decide +kernel, by decide +kernel⟩, by decide, _, rfl, rfl⟩
theorem mw_X1_99 : MwV RX1 99 8 yX9_takeEndOfPart cX9_takeEndOfPart 1 (some (.boolean)) 0 := ⟨in_good (tb3 207 rfl) rfl, my_X9_takeEndOfPart⟩
theorem my_X1_takeTap : MyV 1 yX1_takeTap cX1_takeTap 2 (some (.boolean)) 1 := ⟨in_good (tb3 213 rfl) rfl, in_good (sl_in 9 rfl) rfl, in_good (tb1 9 rfl) rfl, in_good (tb3 214 rfl) rfl, ⟨by decide +kernel, by decide +kernel, by decide +kernel⟩, by decide, _, rfl, rfl⟩
theorem mw_X1_57 : MwV RX1 57 1 yX1_takeTap cX1_takeTap 2 (some (.boolean)) 1 := ⟨in_good (tb3 211 rfl) rfl, my_X1_takeTap⟩
theorem my_X1_takeOdds : MyV 1 yX1_takeOdds cX1_takeOdds 2 (some (.boolean)) 1 := ⟨in_good (tb3 217 rfl) rfl, in_good (sl_in 10 rfl) rfl, in_good (tb1 9 rfl) rfl, in_good (tb3 218 rfl) rfl, ⟨by decide +kernel, by decide +kernel, by decide +kernel⟩, by decide, _, rfl, rfl⟩
theorem mw_X1_60 : MwV RX1 60 1 yX1_takeOdds cX1_takeOdds 2 (some (.boolean)) 1 := ⟨in_good (tb3 215 rfl) rfl, my_X1_takeOdds⟩
theorem my_X1_takeAccount : MyV 1 yX1_takeAccount cX1_takeAccount 4 (some (.boolean)) 1 := ⟨in_good (tb3 221 rfl) rfl, in_good (sl_in 11 rfl) rfl, in_good (tb1 9 rfl) rfl, in_good (tb3 222 rfl) rfl, ⟨by decide +kernel, by decide +kernel, by decide +kernel⟩, by decide, _, rfl, rfl⟩
theorem mw_X1_63 : MwV RX1 63 1 yX1_takeAccount cX1_takeAccount 4 (some (.boolean)) 1 := ⟨in_good (tb3 219 rfl) rfl, my_X1_takeAccount⟩
theorem mw_X1_108 : MwV RX1 108 8 yX9_advance cX9_advance 1 none 0 := ⟨in_good (tb3 223 rfl) rfl, my_X9_advance⟩
theorem my_X9_isName : MyV 8 yX9_isName cX9_isName 1 (some (.boolean)) 0 := ⟨in_good (tb3 225 rfl) rfl, in_good (tb3 226 rfl) rfl, in_good (tb1 4 rfl) rfl, in_good (tb3 227 rfl) rfl, ⟨by decide +kernel, by decide +kernel, by decide +kernel⟩, by decide, _, rfl, rfl⟩
theorem mw_X1_111 : MwV RX1 111 8 yX9_isName cX9_isName 1 (some (.boolean)) 0 := ⟨in_good (tb3 224 rfl) rfl, my_X9_isName⟩
theorem mw_X1_72 : MwV RX1 72 8 yX9_refuseUnfit cX9_refuseUnfit 1 (some (.boolean)) 0 := ⟨in_good (tb3 228 rfl) rfl, my_X9_refuseUnfit⟩
theorem my_X0_accountNamed : MyV 0 yX0_accountNamed cX0_accountNamed 4 (some (.int)) 1 := ⟨in_good (tb3 230 rfl) rfl, in_good (tb3 231 rfl) rfl, in_good (tb1 11 rfl) rfl, in_good (tb3 232 rfl) rfl, ⟨by decide +kernel, by decide +kernel, by decide +kernel⟩, by decide, _, rfl, rfl⟩
theorem mw_X1_118 : MwV RX1 118 0 yX0_accountNamed cX0_accountNamed 4 (some (.int)) 1 := ⟨in_good (tb3 229 rfl) rfl, my_X0_accountNamed⟩
theorem my_X1_takeDigits : MyV 1 yX1_takeDigits cX1_takeDigits 4 (some (.boolean)) 2 := ⟨in_good (tb3 235 rfl) rfl, in_good (sl_in 12 rfl) rfl, in_good (tb1 9 rfl) rfl, in_good (tb3 236 rfl) rfl, ⟨by decide +kernel, by decide +kernel, by decide +kernel⟩, by decide, _, rfl, rfl⟩
theorem mw_X1_129 : MwV RX1 129 1 yX1_takeDigits cX1_takeDigits 4 (some (.boolean)) 2 := ⟨in_good (tb3 233 rfl) rfl, my_X1_takeDigits⟩
theorem my_X1_takeLaw : MyV 1 yX1_takeLaw cX1_takeLaw 6 (some (.boolean)) 1 := ⟨in_good (tb3 239 rfl) rfl, in_good (sl_in 13 rfl) rfl, in_good (tb1 9 rfl) rfl, in_good (tb4 0 rfl) rfl, ⟨by decide +kernel, by decide +kernel, by decide +kernel⟩, by decide, _, rfl, rfl⟩
theorem mw_X1_66 : MwV RX1 66 1 yX1_takeLaw cX1_takeLaw 6 (some (.boolean)) 1 := ⟨in_good (tb3 237 rfl) rfl, my_X1_takeLaw⟩
theorem mw_X1_145 : MwS RX1 145 yX11_within cX11_within 3 (some (.boolean)) 3 := ⟨Or.inr ⟨"SumsNightwatch", tb4 1 rfl⟩, my_X11_within⟩
theorem my_X3_add : MyV 2 yX3_add cX3_add 5 none 4 := ⟨in_good (tb4 3 rfl) rfl, in_good (tb4 4 rfl) rfl, in_good (tb1 12 rfl) rfl, in_good (tb4 5 rfl) rfl, ⟨by decide +kernel, by decide +kernel, by decide +kernel⟩, by decide, _, rfl, rfl⟩
theorem mw_X1_149 : MwV RX1 149 2 yX3_add cX3_add 5 none 4 := ⟨in_good (tb4 2 rfl) rfl, my_X3_add⟩
theorem my_X1_takeWatch : MyV 1 yX1_takeWatch cX1_takeWatch 3 (some (.boolean)) 1 := ⟨in_good (tb4 8 rfl) rfl, in_good (sl_in 14 rfl) rfl, in_good (tb1 9 rfl) rfl, in_good (tb4 9 rfl) rfl, ⟨by decide +kernel, by decide +kernel, by decide +kernel⟩, by decide, _, rfl, rfl⟩
theorem mw_X1_69 : MwV RX1 69 1 yX1_takeWatch cX1_takeWatch 3 (some (.boolean)) 1 := ⟨in_good (tb4 6 rfl) rfl, my_X1_takeWatch⟩
theorem my_X9_takeName : MyV 8 yX9_takeName cX9_takeName 3 (some (.boolean)) 1 := ⟨in_good (tb4 11 rfl) rfl, in_good (tb4 12 rfl) rfl, in_good (tb1 4 rfl) rfl, in_good (tb4 13 rfl) rfl, ⟨by decide +kernel, by decide +kernel, by decide +kernel⟩, by decide, _, rfl, rfl⟩
theorem mw_X1_153 : MwV RX1 153 8 yX9_takeName cX9_takeName 3 (some (.boolean)) 1 := ⟨in_good (tb4 10 rfl) rfl, my_X9_takeName⟩
theorem mw_X9_106 : MwV RX9 106 8 yX9_isName cX9_isName 1 (some (.boolean)) 0 := ⟨in_good (tb4 14 rfl) rfl, my_X9_isName⟩
theorem mw_X9_109 : MwV RX9 109 0 yX0_accountNamed cX0_accountNamed 4 (some (.int)) 1 := ⟨in_good (tb4 15 rfl) rfl, my_X0_accountNamed⟩
theorem mw_X1_44 : MwC RX1 44 := ⟨in_good (tb4 16 rfl) rfl, in_good (tb3 117 rfl) rfl, in_good (tb3 116 rfl) rfl, in_good (tb1 18 rfl) rfl⟩
theorem my_X5_empty : MyV 4 yX5_empty cX5_empty 1 none 0 := ⟨in_good (tb4 18 rfl) rfl, in_good (tb4 19 rfl) rfl, in_good (tb1 13 rfl) rfl, in_good (tb4 20 rfl) rfl, ⟨by decide +kernel, by decide +kernel, by decide +kernel⟩, by decide, _, rfl, rfl⟩
theorem mw_X11_169 : MwV RX11 169 4 yX5_empty cX5_empty 1 none 0 := ⟨in_good (tb4 17 rfl) rfl, my_X5_empty⟩
theorem my_X11_answer : MyV 10 yX11_answer cX11_answer 2 (some (.int)) 1 := ⟨in_good (tb4 23 rfl) rfl, in_good (sl_in 15 rfl) rfl, in_good (tb1 1 rfl) rfl, in_good (tb4 24 rfl) rfl, ⟨by decide +kernel, by decide +kernel, by decide +kernel⟩, by decide, _, rfl, rfl⟩
theorem mw_X11_175 : MwV RX11 175 10 yX11_answer cX11_answer 2 (some (.int)) 1 := ⟨in_good (tb4 21 rfl) rfl, my_X11_answer⟩
theorem my_X11_nights : MyV 10 yX11_nights cX11_nights 3 (some (.int)) 1 := ⟨in_good (tb4 26 rfl) rfl, in_good (tb4 27 rfl) rfl, in_good (tb1 1 rfl) rfl, in_good (tb4 28 rfl) rfl, ⟨by decide +kernel, by decide +kernel, by decide +kernel⟩, by decide, _, rfl, rfl⟩
theorem mw_L_59 : MwV RL 59 10 yX11_nights cX11_nights 3 (some (.int)) 1 := ⟨in_good (tb4 25 rfl) rfl, my_X11_nights⟩
theorem my_X6_fill : MyV 5 yX6_fill cX6_fill 6 (some (.boolean)) 3 := ⟨in_good (tb4 30 rfl) rfl, in_good (tb4 31 rfl) rfl, in_good (tb1 10 rfl) rfl, in_good (tb4 32 rfl) rfl, ⟨by decide +kernel, by decide +kernel, by decide +kernel⟩, by decide, _, rfl, rfl⟩
theorem mw_X11_178 : MwV RX11 178 5 yX6_fill cX6_fill 6 (some (.boolean)) 3 := ⟨in_good (tb4 29 rfl) rfl, my_X6_fill⟩
theorem mw_X6_23 : MwV RX6 23 4 yX5_empty cX5_empty 1 none 0 := ⟨in_good (tb4 33 rfl) rfl, my_X5_empty⟩
theorem mw_X6_28 : MwV RX6 28 8 yX9_open cX9_open 2 none 1 := ⟨in_good (tb4 34 rfl) rfl, my_X9_open⟩
theorem mw_X6_36 : MwV RX6 36 8 yX9_setWord cX9_setWord 1 (some (.int)) 0 := ⟨in_good (tb4 35 rfl) rfl, my_X9_setWord⟩
theorem my_X6_takeEnd : MyV 5 yX6_takeEnd cX6_takeEnd 3 (some (.boolean)) 1 := ⟨in_good (tb4 38 rfl) rfl, in_good (sl_in 16 rfl) rfl, in_good (tb1 10 rfl) rfl, in_good (tb4 39 rfl) rfl, ⟨by decide +kernel, by decide +kernel, by decide +kernel⟩, by decide, _, rfl, rfl⟩
theorem mw_X6_40 : MwV RX6 40 5 yX6_takeEnd cX6_takeEnd 3 (some (.boolean)) 1 := ⟨in_good (tb4 36 rfl) rfl, my_X6_takeEnd⟩
theorem mw_X6_48 : MwV RX6 48 8 yX9_refuseUnfit cX9_refuseUnfit 1 (some (.boolean)) 0 := ⟨in_good (tb4 40 rfl) rfl, my_X9_refuseUnfit⟩
theorem mw_X6_56 : MwV RX6 56 8 yX9_advance cX9_advance 1 none 0 := ⟨in_good (tb4 41 rfl) rfl, my_X9_advance⟩
theorem my_X5_addItem : MyV 4 yX5_addItem cX5_addItem 3 (some (.int)) 1 := ⟨in_good (tb4 43 rfl) rfl, in_good (tb4 44 rfl) rfl, in_good (tb1 13 rfl) rfl, in_good (tb4 45 rfl) rfl, ⟨by decide +kernel, by decide +kernel, by decide +kernel⟩, by decide, _, rfl, rfl⟩
theorem mw_X6_59 : MwV RX6 59 4 yX5_addItem cX5_addItem 3 (some (.int)) 1 := ⟨in_good (tb4 42 rfl) rfl, my_X5_addItem⟩
theorem mw_X6_66 : MwV RX6 66 8 yX9_takeEndOfPart cX9_takeEndOfPart 1 (some (.boolean)) 0 := ⟨in_good (tb4 46 rfl) rfl, my_X9_takeEndOfPart⟩
theorem my_X6_takeOrder : MyV 5 yX6_takeOrder cX6_takeOrder 7 (some (.boolean)) 2 := ⟨in_good (tb4 49 rfl) rfl, in_good (sl_in 17 rfl) rfl, in_good (tb1 10 rfl) rfl, in_good (tb4 50 rfl) rfl, ⟨by decide +kernel, by decide +kernel, by decide +kernel⟩, by decide, _, rfl, rfl⟩
theorem mw_X6_44 : MwV RX6 44 5 yX6_takeOrder cX6_takeOrder 7 (some (.boolean)) 2 := ⟨in_good (tb4 47 rfl) rfl, my_X6_takeOrder⟩
theorem my_X6_beginsOrder : MyS yX6_beginsOrder cX6_beginsOrder 1 (some (.boolean)) 1 := ⟨in_good (tb4 52 rfl) rfl, in_good (tb1 10 rfl) rfl, in_good (tb4 53 rfl) rfl, ⟨by decide +kernel, by decide +kernel, by decide +kernel⟩, by decide⟩
theorem mw_X6_73 : MwS RX6 73 yX6_beginsOrder cX6_beginsOrder 1 (some (.boolean)) 1 := ⟨Or.inl (in_good (tb4 51 rfl) rfl), my_X6_beginsOrder⟩
theorem mw_X6_69 : MwS RX6 69 yX11_within cX11_within 3 (some (.boolean)) 3 := ⟨Or.inr ⟨"SumsNightwatch", tb4 54 rfl⟩, my_X11_within⟩
theorem mw_X6_80 : MwV RX6 80 8 yX9_refuseToken cX9_refuseToken 2 (some (.boolean)) 1 := ⟨in_good (tb4 55 rfl) rfl, my_X9_refuseToken⟩
theorem my_X6_takeTest : MyV 5 yX6_takeTest cX6_takeTest 5 (some (.boolean)) 3 := ⟨in_good (tb4 58 rfl) rfl, in_good (sl_in 18 rfl) rfl, in_good (tb1 10 rfl) rfl, in_good (tb4 59 rfl) rfl, ⟨by decide +kernel, by decide +kernel, by decide +kernel⟩, by decide, _, rfl, rfl⟩
theorem mw_X6_83 : MwV RX6 83 5 yX6_takeTest cX6_takeTest 5 (some (.boolean)) 3 := ⟨in_good (tb4 56 rfl) rfl, my_X6_takeTest⟩
theorem my_X6_takeCellInto : MyV 5 yX6_takeCellInto cX6_takeCellInto 5 (some (.boolean)) 3 := ⟨in_good (tb4 62 rfl) rfl, in_good (sl_in 19 rfl) rfl, in_good (tb1 10 rfl) rfl, in_good (tb4 63 rfl) rfl, ⟨by decide +kernel, by decide +kernel, by decide +kernel⟩, by decide, _, rfl, rfl⟩
theorem mw_X6_101 : MwV RX6 101 5 yX6_takeCellInto cX6_takeCellInto 5 (some (.boolean)) 3 := ⟨in_good (tb4 60 rfl) rfl, my_X6_takeCellInto⟩
theorem mw_X6_114 : MwV RX6 114 8 yX9_takeName cX9_takeName 3 (some (.boolean)) 1 := ⟨in_good (tb4 64 rfl) rfl, my_X9_takeName⟩
theorem mw_X6_104 : MwV RX6 104 8 yX9_takeNumber cX9_takeNumber 3 (some (.boolean)) 2 := ⟨in_good (tb4 65 rfl) rfl, my_X9_takeNumber⟩
theorem my_X6_takeCompares : MyV 5 yX6_takeCompares cX6_takeCompares 3 (some (.boolean)) 2 := ⟨in_good (tb4 68 rfl) rfl, in_good (sl_in 20 rfl) rfl, in_good (tb1 10 rfl) rfl, in_good (tb4 69 rfl) rfl, ⟨by decide +kernel, by decide +kernel, by decide +kernel⟩, by decide, _, rfl, rfl⟩
theorem mw_X6_129 : MwV RX6 129 5 yX6_takeCompares cX6_takeCompares 3 (some (.boolean)) 2 := ⟨in_good (tb4 66 rfl) rfl, my_X6_takeCompares⟩
theorem my_X6_takeNumberInto : MyV 5 yX6_takeNumberInto cX6_takeNumberInto 5 (some (.boolean)) 4 := ⟨in_good (tb4 72 rfl) rfl, in_good (sl_in 21 rfl) rfl, in_good (tb1 10 rfl) rfl, in_good (tb4 73 rfl) rfl, ⟨by decide +kernel, by decide +kernel, by decide +kernel⟩, by decide, _, rfl, rfl⟩
theorem mw_X6_97 : MwV RX6 97 5 yX6_takeNumberInto cX6_takeNumberInto 5 (some (.boolean)) 4 := ⟨in_good (tb4 70 rfl) rfl, my_X6_takeNumberInto⟩
theorem my_X6_takeRest : MyV 5 yX6_takeRest cX6_takeRest 4 (some (.boolean)) 3 := ⟨in_good (tb4 76 rfl) rfl, in_good (sl_in 22 rfl) rfl, in_good (tb1 10 rfl) rfl, in_good (tb4 77 rfl) rfl, ⟨by decide +kernel, by decide +kernel, by decide +kernel⟩, by decide, _, rfl, rfl⟩
theorem mw_X6_87 : MwV RX6 87 5 yX6_takeRest cX6_takeRest 4 (some (.boolean)) 3 := ⟨in_good (tb4 74 rfl) rfl, my_X6_takeRest⟩
theorem my_X6_takeWay : MyV 5 yX6_takeWay cX6_takeWay 4 (some (.boolean)) 2 := ⟨in_good (tb4 80 rfl) rfl, in_good (sl_in 23 rfl) rfl, in_good (tb1 10 rfl) rfl, in_good (tb4 81 rfl) rfl, ⟨by decide +kernel, by decide +kernel, by decide +kernel⟩, by decide, _, rfl, rfl⟩
theorem mw_X6_93 : MwV RX6 93 5 yX6_takeWay cX6_takeWay 4 (some (.boolean)) 2 := ⟨in_good (tb4 78 rfl) rfl, my_X6_takeWay⟩
theorem my_X6_wayNamed : MyS yX6_wayNamed cX6_wayNamed 1 (some (.int)) 1 := ⟨in_good (tb4 83 rfl) rfl, in_good (tb1 10 rfl) rfl, in_good (tb4 84 rfl) rfl, ⟨by decide +kernel, by decide +kernel, by decide +kernel⟩, by decide⟩
theorem mw_X6_126 : MwS RX6 126 yX6_wayNamed cX6_wayNamed 1 (some (.int)) 1 := ⟨Or.inl (in_good (tb4 82 rfl) rfl), my_X6_wayNamed⟩
theorem my_X11_fault : MyV 10 yX11_fault cX11_fault 2 (some (.int)) 1 := ⟨in_good (tb4 86 rfl) rfl, in_good (tb4 87 rfl) rfl, in_good (tb1 1 rfl) rfl, in_good (tb4 88 rfl) rfl, ⟨by decide +kernel, by decide +kernel, by decide +kernel⟩, by decide, _, rfl, rfl⟩
theorem mw_L_63 : MwV RL 63 10 yX11_fault cX11_fault 2 (some (.int)) 1 := ⟨in_good (tb4 85 rfl) rfl, my_X11_fault⟩
theorem my_X11_many : MyV 10 yX11_many cX11_many 2 (some (.int)) 1 := ⟨in_good (tb4 90 rfl) rfl, in_good (tb4 91 rfl) rfl, in_good (tb1 1 rfl) rfl, in_good (tb4 92 rfl) rfl, ⟨by decide +kernel, by decide +kernel, by decide +kernel⟩, by decide, _, rfl, rfl⟩
theorem mw_L_67 : MwV RL 67 10 yX11_many cX11_many 2 (some (.int)) 1 := ⟨in_good (tb4 89 rfl) rfl, my_X11_many⟩
theorem my_X0_cells : MyV 0 yX0_cells cX0_cells 1 (some (.int)) 0 := ⟨in_good (tb4 94 rfl) rfl, in_good (tb4 95 rfl) rfl, in_good (tb1 11 rfl) rfl, in_good (tb4 96 rfl) rfl, ⟨by decide +kernel, by decide +kernel, by decide +kernel⟩, by decide, _, rfl, rfl⟩
theorem mw_X11_211 : MwV RX11 211 0 yX0_cells cX0_cells 1 (some (.int)) 0 := ⟨in_good (tb4 93 rfl) rfl, my_X0_cells⟩
theorem my_X0_wrongs : MyV 0 yX0_wrongs cX0_wrongs 3 (some (.int)) 0 := ⟨in_good (tb4 98 rfl) rfl, in_good (tb4 99 rfl) rfl, in_good (tb1 11 rfl) rfl, in_good (tb4 100 rfl) rfl, ⟨by decide +kernel, by decide +kernel, by decide +kernel⟩, by decide, _, rfl, rfl⟩
theorem mw_X11_215 : MwV RX11 215 0 yX0_wrongs cX0_wrongs 3 (some (.int)) 0 := ⟨in_good (tb4 97 rfl) rfl, my_X0_wrongs⟩
theorem mw_X0_82 : MwV RX0 82 0 yX0_cells cX0_cells 1 (some (.int)) 0 := ⟨in_good (tb4 101 rfl) rfl, my_X0_cells⟩
theorem my_X0_isWrong : MyV 0 yX0_isWrong cX0_isWrong 2 (some (.boolean)) 1 := ⟨in_good (tb4 103 rfl) rfl, in_good (tb4 104 rfl) rfl, in_good (tb1 11 rfl) rfl, in_good (tb4 105 rfl) rfl, ⟨by decide +kernel, by decide +kernel, by decide +kernel⟩, by decide, _, rfl, rfl⟩
theorem mw_X0_148 : MwV RX0 148 0 yX0_isWrong cX0_isWrong 2 (some (.boolean)) 1 := ⟨in_good (tb4 102 rfl) rfl, my_X0_isWrong⟩
theorem my_X0_tappedSet : MyV 0 yX0_tappedSet cX0_tappedSet 3 (some (.int)) 0 := ⟨in_good (tb4 107 rfl) rfl, in_good (tb4 108 rfl) rfl, in_good (tb1 11 rfl) rfl, in_good (tb4 109 rfl) rfl, ⟨by decide +kernel, by decide +kernel, by decide +kernel⟩, by decide, _, rfl, rfl⟩
theorem mw_X11_218 : MwV RX11 218 0 yX0_tappedSet cX0_tappedSet 3 (some (.int)) 0 := ⟨in_good (tb4 106 rfl) rfl, my_X0_tappedSet⟩
theorem my_X0_surplus : MyV 0 yX0_surplus cX0_surplus 4 (some (.int)) 0 := ⟨in_good (tb4 111 rfl) rfl, in_good (tb4 112 rfl) rfl, in_good (tb1 11 rfl) rfl, in_good (tb4 113 rfl) rfl, ⟨by decide +kernel, by decide +kernel, by decide +kernel⟩, by decide, _, rfl, rfl⟩
theorem mw_X11_224 : MwV RX11 224 0 yX0_surplus cX0_surplus 4 (some (.int)) 0 := ⟨in_good (tb4 110 rfl) rfl, my_X0_surplus⟩
theorem my_X0_sumOf : MyV 0 yX0_sumOf cX0_sumOf 5 (some (.int)) 2 := ⟨in_good (tb4 115 rfl) rfl, in_good (tb4 116 rfl) rfl, in_good (tb1 11 rfl) rfl, in_good (tb4 117 rfl) rfl, ⟨by decide +kernel, by decide +kernel, by decide +kernel⟩, by decide, _, rfl, rfl⟩
theorem mw_X0_151 : MwV RX0 151 0 yX0_sumOf cX0_sumOf 5 (some (.int)) 2 := ⟨in_good (tb4 114 rfl) rfl, my_X0_sumOf⟩
theorem my_X11_cell : MyV 10 yX11_cell cX11_cell 3 (some (.int)) 2 := ⟨in_good (tb4 119 rfl) rfl, in_good (tb4 120 rfl) rfl, in_good (tb1 1 rfl) rfl, in_good (tb4 121 rfl) rfl, ⟨by decide +kernel, by decide +kernel, by decide +kernel⟩, by decide, _, rfl, rfl⟩
theorem mw_L_71 : MwV RL 71 10 yX11_cell cX11_cell 3 (some (.int)) 2 := ⟨in_good (tb4 118 rfl) rfl, my_X11_cell⟩
theorem my_X0_hasCell : MyV 0 yX0_hasCell cX0_hasCell 2 (some (.boolean)) 1 := ⟨in_good (tb4 123 rfl) rfl, in_good (tb4 124 rfl) rfl, in_good (tb1 11 rfl) rfl, in_good (tb4 125 rfl) rfl, ⟨by decide +kernel, by decide +kernel, by decide +kernel⟩, by decide, _, rfl, rfl⟩
theorem mw_X11_227 : MwV RX11 227 0 yX0_hasCell cX0_hasCell 2 (some (.boolean)) 1 := ⟨in_good (tb4 122 rfl) rfl, my_X0_hasCell⟩
theorem mw_X0_86 : MwS RX0 86 yX11_within cX11_within 3 (some (.boolean)) 3 := ⟨Or.inr ⟨"SumsNightwatch", tb4 126 rfl⟩, my_X11_within⟩
theorem mw_X11_239 : MwV RX11 239 0 yX0_isWrong cX0_isWrong 2 (some (.boolean)) 1 := ⟨in_good (tb4 127 rfl) rfl, my_X0_isWrong⟩
theorem my_X11_watch : MyV 10 yX11_watch cX11_watch 1 (some (.int)) 0 := ⟨in_good (tb4 129 rfl) rfl, in_good (tb4 130 rfl) rfl, in_good (tb1 1 rfl) rfl, in_good (tb4 131 rfl) rfl, ⟨by decide +kernel, by decide +kernel, by decide +kernel⟩, by decide, _, rfl, rfl⟩
theorem mw_L_76 : MwV RL 76 10 yX11_watch cX11_watch 1 (some (.int)) 0 := ⟨in_good (tb4 128 rfl) rfl, my_X11_watch⟩
theorem my_X11_account : MyV 10 yX11_account cX11_account 3 (some (.int)) 2 := ⟨in_good (tb4 133 rfl) rfl, in_good (tb4 134 rfl) rfl, in_good (tb1 1 rfl) rfl, in_good (tb4 135 rfl) rfl, ⟨by decide +kernel, by decide +kernel, by decide +kernel⟩, by decide, _, rfl, rfl⟩
theorem mw_L_80 : MwV RL 80 10 yX11_account cX11_account 3 (some (.int)) 2 := ⟨in_good (tb4 132 rfl) rfl, my_X11_account⟩
theorem my_X0_hasAccount : MyV 0 yX0_hasAccount cX0_hasAccount 2 (some (.boolean)) 1 := ⟨in_good (tb4 137 rfl) rfl, in_good (tb4 138 rfl) rfl, in_good (tb1 11 rfl) rfl, in_good (tb4 139 rfl) rfl, ⟨by decide +kernel, by decide +kernel, by decide +kernel⟩, by decide, _, rfl, rfl⟩
theorem mw_X11_245 : MwV RX11 245 0 yX0_hasAccount cX0_hasAccount 2 (some (.boolean)) 1 := ⟨in_good (tb4 136 rfl) rfl, my_X0_hasAccount⟩
theorem mw_X11_251 : MwV RX11 251 0 yX0_sumOf cX0_sumOf 5 (some (.int)) 2 := ⟨in_good (tb4 140 rfl) rfl, my_X0_sumOf⟩
theorem my_X0_togetherInRow : MyV 0 yX0_togetherInRow cX0_togetherInRow 5 (some (.int)) 2 := ⟨in_good (tb4 142 rfl) rfl, in_good (tb4 143 rfl) rfl, in_good (tb1 11 rfl) rfl, in_good (tb4 144 rfl) rfl, ⟨by decide +kernel, by decide +kernel, by decide +kernel⟩, by decide, _, rfl, rfl⟩
theorem mw_X11_255 : MwV RX11 255 0 yX0_togetherInRow cX0_togetherInRow 5 (some (.int)) 2 := ⟨in_good (tb4 141 rfl) rfl, my_X0_togetherInRow⟩
theorem my_X11_law : MyV 10 yX11_law cX11_law 4 (some (.int)) 2 := ⟨in_good (tb4 146 rfl) rfl, in_good (tb4 147 rfl) rfl, in_good (tb1 1 rfl) rfl, in_good (tb4 148 rfl) rfl, ⟨by decide +kernel, by decide +kernel, by decide +kernel⟩, by decide, _, rfl, rfl⟩
theorem mw_L_84 : MwV RL 84 10 yX11_law cX11_law 4 (some (.int)) 2 := ⟨in_good (tb4 145 rfl) rfl, my_X11_law⟩
theorem my_X3_has : MyV 2 yX3_has cX3_has 2 (some (.boolean)) 1 := ⟨in_good (tb4 150 rfl) rfl, in_good (tb4 151 rfl) rfl, in_good (tb1 12 rfl) rfl, in_good (tb4 152 rfl) rfl, ⟨by decide +kernel, by decide +kernel, by decide +kernel⟩, by decide, _, rfl, rfl⟩
theorem mw_X11_258 : MwV RX11 258 2 yX3_has cX3_has 2 (some (.boolean)) 1 := ⟨in_good (tb4 149 rfl) rfl, my_X3_has⟩
theorem mw_X3_34 : MwS RX3 34 yX11_within cX11_within 3 (some (.boolean)) 3 := ⟨Or.inr ⟨"SumsNightwatch", tb4 153 rfl⟩, my_X11_within⟩
theorem my_X11_balance : MyV 10 yX11_balance cX11_balance 1 (some (.int)) 0 := ⟨in_good (tb4 155 rfl) rfl, in_good (tb4 156 rfl) rfl, in_good (tb1 1 rfl) rfl, in_good (tb4 157 rfl) rfl, ⟨by decide +kernel, by decide +kernel, by decide +kernel⟩, by decide, _, rfl, rfl⟩
theorem mw_L_88 : MwV RL 88 10 yX11_balance cX11_balance 1 (some (.int)) 0 := ⟨in_good (tb4 154 rfl) rfl, my_X11_balance⟩
theorem my_X11_copyDigits : MyV 10 yX11_copyDigits cX11_copyDigits 4 (some (.int)) 1 := ⟨in_good (tb4 159 rfl) rfl, in_good (tb4 160 rfl) rfl, in_good (tb1 1 rfl) rfl, in_good (tb4 161 rfl) rfl, ⟨by decide +kernel, by decide +kernel, by decide +kernel⟩, by decide, _, rfl, rfl⟩
theorem mw_L_92 : MwV RL 92 10 yX11_copyDigits cX11_copyDigits 4 (some (.int)) 1 := ⟨in_good (tb4 158 rfl) rfl, my_X11_copyDigits⟩
theorem my_X11_step : MyV 10 yX11_step cX11_step 3 (some (.int)) 1 := ⟨in_good (tb4 163 rfl) rfl, in_good (tb4 164 rfl) rfl, in_good (tb1 1 rfl) rfl, in_good (tb4 165 rfl) rfl, ⟨by decide +kernel, by decide +kernel, by decide +kernel⟩, by decide, _, rfl, rfl⟩
theorem mw_L_96 : MwV RL 96 10 yX11_step cX11_step 3 (some (.int)) 1 := ⟨in_good (tb4 162 rfl) rfl, my_X11_step⟩
theorem my_X0_gone : MyV 0 yX0_gone cX0_gone 5 (some (.int)) 2 := ⟨in_good (tb4 167 rfl) rfl, in_good (tb4 168 rfl) rfl, in_good (tb1 11 rfl) rfl, in_good (tb4 169 rfl) rfl, ⟨by decide +kernel, by decide +kernel, by decide +kernel⟩, by decide, _, rfl, rfl⟩
theorem mw_X11_273 : MwV RX11 273 0 yX0_gone cX0_gone 5 (some (.int)) 2 := ⟨in_good (tb4 166 rfl) rfl, my_X0_gone⟩
theorem my_X0_standAndTap : MyV 0 yX0_standAndTap cX0_standAndTap 2 none 1 := ⟨in_good (tb4 171 rfl) rfl, in_good (tb4 172 rfl) rfl, in_good (tb1 11 rfl) rfl, in_good (tb4 173 rfl) rfl, ⟨by decide +kernel, by decide +kernel, by decide +kernel⟩, by decide, _, rfl, rfl⟩
theorem mw_X11_276 : MwV RX11 276 0 yX0_standAndTap cX0_standAndTap 2 none 1 := ⟨in_good (tb4 170 rfl) rfl, my_X0_standAndTap⟩
theorem mw_X0_141 : MwV RX0 141 0 yX0_hasCell cX0_hasCell 2 (some (.boolean)) 1 := ⟨in_good (tb4 174 rfl) rfl, my_X0_hasCell⟩
theorem my_X0_passHours : MyV 0 yX0_passHours cX0_passHours 6 (some (.boolean)) 1 := ⟨in_good (tb4 176 rfl) rfl, in_good (tb4 177 rfl) rfl, in_good (tb1 11 rfl) rfl, in_good (tb4 178 rfl) rfl, ⟨by decide +kernel, by decide +kernel, by decide +kernel⟩, by decide, _, rfl, rfl⟩
theorem mw_X11_279 : MwV RX11 279 0 yX0_passHours cX0_passHours 6 (some (.boolean)) 1 := ⟨in_good (tb4 175 rfl) rfl, my_X0_passHours⟩
theorem my_X0_drift : MyV 0 yX0_drift cX0_drift 9 (some (.boolean)) 3 := ⟨in_good (tb4 180 rfl) rfl, in_good (tb4 181 rfl) rfl, in_good (tb1 11 rfl) rfl, in_good (tb4 182 rfl) rfl, ⟨by decide +kernel, by decide +kernel, by decide +kernel⟩, by decide, _, rfl, rfl⟩
theorem mw_X0_128 : MwV RX0 128 0 yX0_drift cX0_drift 9 (some (.boolean)) 3 := ⟨in_good (tb4 179 rfl) rfl, my_X0_drift⟩
theorem my_X3_touched : MyV 2 yX3_touched cX3_touched 3 (some (.int)) 0 := ⟨in_good (tb4 184 rfl) rfl, in_good (tb4 185 rfl) rfl, in_good (tb1 12 rfl) rfl, in_good (tb4 186 rfl) rfl, ⟨by decide +kernel, by decide +kernel, by decide +kernel⟩, by decide, _, rfl, rfl⟩
theorem mw_X0_125 : MwV RX0 125 2 yX3_touched cX3_touched 3 (some (.int)) 0 := ⟨in_good (tb4 183 rfl) rfl, my_X3_touched⟩
theorem my_X0_bearing : MyV 0 yX0_bearing cX0_bearing 6 (some (.int)) 2 := ⟨in_good (tb4 188 rfl) rfl, in_good (tb4 189 rfl) rfl, in_good (tb1 11 rfl) rfl, in_good (tb4 190 rfl) rfl, ⟨by decide +kernel, by decide +kernel, by decide +kernel⟩, by decide, _, rfl, rfl⟩
theorem mw_X0_118 : MwV RX0 118 0 yX0_bearing cX0_bearing 6 (some (.int)) 2 := ⟨in_good (tb4 187 rfl) rfl, my_X0_bearing⟩
theorem mw_X0_111 : MwV RX0 111 0 yX0_gone cX0_gone 5 (some (.int)) 2 := ⟨in_good (tb4 193 rfl) rfl, my_X0_gone⟩
theorem mw_X0_76 : MwC RX0 76 := ⟨in_good (tb4 194 rfl) rfl, in_good (tb3 117 rfl) rfl, in_good (tb3 116 rfl) rfl, in_good (tb1 18 rfl) rfl⟩
theorem mw_X0_132 : MwV RX0 132 0 yX0_tappedSet cX0_tappedSet 3 (some (.int)) 0 := ⟨in_good (tb4 195 rfl) rfl, my_X0_tappedSet⟩
theorem my_X0_lessenTaps : MyV 0 yX0_lessenTaps cX0_lessenTaps 2 none 0 := ⟨in_good (tb4 198 rfl) rfl, in_good (sl_in 24 rfl) rfl, in_good (tb1 11 rfl) rfl, in_good (tb4 199 rfl) rfl, ⟨by decide +kernel, by decide +kernel, by decide +kernel⟩, by decide, _, rfl, rfl⟩
theorem mw_X0_135 : MwV RX0 135 0 yX0_lessenTaps cX0_lessenTaps 2 none 0 := ⟨in_good (tb4 196 rfl) rfl, my_X0_lessenTaps⟩
theorem my_J9_max_7cf53 : MyS yJ9_max_7cf53 cJ9_max_7cf53 2 (some (.int)) 2 := ⟨in_good (tb4 201 rfl) rfl, in_good (tb1 19 rfl) rfl, in_good (tb4 202 rfl) rfl, ⟨by decide +kernel, by decide +kernel, by decide +kernel⟩, by decide⟩
theorem mw_X0_138 : MwM RX0 138 yJ9_max_7cf53 cJ9_max_7cf53 2 (some (.int)) 2 := ⟨in_good (tb4 200 rfl) rfl, my_J9_max_7cf53⟩
theorem my_X11_doze : MyV 10 yX11_doze cX11_doze 2 (some (.int)) 1 := ⟨in_good (tb4 204 rfl) rfl, in_good (tb4 205 rfl) rfl, in_good (tb1 1 rfl) rfl, in_good (tb4 206 rfl) rfl, ⟨by decide +kernel, by decide +kernel, by decide +kernel⟩, by decide, _, rfl, rfl⟩
theorem mw_L_100 : MwV RL 100 10 yX11_doze cX11_doze 2 (some (.int)) 1 := ⟨in_good (tb4 203 rfl) rfl, my_X11_doze⟩
theorem my_X11_mend : MyV 10 yX11_mend cX11_mend 2 (some (.int)) 1 := ⟨in_good (tb4 208 rfl) rfl, in_good (tb4 209 rfl) rfl, in_good (tb1 1 rfl) rfl, in_good (tb4 210 rfl) rfl, ⟨by decide +kernel, by decide +kernel, by decide +kernel⟩, by decide, _, rfl, rfl⟩
theorem mw_L_104 : MwV RL 104 10 yX11_mend cX11_mend 2 (some (.int)) 1 := ⟨in_good (tb4 207 rfl) rfl, my_X11_mend⟩
theorem my_X0_putDigit : MyV 0 yX0_putDigit cX0_putDigit 4 (some (.int)) 2 := ⟨in_good (tb4 212 rfl) rfl, in_good (tb4 213 rfl) rfl, in_good (tb1 11 rfl) rfl, in_good (tb4 214 rfl) rfl, ⟨by decide +kernel, by decide +kernel, by decide +kernel⟩, by decide, _, rfl, rfl⟩
theorem mw_X11_282 : MwV RX11 282 0 yX0_putDigit cX0_putDigit 4 (some (.int)) 2 := ⟨in_good (tb4 211 rfl) rfl, my_X0_putDigit⟩
theorem my_X11_steal : MyV 10 yX11_steal cX11_steal 2 (some (.int)) 1 := ⟨in_good (tb4 216 rfl) rfl, in_good (tb4 217 rfl) rfl, in_good (tb1 1 rfl) rfl, in_good (tb4 218 rfl) rfl, ⟨by decide +kernel, by decide +kernel, by decide +kernel⟩, by decide, _, rfl, rfl⟩
theorem mw_L_108 : MwV RL 108 10 yX11_steal cX11_steal 2 (some (.int)) 1 := ⟨in_good (tb4 215 rfl) rfl, my_X11_steal⟩
theorem my_X0_takeAway : MyV 0 yX0_takeAway cX0_takeAway 3 (some (.int)) 1 := ⟨in_good (tb4 220 rfl) rfl, in_good (tb4 221 rfl) rfl, in_good (tb1 11 rfl) rfl, in_good (tb4 222 rfl) rfl, ⟨by decide +kernel, by decide +kernel, by decide +kernel⟩, by decide, _, rfl, rfl⟩
theorem mw_X11_285 : MwV RX11 285 0 yX0_takeAway cX0_takeAway 3 (some (.int)) 1 := ⟨in_good (tb4 219 rfl) rfl, my_X0_takeAway⟩
theorem mw_X0_145 : MwV RX0 145 0 yX0_putDigit cX0_putDigit 4 (some (.int)) 2 := ⟨in_good (tb4 223 rfl) rfl, my_X0_putDigit⟩
theorem my_X11_scratch : MyV 10 yX11_scratch cX11_scratch 3 (some (.int)) 2 := ⟨in_good (tb4 225 rfl) rfl, in_good (tb4 226 rfl) rfl, in_good (tb1 1 rfl) rfl, in_good (tb4 227 rfl) rfl, ⟨by decide +kernel, by decide +kernel, by decide +kernel⟩, by decide, _, rfl, rfl⟩
theorem mw_L_112 : MwV RL 112 10 yX11_scratch cX11_scratch 3 (some (.int)) 2 := ⟨in_good (tb4 224 rfl) rfl, my_X11_scratch⟩
theorem my_X11_vouch : MyV 10 yX11_vouch cX11_vouch 3 (some (.int)) 1 := ⟨in_good (tb4 229 rfl) rfl, in_good (tb4 230 rfl) rfl, in_good (tb1 1 rfl) rfl, in_good (tb4 231 rfl) rfl, ⟨by decide +kernel, by decide +kernel, by decide +kernel⟩, by decide, _, rfl, rfl⟩
theorem mw_L_116 : MwV RL 116 10 yX11_vouch cX11_vouch 3 (some (.int)) 1 := ⟨in_good (tb4 228 rfl) rfl, my_X11_vouch⟩
theorem my_X11_enact : MyV 10 yX11_enact cX11_enact 5 (some (.int)) 4 := ⟨in_good (tb4 233 rfl) rfl, in_good (tb4 234 rfl) rfl, in_good (tb1 1 rfl) rfl, in_good (tb4 235 rfl) rfl, ⟨by decide +kernel, by decide +kernel, by decide +kernel⟩, by decide, _, rfl, rfl⟩
theorem mw_L_120 : MwV RL 120 10 yX11_enact cX11_enact 5 (some (.int)) 4 := ⟨in_good (tb4 232 rfl) rfl, my_X11_enact⟩
theorem mw_X11_288 : MwV RX11 288 2 yX3_add cX3_add 5 none 4 := ⟨in_good (tb4 236 rfl) rfl, my_X3_add⟩
theorem my_X11_repeal : MyV 10 yX11_repeal cX11_repeal 2 (some (.int)) 1 := ⟨in_good (tb4 238 rfl) rfl, in_good (tb4 239 rfl) rfl, in_good (tb1 1 rfl) rfl, in_good (tb5 0 rfl) rfl, ⟨by decide +kernel, by decide +kernel, by decide +kernel⟩, by decide, _, rfl, rfl⟩
theorem mw_L_125 : MwV RL 125 10 yX11_repeal cX11_repeal 2 (some (.int)) 1 := ⟨in_good (tb4 237 rfl) rfl, my_X11_repeal⟩
theorem my_X3_strike : MyV 2 yX3_strike cX3_strike 3 none 1 := ⟨in_good (tb5 2 rfl) rfl, in_good (tb5 3 rfl) rfl, in_good (tb1 12 rfl) rfl, in_good (tb5 4 rfl) rfl, ⟨by decide +kernel, by decide +kernel, by decide +kernel⟩, by decide, _, rfl, rfl⟩
theorem mw_X11_292 : MwV RX11 292 2 yX3_strike cX3_strike 3 none 1 := ⟨in_good (tb5 1 rfl) rfl, my_X3_strike⟩
theorem mw_X3_38 : MwV RX3 38 2 yX3_has cX3_has 2 (some (.boolean)) 1 := ⟨in_good (tb5 5 rfl) rfl, my_X3_has⟩
theorem my_X11_rule : MyV 10 yX11_rule cX11_rule 3 (some (.boolean)) 2 := ⟨in_good (tb5 7 rfl) rfl, in_good (tb5 8 rfl) rfl, in_good (tb1 1 rfl) rfl, in_good (tb5 9 rfl) rfl, ⟨by decide +kernel, by decide +kernel, by decide +kernel⟩, by decide, _, rfl, rfl⟩
theorem mw_L_129 : MwV RL 129 10 yX11_rule cX11_rule 3 (some (.boolean)) 2 := ⟨in_good (tb5 6 rfl) rfl, my_X11_rule⟩
theorem my_X11_digitIn : MyV 10 yX11_digitIn cX11_digitIn 3 (some (.int)) 2 := ⟨in_good (tb5 11 rfl) rfl, in_good (tb5 12 rfl) rfl, in_good (tb1 1 rfl) rfl, in_good (tb5 13 rfl) rfl, ⟨by decide +kernel, by decide +kernel, by decide +kernel⟩, by decide, _, rfl, rfl⟩
theorem mw_L_134 : MwV RL 134 10 yX11_digitIn cX11_digitIn 3 (some (.int)) 2 := ⟨in_good (tb5 10 rfl) rfl, my_X11_digitIn⟩
theorem my_X11_spareAhead : MyV 10 yX11_spareAhead cX11_spareAhead 2 (some ((.object "SumsNightwatch$Book"))) 1 := ⟨in_good (tb5 16 rfl) rfl, in_good (sl_in 25 rfl) rfl, in_good (tb1 1 rfl) rfl, in_good (tb5 17 rfl) rfl, ⟨by decide +kernel, by decide +kernel, by decide +kernel⟩, by decide, _, rfl, rfl⟩
theorem mw_X11_299 : MwV RX11 299 10 yX11_spareAhead cX11_spareAhead 2 (some ((.object "SumsNightwatch$Book"))) 1 := ⟨in_good (tb5 14 rfl) rfl, my_X11_spareAhead⟩
theorem my_X0_takeFrom : MyV 0 yX0_takeFrom cX0_takeFrom 2 none 1 := ⟨in_good (tb5 19 rfl) rfl, in_good (tb5 20 rfl) rfl, in_good (tb1 11 rfl) rfl, in_good (tb5 21 rfl) rfl, ⟨by decide +kernel, by decide +kernel, by decide +kernel⟩, by decide, _, rfl, rfl⟩
theorem mw_X11_295 : MwV RX11 295 0 yX0_takeFrom cX0_takeFrom 2 none 1 := ⟨in_good (tb5 18 rfl) rfl, my_X0_takeFrom⟩
theorem my_X3_takeFrom : MyV 2 yX3_takeFrom cX3_takeFrom 2 none 1 := ⟨in_good (tb5 23 rfl) rfl, in_good (tb5 24 rfl) rfl, in_good (tb1 12 rfl) rfl, in_good (tb5 25 rfl) rfl, ⟨by decide +kernel, by decide +kernel, by decide +kernel⟩, by decide, _, rfl, rfl⟩
theorem mw_X0_72 : MwV RX0 72 2 yX3_takeFrom cX3_takeFrom 2 none 1 := ⟨in_good (tb5 22 rfl) rfl, my_X3_takeFrom⟩
theorem mw_X3_28 : MwC RX3 28 := ⟨in_good (tb5 26 rfl) rfl, in_good (tb3 117 rfl) rfl, in_good (tb3 116 rfl) rfl, in_good (tb1 18 rfl) rfl⟩
theorem my_X11_wrongIn : MyV 10 yX11_wrongIn cX11_wrongIn 2 (some (.int)) 1 := ⟨in_good (tb5 28 rfl) rfl, in_good (tb5 29 rfl) rfl, in_good (tb1 1 rfl) rfl, in_good (tb5 30 rfl) rfl, ⟨by decide +kernel, by decide +kernel, by decide +kernel⟩, by decide, _, rfl, rfl⟩
theorem mw_L_138 : MwV RL 138 10 yX11_wrongIn cX11_wrongIn 2 (some (.int)) 1 := ⟨in_good (tb5 27 rfl) rfl, my_X11_wrongIn⟩
theorem my_X11_wrongBy : MyV 10 yX11_wrongBy cX11_wrongBy 4 (some (.int)) 1 := ⟨in_good (tb5 32 rfl) rfl, in_good (tb5 33 rfl) rfl, in_good (tb1 1 rfl) rfl, in_good (tb5 34 rfl) rfl, ⟨by decide +kernel, by decide +kernel, by decide +kernel⟩, by decide, _, rfl, rfl⟩
theorem mw_L_142 : MwV RL 142 10 yX11_wrongBy cX11_wrongBy 4 (some (.int)) 1 := ⟨in_good (tb5 31 rfl) rfl, my_X11_wrongBy⟩
theorem my_X11_evenIn : MyV 10 yX11_evenIn cX11_evenIn 3 (some (.int)) 0 := ⟨in_good (tb5 36 rfl) rfl, in_good (tb5 37 rfl) rfl, in_good (tb1 1 rfl) rfl, in_good (tb5 38 rfl) rfl, ⟨by decide +kernel, by decide +kernel, by decide +kernel⟩, by decide, _, rfl, rfl⟩
theorem mw_L_146 : MwV RL 146 10 yX11_evenIn cX11_evenIn 3 (some (.int)) 0 := ⟨in_good (tb5 35 rfl) rfl, my_X11_evenIn⟩
theorem my_X11_stillIn : MyV 10 yX11_stillIn cX11_stillIn 3 (some (.int)) 0 := ⟨in_good (tb5 40 rfl) rfl, in_good (tb5 41 rfl) rfl, in_good (tb1 1 rfl) rfl, in_good (tb5 42 rfl) rfl, ⟨by decide +kernel, by decide +kernel, by decide +kernel⟩, by decide, _, rfl, rfl⟩
theorem mw_L_150 : MwV RL 150 10 yX11_stillIn cX11_stillIn 3 (some (.int)) 0 := ⟨in_good (tb5 39 rfl) rfl, my_X11_stillIn⟩
theorem my_X11_bears : MyV 10 yX11_bears cX11_bears 3 (some (.int)) 1 := ⟨in_good (tb5 44 rfl) rfl, in_good (tb5 45 rfl) rfl, in_good (tb1 1 rfl) rfl, in_good (tb5 46 rfl) rfl, ⟨by decide +kernel, by decide +kernel, by decide +kernel⟩, by decide, _, rfl, rfl⟩
theorem mw_L_154 : MwV RL 154 10 yX11_bears cX11_bears 3 (some (.int)) 1 := ⟨in_good (tb5 43 rfl) rfl, my_X11_bears⟩
theorem mw_X11_303 : MwV RX11 303 0 yX0_bearing cX0_bearing 6 (some (.int)) 2 := ⟨in_good (tb5 47 rfl) rfl, my_X0_bearing⟩
theorem my_X11_round : MyV 10 yX11_round cX11_round 4 (some (.int)) 2 := ⟨in_good (tb5 49 rfl) rfl, in_good (tb5 50 rfl) rfl, in_good (tb1 1 rfl) rfl, in_good (tb5 51 rfl) rfl, ⟨by decide +kernel, by decide +kernel, by decide +kernel⟩, by decide, _, rfl, rfl⟩
theorem mw_L_158 : MwV RL 158 10 yX11_round cX11_round 4 (some (.int)) 2 := ⟨in_good (tb5 48 rfl) rfl, my_X11_round⟩
theorem my_X11_lookAtRound : MyV 10 yX11_lookAtRound cX11_lookAtRound 3 (some (.int)) 2 := ⟨in_good (tb5 54 rfl) rfl, in_good (sl_in 26 rfl) rfl, in_good (tb1 1 rfl) rfl, in_good (tb5 55 rfl) rfl, ⟨by decide +kernel, by decide +kernel, by decide +kernel⟩, by decide, _, rfl, rfl⟩
theorem mw_X11_306 : MwV RX11 306 10 yX11_lookAtRound cX11_lookAtRound 3 (some (.int)) 2 := ⟨in_good (tb5 52 rfl) rfl, my_X11_lookAtRound⟩
theorem my_X8_seek : MyV 7 yX8_seek cX8_seek 4 none 3 := ⟨in_good (tb5 57 rfl) rfl, in_good (tb5 58 rfl) rfl, in_good (tb1 14 rfl) rfl, in_good (tb5 59 rfl) rfl, ⟨by decide +kernel, by decide +kernel, by decide +kernel⟩, by decide, _, rfl, rfl⟩
theorem mw_X11_309 : MwV RX11 309 7 yX8_seek cX8_seek 4 none 3 := ⟨in_good (tb5 56 rfl) rfl, my_X8_seek⟩
theorem mw_X8_33 : MwM RX8 33 yJ9_min_7cf53 cJ9_min_7cf53 2 (some (.int)) 2 := ⟨in_good (tb5 60 rfl) rfl, my_J9_min_7cf53⟩
theorem mw_X8_52 : MwC RX8 52 := ⟨in_good (tb5 61 rfl) rfl, in_good (tb3 117 rfl) rfl, in_good (tb3 116 rfl) rfl, in_good (tb1 18 rfl) rfl⟩
theorem my_X8_tryStep : MyV 7 yX8_tryStep cX8_tryStep 7 none 4 := ⟨in_good (tb5 64 rfl) rfl, in_good (sl_in 27 rfl) rfl, in_good (tb1 14 rfl) rfl, in_good (tb5 65 rfl) rfl, ⟨by decide +kernel, by decide +kernel, by decide +kernel⟩, by decide, _, rfl, rfl⟩
theorem mw_X8_63 : MwV RX8 63 7 yX8_tryStep cX8_tryStep 7 none 4 := ⟨in_good (tb5 62 rfl) rfl, my_X8_tryStep⟩
theorem my_X8_weigh : MyV 7 yX8_weigh cX8_weigh 5 none 2 := ⟨in_good (tb5 68 rfl) rfl, in_good (sl_in 28 rfl) rfl, in_good (tb1 14 rfl) rfl, in_good (tb5 69 rfl) rfl, ⟨by decide +kernel, by decide +kernel, by decide +kernel⟩, by decide, _, rfl, rfl⟩
theorem mw_X8_67 : MwV RX8 67 7 yX8_weigh cX8_weigh 5 none 2 := ⟨in_good (tb5 66 rfl) rfl, my_X8_weigh⟩
theorem mw_X8_82 : MwV RX8 82 0 yX0_cells cX0_cells 1 (some (.int)) 0 := ⟨in_good (tb5 70 rfl) rfl, my_X0_cells⟩
theorem mw_X8_71 : MwV RX8 71 0 yX0_drift cX0_drift 9 (some (.boolean)) 3 := ⟨in_good (tb5 71 rfl) rfl, my_X0_drift⟩
theorem mw_X8_75 : MwV RX8 75 0 yX0_gone cX0_gone 5 (some (.int)) 2 := ⟨in_good (tb5 72 rfl) rfl, my_X0_gone⟩
theorem my_X8_tapAndPass : MyV 7 yX8_tapAndPass cX8_tapAndPass 7 none 3 := ⟨in_good (tb5 75 rfl) rfl, in_good (sl_in 29 rfl) rfl, in_good (tb1 14 rfl) rfl, in_good (tb5 76 rfl) rfl, ⟨by decide +kernel, by decide +kernel, by decide +kernel⟩, by decide, _, rfl, rfl⟩
theorem mw_X8_78 : MwV RX8 78 7 yX8_tapAndPass cX8_tapAndPass 7 none 3 := ⟨in_good (tb5 73 rfl) rfl, my_X8_tapAndPass⟩
theorem mw_X8_86 : MwM RX8 86 yJ9_max_7cf53 cJ9_max_7cf53 2 (some (.int)) 2 := ⟨in_good (tb5 77 rfl) rfl, my_J9_max_7cf53⟩
theorem my_X11_roundAt : MyV 10 yX11_roundAt cX11_roundAt 5 (some (.int)) 3 := ⟨in_good (tb5 79 rfl) rfl, in_good (tb5 80 rfl) rfl, in_good (tb1 1 rfl) rfl, in_good (tb5 81 rfl) rfl, ⟨by decide +kernel, by decide +kernel, by decide +kernel⟩, by decide, _, rfl, rfl⟩
theorem mw_L_162 : MwV RL 162 10 yX11_roundAt cX11_roundAt 5 (some (.int)) 3 := ⟨in_good (tb5 78 rfl) rfl, my_X11_roundAt⟩
theorem my_X11_far : MyV 10 yX11_far cX11_far 2 (some (.int)) 1 := ⟨in_good (tb5 83 rfl) rfl, in_good (tb5 84 rfl) rfl, in_good (tb1 1 rfl) rfl, in_good (tb5 85 rfl) rfl, ⟨by decide +kernel, by decide +kernel, by decide +kernel⟩, by decide, _, rfl, rfl⟩
theorem mw_L_167 : MwV RL 167 10 yX11_far cX11_far 2 (some (.int)) 1 := ⟨in_good (tb5 82 rfl) rfl, my_X11_far⟩
theorem my_X0_stepsBetween : MyV 0 yX0_stepsBetween cX0_stepsBetween 3 (some (.int)) 2 := ⟨in_good (tb5 87 rfl) rfl, in_good (tb5 88 rfl) rfl, in_good (tb1 11 rfl) rfl, in_good (tb5 89 rfl) rfl, ⟨by decide +kernel, by decide +kernel, by decide +kernel⟩, by decide, _, rfl, rfl⟩
theorem mw_X11_319 : MwV RX11 319 0 yX0_stepsBetween cX0_stepsBetween 3 (some (.int)) 2 := ⟨in_good (tb5 86 rfl) rfl, my_X0_stepsBetween⟩
theorem my_X0_rowOf : MyV 0 yX0_rowOf cX0_rowOf 2 (some (.int)) 1 := ⟨in_good (tb5 91 rfl) rfl, in_good (tb5 92 rfl) rfl, in_good (tb1 11 rfl) rfl, in_good (tb5 93 rfl) rfl, ⟨by decide +kernel, by decide +kernel, by decide +kernel⟩, by decide, _, rfl, rfl⟩
theorem mw_X0_90 : MwV RX0 90 0 yX0_rowOf cX0_rowOf 2 (some (.int)) 1 := ⟨in_good (tb5 90 rfl) rfl, my_X0_rowOf⟩
theorem my_J9_abs_0f7a4 : MyS yJ9_abs_0f7a4 cJ9_abs_0f7a4 1 (some (.int)) 1 := ⟨in_good (tb5 95 rfl) rfl, in_good (tb1 19 rfl) rfl, in_good (tb5 96 rfl) rfl, ⟨by decide +kernel, by decide +kernel, by decide +kernel⟩, by decide⟩
theorem mw_X0_94 : MwM RX0 94 yJ9_abs_0f7a4 cJ9_abs_0f7a4 1 (some (.int)) 1 := ⟨in_good (tb5 94 rfl) rfl, my_J9_abs_0f7a4⟩
theorem my_X0_columnOf : MyV 0 yX0_columnOf cX0_columnOf 2 (some (.int)) 1 := ⟨in_good (tb5 98 rfl) rfl, in_good (tb5 99 rfl) rfl, in_good (tb1 11 rfl) rfl, in_good (tb5 100 rfl) rfl, ⟨by decide +kernel, by decide +kernel, by decide +kernel⟩, by decide, _, rfl, rfl⟩
theorem mw_X0_99 : MwV RX0 99 0 yX0_columnOf cX0_columnOf 2 (some (.int)) 1 := ⟨in_good (tb5 97 rfl) rfl, my_X0_columnOf⟩
theorem my_X11_past : MyV 10 yX11_past cX11_past 2 (some (.int)) 1 := ⟨in_good (tb5 102 rfl) rfl, in_good (tb5 103 rfl) rfl, in_good (tb1 1 rfl) rfl, in_good (tb5 104 rfl) rfl, ⟨by decide +kernel, by decide +kernel, by decide +kernel⟩, by decide, _, rfl, rfl⟩
theorem mw_L_171 : MwV RL 171 10 yX11_past cX11_past 2 (some (.int)) 1 := ⟨in_good (tb5 101 rfl) rfl, my_X11_past⟩
theorem my_X7_gather : MyV 6 yX7_gather cX7_gather 6 none 2 := ⟨in_good (tb5 106 rfl) rfl, in_good (tb5 107 rfl) rfl, in_good (tb1 15 rfl) rfl, in_good (tb5 108 rfl) rfl, ⟨by decide +kernel, by decide +kernel, by decide +kernel⟩, by decide, _, rfl, rfl⟩
theorem mw_X11_322 : MwV RX11 322 6 yX7_gather cX7_gather 6 none 2 := ⟨in_good (tb5 105 rfl) rfl, my_X7_gather⟩
theorem mw_X7_32 : MwC RX7 32 := ⟨in_good (tb5 109 rfl) rfl, in_good (tb3 117 rfl) rfl, in_good (tb3 116 rfl) rfl, in_good (tb1 18 rfl) rfl⟩
theorem mw_X7_45 : MwS RX7 45 yJ7_fill_53178 cJ7_fill_53178 4 none 2 := ⟨Or.inl (in_good (tb5 110 rfl) rfl), my_J7_fill_53178⟩
theorem my_X7_goOn : MyV 6 yX7_goOn cX7_goOn 7 none 3 := ⟨in_good (tb5 113 rfl) rfl, in_good (sl_in 30 rfl) rfl, in_good (tb1 15 rfl) rfl, in_good (tb5 114 rfl) rfl, ⟨by decide +kernel, by decide +kernel, by decide +kernel⟩, by decide, _, rfl, rfl⟩
theorem mw_X7_54 : MwV RX7 54 6 yX7_goOn cX7_goOn 7 none 3 := ⟨in_good (tb5 111 rfl) rfl, my_X7_goOn⟩
theorem my_X7_setPair : MyV 6 yX7_setPair cX7_setPair 4 none 2 := ⟨in_good (tb5 117 rfl) rfl, in_good (sl_in 31 rfl) rfl, in_good (tb1 15 rfl) rfl, in_good (tb5 118 rfl) rfl, ⟨by decide +kernel, by decide +kernel, by decide +kernel⟩, by decide, _, rfl, rfl⟩
theorem mw_X7_64 : MwV RX7 64 6 yX7_setPair cX7_setPair 4 none 2 := ⟨in_good (tb5 115 rfl) rfl, my_X7_setPair⟩
theorem my_X0_drifted : MyV 0 yX0_drifted cX0_drifted 4 (some (.int)) 2 := ⟨in_good (tb5 120 rfl) rfl, in_good (tb5 121 rfl) rfl, in_good (tb1 11 rfl) rfl, in_good (tb5 122 rfl) rfl, ⟨by decide +kernel, by decide +kernel, by decide +kernel⟩, by decide, _, rfl, rfl⟩
theorem mw_X7_68 : MwV RX7 68 0 yX0_drifted cX0_drifted 4 (some (.int)) 2 := ⟨in_good (tb5 119 rfl) rfl, my_X0_drifted⟩
theorem mw_X7_72 : MwM RX7 72 yJ9_min_7cf53 cJ9_min_7cf53 2 (some (.int)) 2 := ⟨in_good (tb5 123 rfl) rfl, my_J9_min_7cf53⟩
theorem my_X7_swapTables : MyV 6 yX7_swapTables cX7_swapTables 3 none 0 := ⟨in_good (tb5 126 rfl) rfl, in_good (sl_in 32 rfl) rfl, in_good (tb1 15 rfl) rfl, in_good (tb5 127 rfl) rfl, ⟨by decide +kernel, by decide +kernel, by decide +kernel⟩, by decide, _, rfl, rfl⟩
theorem mw_X7_58 : MwV RX7 58 6 yX7_swapTables cX7_swapTables 3 none 0 := ⟨in_good (tb5 124 rfl) rfl, my_X7_swapTables⟩
theorem my_X7_finish : MyV 6 yX7_finish cX7_finish 4 none 3 := ⟨in_good (tb5 130 rfl) rfl, in_good (sl_in 33 rfl) rfl, in_good (tb1 15 rfl) rfl, in_good (tb5 131 rfl) rfl, ⟨by decide +kernel, by decide +kernel, by decide +kernel⟩, by decide, _, rfl, rfl⟩
theorem mw_X7_61 : MwV RX7 61 6 yX7_finish cX7_finish 4 none 3 := ⟨in_good (tb5 128 rfl) rfl, my_X7_finish⟩
theorem my_X11_likely : MyV 10 yX11_likely cX11_likely 3 (some (.int)) 2 := ⟨in_good (tb5 133 rfl) rfl, in_good (tb5 134 rfl) rfl, in_good (tb1 1 rfl) rfl, in_good (tb5 135 rfl) rfl, ⟨by decide +kernel, by decide +kernel, by decide +kernel⟩, by decide, _, rfl, rfl⟩
theorem mw_L_175 : MwV RL 175 10 yX11_likely cX11_likely 3 (some (.int)) 2 := ⟨in_good (tb5 132 rfl) rfl, my_X11_likely⟩
theorem my_X7_couldHaveBeen : MyV 6 yX7_couldHaveBeen cX7_couldHaveBeen 7 (some (.boolean)) 3 := ⟨in_good (tb5 137 rfl) rfl, in_good (tb5 138 rfl) rfl, in_good (tb1 15 rfl) rfl, in_good (tb5 139 rfl) rfl, ⟨by decide +kernel, by decide +kernel, by decide +kernel⟩, by decide, _, rfl, rfl⟩
theorem mw_X11_329 : MwV RX11 329 6 yX7_couldHaveBeen cX7_couldHaveBeen 7 (some (.boolean)) 3 := ⟨in_good (tb5 136 rfl) rfl, my_X7_couldHaveBeen⟩
theorem my_X11_leastPast : MyV 10 yX11_leastPast cX11_leastPast 2 (some (.int)) 1 := ⟨in_good (tb5 143 rfl) rfl, in_good (tb5 144 rfl) rfl, in_good (tb1 1 rfl) rfl, in_good (tb5 145 rfl) rfl, ⟨by decide +kernel, by decide +kernel, by decide +kernel⟩, by decide, _, rfl, rfl⟩
theorem mw_L_179 : MwV RL 179 10 yX11_leastPast cX11_leastPast 2 (some (.int)) 1 := ⟨in_good (tb5 142 rfl) rfl, my_X11_leastPast⟩
theorem my_X11_may : MyV 10 yX11_may cX11_may 2 (some (.int)) 1 := ⟨in_good (tb5 147 rfl) rfl, in_good (tb5 148 rfl) rfl, in_good (tb1 1 rfl) rfl, in_good (tb5 149 rfl) rfl, ⟨by decide +kernel, by decide +kernel, by decide +kernel⟩, by decide, _, rfl, rfl⟩
theorem mw_L_183 : MwV RL 183 10 yX11_may cX11_may 2 (some (.int)) 1 := ⟨in_good (tb5 146 rfl) rfl, my_X11_may⟩
theorem my_X3_reach : MyV 2 yX3_reach cX3_reach 5 (some (.int)) 1 := ⟨in_good (tb5 151 rfl) rfl, in_good (tb5 152 rfl) rfl, in_good (tb1 12 rfl) rfl, in_good (tb5 153 rfl) rfl, ⟨by decide +kernel, by decide +kernel, by decide +kernel⟩, by decide, _, rfl, rfl⟩
theorem mw_X11_336 : MwV RX11 336 2 yX3_reach cX3_reach 5 (some (.int)) 1 := ⟨in_good (tb5 150 rfl) rfl, my_X3_reach⟩
theorem my_X11_theft : MyV 10 yX11_theft cX11_theft 3 (some (.int)) 0 := ⟨in_good (tb5 155 rfl) rfl, in_good (tb5 156 rfl) rfl, in_good (tb1 1 rfl) rfl, in_good (tb5 157 rfl) rfl, ⟨by decide +kernel, by decide +kernel, by decide +kernel⟩, by decide, _, rfl, rfl⟩
theorem mw_L_187 : MwV RL 187 10 yX11_theft cX11_theft 3 (some (.int)) 0 := ⟨in_good (tb5 154 rfl) rfl, my_X11_theft⟩
theorem my_X11_told : MyV 10 yX11_told cX11_told 2 (some (.int)) 0 := ⟨in_good (tb5 159 rfl) rfl, in_good (tb5 160 rfl) rfl, in_good (tb1 1 rfl) rfl, in_good (tb5 161 rfl) rfl, ⟨by decide +kernel, by decide +kernel, by decide +kernel⟩, by decide, _, rfl, rfl⟩
theorem mw_L_191 : MwV RL 191 10 yX11_told cX11_told 2 (some (.int)) 0 := ⟨in_good (tb5 158 rfl) rfl, my_X11_told⟩
theorem my_X0_cellBySums : MyV 0 yX0_cellBySums cX0_cellBySums 7 (some (.int)) 0 := ⟨in_good (tb5 163 rfl) rfl, in_good (tb5 164 rfl) rfl, in_good (tb1 11 rfl) rfl, in_good (tb5 165 rfl) rfl, ⟨by decide +kernel, by decide +kernel, by decide +kernel⟩, by decide, _, rfl, rfl⟩
theorem mw_X11_339 : MwV RX11 339 0 yX0_cellBySums cX0_cellBySums 7 (some (.int)) 0 := ⟨in_good (tb5 162 rfl) rfl, my_X0_cellBySums⟩
theorem mw_X0_170 : MwV RX0 170 0 yX0_togetherInRow cX0_togetherInRow 5 (some (.int)) 2 := ⟨in_good (tb5 166 rfl) rfl, my_X0_togetherInRow⟩
theorem my_X0_togetherInColumn : MyV 0 yX0_togetherInColumn cX0_togetherInColumn 5 (some (.int)) 2 := ⟨in_good (tb5 169 rfl) rfl, in_good (sl_in 34 rfl) rfl, in_good (tb1 11 rfl) rfl, in_good (tb5 170 rfl) rfl, ⟨by decide +kernel, by decide +kernel, by decide +kernel⟩, by decide, _, rfl, rfl⟩
theorem mw_X0_173 : MwV RX0 173 0 yX0_togetherInColumn cX0_togetherInColumn 5 (some (.int)) 2 := ⟨in_good (tb5 167 rfl) rfl, my_X0_togetherInColumn⟩
theorem my_X11_rubbed : MyV 10 yX11_rubbed cX11_rubbed 2 (some (.int)) 0 := ⟨in_good (tb5 172 rfl) rfl, in_good (tb5 173 rfl) rfl, in_good (tb1 1 rfl) rfl, in_good (tb5 174 rfl) rfl, ⟨by decide +kernel, by decide +kernel, by decide +kernel⟩, by decide, _, rfl, rfl⟩
theorem mw_L_195 : MwV RL 195 10 yX11_rubbed cX11_rubbed 2 (some (.int)) 0 := ⟨in_good (tb5 171 rfl) rfl, my_X11_rubbed⟩
theorem my_X0_leastRubbed : MyV 0 yX0_leastRubbed cX0_leastRubbed 4 (some (.int)) 0 := ⟨in_good (tb5 176 rfl) rfl, in_good (tb5 177 rfl) rfl, in_good (tb1 11 rfl) rfl, in_good (tb5 178 rfl) rfl, ⟨by decide +kernel, by decide +kernel, by decide +kernel⟩, by decide, _, rfl, rfl⟩
theorem mw_X11_342 : MwV RX11 342 0 yX0_leastRubbed cX0_leastRubbed 4 (some (.int)) 0 := ⟨in_good (tb5 175 rfl) rfl, my_X0_leastRubbed⟩
theorem mw_X0_157 : MwV RX0 157 0 yX0_surplus cX0_surplus 4 (some (.int)) 0 := ⟨in_good (tb5 179 rfl) rfl, my_X0_surplus⟩
theorem my_X0_evensOut : MyV 0 yX0_evensOut cX0_evensOut 6 (some (.boolean)) 2 := ⟨in_good (tb5 182 rfl) rfl, in_good (sl_in 35 rfl) rfl, in_good (tb1 11 rfl) rfl, in_good (tb5 183 rfl) rfl, ⟨by decide +kernel, by decide +kernel, by decide +kernel⟩, by decide, _, rfl, rfl⟩
theorem mw_X0_160 : MwV RX0 160 0 yX0_evensOut cX0_evensOut 6 (some (.boolean)) 2 := ⟨in_good (tb5 180 rfl) rfl, my_X0_evensOut⟩
theorem my_X0_weightOf : MyV 0 yX0_weightOf cX0_weightOf 3 (some (.int)) 1 := ⟨in_good (tb5 185 rfl) rfl, in_good (tb5 186 rfl) rfl, in_good (tb1 11 rfl) rfl, in_good (tb5 187 rfl) rfl, ⟨by decide +kernel, by decide +kernel, by decide +kernel⟩, by decide, _, rfl, rfl⟩
theorem mw_X0_167 : MwV RX0 167 0 yX0_weightOf cX0_weightOf 3 (some (.int)) 1 := ⟨in_good (tb5 184 rfl) rfl, my_X0_weightOf⟩
theorem my_X0_evenOut : MyV 0 yX0_evenOut cX0_evenOut 7 (some (.boolean)) 3 := ⟨in_good (tb5 191 rfl) rfl, in_good (sl_in 36 rfl) rfl, in_good (tb1 11 rfl) rfl, in_good (tb5 192 rfl) rfl, ⟨by decide +kernel, by decide +kernel, by decide +kernel⟩, by decide, _, rfl, rfl⟩
theorem mw_X0_164 : MwV RX0 164 0 yX0_evenOut cX0_evenOut 7 (some (.boolean)) 3 := ⟨in_good (tb5 189 rfl) rfl, my_X0_evenOut⟩
theorem my_J6_bitCount_0f7a4 : MyS yJ6_bitCount_0f7a4 cJ6_bitCount_0f7a4 1 (some (.int)) 1 := ⟨in_good (tb5 194 rfl) rfl, in_good (tb1 20 rfl) rfl, in_good (tb5 195 rfl) rfl, ⟨by decide +kernel, by decide +kernel, by decide +kernel⟩, by decide⟩
theorem mw_X11_345 : MwS RX11 345 yJ6_bitCount_0f7a4 cJ6_bitCount_0f7a4 1 (some (.int)) 1 := ⟨Or.inl (in_good (tb5 193 rfl) rfl), my_J6_bitCount_0f7a4⟩
theorem my_X11_rubbedSet : MyV 10 yX11_rubbedSet cX11_rubbedSet 2 (some (.int)) 0 := ⟨in_good (tb5 200 rfl) rfl, in_good (tb5 201 rfl) rfl, in_good (tb1 1 rfl) rfl, in_good (tb5 202 rfl) rfl, ⟨by decide +kernel, by decide +kernel, by decide +kernel⟩, by decide, _, rfl, rfl⟩
theorem mw_L_199 : MwV RL 199 10 yX11_rubbedSet cX11_rubbedSet 2 (some (.int)) 0 := ⟨in_good (tb5 199 rfl) rfl, my_X11_rubbedSet⟩
theorem my_X11_game : MyV 10 yX11_game cX11_game 2 (some (.int)) 1 := ⟨in_good (tb5 204 rfl) rfl, in_good (tb5 205 rfl) rfl, in_good (tb1 1 rfl) rfl, in_good (tb5 206 rfl) rfl, ⟨by decide +kernel, by decide +kernel, by decide +kernel⟩, by decide, _, rfl, rfl⟩
theorem mw_L_203 : MwV RL 203 10 yX11_game cX11_game 2 (some (.int)) 1 := ⟨in_good (tb5 203 rfl) rfl, my_X11_game⟩
theorem my_X2_loot : MyS yX2_loot cX2_loot 6 (some (.int)) 4 := ⟨in_good (tb5 208 rfl) rfl, in_good (tb1 21 rfl) rfl, in_good (tb5 209 rfl) rfl, ⟨by decide +kernel, by decide +kernel, by decide +kernel⟩, by decide⟩
theorem mw_X11_350 : MwS RX11 350 yX2_loot cX2_loot 6 (some (.int)) 4 := ⟨Or.inr ⟨"SumsNightwatch", tb5 207 rfl⟩, my_X2_loot⟩
theorem my_X2_lootBehindStep : MyS yX2_lootBehindStep cX2_lootBehindStep 7 (some (.int)) 4 := ⟨in_good (tb5 211 rfl) rfl, in_good (tb1 21 rfl) rfl, in_good (tb5 212 rfl) rfl, ⟨by decide +kernel, by decide +kernel, by decide +kernel⟩, by decide⟩
theorem mw_X2_19 : MwS RX2 19 yX2_lootBehindStep cX2_lootBehindStep 7 (some (.int)) 4 := ⟨Or.inl (in_good (tb5 210 rfl) rfl), my_X2_lootBehindStep⟩
theorem mw_X2_38 : MwS RX2 38 yX2_loot cX2_loot 6 (some (.int)) 4 := ⟨Or.inl (in_good (tb5 213 rfl) rfl), my_X2_loot⟩
theorem mw_X2_41 : MwV RX2 41 0 yX0_gone cX0_gone 5 (some (.int)) 2 := ⟨in_good (tb5 214 rfl) rfl, my_X0_gone⟩
theorem mw_X2_44 : MwM RX2 44 yJ9_min_7cf53 cJ9_min_7cf53 2 (some (.int)) 2 := ⟨in_good (tb5 215 rfl) rfl, my_J9_min_7cf53⟩
theorem mw_X2_25 : MwV RX2 25 0 yX0_cells cX0_cells 1 (some (.int)) 0 := ⟨in_good (tb5 216 rfl) rfl, my_X0_cells⟩
theorem my_X2_canSteal : MyS yX2_canSteal cX2_canSteal 4 (some (.boolean)) 4 := ⟨in_good (tb5 218 rfl) rfl, in_good (tb1 21 rfl) rfl, in_good (tb5 219 rfl) rfl, ⟨by decide +kernel, by decide +kernel, by decide +kernel⟩, by decide⟩
theorem mw_X2_29 : MwS RX2 29 yX2_canSteal cX2_canSteal 4 (some (.boolean)) 4 := ⟨Or.inl (in_good (tb5 217 rfl) rfl), my_X2_canSteal⟩
theorem mw_X2_15 : MwV RX2 15 0 yX0_stepsBetween cX0_stepsBetween 3 (some (.int)) 2 := ⟨in_good (tb5 220 rfl) rfl, my_X0_stepsBetween⟩
theorem mw_X2_33 : MwM RX2 33 yJ9_max_7cf53 cJ9_max_7cf53 2 (some (.int)) 2 := ⟨in_good (tb5 221 rfl) rfl, my_J9_max_7cf53⟩
theorem my_X11_moveOf : MyV 10 yX11_moveOf cX11_moveOf 3 (some (.int)) 1 := ⟨in_good (tb5 223 rfl) rfl, in_good (tb5 224 rfl) rfl, in_good (tb1 1 rfl) rfl, in_good (tb5 225 rfl) rfl, ⟨by decide +kernel, by decide +kernel, by decide +kernel⟩, by decide, _, rfl, rfl⟩
theorem mw_L_207 : MwV RL 207 10 yX11_moveOf cX11_moveOf 3 (some (.int)) 1 := ⟨in_good (tb5 222 rfl) rfl, my_X11_moveOf⟩
theorem my_X2_firstTheft : MyS yX2_firstTheft cX2_firstTheft 4 (some (.int)) 2 := ⟨in_good (tb5 227 rfl) rfl, in_good (tb1 21 rfl) rfl, in_good (tb5 228 rfl) rfl, ⟨by decide +kernel, by decide +kernel, by decide +kernel⟩, by decide⟩
theorem mw_X11_356 : MwS RX11 356 yX2_firstTheft cX2_firstTheft 4 (some (.int)) 2 := ⟨Or.inl (in_good (tb5 226 rfl) rfl), my_X2_firstTheft⟩
theorem my_X11_dozes : MyV 10 yX11_dozes cX11_dozes 3 (some (.boolean)) 2 := ⟨in_good (tb5 230 rfl) rfl, in_good (tb5 231 rfl) rfl, in_good (tb1 1 rfl) rfl, in_good (tb5 232 rfl) rfl, ⟨by decide +kernel, by decide +kernel, by decide +kernel⟩, by decide, _, rfl, rfl⟩
theorem mw_L_211 : MwV RL 211 10 yX11_dozes cX11_dozes 3 (some (.boolean)) 2 := ⟨in_good (tb5 229 rfl) rfl, my_X11_dozes⟩
theorem my_X11_waysToDoze : MyS yX11_waysToDoze cX11_waysToDoze 8 (some (.long)) 3 := ⟨in_good (tb5 234 rfl) rfl, in_good (tb1 1 rfl) rfl, in_good (tb5 235 rfl) rfl, ⟨by decide +kernel, by decide +kernel, by decide +kernel⟩, by decide⟩
theorem mw_X11_360 : MwS RX11 360 yX11_waysToDoze cX11_waysToDoze 8 (some (.long)) 3 := ⟨Or.inl (in_good (tb5 233 rfl) rfl), my_X11_waysToDoze⟩
theorem my_X11_power : MyS yX11_power cX11_power 5 (some (.long)) 2 := ⟨in_good (tb5 237 rfl) rfl, in_good (tb1 1 rfl) rfl, in_good (tb5 238 rfl) rfl, ⟨by decide +kernel, by decide +kernel, by decide +kernel⟩, by decide⟩
theorem mw_X11_364 : MwS RX11 364 yX11_power cX11_power 5 (some (.long)) 2 := ⟨Or.inl (in_good (tb5 236 rfl) rfl), my_X11_power⟩
theorem my_X11_tellFraction : MyV 10 yX11_tellFraction cX11_tellFraction 7 (some (.boolean)) 2 := ⟨in_good (tb6 1 rfl) rfl, in_good (sl_in 37 rfl) rfl, in_good (tb1 1 rfl) rfl, in_good (tb6 2 rfl) rfl, ⟨by decide +kernel, by decide +kernel, by decide +kernel⟩, by decide, _, rfl, rfl⟩
theorem mw_X11_368 : MwV RX11 368 10 yX11_tellFraction cX11_tellFraction 7 (some (.boolean)) 2 := ⟨in_good (tb5 239 rfl) rfl, my_X11_tellFraction⟩
theorem my_X11_commonDivisor : MyS yX11_commonDivisor cX11_commonDivisor 11 (some (.long)) 2 := ⟨in_good (tb6 4 rfl) rfl, in_good (tb1 1 rfl) rfl, in_good (tb6 5 rfl) rfl, ⟨by decide +kernel, by decide +kernel, by decide +kernel⟩, by decide⟩
theorem mw_X11_105 : MwS RX11 105 yX11_commonDivisor cX11_commonDivisor 11 (some (.long)) 2 := ⟨Or.inl (in_good (tb6 3 rfl) rfl), my_X11_commonDivisor⟩
theorem my_X11_shame : MyV 10 yX11_shame cX11_shame 2 (some (.boolean)) 0 := ⟨in_good (tb6 7 rfl) rfl, in_good (tb6 8 rfl) rfl, in_good (tb1 1 rfl) rfl, in_good (tb6 9 rfl) rfl, ⟨by decide +kernel, by decide +kernel, by decide +kernel⟩, by decide, _, rfl, rfl⟩
theorem mw_L_215 : MwV RL 215 10 yX11_shame cX11_shame 2 (some (.boolean)) 0 := ⟨in_good (tb6 6 rfl) rfl, my_X11_shame⟩
theorem my_X11_live : MyV 10 yX11_live cX11_live 2 (some (.int)) 1 := ⟨in_good (tb6 11 rfl) rfl, in_good (tb6 12 rfl) rfl, in_good (tb1 1 rfl) rfl, in_good (tb6 13 rfl) rfl, ⟨by decide +kernel, by decide +kernel, by decide +kernel⟩, by decide, _, rfl, rfl⟩
theorem mw_L_220 : MwV RL 220 10 yX11_live cX11_live 2 (some (.int)) 1 := ⟨in_good (tb6 10 rfl) rfl, my_X11_live⟩
theorem my_X4_goThrough : MyV 3 yX4_goThrough cX4_goThrough 6 none 3 := ⟨in_good (tb6 15 rfl) rfl, in_good (tb6 16 rfl) rfl, in_good (tb1 16 rfl) rfl, in_good (tb6 17 rfl) rfl, ⟨by decide +kernel, by decide +kernel, by decide +kernel⟩, by decide, _, rfl, rfl⟩
theorem mw_X11_376 : MwV RX11 376 3 yX4_goThrough cX4_goThrough 6 none 3 := ⟨in_good (tb6 14 rfl) rfl, my_X4_goThrough⟩
theorem mw_X4_47 : MwS RX4 47 yX11_within cX11_within 3 (some (.boolean)) 3 := ⟨Or.inr ⟨"SumsNightwatch", tb6 19 rfl⟩, my_X11_within⟩
theorem my_X4_behindEnd : MyV 3 yX4_behindEnd cX4_behindEnd 4 (some (.int)) 2 := ⟨in_good (tb6 22 rfl) rfl, in_good (sl_in 38 rfl) rfl, in_good (tb1 16 rfl) rfl, in_good (tb6 23 rfl) rfl, ⟨by decide +kernel, by decide +kernel, by decide +kernel⟩, by decide, _, rfl, rfl⟩
theorem mw_X4_54 : MwV RX4 54 3 yX4_behindEnd cX4_behindEnd 4 (some (.int)) 2 := ⟨in_good (tb6 20 rfl) rfl, my_X4_behindEnd⟩
theorem my_X4_behindOrder : MyV 3 yX4_behindOrder cX4_behindOrder 5 (some (.int)) 3 := ⟨in_good (tb6 26 rfl) rfl, in_good (sl_in 39 rfl) rfl, in_good (tb1 16 rfl) rfl, in_good (tb6 27 rfl) rfl, ⟨by decide +kernel, by decide +kernel, by decide +kernel⟩, by decide, _, rfl, rfl⟩
theorem mw_X4_58 : MwV RX4 58 3 yX4_behindOrder cX4_behindOrder 5 (some (.int)) 3 := ⟨in_good (tb6 24 rfl) rfl, my_X4_behindOrder⟩
theorem my_X4_goOneWay : MyV 3 yX4_goOneWay cX4_goOneWay 4 none 2 := ⟨in_good (tb6 30 rfl) rfl, in_good (sl_in 40 rfl) rfl, in_good (tb1 16 rfl) rfl, in_good (tb6 31 rfl) rfl, ⟨by decide +kernel, by decide +kernel, by decide +kernel⟩, by decide, _, rfl, rfl⟩
theorem mw_X4_68 : MwV RX4 68 3 yX4_goOneWay cX4_goOneWay 4 none 2 := ⟨in_good (tb6 28 rfl) rfl, my_X4_goOneWay⟩
theorem mw_X4_103 : MwV RX4 103 0 yX0_gone cX0_gone 5 (some (.int)) 2 := ⟨in_good (tb6 32 rfl) rfl, my_X0_gone⟩
theorem mw_X4_110 : MwV RX4 110 0 yX0_standAndTap cX0_standAndTap 2 none 1 := ⟨in_good (tb6 33 rfl) rfl, my_X0_standAndTap⟩
theorem mw_X4_114 : MwV RX4 114 0 yX0_passHours cX0_passHours 6 (some (.boolean)) 1 := ⟨in_good (tb6 34 rfl) rfl, my_X0_passHours⟩
theorem my_X4_sleepFor : MyV 3 yX4_sleepFor cX4_sleepFor 3 none 2 := ⟨in_good (tb6 37 rfl) rfl, in_good (sl_in 41 rfl) rfl, in_good (tb1 16 rfl) rfl, in_good (tb6 38 rfl) rfl, ⟨by decide +kernel, by decide +kernel, by decide +kernel⟩, by decide, _, rfl, rfl⟩
theorem mw_X4_72 : MwV RX4 72 3 yX4_sleepFor cX4_sleepFor 3 none 2 := ⟨in_good (tb6 35 rfl) rfl, my_X4_sleepFor⟩
theorem my_X4_mendCell : MyV 3 yX4_mendCell cX4_mendCell 3 none 2 := ⟨in_good (tb6 41 rfl) rfl, in_good (sl_in 42 rfl) rfl, in_good (tb1 16 rfl) rfl, in_good (tb6 42 rfl) rfl, ⟨by decide +kernel, by decide +kernel, by decide +kernel⟩, by decide, _, rfl, rfl⟩
theorem mw_X4_78 : MwV RX4 78 3 yX4_mendCell cX4_mendCell 3 none 2 := ⟨in_good (tb6 39 rfl) rfl, my_X4_mendCell⟩
theorem mw_X4_118 : MwV RX4 118 0 yX0_hasCell cX0_hasCell 2 (some (.boolean)) 1 := ⟨in_good (tb6 43 rfl) rfl, my_X0_hasCell⟩
theorem mw_X4_121 : MwV RX4 121 0 yX0_isWrong cX0_isWrong 2 (some (.boolean)) 1 := ⟨in_good (tb6 44 rfl) rfl, my_X0_isWrong⟩
theorem mw_X4_127 : MwV RX4 127 0 yX0_putDigit cX0_putDigit 4 (some (.int)) 2 := ⟨in_good (tb6 45 rfl) rfl, my_X0_putDigit⟩
theorem my_X4_stealFrom : MyV 3 yX4_stealFrom cX4_stealFrom 3 none 2 := ⟨in_good (tb6 48 rfl) rfl, in_good (sl_in 43 rfl) rfl, in_good (tb1 16 rfl) rfl, in_good (tb6 49 rfl) rfl, ⟨by decide +kernel, by decide +kernel, by decide +kernel⟩, by decide, _, rfl, rfl⟩
theorem mw_X4_81 : MwV RX4 81 3 yX4_stealFrom cX4_stealFrom 3 none 2 := ⟨in_good (tb6 46 rfl) rfl, my_X4_stealFrom⟩
theorem mw_X4_133 : MwV RX4 133 0 yX0_takeAway cX0_takeAway 3 (some (.int)) 1 := ⟨in_good (tb6 50 rfl) rfl, my_X0_takeAway⟩
theorem my_X4_drawBy : MyV 3 yX4_drawBy cX4_drawBy 2 (some (.int)) 1 := ⟨in_good (tb6 53 rfl) rfl, in_good (sl_in 44 rfl) rfl, in_good (tb1 16 rfl) rfl, in_good (tb6 54 rfl) rfl, ⟨by decide +kernel, by decide +kernel, by decide +kernel⟩, by decide, _, rfl, rfl⟩
theorem mw_X4_89 : MwV RX4 89 3 yX4_drawBy cX4_drawBy 2 (some (.int)) 1 := ⟨in_good (tb6 51 rfl) rfl, my_X4_drawBy⟩
theorem my_X4_testHolds : MyS yX4_testHolds cX4_testHolds 3 (some (.boolean)) 3 := ⟨in_good (tb6 57 rfl) rfl, in_good (tb1 16 rfl) rfl, in_good (tb6 58 rfl) rfl, ⟨by decide +kernel, by decide +kernel, by decide +kernel⟩, by decide⟩
theorem mw_X4_96 : MwS RX4 96 yX4_testHolds cX4_testHolds 3 (some (.boolean)) 3 := ⟨Or.inl (in_good (tb6 56 rfl) rfl), my_X4_testHolds⟩
theorem mw_X4_137 : MwV RX4 137 0 yX0_wrongs cX0_wrongs 3 (some (.int)) 0 := ⟨in_good (tb6 59 rfl) rfl, my_X0_wrongs⟩
theorem my_X4_compare : MyS yX4_compare cX4_compare 3 (some (.boolean)) 3 := ⟨in_good (tb6 61 rfl) rfl, in_good (tb1 16 rfl) rfl, in_good (tb6 62 rfl) rfl, ⟨by decide +kernel, by decide +kernel, by decide +kernel⟩, by decide⟩
theorem mw_X4_144 : MwS RX4 144 yX4_compare cX4_compare 3 (some (.boolean)) 3 := ⟨Or.inl (in_good (tb6 60 rfl) rfl), my_X4_compare⟩
theorem mw_X4_147 : MwV RX4 147 0 yX0_surplus cX0_surplus 4 (some (.int)) 0 := ⟨in_good (tb6 63 rfl) rfl, my_X0_surplus⟩
theorem my_X11_lived : MyV 10 yX11_lived cX11_lived 2 (some (.int)) 1 := ⟨in_good (tb6 65 rfl) rfl, in_good (tb6 66 rfl) rfl, in_good (tb1 1 rfl) rfl, in_good (tb6 67 rfl) rfl, ⟨by decide +kernel, by decide +kernel, by decide +kernel⟩, by decide, _, rfl, rfl⟩
theorem mw_L_224 : MwV RL 224 10 yX11_lived cX11_lived 2 (some (.int)) 1 := ⟨in_good (tb6 64 rfl) rfl, my_X11_lived⟩
theorem my_X11_mean : MyV 10 yX11_mean cX11_mean 6 (some (.boolean)) 2 := ⟨in_good (tb6 69 rfl) rfl, in_good (tb6 70 rfl) rfl, in_good (tb1 1 rfl) rfl, in_good (tb6 71 rfl) rfl, ⟨by decide +kernel, by decide +kernel, by decide +kernel⟩, by decide, _, rfl, rfl⟩
theorem mw_L_228 : MwV RL 228 10 yX11_mean cX11_mean 6 (some (.boolean)) 2 := ⟨in_good (tb6 68 rfl) rfl, my_X11_mean⟩
theorem my_X11_mark : MyV 10 yX11_mark cX11_mark 1 (some (.int)) 0 := ⟨in_good (tb6 73 rfl) rfl, in_good (tb6 74 rfl) rfl, in_good (tb1 1 rfl) rfl, in_good (tb6 75 rfl) rfl, ⟨by decide +kernel, by decide +kernel, by decide +kernel⟩, by decide, _, rfl, rfl⟩
theorem mw_L_232 : MwV RL 232 10 yX11_mark cX11_mark 1 (some (.int)) 0 := ⟨in_good (tb6 72 rfl) rfl, my_X11_mark⟩
theorem my_X5_takeFrom : MyV 4 yX5_takeFrom cX5_takeFrom 2 none 1 := ⟨in_good (tb6 77 rfl) rfl, in_good (tb6 78 rfl) rfl, in_good (tb1 13 rfl) rfl, in_good (tb6 79 rfl) rfl, ⟨by decide +kernel, by decide +kernel, by decide +kernel⟩, by decide, _, rfl, rfl⟩
theorem mw_X11_399 : MwV RX11 399 4 yX5_takeFrom cX5_takeFrom 2 none 1 := ⟨in_good (tb6 76 rfl) rfl, my_X5_takeFrom⟩
theorem mw_X5_36 : MwC RX5 36 := ⟨in_good (tb6 80 rfl) rfl, in_good (tb3 117 rfl) rfl, in_good (tb3 116 rfl) rfl, in_good (tb1 18 rfl) rfl⟩
theorem my_X11_back : MyV 10 yX11_back cX11_back 1 (some (.int)) 0 := ⟨in_good (tb6 82 rfl) rfl, in_good (tb6 83 rfl) rfl, in_good (tb1 1 rfl) rfl, in_good (tb6 84 rfl) rfl, ⟨by decide +kernel, by decide +kernel, by decide +kernel⟩, by decide, _, rfl, rfl⟩
theorem mw_L_236 : MwV RL 236 10 yX11_back cX11_back 1 (some (.int)) 0 := ⟨in_good (tb6 81 rfl) rfl, my_X11_back⟩
theorem my_X12_empties : MyV 11 yX12_empties cX12_empties 4 none 1 := ⟨in_good (tb6 93 rfl) rfl, in_good (sl_in 45 rfl) rfl, in_good (tb1 17 rfl) rfl, in_good (tb6 94 rfl) rfl, ⟨by decide +kernel, by decide +kernel, by decide +kernel⟩, by decide, _, rfl, rfl⟩
theorem mw_X12_68 : MwV RX12 68 11 yX12_empties cX12_empties 4 none 1 := ⟨in_good (tb6 91 rfl) rfl, my_X12_empties⟩
theorem my_X12_status : MyV 11 yX12_status cX12_status 1 (some (.int)) 0 := ⟨in_good (tb7 4 rfl) rfl, in_good (tb7 5 rfl) rfl, in_good (tb1 17 rfl) rfl, in_good (tb7 6 rfl) rfl, ⟨by decide +kernel, by decide +kernel, by decide +kernel⟩, by decide, _, rfl, rfl⟩
theorem mw_L_17 : MwV RL 17 11 yX12_status cX12_status 1 (some (.int)) 0 := ⟨in_good (tb7 3 rfl) rfl, my_X12_status⟩
theorem my_X12_top : MyV 11 yX12_top cX12_top 1 (some (.long)) 0 := ⟨in_good (tb7 8 rfl) rfl, in_good (tb7 9 rfl) rfl, in_good (tb1 17 rfl) rfl, in_good (tb7 10 rfl) rfl, ⟨by decide +kernel, by decide +kernel, by decide +kernel⟩, by decide, _, rfl, rfl⟩
theorem mw_L_22 : MwV RL 22 11 yX12_top cX12_top 1 (some (.long)) 0 := ⟨in_good (tb7 7 rfl) rfl, my_X12_top⟩
theorem my_X12_bottom : MyV 11 yX12_bottom cX12_bottom 1 (some (.long)) 0 := ⟨in_good (tb7 12 rfl) rfl, in_good (tb7 13 rfl) rfl, in_good (tb1 17 rfl) rfl, in_good (tb7 14 rfl) rfl, ⟨by decide +kernel, by decide +kernel, by decide +kernel⟩, by decide, _, rfl, rfl⟩
theorem mw_L_26 : MwV RL 26 11 yX12_bottom cX12_bottom 1 (some (.long)) 0 := ⟨in_good (tb7 11 rfl) rfl, my_X12_bottom⟩
theorem my_X12_tray : MyV 11 yX12_tray cX12_tray 5 (some (.boolean)) 3 := ⟨in_good (tb7 16 rfl) rfl, in_good (tb7 17 rfl) rfl, in_good (tb1 17 rfl) rfl, in_good (tb7 18 rfl) rfl, ⟨by decide +kernel, by decide +kernel, by decide +kernel⟩, by decide, _, rfl, rfl⟩
theorem mw_L_31 : MwV RL 31 11 yX12_tray cX12_tray 5 (some (.boolean)) 3 := ⟨in_good (tb7 15 rfl) rfl, my_X12_tray⟩
theorem my_X12_no : MyV 11 yX12_no cX12_no 2 (some (.boolean)) 1 := ⟨in_good (tb7 21 rfl) rfl, in_good (sl_in 46 rfl) rfl, in_good (tb1 17 rfl) rfl, in_good (tb7 22 rfl) rfl, ⟨by decide +kernel, by decide +kernel, by decide +kernel⟩, by decide, _, rfl, rfl⟩
theorem mw_X12_87 : MwV RX12 87 11 yX12_no cX12_no 2 (some (.boolean)) 1 := ⟨in_good (tb7 19 rfl) rfl, my_X12_no⟩
theorem my_X12_write : MyV 11 yX12_write cX12_write 5 (some (.boolean)) 3 := ⟨in_good (tb7 24 rfl) rfl, in_good (tb7 25 rfl) rfl, in_good (tb1 17 rfl) rfl, in_good (tb7 26 rfl) rfl, ⟨by decide +kernel, by decide +kernel, by decide +kernel⟩, by decide, _, rfl, rfl⟩
theorem mw_L_38 : MwV RL 38 11 yX12_write cX12_write 5 (some (.boolean)) 3 := ⟨in_good (tb7 23 rfl) rfl, my_X12_write⟩
theorem my_X12_placed : MyV 11 yX12_placed cX12_placed 4 (some (.int)) 2 := ⟨in_good (tb7 29 rfl) rfl, in_good (sl_in 47 rfl) rfl, in_good (tb1 17 rfl) rfl, in_good (tb7 30 rfl) rfl, ⟨by decide +kernel, by decide +kernel, by decide +kernel⟩, by decide, _, rfl, rfl⟩
theorem mw_X12_95 : MwV RX12 95 11 yX12_placed cX12_placed 4 (some (.int)) 2 := ⟨in_good (tb7 27 rfl) rfl, my_X12_placed⟩
theorem my_X12_trayed : MyV 11 yX12_trayed cX12_trayed 2 (some (.int)) 1 := ⟨in_good (tb7 33 rfl) rfl, in_good (sl_in 48 rfl) rfl, in_good (tb1 17 rfl) rfl, in_good (tb7 34 rfl) rfl, ⟨by decide +kernel, by decide +kernel, by decide +kernel⟩, by decide, _, rfl, rfl⟩
theorem mw_X12_91 : MwV RX12 91 11 yX12_trayed cX12_trayed 2 (some (.int)) 1 := ⟨in_good (tb7 31 rfl) rfl, my_X12_trayed⟩
theorem my_X12_cut : MyS yX12_cut cX12_cut 3 (some (.long)) 2 := ⟨in_good (tb7 36 rfl) rfl, in_good (tb1 17 rfl) rfl, in_good (tb7 37 rfl) rfl, ⟨by decide +kernel, by decide +kernel, by decide +kernel⟩, by decide⟩
theorem mw_X12_99 : MwS RX12 99 yX12_cut cX12_cut 3 (some (.long)) 2 := ⟨Or.inl (in_good (tb7 35 rfl) rfl), my_X12_cut⟩
theorem my_X12_read : MyV 11 yX12_read cX12_read 3 (some (.long)) 2 := ⟨in_good (tb7 39 rfl) rfl, in_good (tb7 40 rfl) rfl, in_good (tb1 17 rfl) rfl, in_good (tb7 41 rfl) rfl, ⟨by decide +kernel, by decide +kernel, by decide +kernel⟩, by decide, _, rfl, rfl⟩
theorem mw_L_43 : MwV RL 43 11 yX12_read cX12_read 3 (some (.long)) 2 := ⟨in_good (tb7 38 rfl) rfl, my_X12_read⟩
theorem my_X12_pour : MyV 11 yX12_pour cX12_pour 9 (some (.boolean)) 5 := ⟨in_good (tb7 44 rfl) rfl, in_good (tb7 45 rfl) rfl, in_good (tb1 17 rfl) rfl, in_good (tb7 46 rfl) rfl, ⟨by decide +kernel, by decide +kernel, by decide +kernel⟩, by decide, _, rfl, rfl⟩
theorem mw_L_48 : MwV RL 48 11 yX12_pour cX12_pour 9 (some (.boolean)) 5 := ⟨in_good (tb7 43 rfl) rfl, my_X12_pour⟩
theorem my_X12_feed : MyV 11 yX12_feed cX12_feed 6 (some (.int)) 5 := ⟨in_good (tb7 48 rfl) rfl, in_good (tb7 49 rfl) rfl, in_good (tb1 17 rfl) rfl, in_good (tb7 50 rfl) rfl, ⟨by decide +kernel, by decide +kernel, by decide +kernel⟩, by decide, _, rfl, rfl⟩
theorem mw_L_53 : MwV RL 53 11 yX12_feed cX12_feed 6 (some (.int)) 5 := ⟨in_good (tb7 47 rfl) rfl, my_X12_feed⟩
theorem my_X12_lay : MyV 11 yX12_lay cX12_lay 3 none 1 := ⟨in_good (tb7 53 rfl) rfl, in_good (sl_in 49 rfl) rfl, in_good (tb1 17 rfl) rfl, in_good (tb7 54 rfl) rfl, ⟨by decide +kernel, by decide +kernel, by decide +kernel⟩, by decide, _, rfl, rfl⟩
theorem mw_X12_223 : MwV RX12 223 11 yX12_lay cX12_lay 3 none 1 := ⟨in_good (tb7 51 rfl) rfl, my_X12_lay⟩
theorem my_X12_fault : MyV 11 yX12_fault cX12_fault 2 (some (.int)) 1 := ⟨in_good (tb7 56 rfl) rfl, in_good (tb7 57 rfl) rfl, in_good (tb1 17 rfl) rfl, in_good (tb7 58 rfl) rfl, ⟨by decide +kernel, by decide +kernel, by decide +kernel⟩, by decide, _, rfl, rfl⟩
theorem mw_L_66 : MwV RL 66 11 yX12_fault cX12_fault 2 (some (.int)) 1 := ⟨in_good (tb7 55 rfl) rfl, my_X12_fault⟩
theorem my_X12_book : MyV 11 yX12_book cX12_book 3 (some (.int)) 1 := ⟨in_good (tb7 60 rfl) rfl, in_good (tb7 61 rfl) rfl, in_good (tb1 17 rfl) rfl, in_good (tb7 62 rfl) rfl, ⟨by decide +kernel, by decide +kernel, by decide +kernel⟩, by decide, _, rfl, rfl⟩
theorem mw_L_58 : MwV RL 58 11 yX12_book cX12_book 3 (some (.int)) 1 := ⟨in_good (tb7 59 rfl) rfl, my_X12_book⟩
theorem my_X12_starts : MyV 11 yX12_starts cX12_starts 3 (some (.boolean)) 2 := ⟨in_good (tb7 65 rfl) rfl, in_good (sl_in 50 rfl) rfl, in_good (tb1 17 rfl) rfl, in_good (tb7 66 rfl) rfl, ⟨by decide +kernel, by decide +kernel, by decide +kernel⟩, by decide, _, rfl, rfl⟩
theorem mw_X12_271 : MwV RX12 271 11 yX12_starts cX12_starts 3 (some (.boolean)) 2 := ⟨in_good (tb7 63 rfl) rfl, my_X12_starts⟩
theorem my_X12_advance : MyV 11 yX12_advance cX12_advance 2 none 0 := ⟨in_good (tb7 69 rfl) rfl, in_good (sl_in 51 rfl) rfl, in_good (tb1 17 rfl) rfl, in_good (tb7 70 rfl) rfl, ⟨by decide +kernel, by decide +kernel, by decide +kernel⟩, by decide, _, rfl, rfl⟩
theorem mw_X12_214 : MwV RX12 214 11 yX12_advance cX12_advance 2 none 0 := ⟨in_good (tb7 67 rfl) rfl, my_X12_advance⟩
theorem my_X12_look2 : MyV 11 yX12_look2 cX12_look2 2 (some (.int)) 1 := ⟨in_good (tb7 73 rfl) rfl, in_good (sl_in 52 rfl) rfl, in_good (tb1 17 rfl) rfl, in_good (tb7 74 rfl) rfl, ⟨by decide +kernel, by decide +kernel, by decide +kernel⟩, by decide, _, rfl, rfl⟩
theorem mw_X12_120 : MwV RX12 120 11 yX12_look2 cX12_look2 2 (some (.int)) 1 := ⟨in_good (tb7 71 rfl) rfl, my_X12_look2⟩
theorem my_X12_isLetter : MyS yX12_isLetter cX12_isLetter 1 (some (.boolean)) 1 := ⟨in_good (tb7 76 rfl) rfl, in_good (tb1 17 rfl) rfl, in_good (tb7 77 rfl) rfl, ⟨by decide +kernel, by decide +kernel, by decide +kernel⟩, by decide⟩
theorem mw_X12_126 : MwS RX12 126 yX12_isLetter cX12_isLetter 1 (some (.boolean)) 1 := ⟨Or.inl (in_good (tb7 75 rfl) rfl), my_X12_isLetter⟩
theorem my_X12_isDigit : MyS yX12_isDigit cX12_isDigit 1 (some (.boolean)) 1 := ⟨in_good (tb7 81 rfl) rfl, in_good (tb1 17 rfl) rfl, in_good (tb7 82 rfl) rfl, ⟨by decide +kernel, by decide +kernel, by decide +kernel⟩, by decide⟩
theorem mw_X12_139 : MwS RX12 139 yX12_isDigit cX12_isDigit 1 (some (.boolean)) 1 := ⟨Or.inl (in_good (tb7 80 rfl) rfl), my_X12_isDigit⟩
theorem my_X12_isSignByte : MyV 11 yX12_isSignByte cX12_isSignByte 2 (some (.boolean)) 1 := ⟨in_good (tb7 85 rfl) rfl, in_good (sl_in 53 rfl) rfl, in_good (tb1 17 rfl) rfl, in_good (tb7 86 rfl) rfl, ⟨by decide +kernel, by decide +kernel, by decide +kernel⟩, by decide, _, rfl, rfl⟩
theorem mw_X12_145 : MwV RX12 145 11 yX12_isSignByte cX12_isSignByte 2 (some (.boolean)) 1 := ⟨in_good (tb7 83 rfl) rfl, my_X12_isSignByte⟩
theorem my_X12_readPart : MyV 11 yX12_readPart cX12_readPart 1 none 0 := ⟨in_good (tb7 89 rfl) rfl, in_good (sl_in 54 rfl) rfl, in_good (tb1 17 rfl) rfl, in_good (tb7 90 rfl) rfl, ⟨by decide +kernel, by decide +kernel, by decide +kernel⟩, by decide, _, rfl, rfl⟩
theorem mw_X12_274 : MwV RX12 274 11 yX12_readPart cX12_readPart 1 none 0 := ⟨in_good (tb7 87 rfl) rfl, my_X12_readPart⟩
theorem my_X12_isWide : MyV 11 yX12_isWide cX12_isWide 1 (some (.boolean)) 0 := ⟨in_good (tb7 93 rfl) rfl, in_good (sl_in 55 rfl) rfl, in_good (tb1 17 rfl) rfl, in_good (tb7 94 rfl) rfl, ⟨by decide +kernel, by decide +kernel, by decide +kernel⟩, by decide, _, rfl, rfl⟩
theorem mw_X12_164 : MwV RX12 164 11 yX12_isWide cX12_isWide 1 (some (.boolean)) 0 := ⟨in_good (tb7 91 rfl) rfl, my_X12_isWide⟩
theorem my_X12_spelled : MyS yX12_spelled cX12_spelled 8 (some (.long)) 6 := ⟨in_good (tb7 96 rfl) rfl, in_good (tb1 17 rfl) rfl, in_good (tb7 97 rfl) rfl, ⟨by decide +kernel, by decide +kernel, by decide +kernel⟩, by decide⟩
theorem mw_X12_148 : MwS RX12 148 yX12_spelled cX12_spelled 8 (some (.long)) 6 := ⟨Or.inl (in_good (tb7 95 rfl) rfl), my_X12_spelled⟩
theorem my_X12_isWord : MyV 11 yX12_isWord cX12_isWord 3 (some (.boolean)) 1 := ⟨in_good (tb7 100 rfl) rfl, in_good (sl_in 56 rfl) rfl, in_good (tb1 17 rfl) rfl, in_good (tb7 101 rfl) rfl, ⟨by decide +kernel, by decide +kernel, by decide +kernel⟩, by decide, _, rfl, rfl⟩
theorem mw_X12_152 : MwV RX12 152 11 yX12_isWord cX12_isWord 3 (some (.boolean)) 1 := ⟨in_good (tb7 98 rfl) rfl, my_X12_isWord⟩
theorem my_X12_readOnce : MyV 11 yX12_readOnce cX12_readOnce 4 none 3 := ⟨in_good (tb7 104 rfl) rfl, in_good (sl_in 57 rfl) rfl, in_good (tb1 17 rfl) rfl, in_good (tb7 105 rfl) rfl, ⟨by decide +kernel, by decide +kernel, by decide +kernel⟩, by decide, _, rfl, rfl⟩
theorem mw_X12_258 : MwV RX12 258 11 yX12_readOnce cX12_readOnce 4 none 3 := ⟨in_good (tb7 102 rfl) rfl, my_X12_readOnce⟩
theorem my_X12_has : MyS yX12_has cX12_has 2 (some (.boolean)) 2 := ⟨in_good (tb7 107 rfl) rfl, in_good (tb1 17 rfl) rfl, in_good (tb7 108 rfl) rfl, ⟨by decide +kernel, by decide +kernel, by decide +kernel⟩, by decide⟩
theorem mw_X12_242 : MwS RX12 242 yX12_has cX12_has 2 (some (.boolean)) 2 := ⟨Or.inl (in_good (tb7 106 rfl) rfl), my_X12_has⟩
theorem my_X12_fail : MyV 11 yX12_fail cX12_fail 3 none 2 := ⟨in_good (tb7 111 rfl) rfl, in_good (sl_in 58 rfl) rfl, in_good (tb1 17 rfl) rfl, in_good (tb7 112 rfl) rfl, ⟨by decide +kernel, by decide +kernel, by decide +kernel⟩, by decide, _, rfl, rfl⟩
theorem mw_X12_210 : MwV RX12 210 11 yX12_fail cX12_fail 3 none 2 := ⟨in_good (tb7 109 rfl) rfl, my_X12_fail⟩
theorem my_X12_count : MyV 11 yX12_count cX12_count 4 (some (.int)) 2 := ⟨in_good (tb7 115 rfl) rfl, in_good (sl_in 59 rfl) rfl, in_good (tb1 17 rfl) rfl, in_good (tb7 116 rfl) rfl, ⟨by decide +kernel, by decide +kernel, by decide +kernel⟩, by decide, _, rfl, rfl⟩
theorem mw_X12_246 : MwV RX12 246 11 yX12_count cX12_count 4 (some (.int)) 2 := ⟨in_good (tb7 113 rfl) rfl, my_X12_count⟩
theorem my_X12_amiss : MyV 11 yX12_amiss cX12_amiss 1 none 0 := ⟨in_good (tb7 119 rfl) rfl, in_good (sl_in 60 rfl) rfl, in_good (tb1 17 rfl) rfl, in_good (tb7 120 rfl) rfl, ⟨by decide +kernel, by decide +kernel, by decide +kernel⟩, by decide, _, rfl, rfl⟩
theorem mw_X12_217 : MwV RX12 217 11 yX12_amiss cX12_amiss 1 none 0 := ⟨in_good (tb7 117 rfl) rfl, my_X12_amiss⟩
theorem my_X12_isIn : MyS yX12_isIn cX12_isIn 6 (some (.boolean)) 3 := ⟨in_good (tb7 122 rfl) rfl, in_good (tb1 17 rfl) rfl, in_good (tb7 123 rfl) rfl, ⟨by decide +kernel, by decide +kernel, by decide +kernel⟩, by decide⟩
theorem mw_X12_107 : MwS RX12 107 yX12_isIn cX12_isIn 6 (some (.boolean)) 3 := ⟨Or.inl (in_good (tb7 121 rfl) rfl), my_X12_isIn⟩
theorem my_X12_isTap : MyV 11 yX12_isTap cX12_isTap 1 (some (.boolean)) 0 := ⟨in_good (tb7 126 rfl) rfl, in_good (sl_in 61 rfl) rfl, in_good (tb1 17 rfl) rfl, in_good (tb7 127 rfl) rfl, ⟨by decide +kernel, by decide +kernel, by decide +kernel⟩, by decide, _, rfl, rfl⟩
theorem mw_X12_168 : MwV RX12 168 11 yX12_isTap cX12_isTap 1 (some (.boolean)) 0 := ⟨in_good (tb7 124 rfl) rfl, my_X12_isTap⟩
theorem my_X12_isOdds : MyV 11 yX12_isOdds cX12_isOdds 1 (some (.boolean)) 0 := ⟨in_good (tb7 130 rfl) rfl, in_good (sl_in 62 rfl) rfl, in_good (tb1 17 rfl) rfl, in_good (tb7 131 rfl) rfl, ⟨by decide +kernel, by decide +kernel, by decide +kernel⟩, by decide, _, rfl, rfl⟩
theorem mw_X12_171 : MwV RX12 171 11 yX12_isOdds cX12_isOdds 1 (some (.boolean)) 0 := ⟨in_good (tb7 128 rfl) rfl, my_X12_isOdds⟩
theorem my_X12_isAccount : MyV 11 yX12_isAccount cX12_isAccount 1 (some (.boolean)) 0 := ⟨in_good (tb7 134 rfl) rfl, in_good (sl_in 63 rfl) rfl, in_good (tb1 17 rfl) rfl, in_good (tb7 135 rfl) rfl, ⟨by decide +kernel, by decide +kernel, by decide +kernel⟩, by decide, _, rfl, rfl⟩
theorem mw_X12_174 : MwV RX12 174 11 yX12_isAccount cX12_isAccount 1 (some (.boolean)) 0 := ⟨in_good (tb7 132 rfl) rfl, my_X12_isAccount⟩
theorem my_X12_readAccount : MyV 11 yX12_readAccount cX12_readAccount 5 none 0 := ⟨in_good (tb7 139 rfl) rfl, in_good (sl_in 64 rfl) rfl, in_good (tb1 17 rfl) rfl, in_good (tb7 140 rfl) rfl, ⟨by decide +kernel, by decide +kernel, by decide +kernel⟩, by decide, _, rfl, rfl⟩
theorem mw_X12_262 : MwV RX12 262 11 yX12_readAccount cX12_readAccount 5 none 0 := ⟨in_good (tb7 137 rfl) rfl, my_X12_readAccount⟩
theorem my_X12_isName : MyV 11 yX12_isName cX12_isName 1 (some (.boolean)) 0 := ⟨in_good (tb7 143 rfl) rfl, in_good (sl_in 65 rfl) rfl, in_good (tb1 17 rfl) rfl, in_good (tb7 144 rfl) rfl, ⟨by decide +kernel, by decide +kernel, by decide +kernel⟩, by decide, _, rfl, rfl⟩
theorem mw_X12_226 : MwV RX12 226 11 yX12_isName cX12_isName 1 (some (.boolean)) 0 := ⟨in_good (tb7 141 rfl) rfl, my_X12_isName⟩
theorem my_X12_isKept : MyV 11 yX12_isKept cX12_isKept 1 (some (.boolean)) 0 := ⟨in_good (tb7 147 rfl) rfl, in_good (sl_in 66 rfl) rfl, in_good (tb1 17 rfl) rfl, in_good (tb7 148 rfl) rfl, ⟨by decide +kernel, by decide +kernel, by decide +kernel⟩, by decide, _, rfl, rfl⟩
theorem mw_X12_201 : MwV RX12 201 11 yX12_isKept cX12_isKept 1 (some (.boolean)) 0 := ⟨in_good (tb7 145 rfl) rfl, my_X12_isKept⟩
theorem my_X12_isLaw : MyV 11 yX12_isLaw cX12_isLaw 1 (some (.boolean)) 0 := ⟨in_good (tb7 151 rfl) rfl, in_good (sl_in 67 rfl) rfl, in_good (tb1 17 rfl) rfl, in_good (tb7 152 rfl) rfl, ⟨by decide +kernel, by decide +kernel, by decide +kernel⟩, by decide, _, rfl, rfl⟩
theorem mw_X12_177 : MwV RX12 177 11 yX12_isLaw cX12_isLaw 1 (some (.boolean)) 0 := ⟨in_good (tb7 149 rfl) rfl, my_X12_isLaw⟩
theorem my_X12_isBecomes : MyV 11 yX12_isBecomes cX12_isBecomes 1 (some (.boolean)) 0 := ⟨in_good (tb7 155 rfl) rfl, in_good (sl_in 68 rfl) rfl, in_good (tb1 17 rfl) rfl, in_good (tb7 156 rfl) rfl, ⟨by decide +kernel, by decide +kernel, by decide +kernel⟩, by decide, _, rfl, rfl⟩
theorem mw_X12_180 : MwV RX12 180 11 yX12_isBecomes cX12_isBecomes 1 (some (.boolean)) 0 := ⟨in_good (tb7 153 rfl) rfl, my_X12_isBecomes⟩
theorem my_X12_isWatch : MyV 11 yX12_isWatch cX12_isWatch 1 (some (.boolean)) 0 := ⟨in_good (tb7 160 rfl) rfl, in_good (sl_in 69 rfl) rfl, in_good (tb1 17 rfl) rfl, in_good (tb7 161 rfl) rfl, ⟨by decide +kernel, by decide +kernel, by decide +kernel⟩, by decide, _, rfl, rfl⟩
theorem mw_X12_183 : MwV RX12 183 11 yX12_isWatch cX12_isWatch 1 (some (.boolean)) 0 := ⟨in_good (tb7 158 rfl) rfl, my_X12_isWatch⟩
theorem my_X12_kindWord : MyV 11 yX12_kindWord cX12_kindWord 1 (some (.int)) 0 := ⟨in_good (tb7 164 rfl) rfl, in_good (sl_in 70 rfl) rfl, in_good (tb1 17 rfl) rfl, in_good (tb7 165 rfl) rfl, ⟨by decide +kernel, by decide +kernel, by decide +kernel⟩, by decide, _, rfl, rfl⟩
theorem mw_X12_186 : MwV RX12 186 11 yX12_kindWord cX12_kindWord 1 (some (.int)) 0 := ⟨in_good (tb7 162 rfl) rfl, my_X12_kindWord⟩
theorem my_X12_placeWord : MyV 11 yX12_placeWord cX12_placeWord 1 (some (.int)) 0 := ⟨in_good (tb7 168 rfl) rfl, in_good (sl_in 71 rfl) rfl, in_good (tb1 17 rfl) rfl, in_good (tb7 169 rfl) rfl, ⟨by decide +kernel, by decide +kernel, by decide +kernel⟩, by decide, _, rfl, rfl⟩
theorem mw_X12_160 : MwV RX12 160 11 yX12_placeWord cX12_placeWord 1 (some (.int)) 0 := ⟨in_good (tb7 166 rfl) rfl, my_X12_placeWord⟩
theorem my_X12_wayWord : MyV 11 yX12_wayWord cX12_wayWord 1 (some (.int)) 0 := ⟨in_good (tb7 172 rfl) rfl, in_good (sl_in 72 rfl) rfl, in_good (tb1 17 rfl) rfl, in_good (tb7 173 rfl) rfl, ⟨by decide +kernel, by decide +kernel, by decide +kernel⟩, by decide, _, rfl, rfl⟩
theorem mw_X12_189 : MwV RX12 189 11 yX12_wayWord cX12_wayWord 1 (some (.int)) 0 := ⟨in_good (tb7 170 rfl) rfl, my_X12_wayWord⟩
theorem my_X12_orderWord : MyV 11 yX12_orderWord cX12_orderWord 1 (some (.int)) 0 := ⟨in_good (tb7 176 rfl) rfl, in_good (sl_in 73 rfl) rfl, in_good (tb1 17 rfl) rfl, in_good (tb7 177 rfl) rfl, ⟨by decide +kernel, by decide +kernel, by decide +kernel⟩, by decide, _, rfl, rfl⟩
theorem mw_X12_192 : MwV RX12 192 11 yX12_orderWord cX12_orderWord 1 (some (.int)) 0 := ⟨in_good (tb7 174 rfl) rfl, my_X12_orderWord⟩
theorem my_X12_testWord : MyV 11 yX12_testWord cX12_testWord 1 (some (.int)) 0 := ⟨in_good (tb7 180 rfl) rfl, in_good (sl_in 74 rfl) rfl, in_good (tb1 17 rfl) rfl, in_good (tb7 181 rfl) rfl, ⟨by decide +kernel, by decide +kernel, by decide +kernel⟩, by decide, _, rfl, rfl⟩
theorem mw_X12_195 : MwV RX12 195 11 yX12_testWord cX12_testWord 1 (some (.int)) 0 := ⟨in_good (tb7 178 rfl) rfl, my_X12_testWord⟩
theorem my_X12_isEnd : MyV 11 yX12_isEnd cX12_isEnd 1 (some (.boolean)) 0 := ⟨in_good (tb7 184 rfl) rfl, in_good (sl_in 75 rfl) rfl, in_good (tb1 17 rfl) rfl, in_good (tb7 185 rfl) rfl, ⟨by decide +kernel, by decide +kernel, by decide +kernel⟩, by decide, _, rfl, rfl⟩
theorem mw_X12_198 : MwV RX12 198 11 yX12_isEnd cX12_isEnd 1 (some (.boolean)) 0 := ⟨in_good (tb7 182 rfl) rfl, my_X12_isEnd⟩
theorem my_X12_named : MyV 11 yX12_named cX12_named 3 (some (.int)) 1 := ⟨in_good (tb7 188 rfl) rfl, in_good (sl_in 76 rfl) rfl, in_good (tb1 17 rfl) rfl, in_good (tb7 189 rfl) rfl, ⟨by decide +kernel, by decide +kernel, by decide +kernel⟩, by decide, _, rfl, rfl⟩
theorem mw_X12_229 : MwV RX12 229 11 yX12_named cX12_named 3 (some (.int)) 1 := ⟨in_good (tb7 186 rfl) rfl, my_X12_named⟩
theorem my_X12_must : MyV 11 yX12_must cX12_must 2 none 1 := ⟨in_good (tb7 192 rfl) rfl, in_good (sl_in 77 rfl) rfl, in_good (tb1 17 rfl) rfl, in_good (tb7 193 rfl) rfl, ⟨by decide +kernel, by decide +kernel, by decide +kernel⟩, by decide, _, rfl, rfl⟩
theorem mw_X12_232 : MwV RX12 232 11 yX12_must cX12_must 2 none 1 := ⟨in_good (tb7 190 rfl) rfl, my_X12_must⟩
theorem my_X12_readLaw : MyV 11 yX12_readLaw cX12_readLaw 6 none 0 := ⟨in_good (tb7 197 rfl) rfl, in_good (sl_in 78 rfl) rfl, in_good (tb1 17 rfl) rfl, in_good (tb7 198 rfl) rfl, ⟨by decide +kernel, by decide +kernel, by decide +kernel⟩, by decide, _, rfl, rfl⟩
theorem mw_X12_265 : MwV RX12 265 11 yX12_readLaw cX12_readLaw 6 none 0 := ⟨in_good (tb7 195 rfl) rfl, my_X12_readLaw⟩
theorem my_X12_lays : MyV 11 yX12_lays cX12_lays 8 none 6 := ⟨in_good (tb7 201 rfl) rfl, in_good (sl_in 79 rfl) rfl, in_good (tb1 17 rfl) rfl, in_good (tb7 202 rfl) rfl, ⟨by decide +kernel, by decide +kernel, by decide +kernel⟩, by decide, _, rfl, rfl⟩
theorem mw_X12_251 : MwV RX12 251 11 yX12_lays cX12_lays 8 none 6 := ⟨in_good (tb7 199 rfl) rfl, my_X12_lays⟩
theorem my_X12_readWatch : MyV 11 yX12_readWatch cX12_readWatch 3 none 0 := ⟨in_good (tb7 205 rfl) rfl, in_good (sl_in 80 rfl) rfl, in_good (tb1 17 rfl) rfl, in_good (tb7 206 rfl) rfl, ⟨by decide +kernel, by decide +kernel, by decide +kernel⟩, by decide, _, rfl, rfl⟩
theorem mw_X12_268 : MwV RX12 268 11 yX12_readWatch cX12_readWatch 3 none 0 := ⟨in_good (tb7 203 rfl) rfl, my_X12_readWatch⟩
theorem my_X12_readTold : MyV 11 yX12_readTold cX12_readTold 3 (some (.int)) 1 := ⟨in_good (tb7 209 rfl) rfl, in_good (sl_in 81 rfl) rfl, in_good (tb1 17 rfl) rfl, in_good (tb7 210 rfl) rfl, ⟨by decide +kernel, by decide +kernel, by decide +kernel⟩, by decide, _, rfl, rfl⟩
theorem mw_X12_255 : MwV RX12 255 11 yX12_readTold cX12_readTold 3 (some (.int)) 1 := ⟨in_good (tb7 207 rfl) rfl, my_X12_readTold⟩
theorem mw_X12_236 : MwM RX12 236 yJ9_max_7cf53 cJ9_max_7cf53 2 (some (.int)) 2 := ⟨in_good (tb7 211 rfl) rfl, my_J9_max_7cf53⟩
theorem my_X12_isSign : MyV 11 yX12_isSign cX12_isSign 2 (some (.boolean)) 1 := ⟨in_good (tb7 214 rfl) rfl, in_good (sl_in 82 rfl) rfl, in_good (tb1 17 rfl) rfl, in_good (tb7 215 rfl) rfl, ⟨by decide +kernel, by decide +kernel, by decide +kernel⟩, by decide, _, rfl, rfl⟩
theorem mw_X12_277 : MwV RX12 277 11 yX12_isSign cX12_isSign 2 (some (.boolean)) 1 := ⟨in_good (tb7 212 rfl) rfl, my_X12_isSign⟩
theorem my_X12_isWell : MyV 11 yX12_isWell cX12_isWell 1 (some (.boolean)) 0 := ⟨in_good (tb7 218 rfl) rfl, in_good (sl_in 83 rfl) rfl, in_good (tb1 17 rfl) rfl, in_good (tb7 219 rfl) rfl, ⟨by decide +kernel, by decide +kernel, by decide +kernel⟩, by decide, _, rfl, rfl⟩
theorem mw_X12_280 : MwV RX12 280 11 yX12_isWell cX12_isWell 1 (some (.boolean)) 0 := ⟨in_good (tb7 216 rfl) rfl, my_X12_isWell⟩
theorem my_X12_copy : MyV 11 yX12_copy cX12_copy 4 none 2 := ⟨in_good (tb7 222 rfl) rfl, in_good (sl_in 84 rfl) rfl, in_good (tb1 17 rfl) rfl, in_good (tb7 223 rfl) rfl, ⟨by decide +kernel, by decide +kernel, by decide +kernel⟩, by decide, _, rfl, rfl⟩
theorem mw_X12_283 : MwV RX12 283 11 yX12_copy cX12_copy 4 none 2 := ⟨in_good (tb7 220 rfl) rfl, my_X12_copy⟩
theorem my_X12_nights : MyV 11 yX12_nights cX12_nights 3 (some (.int)) 1 := ⟨in_good (tb7 225 rfl) rfl, in_good (tb7 226 rfl) rfl, in_good (tb1 17 rfl) rfl, in_good (tb7 227 rfl) rfl, ⟨by decide +kernel, by decide +kernel, by decide +kernel⟩, by decide, _, rfl, rfl⟩
theorem mw_L_62 : MwV RL 62 11 yX12_nights cX12_nights 3 (some (.int)) 1 := ⟨in_good (tb7 224 rfl) rfl, my_X12_nights⟩
theorem my_X12_readStep : MyV 11 yX12_readStep cX12_readStep 5 none 1 := ⟨in_good (tb7 230 rfl) rfl, in_good (sl_in 85 rfl) rfl, in_good (tb1 17 rfl) rfl, in_good (tb7 231 rfl) rfl, ⟨by decide +kernel, by decide +kernel, by decide +kernel⟩, by decide, _, rfl, rfl⟩
theorem mw_X12_298 : MwV RX12 298 11 yX12_readStep cX12_readStep 5 none 1 := ⟨in_good (tb7 228 rfl) rfl, my_X12_readStep⟩
theorem my_X12_readRest : MyV 11 yX12_readRest cX12_readRest 3 none 1 := ⟨in_good (tb7 234 rfl) rfl, in_good (sl_in 86 rfl) rfl, in_good (tb1 17 rfl) rfl, in_good (tb7 235 rfl) rfl, ⟨by decide +kernel, by decide +kernel, by decide +kernel⟩, by decide, _, rfl, rfl⟩
theorem mw_X12_295 : MwV RX12 295 11 yX12_readRest cX12_readRest 3 none 1 := ⟨in_good (tb7 232 rfl) rfl, my_X12_readRest⟩
theorem my_X12_readTest : MyV 11 yX12_readTest cX12_readTest 3 none 1 := ⟨in_good (tb7 238 rfl) rfl, in_good (sl_in 87 rfl) rfl, in_good (tb1 17 rfl) rfl, in_good (tb7 239 rfl) rfl, ⟨by decide +kernel, by decide +kernel, by decide +kernel⟩, by decide, _, rfl, rfl⟩
theorem mw_X12_289 : MwV RX12 289 11 yX12_readTest cX12_readTest 3 none 1 := ⟨in_good (tb7 236 rfl) rfl, my_X12_readTest⟩
theorem my_X12_readCell : MyV 11 yX12_readCell cX12_readCell 2 (some (.int)) 0 := ⟨in_good (tb8 2 rfl) rfl, in_good (sl_in 88 rfl) rfl, in_good (tb1 17 rfl) rfl, in_good (tb8 3 rfl) rfl, ⟨by decide +kernel, by decide +kernel, by decide +kernel⟩, by decide, _, rfl, rfl⟩
theorem mw_X12_286 : MwV RX12 286 11 yX12_readCell cX12_readCell 2 (some (.int)) 0 := ⟨in_good (tb8 0 rfl) rfl, my_X12_readCell⟩
theorem my_X12_many : MyV 11 yX12_many cX12_many 2 (some (.int)) 1 := ⟨in_good (tb8 5 rfl) rfl, in_good (tb8 6 rfl) rfl, in_good (tb1 17 rfl) rfl, in_good (tb8 7 rfl) rfl, ⟨by decide +kernel, by decide +kernel, by decide +kernel⟩, by decide, _, rfl, rfl⟩
theorem mw_L_70 : MwV RL 70 11 yX12_many cX12_many 2 (some (.int)) 1 := ⟨in_good (tb8 4 rfl) rfl, my_X12_many⟩
theorem my_X12_refuse : MyV 11 yX12_refuse cX12_refuse 2 (some (.int)) 1 := ⟨in_good (tb8 11 rfl) rfl, in_good (sl_in 89 rfl) rfl, in_good (tb1 17 rfl) rfl, in_good (tb8 12 rfl) rfl, ⟨by decide +kernel, by decide +kernel, by decide +kernel⟩, by decide, _, rfl, rfl⟩
theorem mw_X12_318 : MwV RX12 318 11 yX12_refuse cX12_refuse 2 (some (.int)) 1 := ⟨in_good (tb8 9 rfl) rfl, my_X12_refuse⟩
theorem my_X12_cells : MyV 11 yX12_cells cX12_cells 1 (some (.int)) 0 := ⟨in_good (tb8 15 rfl) rfl, in_good (sl_in 90 rfl) rfl, in_good (tb1 17 rfl) rfl, in_good (tb8 16 rfl) rfl, ⟨by decide +kernel, by decide +kernel, by decide +kernel⟩, by decide, _, rfl, rfl⟩
theorem mw_X12_301 : MwV RX12 301 11 yX12_cells cX12_cells 1 (some (.int)) 0 := ⟨in_good (tb8 13 rfl) rfl, my_X12_cells⟩
theorem my_X12_allWrong : MyV 11 yX12_allWrong cX12_allWrong 1 (some (.int)) 0 := ⟨in_good (tb8 19 rfl) rfl, in_good (sl_in 91 rfl) rfl, in_good (tb1 17 rfl) rfl, in_good (tb8 20 rfl) rfl, ⟨by decide +kernel, by decide +kernel, by decide +kernel⟩, by decide, _, rfl, rfl⟩
theorem mw_X12_321 : MwV RX12 321 11 yX12_allWrong cX12_allWrong 1 (some (.int)) 0 := ⟨in_good (tb8 17 rfl) rfl, my_X12_allWrong⟩
theorem my_X12_wrongOf : MyV 11 yX12_wrongOf cX12_wrongOf 4 (some (.int)) 1 := ⟨in_good (tb8 23 rfl) rfl, in_good (sl_in 92 rfl) rfl, in_good (tb1 17 rfl) rfl, in_good (tb8 24 rfl) rfl, ⟨by decide +kernel, by decide +kernel, by decide +kernel⟩, by decide, _, rfl, rfl⟩
theorem mw_X12_307 : MwV RX12 307 11 yX12_wrongOf cX12_wrongOf 4 (some (.int)) 1 := ⟨in_good (tb8 21 rfl) rfl, my_X12_wrongOf⟩
theorem my_X12_isWrong : MyV 11 yX12_isWrong cX12_isWrong 2 (some (.boolean)) 1 := ⟨in_good (tb8 27 rfl) rfl, in_good (sl_in 93 rfl) rfl, in_good (tb1 17 rfl) rfl, in_good (tb8 28 rfl) rfl, ⟨by decide +kernel, by decide +kernel, by decide +kernel⟩, by decide, _, rfl, rfl⟩
theorem mw_X12_304 : MwV RX12 304 11 yX12_isWrong cX12_isWrong 2 (some (.boolean)) 1 := ⟨in_good (tb8 25 rfl) rfl, my_X12_isWrong⟩
theorem my_X12_tappedSet : MyV 11 yX12_tappedSet cX12_tappedSet 3 (some (.int)) 0 := ⟨in_good (tb8 31 rfl) rfl, in_good (sl_in 94 rfl) rfl, in_good (tb1 17 rfl) rfl, in_good (tb8 32 rfl) rfl, ⟨by decide +kernel, by decide +kernel, by decide +kernel⟩, by decide, _, rfl, rfl⟩
theorem mw_X12_324 : MwV RX12 324 11 yX12_tappedSet cX12_tappedSet 3 (some (.int)) 0 := ⟨in_good (tb8 29 rfl) rfl, my_X12_tappedSet⟩
theorem my_X12_isEven : MyV 11 yX12_isEven cX12_isEven 1 (some (.boolean)) 0 := ⟨in_good (tb8 35 rfl) rfl, in_good (sl_in 95 rfl) rfl, in_good (tb1 17 rfl) rfl, in_good (tb8 36 rfl) rfl, ⟨by decide +kernel, by decide +kernel, by decide +kernel⟩, by decide, _, rfl, rfl⟩
theorem mw_X12_327 : MwV RX12 327 11 yX12_isEven cX12_isEven 1 (some (.boolean)) 0 := ⟨in_good (tb8 33 rfl) rfl, my_X12_isEven⟩
theorem my_X12_balanced : MyV 11 yX12_balanced cX12_balanced 3 (some (.int)) 0 := ⟨in_good (tb8 39 rfl) rfl, in_good (sl_in 96 rfl) rfl, in_good (tb1 17 rfl) rfl, in_good (tb8 40 rfl) rfl, ⟨by decide +kernel, by decide +kernel, by decide +kernel⟩, by decide, _, rfl, rfl⟩
theorem mw_X12_313 : MwV RX12 313 11 yX12_balanced cX12_balanced 3 (some (.int)) 0 := ⟨in_good (tb8 37 rfl) rfl, my_X12_balanced⟩
theorem my_X12_sumOf : MyV 11 yX12_sumOf cX12_sumOf 5 (some (.int)) 2 := ⟨in_good (tb8 43 rfl) rfl, in_good (sl_in 97 rfl) rfl, in_good (tb1 17 rfl) rfl, in_good (tb8 44 rfl) rfl, ⟨by decide +kernel, by decide +kernel, by decide +kernel⟩, by decide, _, rfl, rfl⟩
theorem mw_X12_310 : MwV RX12 310 11 yX12_sumOf cX12_sumOf 5 (some (.int)) 2 := ⟨in_good (tb8 41 rfl) rfl, my_X12_sumOf⟩
theorem my_X12_cell : MyV 11 yX12_cell cX12_cell 3 (some (.int)) 2 := ⟨in_good (tb8 46 rfl) rfl, in_good (tb8 47 rfl) rfl, in_good (tb1 17 rfl) rfl, in_good (tb8 48 rfl) rfl, ⟨by decide +kernel, by decide +kernel, by decide +kernel⟩, by decide, _, rfl, rfl⟩
theorem mw_L_75 : MwV RL 75 11 yX12_cell cX12_cell 3 (some (.int)) 2 := ⟨in_good (tb8 45 rfl) rfl, my_X12_cell⟩
theorem my_X12_isCellAt : MyV 11 yX12_isCellAt cX12_isCellAt 2 (some (.boolean)) 1 := ⟨in_good (tb8 51 rfl) rfl, in_good (sl_in 98 rfl) rfl, in_good (tb1 17 rfl) rfl, in_good (tb8 52 rfl) rfl, ⟨by decide +kernel, by decide +kernel, by decide +kernel⟩, by decide, _, rfl, rfl⟩
theorem mw_X12_330 : MwV RX12 330 11 yX12_isCellAt cX12_isCellAt 2 (some (.boolean)) 1 := ⟨in_good (tb8 49 rfl) rfl, my_X12_isCellAt⟩
theorem my_X12_watch : MyV 11 yX12_watch cX12_watch 1 (some (.int)) 0 := ⟨in_good (tb8 55 rfl) rfl, in_good (tb8 56 rfl) rfl, in_good (tb1 17 rfl) rfl, in_good (tb8 57 rfl) rfl, ⟨by decide +kernel, by decide +kernel, by decide +kernel⟩, by decide, _, rfl, rfl⟩
theorem mw_L_79 : MwV RL 79 11 yX12_watch cX12_watch 1 (some (.int)) 0 := ⟨in_good (tb8 54 rfl) rfl, my_X12_watch⟩
theorem my_X12_account : MyV 11 yX12_account cX12_account 3 (some (.int)) 2 := ⟨in_good (tb8 59 rfl) rfl, in_good (tb8 60 rfl) rfl, in_good (tb1 17 rfl) rfl, in_good (tb8 61 rfl) rfl, ⟨by decide +kernel, by decide +kernel, by decide +kernel⟩, by decide, _, rfl, rfl⟩
theorem mw_L_83 : MwV RL 83 11 yX12_account cX12_account 3 (some (.int)) 2 := ⟨in_good (tb8 58 rfl) rfl, my_X12_account⟩
theorem my_X12_isAccountAt : MyV 11 yX12_isAccountAt cX12_isAccountAt 2 (some (.boolean)) 1 := ⟨in_good (tb8 64 rfl) rfl, in_good (sl_in 99 rfl) rfl, in_good (tb1 17 rfl) rfl, in_good (tb8 65 rfl) rfl, ⟨by decide +kernel, by decide +kernel, by decide +kernel⟩, by decide, _, rfl, rfl⟩
theorem mw_X12_333 : MwV RX12 333 11 yX12_isAccountAt cX12_isAccountAt 2 (some (.boolean)) 1 := ⟨in_good (tb8 62 rfl) rfl, my_X12_isAccountAt⟩
theorem my_X12_together : MyV 11 yX12_together cX12_together 7 (some (.int)) 4 := ⟨in_good (tb8 68 rfl) rfl, in_good (sl_in 100 rfl) rfl, in_good (tb1 17 rfl) rfl, in_good (tb8 69 rfl) rfl, ⟨by decide +kernel, by decide +kernel, by decide +kernel⟩, by decide, _, rfl, rfl⟩
theorem mw_X12_336 : MwV RX12 336 11 yX12_together cX12_together 7 (some (.int)) 4 := ⟨in_good (tb8 66 rfl) rfl, my_X12_together⟩
theorem my_X12_law : MyV 11 yX12_law cX12_law 3 (some (.int)) 2 := ⟨in_good (tb8 71 rfl) rfl, in_good (tb8 72 rfl) rfl, in_good (tb1 17 rfl) rfl, in_good (tb8 73 rfl) rfl, ⟨by decide +kernel, by decide +kernel, by decide +kernel⟩, by decide, _, rfl, rfl⟩
theorem mw_L_87 : MwV RL 87 11 yX12_law cX12_law 3 (some (.int)) 2 := ⟨in_good (tb8 70 rfl) rfl, my_X12_law⟩
theorem my_X12_isLawAt : MyV 11 yX12_isLawAt cX12_isLawAt 2 (some (.boolean)) 1 := ⟨in_good (tb8 76 rfl) rfl, in_good (sl_in 101 rfl) rfl, in_good (tb1 17 rfl) rfl, in_good (tb8 77 rfl) rfl, ⟨by decide +kernel, by decide +kernel, by decide +kernel⟩, by decide, _, rfl, rfl⟩
theorem mw_X12_340 : MwV RX12 340 11 yX12_isLawAt cX12_isLawAt 2 (some (.boolean)) 1 := ⟨in_good (tb8 74 rfl) rfl, my_X12_isLawAt⟩
theorem my_X12_balance : MyV 11 yX12_balance cX12_balance 1 (some (.int)) 0 := ⟨in_good (tb8 79 rfl) rfl, in_good (tb8 80 rfl) rfl, in_good (tb1 17 rfl) rfl, in_good (tb8 81 rfl) rfl, ⟨by decide +kernel, by decide +kernel, by decide +kernel⟩, by decide, _, rfl, rfl⟩
theorem mw_L_91 : MwV RL 91 11 yX12_balance cX12_balance 1 (some (.int)) 0 := ⟨in_good (tb8 78 rfl) rfl, my_X12_balance⟩
theorem my_X12_copyDigits : MyV 11 yX12_copyDigits cX12_copyDigits 3 (some (.int)) 1 := ⟨in_good (tb8 83 rfl) rfl, in_good (tb8 84 rfl) rfl, in_good (tb1 17 rfl) rfl, in_good (tb8 85 rfl) rfl, ⟨by decide +kernel, by decide +kernel, by decide +kernel⟩, by decide, _, rfl, rfl⟩
theorem mw_L_95 : MwV RL 95 11 yX12_copyDigits cX12_copyDigits 3 (some (.int)) 1 := ⟨in_good (tb8 82 rfl) rfl, my_X12_copyDigits⟩
theorem my_X12_isTray : MyV 11 yX12_isTray cX12_isTray 2 (some (.boolean)) 1 := ⟨in_good (tb8 88 rfl) rfl, in_good (sl_in 102 rfl) rfl, in_good (tb1 17 rfl) rfl, in_good (tb8 89 rfl) rfl, ⟨by decide +kernel, by decide +kernel, by decide +kernel⟩, by decide, _, rfl, rfl⟩
theorem mw_X12_343 : MwV RX12 343 11 yX12_isTray cX12_isTray 2 (some (.boolean)) 1 := ⟨in_good (tb8 86 rfl) rfl, my_X12_isTray⟩
theorem mw_X12_346 : MwV RX12 346 11 yX12_write cX12_write 5 (some (.boolean)) 3 := ⟨in_good (tb8 90 rfl) rfl, my_X12_write⟩
theorem my_X12_step : MyV 11 yX12_step cX12_step 2 (some (.int)) 1 := ⟨in_good (tb8 92 rfl) rfl, in_good (tb8 93 rfl) rfl, in_good (tb1 17 rfl) rfl, in_good (tb8 94 rfl) rfl, ⟨by decide +kernel, by decide +kernel, by decide +kernel⟩, by decide, _, rfl, rfl⟩
theorem mw_L_99 : MwV RL 99 11 yX12_step cX12_step 2 (some (.int)) 1 := ⟨in_good (tb8 91 rfl) rfl, my_X12_step⟩
theorem my_X12_steps : MyV 11 yX12_steps cX12_steps 3 (some (.boolean)) 1 := ⟨in_good (tb8 98 rfl) rfl, in_good (sl_in 103 rfl) rfl, in_good (tb1 17 rfl) rfl, in_good (tb8 99 rfl) rfl, ⟨by decide +kernel, by decide +kernel, by decide +kernel⟩, by decide, _, rfl, rfl⟩
theorem mw_X12_370 : MwV RX12 370 11 yX12_steps cX12_steps 3 (some (.boolean)) 1 := ⟨in_good (tb8 96 rfl) rfl, my_X12_steps⟩
theorem my_X12_wayFrom : MyV 11 yX12_wayFrom cX12_wayFrom 3 (some (.int)) 2 := ⟨in_good (tb8 102 rfl) rfl, in_good (sl_in 104 rfl) rfl, in_good (tb1 17 rfl) rfl, in_good (tb8 103 rfl) rfl, ⟨by decide +kernel, by decide +kernel, by decide +kernel⟩, by decide, _, rfl, rfl⟩
theorem mw_X12_362 : MwV RX12 362 11 yX12_wayFrom cX12_wayFrom 3 (some (.int)) 2 := ⟨in_good (tb8 100 rfl) rfl, my_X12_wayFrom⟩
theorem my_X12_besideOf : MyV 11 yX12_besideOf cX12_besideOf 5 (some (.int)) 2 := ⟨in_good (tb8 106 rfl) rfl, in_good (sl_in 105 rfl) rfl, in_good (tb1 17 rfl) rfl, in_good (tb8 107 rfl) rfl, ⟨by decide +kernel, by decide +kernel, by decide +kernel⟩, by decide, _, rfl, rfl⟩
theorem mw_X12_350 : MwV RX12 350 11 yX12_besideOf cX12_besideOf 5 (some (.int)) 2 := ⟨in_good (tb8 104 rfl) rfl, my_X12_besideOf⟩
theorem my_X12_goesHour : MyV 11 yX12_goesHour cX12_goesHour 3 (some (.boolean)) 0 := ⟨in_good (tb8 110 rfl) rfl, in_good (sl_in 106 rfl) rfl, in_good (tb1 17 rfl) rfl, in_good (tb8 111 rfl) rfl, ⟨by decide +kernel, by decide +kernel, by decide +kernel⟩, by decide, _, rfl, rfl⟩
theorem mw_X12_365 : MwV RX12 365 11 yX12_goesHour cX12_goesHour 3 (some (.boolean)) 0 := ⟨in_good (tb8 108 rfl) rfl, my_X12_goesHour⟩
theorem my_X12_becomesBy : MyV 11 yX12_becomesBy cX12_becomesBy 3 (some (.int)) 1 := ⟨in_good (tb8 114 rfl) rfl, in_good (sl_in 107 rfl) rfl, in_good (tb1 17 rfl) rfl, in_good (tb8 115 rfl) rfl, ⟨by decide +kernel, by decide +kernel, by decide +kernel⟩, by decide, _, rfl, rfl⟩
theorem mw_X12_359 : MwV RX12 359 11 yX12_becomesBy cX12_becomesBy 3 (some (.int)) 1 := ⟨in_good (tb8 112 rfl) rfl, my_X12_becomesBy⟩
theorem my_X12_lawOn : MyV 11 yX12_lawOn cX12_lawOn 3 (some (.int)) 1 := ⟨in_good (tb8 118 rfl) rfl, in_good (sl_in 108 rfl) rfl, in_good (tb1 17 rfl) rfl, in_good (tb8 119 rfl) rfl, ⟨by decide +kernel, by decide +kernel, by decide +kernel⟩, by decide, _, rfl, rfl⟩
theorem mw_X12_356 : MwV RX12 356 11 yX12_lawOn cX12_lawOn 3 (some (.int)) 1 := ⟨in_good (tb8 116 rfl) rfl, my_X12_lawOn⟩
theorem my_X12_bearsOn : MyV 11 yX12_bearsOn cX12_bearsOn 4 (some (.boolean)) 2 := ⟨in_good (tb8 122 rfl) rfl, in_good (sl_in 109 rfl) rfl, in_good (tb1 17 rfl) rfl, in_good (tb8 123 rfl) rfl, ⟨by decide +kernel, by decide +kernel, by decide +kernel⟩, by decide, _, rfl, rfl⟩
theorem mw_X12_353 : MwV RX12 353 11 yX12_bearsOn cX12_bearsOn 4 (some (.boolean)) 2 := ⟨in_good (tb8 120 rfl) rfl, my_X12_bearsOn⟩
theorem my_X12_doze : MyV 11 yX12_doze cX12_doze 3 (some (.int)) 1 := ⟨in_good (tb8 125 rfl) rfl, in_good (tb8 126 rfl) rfl, in_good (tb1 17 rfl) rfl, in_good (tb8 127 rfl) rfl, ⟨by decide +kernel, by decide +kernel, by decide +kernel⟩, by decide, _, rfl, rfl⟩
theorem mw_L_103 : MwV RL 103 11 yX12_doze cX12_doze 3 (some (.int)) 1 := ⟨in_good (tb8 124 rfl) rfl, my_X12_doze⟩
theorem my_X12_mend : MyV 11 yX12_mend cX12_mend 2 (some (.int)) 1 := ⟨in_good (tb8 130 rfl) rfl, in_good (tb8 131 rfl) rfl, in_good (tb1 17 rfl) rfl, in_good (tb8 132 rfl) rfl, ⟨by decide +kernel, by decide +kernel, by decide +kernel⟩, by decide, _, rfl, rfl⟩
theorem mw_L_107 : MwV RL 107 11 yX12_mend cX12_mend 2 (some (.int)) 1 := ⟨in_good (tb8 129 rfl) rfl, my_X12_mend⟩
theorem my_X12_mends : MyV 11 yX12_mends cX12_mends 3 (some (.int)) 1 := ⟨in_good (tb8 135 rfl) rfl, in_good (sl_in 110 rfl) rfl, in_good (tb1 17 rfl) rfl, in_good (tb8 136 rfl) rfl, ⟨by decide +kernel, by decide +kernel, by decide +kernel⟩, by decide, _, rfl, rfl⟩
theorem mw_X12_375 : MwV RX12 375 11 yX12_mends cX12_mends 3 (some (.int)) 1 := ⟨in_good (tb8 133 rfl) rfl, my_X12_mends⟩
theorem my_X12_steal : MyV 11 yX12_steal cX12_steal 2 (some (.int)) 1 := ⟨in_good (tb8 138 rfl) rfl, in_good (tb8 139 rfl) rfl, in_good (tb1 17 rfl) rfl, in_good (tb8 140 rfl) rfl, ⟨by decide +kernel, by decide +kernel, by decide +kernel⟩, by decide, _, rfl, rfl⟩
theorem mw_L_111 : MwV RL 111 11 yX12_steal cX12_steal 2 (some (.int)) 1 := ⟨in_good (tb8 137 rfl) rfl, my_X12_steal⟩
theorem my_X12_takes : MyV 11 yX12_takes cX12_takes 3 (some (.int)) 1 := ⟨in_good (tb8 143 rfl) rfl, in_good (sl_in 111 rfl) rfl, in_good (tb1 17 rfl) rfl, in_good (tb8 144 rfl) rfl, ⟨by decide +kernel, by decide +kernel, by decide +kernel⟩, by decide, _, rfl, rfl⟩
theorem mw_X12_378 : MwV RX12 378 11 yX12_takes cX12_takes 3 (some (.int)) 1 := ⟨in_good (tb8 141 rfl) rfl, my_X12_takes⟩
theorem my_X12_scratch : MyV 11 yX12_scratch cX12_scratch 4 (some (.int)) 2 := ⟨in_good (tb8 146 rfl) rfl, in_good (tb8 147 rfl) rfl, in_good (tb1 17 rfl) rfl, in_good (tb8 148 rfl) rfl, ⟨by decide +kernel, by decide +kernel, by decide +kernel⟩, by decide, _, rfl, rfl⟩
theorem mw_L_115 : MwV RL 115 11 yX12_scratch cX12_scratch 4 (some (.int)) 2 := ⟨in_good (tb8 145 rfl) rfl, my_X12_scratch⟩
theorem my_X12_vouch : MyV 11 yX12_vouch cX12_vouch 3 (some (.int)) 1 := ⟨in_good (tb8 150 rfl) rfl, in_good (tb8 151 rfl) rfl, in_good (tb1 17 rfl) rfl, in_good (tb8 152 rfl) rfl, ⟨by decide +kernel, by decide +kernel, by decide +kernel⟩, by decide, _, rfl, rfl⟩
theorem mw_L_119 : MwV RL 119 11 yX12_vouch cX12_vouch 3 (some (.int)) 1 := ⟨in_good (tb8 149 rfl) rfl, my_X12_vouch⟩
theorem my_X12_enact : MyV 11 yX12_enact cX12_enact 6 (some (.int)) 4 := ⟨in_good (tb8 154 rfl) rfl, in_good (tb8 155 rfl) rfl, in_good (tb1 17 rfl) rfl, in_good (tb8 156 rfl) rfl, ⟨by decide +kernel, by decide +kernel, by decide +kernel⟩, by decide, _, rfl, rfl⟩
theorem mw_L_124 : MwV RL 124 11 yX12_enact cX12_enact 6 (some (.int)) 4 := ⟨in_good (tb8 153 rfl) rfl, my_X12_enact⟩
theorem my_X12_repeal : MyV 11 yX12_repeal cX12_repeal 3 (some (.int)) 1 := ⟨in_good (tb8 158 rfl) rfl, in_good (tb8 159 rfl) rfl, in_good (tb1 17 rfl) rfl, in_good (tb8 160 rfl) rfl, ⟨by decide +kernel, by decide +kernel, by decide +kernel⟩, by decide, _, rfl, rfl⟩
theorem mw_L_128 : MwV RL 128 11 yX12_repeal cX12_repeal 3 (some (.int)) 1 := ⟨in_good (tb8 157 rfl) rfl, my_X12_repeal⟩
theorem my_X12_rule : MyV 11 yX12_rule cX12_rule 3 (some (.boolean)) 2 := ⟨in_good (tb8 162 rfl) rfl, in_good (tb8 163 rfl) rfl, in_good (tb1 17 rfl) rfl, in_good (tb8 164 rfl) rfl, ⟨by decide +kernel, by decide +kernel, by decide +kernel⟩, by decide, _, rfl, rfl⟩
theorem mw_L_133 : MwV RL 133 11 yX12_rule cX12_rule 3 (some (.boolean)) 2 := ⟨in_good (tb8 161 rfl) rfl, my_X12_rule⟩
theorem my_X12_digitIn : MyV 11 yX12_digitIn cX12_digitIn 4 (some (.int)) 2 := ⟨in_good (tb8 167 rfl) rfl, in_good (tb8 168 rfl) rfl, in_good (tb1 17 rfl) rfl, in_good (tb8 169 rfl) rfl, ⟨by decide +kernel, by decide +kernel, by decide +kernel⟩, by decide, _, rfl, rfl⟩
theorem mw_L_137 : MwV RL 137 11 yX12_digitIn cX12_digitIn 4 (some (.int)) 2 := ⟨in_good (tb8 166 rfl) rfl, my_X12_digitIn⟩
theorem my_X12_isAhead : MyS yX12_isAhead cX12_isAhead 1 (some (.boolean)) 1 := ⟨in_good (tb8 171 rfl) rfl, in_good (tb1 17 rfl) rfl, in_good (tb8 172 rfl) rfl, ⟨by decide +kernel, by decide +kernel, by decide +kernel⟩, by decide⟩
theorem mw_X12_385 : MwS RX12 385 yX12_isAhead cX12_isAhead 1 (some (.boolean)) 1 := ⟨Or.inl (in_good (tb8 170 rfl) rfl), my_X12_isAhead⟩
theorem my_X12_puts : MyV 11 yX12_puts cX12_puts 2 none 0 := ⟨in_good (tb8 176 rfl) rfl, in_good (sl_in 112 rfl) rfl, in_good (tb1 17 rfl) rfl, in_good (tb8 177 rfl) rfl, ⟨by decide +kernel, by decide +kernel, by decide +kernel⟩, by decide, _, rfl, rfl⟩
theorem mw_X12_388 : MwV RX12 388 11 yX12_puts cX12_puts 2 none 0 := ⟨in_good (tb8 174 rfl) rfl, my_X12_puts⟩
theorem my_X12_gives : MyV 11 yX12_gives cX12_gives 2 none 0 := ⟨in_good (tb8 180 rfl) rfl, in_good (sl_in 113 rfl) rfl, in_good (tb1 17 rfl) rfl, in_good (tb8 181 rfl) rfl, ⟨by decide +kernel, by decide +kernel, by decide +kernel⟩, by decide, _, rfl, rfl⟩
theorem mw_X12_391 : MwV RX12 391 11 yX12_gives cX12_gives 2 none 0 := ⟨in_good (tb8 178 rfl) rfl, my_X12_gives⟩
theorem my_X12_wrongIn : MyV 11 yX12_wrongIn cX12_wrongIn 3 (some (.int)) 1 := ⟨in_good (tb8 183 rfl) rfl, in_good (tb8 184 rfl) rfl, in_good (tb1 17 rfl) rfl, in_good (tb8 185 rfl) rfl, ⟨by decide +kernel, by decide +kernel, by decide +kernel⟩, by decide, _, rfl, rfl⟩
theorem mw_L_141 : MwV RL 141 11 yX12_wrongIn cX12_wrongIn 3 (some (.int)) 1 := ⟨in_good (tb8 182 rfl) rfl, my_X12_wrongIn⟩
theorem my_X12_wrongBy : MyV 11 yX12_wrongBy cX12_wrongBy 4 (some (.int)) 1 := ⟨in_good (tb8 187 rfl) rfl, in_good (tb8 188 rfl) rfl, in_good (tb1 17 rfl) rfl, in_good (tb8 189 rfl) rfl, ⟨by decide +kernel, by decide +kernel, by decide +kernel⟩, by decide, _, rfl, rfl⟩
theorem mw_L_145 : MwV RL 145 11 yX12_wrongBy cX12_wrongBy 4 (some (.int)) 1 := ⟨in_good (tb8 186 rfl) rfl, my_X12_wrongBy⟩
theorem my_X12_evenIn : MyV 11 yX12_evenIn cX12_evenIn 3 (some (.int)) 0 := ⟨in_good (tb8 191 rfl) rfl, in_good (tb8 192 rfl) rfl, in_good (tb1 17 rfl) rfl, in_good (tb8 193 rfl) rfl, ⟨by decide +kernel, by decide +kernel, by decide +kernel⟩, by decide, _, rfl, rfl⟩
theorem mw_L_149 : MwV RL 149 11 yX12_evenIn cX12_evenIn 3 (some (.int)) 0 := ⟨in_good (tb8 190 rfl) rfl, my_X12_evenIn⟩
theorem my_X12_stillIn : MyV 11 yX12_stillIn cX12_stillIn 3 (some (.int)) 0 := ⟨in_good (tb8 195 rfl) rfl, in_good (tb8 196 rfl) rfl, in_good (tb1 17 rfl) rfl, in_good (tb8 197 rfl) rfl, ⟨by decide +kernel, by decide +kernel, by decide +kernel⟩, by decide, _, rfl, rfl⟩
theorem mw_L_153 : MwV RL 153 11 yX12_stillIn cX12_stillIn 3 (some (.int)) 0 := ⟨in_good (tb8 194 rfl) rfl, my_X12_stillIn⟩
theorem my_X12_bears : MyV 11 yX12_bears cX12_bears 3 (some (.int)) 1 := ⟨in_good (tb8 199 rfl) rfl, in_good (tb8 200 rfl) rfl, in_good (tb1 17 rfl) rfl, in_good (tb8 201 rfl) rfl, ⟨by decide +kernel, by decide +kernel, by decide +kernel⟩, by decide, _, rfl, rfl⟩
theorem mw_L_157 : MwV RL 157 11 yX12_bears cX12_bears 3 (some (.int)) 1 := ⟨in_good (tb8 198 rfl) rfl, my_X12_bears⟩
theorem my_X12_round : MyV 11 yX12_round cX12_round 3 (some (.int)) 2 := ⟨in_good (tb8 203 rfl) rfl, in_good (tb8 204 rfl) rfl, in_good (tb1 17 rfl) rfl, in_good (tb8 205 rfl) rfl, ⟨by decide +kernel, by decide +kernel, by decide +kernel⟩, by decide, _, rfl, rfl⟩
theorem mw_L_161 : MwV RL 161 11 yX12_round cX12_round 3 (some (.int)) 2 := ⟨in_good (tb8 202 rfl) rfl, my_X12_round⟩
theorem my_X12_whyNoRound : MyV 11 yX12_whyNoRound cX12_whyNoRound 3 (some (.int)) 2 := ⟨in_good (tb8 208 rfl) rfl, in_good (sl_in 114 rfl) rfl, in_good (tb1 17 rfl) rfl, in_good (tb8 209 rfl) rfl, ⟨by decide +kernel, by decide +kernel, by decide +kernel⟩, by decide, _, rfl, rfl⟩
theorem mw_X12_412 : MwV RX12 412 11 yX12_whyNoRound cX12_whyNoRound 3 (some (.int)) 2 := ⟨in_good (tb8 206 rfl) rfl, my_X12_whyNoRound⟩
theorem my_X12_laysRound : MyV 11 yX12_laysRound cX12_laysRound 3 none 2 := ⟨in_good (tb8 213 rfl) rfl, in_good (sl_in 115 rfl) rfl, in_good (tb1 17 rfl) rfl, in_good (tb8 214 rfl) rfl, ⟨by decide +kernel, by decide +kernel, by decide +kernel⟩, by decide, _, rfl, rfl⟩
theorem mw_X12_415 : MwV RX12 415 11 yX12_laysRound cX12_laysRound 3 none 2 := ⟨in_good (tb8 211 rfl) rfl, my_X12_laysRound⟩
theorem my_X12_walks : MyV 11 yX12_walks cX12_walks 7 none 4 := ⟨in_good (tb8 217 rfl) rfl, in_good (sl_in 116 rfl) rfl, in_good (tb1 17 rfl) rfl, in_good (tb8 218 rfl) rfl, ⟨by decide +kernel, by decide +kernel, by decide +kernel⟩, by decide, _, rfl, rfl⟩
theorem mw_X12_403 : MwV RX12 403 11 yX12_walks cX12_walks 7 none 4 := ⟨in_good (tb8 215 rfl) rfl, my_X12_walks⟩
theorem my_X12_laysTurn : MyV 11 yX12_laysTurn cX12_laysTurn 3 none 1 := ⟨in_good (tb8 221 rfl) rfl, in_good (sl_in 117 rfl) rfl, in_good (tb1 17 rfl) rfl, in_good (tb8 222 rfl) rfl, ⟨by decide +kernel, by decide +kernel, by decide +kernel⟩, by decide, _, rfl, rfl⟩
theorem mw_X12_400 : MwV RX12 400 11 yX12_laysTurn cX12_laysTurn 3 none 1 := ⟨in_good (tb8 219 rfl) rfl, my_X12_laysTurn⟩
theorem my_X12_takesTurn : MyV 11 yX12_takesTurn cX12_takesTurn 3 none 1 := ⟨in_good (tb8 225 rfl) rfl, in_good (sl_in 118 rfl) rfl, in_good (tb1 17 rfl) rfl, in_good (tb8 226 rfl) rfl, ⟨by decide +kernel, by decide +kernel, by decide +kernel⟩, by decide, _, rfl, rfl⟩
theorem mw_X12_407 : MwV RX12 407 11 yX12_takesTurn cX12_takesTurn 3 none 1 := ⟨in_good (tb8 223 rfl) rfl, my_X12_takesTurn⟩
theorem my_X12_roundAt : MyV 11 yX12_roundAt cX12_roundAt 4 (some (.int)) 3 := ⟨in_good (tb8 228 rfl) rfl, in_good (tb8 229 rfl) rfl, in_good (tb1 17 rfl) rfl, in_good (tb8 230 rfl) rfl, ⟨by decide +kernel, by decide +kernel, by decide +kernel⟩, by decide, _, rfl, rfl⟩
theorem mw_L_166 : MwV RL 166 11 yX12_roundAt cX12_roundAt 4 (some (.int)) 3 := ⟨in_good (tb8 227 rfl) rfl, my_X12_roundAt⟩
theorem my_X12_far : MyV 11 yX12_far cX12_far 2 (some (.int)) 1 := ⟨in_good (tb8 232 rfl) rfl, in_good (tb8 233 rfl) rfl, in_good (tb1 17 rfl) rfl, in_good (tb8 234 rfl) rfl, ⟨by decide +kernel, by decide +kernel, by decide +kernel⟩, by decide, _, rfl, rfl⟩
theorem mw_L_170 : MwV RL 170 11 yX12_far cX12_far 2 (some (.int)) 1 := ⟨in_good (tb8 231 rfl) rfl, my_X12_far⟩
theorem my_X12_farOf : MyV 11 yX12_farOf cX12_farOf 2 (some (.int)) 1 := ⟨in_good (tb8 237 rfl) rfl, in_good (sl_in 119 rfl) rfl, in_good (tb1 17 rfl) rfl, in_good (tb8 238 rfl) rfl, ⟨by decide +kernel, by decide +kernel, by decide +kernel⟩, by decide, _, rfl, rfl⟩
theorem mw_X12_420 : MwV RX12 420 11 yX12_farOf cX12_farOf 2 (some (.int)) 1 := ⟨in_good (tb8 235 rfl) rfl, my_X12_farOf⟩
theorem mw_X12_418 : MwM RX12 418 yJ9_abs_0f7a4 cJ9_abs_0f7a4 1 (some (.int)) 1 := ⟨in_good (tb8 239 rfl) rfl, my_J9_abs_0f7a4⟩
theorem my_X12_past : MyV 11 yX12_past cX12_past 2 (some (.int)) 1 := ⟨in_good (tb9 1 rfl) rfl, in_good (tb9 2 rfl) rfl, in_good (tb1 17 rfl) rfl, in_good (tb9 3 rfl) rfl, ⟨by decide +kernel, by decide +kernel, by decide +kernel⟩, by decide, _, rfl, rfl⟩
theorem mw_L_174 : MwV RL 174 11 yX12_past cX12_past 2 (some (.int)) 1 := ⟨in_good (tb9 0 rfl) rfl, my_X12_past⟩
theorem my_X12_laysPast : MyV 11 yX12_laysPast cX12_laysPast 8 none 2 := ⟨in_good (tb9 6 rfl) rfl, in_good (sl_in 120 rfl) rfl, in_good (tb1 17 rfl) rfl, in_good (tb9 7 rfl) rfl, ⟨by decide +kernel, by decide +kernel, by decide +kernel⟩, by decide, _, rfl, rfl⟩
theorem mw_X12_435 : MwV RX12 435 11 yX12_laysPast cX12_laysPast 8 none 2 := ⟨in_good (tb9 4 rfl) rfl, my_X12_laysPast⟩
theorem my_X12_isPast : MyV 11 yX12_isPast cX12_isPast 3 (some (.boolean)) 1 := ⟨in_good (tb9 10 rfl) rfl, in_good (sl_in 121 rfl) rfl, in_good (tb1 17 rfl) rfl, in_good (tb9 11 rfl) rfl, ⟨by decide +kernel, by decide +kernel, by decide +kernel⟩, by decide, _, rfl, rfl⟩
theorem mw_X12_432 : MwV RX12 432 11 yX12_isPast cX12_isPast 3 (some (.boolean)) 1 := ⟨in_good (tb9 8 rfl) rfl, my_X12_isPast⟩
theorem my_X12_likely : MyV 11 yX12_likely cX12_likely 3 (some (.int)) 2 := ⟨in_good (tb9 13 rfl) rfl, in_good (tb9 14 rfl) rfl, in_good (tb1 17 rfl) rfl, in_good (tb9 15 rfl) rfl, ⟨by decide +kernel, by decide +kernel, by decide +kernel⟩, by decide, _, rfl, rfl⟩
theorem mw_L_178 : MwV RL 178 11 yX12_likely cX12_likely 3 (some (.int)) 2 := ⟨in_good (tb9 12 rfl) rfl, my_X12_likely⟩
theorem my_X12_leastPast : MyV 11 yX12_leastPast cX12_leastPast 2 (some (.int)) 1 := ⟨in_good (tb9 17 rfl) rfl, in_good (tb9 18 rfl) rfl, in_good (tb1 17 rfl) rfl, in_good (tb9 19 rfl) rfl, ⟨by decide +kernel, by decide +kernel, by decide +kernel⟩, by decide, _, rfl, rfl⟩
theorem mw_L_182 : MwV RL 182 11 yX12_leastPast cX12_leastPast 2 (some (.int)) 1 := ⟨in_good (tb9 16 rfl) rfl, my_X12_leastPast⟩
theorem my_X12_may : MyV 11 yX12_may cX12_may 2 (some (.int)) 1 := ⟨in_good (tb9 21 rfl) rfl, in_good (tb9 22 rfl) rfl, in_good (tb1 17 rfl) rfl, in_good (tb9 23 rfl) rfl, ⟨by decide +kernel, by decide +kernel, by decide +kernel⟩, by decide, _, rfl, rfl⟩
theorem mw_L_186 : MwV RL 186 11 yX12_may cX12_may 2 (some (.int)) 1 := ⟨in_good (tb9 20 rfl) rfl, my_X12_may⟩
theorem my_X12_mayOf : MyV 11 yX12_mayOf cX12_mayOf 5 (some (.int)) 1 := ⟨in_good (tb9 26 rfl) rfl, in_good (sl_in 122 rfl) rfl, in_good (tb1 17 rfl) rfl, in_good (tb9 27 rfl) rfl, ⟨by decide +kernel, by decide +kernel, by decide +kernel⟩, by decide, _, rfl, rfl⟩
theorem mw_X12_438 : MwV RX12 438 11 yX12_mayOf cX12_mayOf 5 (some (.int)) 1 := ⟨in_good (tb9 24 rfl) rfl, my_X12_mayOf⟩
theorem my_X12_theft : MyV 11 yX12_theft cX12_theft 3 (some (.int)) 0 := ⟨in_good (tb9 29 rfl) rfl, in_good (tb9 30 rfl) rfl, in_good (tb1 17 rfl) rfl, in_good (tb9 31 rfl) rfl, ⟨by decide +kernel, by decide +kernel, by decide +kernel⟩, by decide, _, rfl, rfl⟩
theorem mw_L_190 : MwV RL 190 11 yX12_theft cX12_theft 3 (some (.int)) 0 := ⟨in_good (tb9 28 rfl) rfl, my_X12_theft⟩
theorem my_X12_told : MyV 11 yX12_told cX12_told 6 (some (.int)) 0 := ⟨in_good (tb9 33 rfl) rfl, in_good (tb9 34 rfl) rfl, in_good (tb1 17 rfl) rfl, in_good (tb9 35 rfl) rfl, ⟨by decide +kernel, by decide +kernel, by decide +kernel⟩, by decide, _, rfl, rfl⟩
theorem mw_L_194 : MwV RL 194 11 yX12_told cX12_told 6 (some (.int)) 0 := ⟨in_good (tb9 32 rfl) rfl, my_X12_told⟩
theorem my_X12_over : MyV 11 yX12_over cX12_over 4 (some (.int)) 3 := ⟨in_good (tb9 38 rfl) rfl, in_good (sl_in 123 rfl) rfl, in_good (tb1 17 rfl) rfl, in_good (tb9 39 rfl) rfl, ⟨by decide +kernel, by decide +kernel, by decide +kernel⟩, by decide, _, rfl, rfl⟩
theorem mw_X12_441 : MwV RX12 441 11 yX12_over cX12_over 4 (some (.int)) 3 := ⟨in_good (tb9 36 rfl) rfl, my_X12_over⟩
theorem my_X12_rubbed : MyV 11 yX12_rubbed cX12_rubbed 4 (some (.int)) 0 := ⟨in_good (tb9 41 rfl) rfl, in_good (tb9 42 rfl) rfl, in_good (tb1 17 rfl) rfl, in_good (tb9 43 rfl) rfl, ⟨by decide +kernel, by decide +kernel, by decide +kernel⟩, by decide, _, rfl, rfl⟩
theorem mw_L_198 : MwV RL 198 11 yX12_rubbed cX12_rubbed 4 (some (.int)) 0 := ⟨in_good (tb9 40 rfl) rfl, my_X12_rubbed⟩
theorem my_X12_rubs : MyV 11 yX12_rubs cX12_rubs 4 (some (.int)) 0 := ⟨in_good (tb9 46 rfl) rfl, in_good (sl_in 124 rfl) rfl, in_good (tb1 17 rfl) rfl, in_good (tb9 47 rfl) rfl, ⟨by decide +kernel, by decide +kernel, by decide +kernel⟩, by decide, _, rfl, rfl⟩
theorem mw_X12_455 : MwV RX12 455 11 yX12_rubs cX12_rubs 4 (some (.int)) 0 := ⟨in_good (tb9 44 rfl) rfl, my_X12_rubs⟩
theorem my_X12_isEvenBy : MyV 11 yX12_isEvenBy cX12_isEvenBy 4 (some (.boolean)) 2 := ⟨in_good (tb9 50 rfl) rfl, in_good (sl_in 125 rfl) rfl, in_good (tb1 17 rfl) rfl, in_good (tb9 51 rfl) rfl, ⟨by decide +kernel, by decide +kernel, by decide +kernel⟩, by decide, _, rfl, rfl⟩
theorem mw_X12_448 : MwV RX12 448 11 yX12_isEvenBy cX12_isEvenBy 4 (some (.boolean)) 2 := ⟨in_good (tb9 48 rfl) rfl, my_X12_isEvenBy⟩
theorem my_X12_worthOf : MyV 11 yX12_worthOf cX12_worthOf 4 (some (.int)) 1 := ⟨in_good (tb9 54 rfl) rfl, in_good (sl_in 126 rfl) rfl, in_good (tb1 17 rfl) rfl, in_good (tb9 55 rfl) rfl, ⟨by decide +kernel, by decide +kernel, by decide +kernel⟩, by decide, _, rfl, rfl⟩
theorem mw_X12_445 : MwV RX12 445 11 yX12_worthOf cX12_worthOf 4 (some (.int)) 1 := ⟨in_good (tb9 52 rfl) rfl, my_X12_worthOf⟩
theorem my_X12_isEvenByTwo : MyV 11 yX12_isEvenByTwo cX12_isEvenByTwo 5 (some (.boolean)) 3 := ⟨in_good (tb9 58 rfl) rfl, in_good (sl_in 127 rfl) rfl, in_good (tb1 17 rfl) rfl, in_good (tb9 59 rfl) rfl, ⟨by decide +kernel, by decide +kernel, by decide +kernel⟩, by decide, _, rfl, rfl⟩
theorem mw_X12_451 : MwV RX12 451 11 yX12_isEvenByTwo cX12_isEvenByTwo 5 (some (.boolean)) 3 := ⟨in_good (tb9 56 rfl) rfl, my_X12_isEvenByTwo⟩
theorem my_X12_rubbedSet : MyV 11 yX12_rubbedSet cX12_rubbedSet 2 (some (.int)) 0 := ⟨in_good (tb9 61 rfl) rfl, in_good (tb9 62 rfl) rfl, in_good (tb1 17 rfl) rfl, in_good (tb9 63 rfl) rfl, ⟨by decide +kernel, by decide +kernel, by decide +kernel⟩, by decide, _, rfl, rfl⟩
theorem mw_L_202 : MwV RL 202 11 yX12_rubbedSet cX12_rubbedSet 2 (some (.int)) 0 := ⟨in_good (tb9 60 rfl) rfl, my_X12_rubbedSet⟩
theorem my_X12_game : MyV 11 yX12_game cX12_game 2 (some (.int)) 1 := ⟨in_good (tb9 65 rfl) rfl, in_good (tb9 66 rfl) rfl, in_good (tb1 17 rfl) rfl, in_good (tb9 67 rfl) rfl, ⟨by decide +kernel, by decide +kernel, by decide +kernel⟩, by decide, _, rfl, rfl⟩
theorem mw_L_206 : MwV RL 206 11 yX12_game cX12_game 2 (some (.int)) 1 := ⟨in_good (tb9 64 rfl) rfl, my_X12_game⟩
theorem my_X12_whyNoGame : MyV 11 yX12_whyNoGame cX12_whyNoGame 3 (some (.int)) 2 := ⟨in_good (tb9 70 rfl) rfl, in_good (sl_in 128 rfl) rfl, in_good (tb1 17 rfl) rfl, in_good (tb9 71 rfl) rfl, ⟨by decide +kernel, by decide +kernel, by decide +kernel⟩, by decide, _, rfl, rfl⟩
theorem mw_X12_473 : MwV RX12 473 11 yX12_whyNoGame cX12_whyNoGame 3 (some (.int)) 2 := ⟨in_good (tb9 68 rfl) rfl, my_X12_whyNoGame⟩
theorem my_X12_thieves : MyV 11 yX12_thieves cX12_thieves 9 (some (.int)) 2 := ⟨in_good (tb9 75 rfl) rfl, in_good (sl_in 129 rfl) rfl, in_good (tb1 17 rfl) rfl, in_good (tb9 76 rfl) rfl, ⟨by decide +kernel, by decide +kernel, by decide +kernel⟩, by decide, _, rfl, rfl⟩
theorem mw_X12_464 : MwV RX12 464 11 yX12_thieves cX12_thieves 9 (some (.int)) 2 := ⟨in_good (tb9 73 rfl) rfl, my_X12_thieves⟩
theorem my_X12_watches : MyV 11 yX12_watches cX12_watches 7 (some (.int)) 1 := ⟨in_good (tb9 79 rfl) rfl, in_good (sl_in 130 rfl) rfl, in_good (tb1 17 rfl) rfl, in_good (tb9 80 rfl) rfl, ⟨by decide +kernel, by decide +kernel, by decide +kernel⟩, by decide, _, rfl, rfl⟩
theorem mw_X12_458 : MwV RX12 458 11 yX12_watches cX12_watches 7 (some (.int)) 1 := ⟨in_good (tb9 77 rfl) rfl, my_X12_watches⟩
theorem mw_X12_468 : MwM RX12 468 yJ9_min_7cf53 cJ9_min_7cf53 2 (some (.int)) 2 := ⟨in_good (tb9 81 rfl) rfl, my_J9_min_7cf53⟩
theorem my_X12_moveOf : MyV 11 yX12_moveOf cX12_moveOf 2 (some (.int)) 1 := ⟨in_good (tb9 83 rfl) rfl, in_good (tb9 84 rfl) rfl, in_good (tb1 17 rfl) rfl, in_good (tb9 85 rfl) rfl, ⟨by decide +kernel, by decide +kernel, by decide +kernel⟩, by decide, _, rfl, rfl⟩
theorem mw_L_210 : MwV RL 210 11 yX12_moveOf cX12_moveOf 2 (some (.int)) 1 := ⟨in_good (tb9 82 rfl) rfl, my_X12_moveOf⟩
theorem my_X12_dozes : MyV 11 yX12_dozes cX12_dozes 8 (some (.boolean)) 2 := ⟨in_good (tb9 87 rfl) rfl, in_good (tb9 88 rfl) rfl, in_good (tb1 17 rfl) rfl, in_good (tb9 89 rfl) rfl, ⟨by decide +kernel, by decide +kernel, by decide +kernel⟩, by decide, _, rfl, rfl⟩
theorem mw_L_214 : MwV RL 214 11 yX12_dozes cX12_dozes 8 (some (.boolean)) 2 := ⟨in_good (tb9 86 rfl) rfl, my_X12_dozes⟩
theorem my_X12_fraction : MyV 11 yX12_fraction cX12_fraction 11 (some (.boolean)) 2 := ⟨in_good (tb9 93 rfl) rfl, in_good (sl_in 131 rfl) rfl, in_good (tb1 17 rfl) rfl, in_good (tb9 94 rfl) rfl, ⟨by decide +kernel, by decide +kernel, by decide +kernel⟩, by decide, _, rfl, rfl⟩
theorem mw_X12_478 : MwV RX12 478 11 yX12_fraction cX12_fraction 11 (some (.boolean)) 2 := ⟨in_good (tb9 91 rfl) rfl, my_X12_fraction⟩
theorem my_J9_abs_067f4 : MyS yJ9_abs_067f4 cJ9_abs_067f4 2 (some (.long)) 1 := ⟨in_good (tb9 96 rfl) rfl, in_good (tb1 19 rfl) rfl, in_good (tb9 97 rfl) rfl, ⟨by decide +kernel, by decide +kernel, by decide +kernel⟩, by decide⟩
theorem mw_X12_81 : MwM RX12 81 yJ9_abs_067f4 cJ9_abs_067f4 2 (some (.long)) 1 := ⟨in_good (tb9 95 rfl) rfl, my_J9_abs_067f4⟩
theorem my_X12_shame : MyV 11 yX12_shame cX12_shame 1 (some (.boolean)) 0 := ⟨in_good (tb9 99 rfl) rfl, in_good (tb9 100 rfl) rfl, in_good (tb1 17 rfl) rfl, in_good (tb9 101 rfl) rfl, ⟨by decide +kernel, by decide +kernel, by decide +kernel⟩, by decide, _, rfl, rfl⟩
theorem mw_L_219 : MwV RL 219 11 yX12_shame cX12_shame 1 (some (.boolean)) 0 := ⟨in_good (tb9 98 rfl) rfl, my_X12_shame⟩
theorem my_X12_live : MyV 11 yX12_live cX12_live 2 (some (.int)) 1 := ⟨in_good (tb9 103 rfl) rfl, in_good (tb9 104 rfl) rfl, in_good (tb1 17 rfl) rfl, in_good (tb9 105 rfl) rfl, ⟨by decide +kernel, by decide +kernel, by decide +kernel⟩, by decide, _, rfl, rfl⟩
theorem mw_L_223 : MwV RL 223 11 yX12_live cX12_live 2 (some (.int)) 1 := ⟨in_good (tb9 102 rfl) rfl, my_X12_live⟩
theorem my_X12_runsNights : MyV 11 yX12_runsNights cX12_runsNights 2 none 1 := ⟨in_good (tb9 109 rfl) rfl, in_good (sl_in 132 rfl) rfl, in_good (tb1 17 rfl) rfl, in_good (tb9 110 rfl) rfl, ⟨by decide +kernel, by decide +kernel, by decide +kernel⟩, by decide, _, rfl, rfl⟩
theorem mw_X12_534 : MwV RX12 534 11 yX12_runsNights cX12_runsNights 2 none 1 := ⟨in_good (tb9 107 rfl) rfl, my_X12_runsNights⟩
theorem my_X12_doAll : MyV 11 yX12_doAll cX12_doAll 4 none 2 := ⟨in_good (tb9 113 rfl) rfl, in_good (sl_in 133 rfl) rfl, in_good (tb1 17 rfl) rfl, in_good (tb9 114 rfl) rfl, ⟨by decide +kernel, by decide +kernel, by decide +kernel⟩, by decide, _, rfl, rfl⟩
theorem mw_X12_526 : MwV RX12 526 11 yX12_doAll cX12_doAll 4 none 2 := ⟨in_good (tb9 111 rfl) rfl, my_X12_doAll⟩
theorem my_X12_doOne : MyV 11 yX12_doOne cX12_doOne 5 none 1 := ⟨in_good (tb9 117 rfl) rfl, in_good (sl_in 134 rfl) rfl, in_good (tb1 17 rfl) rfl, in_good (tb9 118 rfl) rfl, ⟨by decide +kernel, by decide +kernel, by decide +kernel⟩, by decide, _, rfl, rfl⟩
theorem mw_X12_529 : MwV RX12 529 11 yX12_doOne cX12_doOne 5 none 1 := ⟨in_good (tb9 115 rfl) rfl, my_X12_doOne⟩
theorem my_X12_does : MyV 11 yX12_does cX12_does 4 (some (.boolean)) 1 := ⟨in_good (tb9 121 rfl) rfl, in_good (sl_in 135 rfl) rfl, in_good (tb1 17 rfl) rfl, in_good (tb9 122 rfl) rfl, ⟨by decide +kernel, by decide +kernel, by decide +kernel⟩, by decide, _, rfl, rfl⟩
theorem mw_X12_520 : MwV RX12 520 11 yX12_does cX12_does 4 (some (.boolean)) 1 := ⟨in_good (tb9 119 rfl) rfl, my_X12_does⟩
theorem my_X12_anyStep : MyV 11 yX12_anyStep cX12_anyStep 2 (some (.boolean)) 1 := ⟨in_good (tb9 125 rfl) rfl, in_good (sl_in 136 rfl) rfl, in_good (tb1 17 rfl) rfl, in_good (tb9 126 rfl) rfl, ⟨by decide +kernel, by decide +kernel, by decide +kernel⟩, by decide, _, rfl, rfl⟩
theorem mw_X12_498 : MwV RX12 498 11 yX12_anyStep cX12_anyStep 2 (some (.boolean)) 1 := ⟨in_good (tb9 123 rfl) rfl, my_X12_anyStep⟩
theorem my_X12_anyDozes : MyV 11 yX12_anyDozes cX12_anyDozes 3 (some (.boolean)) 1 := ⟨in_good (tb9 129 rfl) rfl, in_good (sl_in 137 rfl) rfl, in_good (tb1 17 rfl) rfl, in_good (tb9 130 rfl) rfl, ⟨by decide +kernel, by decide +kernel, by decide +kernel⟩, by decide, _, rfl, rfl⟩
theorem mw_X12_495 : MwV RX12 495 11 yX12_anyDozes cX12_anyDozes 3 (some (.boolean)) 1 := ⟨in_good (tb9 127 rfl) rfl, my_X12_anyDozes⟩
theorem my_X12_isAny : MyV 11 yX12_isAny cX12_isAny 1 (some (.boolean)) 0 := ⟨in_good (tb9 133 rfl) rfl, in_good (sl_in 138 rfl) rfl, in_good (tb1 17 rfl) rfl, in_good (tb9 134 rfl) rfl, ⟨by decide +kernel, by decide +kernel, by decide +kernel⟩, by decide, _, rfl, rfl⟩
theorem mw_X12_501 : MwV RX12 501 11 yX12_isAny cX12_isAny 1 (some (.boolean)) 0 := ⟨in_good (tb9 131 rfl) rfl, my_X12_isAny⟩
theorem my_X12_draw : MyV 11 yX12_draw cX12_draw 2 (some (.int)) 1 := ⟨in_good (tb9 137 rfl) rfl, in_good (sl_in 139 rfl) rfl, in_good (tb1 17 rfl) rfl, in_good (tb9 138 rfl) rfl, ⟨by decide +kernel, by decide +kernel, by decide +kernel⟩, by decide, _, rfl, rfl⟩
theorem mw_X12_492 : MwV RX12 492 11 yX12_draw cX12_draw 2 (some (.int)) 1 := ⟨in_good (tb9 135 rfl) rfl, my_X12_draw⟩
theorem my_X12_isSo : MyV 11 yX12_isSo cX12_isSo 4 (some (.boolean)) 1 := ⟨in_good (tb9 142 rfl) rfl, in_good (sl_in 140 rfl) rfl, in_good (tb1 17 rfl) rfl, in_good (tb9 143 rfl) rfl, ⟨by decide +kernel, by decide +kernel, by decide +kernel⟩, by decide, _, rfl, rfl⟩
theorem mw_X12_523 : MwV RX12 523 11 yX12_isSo cX12_isSo 4 (some (.boolean)) 1 := ⟨in_good (tb9 140 rfl) rfl, my_X12_isSo⟩
theorem my_X12_lived : MyV 11 yX12_lived cX12_lived 2 (some (.int)) 1 := ⟨in_good (tb9 145 rfl) rfl, in_good (tb9 146 rfl) rfl, in_good (tb1 17 rfl) rfl, in_good (tb9 147 rfl) rfl, ⟨by decide +kernel, by decide +kernel, by decide +kernel⟩, by decide, _, rfl, rfl⟩
theorem mw_L_227 : MwV RL 227 11 yX12_lived cX12_lived 2 (some (.int)) 1 := ⟨in_good (tb9 144 rfl) rfl, my_X12_lived⟩
theorem my_X12_mean : MyV 11 yX12_mean cX12_mean 7 (some (.boolean)) 2 := ⟨in_good (tb9 149 rfl) rfl, in_good (tb9 150 rfl) rfl, in_good (tb1 17 rfl) rfl, in_good (tb9 151 rfl) rfl, ⟨by decide +kernel, by decide +kernel, by decide +kernel⟩, by decide, _, rfl, rfl⟩
theorem mw_L_231 : MwV RL 231 11 yX12_mean cX12_mean 7 (some (.boolean)) 2 := ⟨in_good (tb9 148 rfl) rfl, my_X12_mean⟩
theorem my_X12_mark : MyV 11 yX12_mark cX12_mark 1 (some (.int)) 0 := ⟨in_good (tb9 153 rfl) rfl, in_good (tb9 154 rfl) rfl, in_good (tb1 17 rfl) rfl, in_good (tb9 155 rfl) rfl, ⟨by decide +kernel, by decide +kernel, by decide +kernel⟩, by decide, _, rfl, rfl⟩
theorem mw_L_235 : MwV RL 235 11 yX12_mark cX12_mark 1 (some (.int)) 0 := ⟨in_good (tb9 152 rfl) rfl, my_X12_mark⟩
theorem my_X12_back : MyV 11 yX12_back cX12_back 1 (some (.int)) 0 := ⟨in_good (tb9 157 rfl) rfl, in_good (tb9 158 rfl) rfl, in_good (tb1 17 rfl) rfl, in_good (tb9 159 rfl) rfl, ⟨by decide +kernel, by decide +kernel, by decide +kernel⟩, by decide, _, rfl, rfl⟩
theorem mw_L_239 : MwV RL 239 11 yX12_back cX12_back 1 (some (.int)) 0 := ⟨in_good (tb9 156 rfl) rfl, my_X12_back⟩
theorem kl_X9_38 : Cond.constantLong RX9 38 (32) ∈ lw_good := in_good (tb1 110 rfl) rfl
theorem kl_X9_40 : Cond.constantLong RX9 40 (96) ∈ lw_good := in_good (tb1 111 rfl) rfl
theorem kl_X11_136 : Cond.constantLong RX11 136 (-1) ∈ lw_good := in_good (tb3 105 rfl) rfl
theorem fn_X0_108 : Cond.fieldLinkNest RX0 108 "SumsNightwatch" "WAY_TO_PLACE" "[I" "SumsNightwatch" ∈ lw_tbl := tb4 191 rfl
theorem fn_X7_78 : Cond.fieldLinkNest RX7 78 "SumsNightwatch" "TENS" "[I" "SumsNightwatch" ∈ lw_tbl := tb5 140 rfl
theorem fn_X0_154 : Cond.fieldLinkNest RX0 154 "SumsNightwatch" "TENS" "[I" "SumsNightwatch" ∈ lw_tbl := tb5 188 rfl
theorem kl_J6_265 : Cond.constant RJ6 265 (1431655765) ∈ lw_good := in_good (tb5 196 rfl) rfl
theorem kl_J6_266 : Cond.constant RJ6 266 (858993459) ∈ lw_good := in_good (tb5 197 rfl) rfl
theorem kl_J6_267 : Cond.constant RJ6 267 (252645135) ∈ lw_good := in_good (tb5 198 rfl) rfl
theorem kl_X4_43 : Cond.constant RX4 43 (1000000) ∈ lw_good := in_good (tb6 18 rfl) rfl
theorem kl_X4_136 : Cond.constant RX4 136 (65536) ∈ lw_good := in_good (tb6 55 rfl) rfl
theorem kl_X12_103 : Cond.constantLong RX12 103 (-1) ∈ lw_good := in_good (tb7 42 rfl) rfl
theorem kl_X12_132 : Cond.constantLong RX12 132 (32) ∈ lw_good := in_good (tb7 78 rfl) rfl
theorem kl_X12_134 : Cond.constantLong RX12 134 (96) ∈ lw_good := in_good (tb7 79 rfl) rfl
theorem kl_X12_156 : Cond.constantLong RX12 156 (20) ∈ lw_good := in_good (tb7 136 rfl) rfl
theorem kl_X12_158 : Cond.constantLong RX12 158 (19) ∈ lw_good := in_good (tb7 157 rfl) rfl
theorem kl_X12_249 : Cond.constantLong RX12 249 (9) ∈ lw_good := in_good (tb7 194 rfl) rfl
theorem kl_X12_316 : Cond.constantLong RX12 316 (10) ∈ lw_good := in_good (tb8 8 rfl) rfl
theorem kl_X12_105 : Cond.constantLong RX12 105 (3) ∈ lw_good := in_good (tb8 53 rfl) rfl
theorem kl_X12_368 : Cond.constantLong RX12 368 (4) ∈ lw_good := in_good (tb8 95 rfl) rfl
theorem kl_X12_373 : Cond.constantLong RX12 373 (99) ∈ lw_good := in_good (tb8 128 rfl) rfl
theorem kl_X12_381 : Cond.constantLong RX12 381 (16) ∈ lw_good := in_good (tb8 165 rfl) rfl
theorem kl_X12_383 : Cond.constantLong RX12 383 (300) ∈ lw_good := in_good (tb8 173 rfl) rfl
theorem kl_X12_410 : Cond.constantLong RX12 410 (5) ∈ lw_good := in_good (tb8 210 rfl) rfl
theorem kl_X12_471 : Cond.constantLong RX12 471 (2) ∈ lw_good := in_good (tb9 72 rfl) rfl
theorem kl_X12_476 : Cond.constantLong RX12 476 (12) ∈ lw_good := in_good (tb9 90 rfl) rfl
theorem kl_X12_532 : Cond.constantLong RX12 532 (9999) ∈ lw_good := in_good (tb9 106 rfl) rfl
theorem kl_X12_485 : Cond.constant RX12 485 (65536) ∈ lw_good := in_good (tb9 139 rfl) rfl
theorem kl_L_32 : Cond.constantLong RL 32 (4294967295) ∈ lw_good := in_good (tb9 160 rfl) rfl
