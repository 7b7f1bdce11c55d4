theorem mem_places {ws big : List Cond} (ps : List Nat) (h : ws.map some = ps.map (fun i => big[i]?)) : ∀ w ∈ ws, w ∈ big := by
  intro w hw
  have h1 : some w ∈ ws.map some := List.mem_map.mpr ⟨w, hw, rfl⟩
  rw [h] at h1
  obtain ⟨i, -, hi⟩ := List.mem_map.mp h1
  exact List.mem_of_getElem? hi
def lw_g : List Cond := lw_tbl.filter goodWord
theorem lw_in {w : Cond} (i : Nat) (h : lw_tbl[i]? = some w) (hg : goodWord w = true) : w ∈ lw_g := List.mem_filter.mpr ⟨List.mem_of_getElem? h, hg⟩
theorem lw_ins {ws : List Cond} (ps : List Nat) (h : ws.map some = ps.map (fun i => lw_tbl[i]?)) (hg : ws.all goodWord = true) : ∀ w ∈ ws, w ∈ lw_g := fun w hw => List.mem_filter.mpr ⟨mem_places ps h w hw, List.all_eq_true.mp hg w hw⟩
theorem lw_gi {y : MethodName} {b : ByteArray} {n : Nat} {r : Option FieldType} (h : Cond.code y b n r ∈ lw_g) : GoodIn lw_g (Cond.code y b n r :: lw_g) := by
  intro w hw
  have hm : w ∈ lw_g := (List.mem_cons.mp hw).elim (fun e => e ▸ h) id
  exact ⟨hm, good_of_word (List.mem_filter.mp hm).2⟩
theorem q_0 : (Cond.initialized "HexWorkbenchLaw") ∈ lw_g := lw_in 64 (by decide +kernel) rfl
theorem q_1 : (Cond.initialized "HexWorkbench") ∈ lw_g := lw_in 65 (by decide +kernel) rfl
theorem q_2 : (Cond.initialized "HexWorkbench$Paths") ∈ lw_g := lw_in 66 (by decide +kernel) rfl
theorem q_3 : (Cond.initialized "HexWorkbench$Fillings") ∈ lw_g := lw_in 67 (by decide +kernel) rfl
theorem q_4 : (Cond.initialized "HexWorkbench$Board") ∈ lw_g := lw_in 68 (by decide +kernel) rfl
theorem q_5 : (Cond.initialized "HexWorkbench$Game") ∈ lw_g := lw_in 69 (by decide +kernel) rfl
theorem q_6 : (Cond.initialized "HexWorkbench$Contest") ∈ lw_g := lw_in 70 (by decide +kernel) rfl
theorem q_7 : (Cond.initialized "HexWorkbenchModel") ∈ lw_g := lw_in 71 (by decide +kernel) rfl
theorem q_8 : (Cond.initialized "java/lang/Long") ∈ lw_g := lw_in 72 (by decide +kernel) rfl
theorem q_9 : (Cond.initialized "java/lang/Math") ∈ lw_g := lw_in 73 (by decide +kernel) rfl
theorem q_10 : (Cond.classLink "HexWorkbenchLaw" (7 : Nat) "HexWorkbench") ∈ lw_g := lw_in 74 (by decide +kernel) rfl
theorem q_11 : (Cond.instantiable "HexWorkbench" (12 : Nat)) ∈ lw_g := lw_in 75 (by decide +kernel) rfl
theorem q_12 : (Cond.methodLink "HexWorkbenchLaw" (9 : Nat) ({ cls := "HexWorkbench", name := "<init>", desc := "()V" } : MethodName)) ∈ lw_g := lw_in 76 (by decide +kernel) rfl
theorem q_13 : (Cond.instanceMethod ({ cls := "HexWorkbench", name := "<init>", desc := "()V" } : MethodName)) ∈ lw_g := lw_in 77 (by decide +kernel) rfl
theorem q_14 : (Cond.code ({ cls := "HexWorkbench", name := "<init>", desc := "()V" } : MethodName) prog_1_method_1_code (2 : Nat) (none : Option FieldType)) ∈ lw_g := lw_in 78 (by decide +kernel) rfl
theorem q_15 : (Cond.methodLink "HexWorkbench" (3 : Nat) ({ cls := "java/lang/Object", name := "<init>", desc := "()V" } : MethodName)) ∈ lw_g := lw_in 79 (by decide +kernel) rfl
theorem q_16 : (Cond.instanceMethod ({ cls := "java/lang/Object", name := "<init>", desc := "()V" } : MethodName)) ∈ lw_g := lw_in 80 (by decide +kernel) rfl
theorem q_17 : (Cond.code ({ cls := "java/lang/Object", name := "<init>", desc := "()V" } : MethodName) object_method_1_code (1 : Nat) (none : Option FieldType)) ∈ lw_g := lw_in 81 (by decide +kernel) rfl
theorem q_18 : (Cond.classLink "HexWorkbench" (9 : Nat) "HexWorkbench$Game") ∈ lw_g := lw_in 82 (by decide +kernel) rfl
theorem q_19 : (Cond.arrayOver (FieldType.object "HexWorkbench$Game")) ∈ lw_tbl := List.mem_of_getElem? (i := 83) (by decide +kernel)
theorem q_20 : (Cond.classLink "HexWorkbench" (15 : Nat) "HexWorkbench$Paths") ∈ lw_g := lw_in 84 (by decide +kernel) rfl
theorem q_21 : (Cond.instantiable "HexWorkbench$Paths" (1 : Nat)) ∈ lw_g := lw_in 85 (by decide +kernel) rfl
theorem q_22 : (Cond.methodLinkNest "HexWorkbench" (17 : Nat) ({ cls := "HexWorkbench$Paths", name := "<init>", desc := "()V" } : MethodName) "HexWorkbench") ∈ lw_tbl := List.mem_of_getElem? (i := 86) (by decide +kernel)
theorem q_23 : (Cond.instanceMethod ({ cls := "HexWorkbench$Paths", name := "<init>", desc := "()V" } : MethodName)) ∈ lw_g := lw_in 87 (by decide +kernel) rfl
theorem q_24 : (Cond.code ({ cls := "HexWorkbench$Paths", name := "<init>", desc := "()V" } : MethodName) prog_6_method_1_code (1 : Nat) (none : Option FieldType)) ∈ lw_g := lw_in 88 (by decide +kernel) rfl
theorem q_25 : (Cond.methodLink "HexWorkbench$Paths" (3 : Nat) ({ cls := "java/lang/Object", name := "<init>", desc := "()V" } : MethodName)) ∈ lw_g := lw_in 89 (by decide +kernel) rfl
theorem q_26 : (Cond.fieldLink "HexWorkbench$Paths" (9 : Nat) "HexWorkbench$Paths" "layers" "[J") ∈ lw_g := lw_in 90 (by decide +kernel) rfl
theorem q_30 : (Cond.arrayClass FieldType.long) ∈ lw_g := lw_in 94 (by decide +kernel) rfl
theorem q_31 : (Cond.classLink "HexWorkbench" (22 : Nat) "HexWorkbench$Fillings") ∈ lw_g := lw_in 95 (by decide +kernel) rfl
theorem q_32 : (Cond.instantiable "HexWorkbench$Fillings" (2 : Nat)) ∈ lw_g := lw_in 96 (by decide +kernel) rfl
theorem q_33 : (Cond.methodLinkNest "HexWorkbench" (24 : Nat) ({ cls := "HexWorkbench$Fillings", name := "<init>", desc := "()V" } : MethodName) "HexWorkbench") ∈ lw_tbl := List.mem_of_getElem? (i := 97) (by decide +kernel)
theorem q_34 : (Cond.instanceMethod ({ cls := "HexWorkbench$Fillings", name := "<init>", desc := "()V" } : MethodName)) ∈ lw_g := lw_in 98 (by decide +kernel) rfl
theorem q_35 : (Cond.code ({ cls := "HexWorkbench$Fillings", name := "<init>", desc := "()V" } : MethodName) prog_4_method_1_code (1 : Nat) (none : Option FieldType)) ∈ lw_g := lw_in 99 (by decide +kernel) rfl
theorem q_36 : (Cond.methodLink "HexWorkbench$Fillings" (3 : Nat) ({ cls := "java/lang/Object", name := "<init>", desc := "()V" } : MethodName)) ∈ lw_g := lw_in 100 (by decide +kernel) rfl
theorem q_37 : (Cond.fieldLink "HexWorkbench$Fillings" (9 : Nat) "HexWorkbench$Fillings" "wins" "[J") ∈ lw_g := lw_in 101 (by decide +kernel) rfl
theorem q_38 : (Cond.fieldLink "HexWorkbench$Fillings" (37 : Nat) "HexWorkbench$Fillings" "count" "I") ∈ lw_g := lw_in 102 (by decide +kernel) rfl
theorem q_44 : (Cond.classLink "HexWorkbench" (44 : Nat) "HexWorkbench$Board") ∈ lw_g := lw_in 108 (by decide +kernel) rfl
theorem q_45 : (Cond.instantiable "HexWorkbench$Board" (7 : Nat)) ∈ lw_g := lw_in 109 (by decide +kernel) rfl
theorem q_46 : (Cond.methodLink "HexWorkbench" (46 : Nat) ({ cls := "HexWorkbench$Board", name := "<init>", desc := "(I)V" } : MethodName)) ∈ lw_g := lw_in 110 (by decide +kernel) rfl
theorem q_47 : (Cond.instanceMethod ({ cls := "HexWorkbench$Board", name := "<init>", desc := "(I)V" } : MethodName)) ∈ lw_g := lw_in 111 (by decide +kernel) rfl
theorem q_48 : (Cond.code ({ cls := "HexWorkbench$Board", name := "<init>", desc := "(I)V" } : MethodName) prog_2_method_1_code (5 : Nat) (none : Option FieldType)) ∈ lw_g := lw_in 112 (by decide +kernel) rfl
theorem q_49 : (Cond.methodLink "HexWorkbench$Board" (1 : Nat) ({ cls := "java/lang/Object", name := "<init>", desc := "()V" } : MethodName)) ∈ lw_g := lw_in 113 (by decide +kernel) rfl
theorem q_50 : (Cond.fieldLink "HexWorkbench$Board" (7 : Nat) "HexWorkbench$Board" "size" "I") ∈ lw_g := lw_in 114 (by decide +kernel) rfl
theorem q_51 : (Cond.fieldLink "HexWorkbench" (70 : Nat) "HexWorkbench$Board" "size" "I") ∈ lw_g := lw_in 115 (by decide +kernel) rfl
theorem q_52 : (Cond.fieldLink "HexWorkbench$Board" (13 : Nat) "HexWorkbench$Board" "cells" "I") ∈ lw_g := lw_in 116 (by decide +kernel) rfl
theorem q_53 : (Cond.fieldLink "HexWorkbench" (301 : Nat) "HexWorkbench$Board" "cells" "I") ∈ lw_g := lw_in 117 (by decide +kernel) rfl
theorem q_54 : (Cond.fieldLink "HexWorkbench$Board" (16 : Nat) "HexWorkbench$Board" "all" "J") ∈ lw_g := lw_in 118 (by decide +kernel) rfl
theorem q_55 : (Cond.fieldLink "HexWorkbench$Game" (50 : Nat) "HexWorkbench$Board" "all" "J") ∈ lw_g := lw_in 119 (by decide +kernel) rfl
theorem q_56 : (Cond.fieldLink "HexWorkbench" (213 : Nat) "HexWorkbench$Board" "all" "J") ∈ lw_g := lw_in 120 (by decide +kernel) rfl
theorem q_57 : (Cond.fieldLink "HexWorkbench$Board" (20 : Nat) "HexWorkbench$Board" "upper" "J") ∈ lw_g := lw_in 121 (by decide +kernel) rfl
theorem q_58 : (Cond.fieldLink "HexWorkbench$Fillings" (49 : Nat) "HexWorkbench$Board" "upper" "J") ∈ lw_g := lw_in 122 (by decide +kernel) rfl
theorem q_59 : (Cond.fieldLink "HexWorkbench$Game" (59 : Nat) "HexWorkbench$Board" "upper" "J") ∈ lw_g := lw_in 123 (by decide +kernel) rfl
theorem q_60 : (Cond.fieldLink "HexWorkbench" (193 : Nat) "HexWorkbench$Board" "upper" "J") ∈ lw_g := lw_in 124 (by decide +kernel) rfl
theorem q_61 : (Cond.fieldLink "HexWorkbench$Board" (23 : Nat) "HexWorkbench$Board" "lower" "J") ∈ lw_g := lw_in 125 (by decide +kernel) rfl
theorem q_62 : (Cond.fieldLink "HexWorkbench$Fillings" (55 : Nat) "HexWorkbench$Board" "lower" "J") ∈ lw_g := lw_in 126 (by decide +kernel) rfl
theorem q_63 : (Cond.fieldLink "HexWorkbench$Game" (62 : Nat) "HexWorkbench$Board" "lower" "J") ∈ lw_g := lw_in 127 (by decide +kernel) rfl
theorem q_64 : (Cond.fieldLink "HexWorkbench" (197 : Nat) "HexWorkbench$Board" "lower" "J") ∈ lw_g := lw_in 128 (by decide +kernel) rfl
theorem q_65 : (Cond.fieldLink "HexWorkbench$Board" (26 : Nat) "HexWorkbench$Board" "left" "J") ∈ lw_g := lw_in 129 (by decide +kernel) rfl
theorem q_66 : (Cond.fieldLink "HexWorkbench$Game" (69 : Nat) "HexWorkbench$Board" "left" "J") ∈ lw_g := lw_in 130 (by decide +kernel) rfl
theorem q_67 : (Cond.fieldLink "HexWorkbench$Board" (29 : Nat) "HexWorkbench$Board" "right" "J") ∈ lw_g := lw_in 131 (by decide +kernel) rfl
theorem q_68 : (Cond.fieldLink "HexWorkbench$Game" (72 : Nat) "HexWorkbench$Board" "right" "J") ∈ lw_g := lw_in 132 (by decide +kernel) rfl
theorem q_84 : (Cond.arrayClass FieldType.int) ∈ lw_g := lw_in 148 (by decide +kernel) rfl
theorem q_85 : (Cond.arrayClass FieldType.byte) ∈ lw_g := lw_in 149 (by decide +kernel) rfl
theorem q_86 : (Cond.instantiable "HexWorkbench$Game" (6 : Nat)) ∈ lw_g := lw_in 150 (by decide +kernel) rfl
theorem q_87 : (Cond.methodLink "HexWorkbench" (49 : Nat) ({ cls := "HexWorkbench$Game", name := "<init>", desc := "(LHexWorkbench$Board;)V" } : MethodName)) ∈ lw_g := lw_in 151 (by decide +kernel) rfl
theorem q_88 : (Cond.instanceMethod ({ cls := "HexWorkbench$Game", name := "<init>", desc := "(LHexWorkbench$Board;)V" } : MethodName)) ∈ lw_g := lw_in 152 (by decide +kernel) rfl
theorem q_89 : (Cond.code ({ cls := "HexWorkbench$Game", name := "<init>", desc := "(LHexWorkbench$Board;)V" } : MethodName) prog_5_method_1_code (2 : Nat) (none : Option FieldType)) ∈ lw_g := lw_in 153 (by decide +kernel) rfl
theorem q_90 : (Cond.methodLink "HexWorkbench$Game" (3 : Nat) ({ cls := "java/lang/Object", name := "<init>", desc := "()V" } : MethodName)) ∈ lw_g := lw_in 154 (by decide +kernel) rfl
theorem q_91 : (Cond.fieldLink "HexWorkbench$Game" (15 : Nat) "HexWorkbench$Game" "board" "LHexWorkbench$Board;") ∈ lw_g := lw_in 155 (by decide +kernel) rfl
theorem q_92 : (Cond.fieldLink "HexWorkbench$Paths" (15 : Nat) "HexWorkbench$Game" "board" "LHexWorkbench$Board;") ∈ lw_g := lw_in 156 (by decide +kernel) rfl
theorem q_93 : (Cond.fieldLink "HexWorkbench$Fillings" (15 : Nat) "HexWorkbench$Game" "board" "LHexWorkbench$Board;") ∈ lw_g := lw_in 157 (by decide +kernel) rfl
theorem q_94 : (Cond.fieldLink "HexWorkbench" (66 : Nat) "HexWorkbench$Game" "board" "LHexWorkbench$Board;") ∈ lw_g := lw_in 158 (by decide +kernel) rfl
theorem q_95 : (Cond.fieldLink "HexWorkbench$Game" (19 : Nat) "HexWorkbench$Game" "made" "I") ∈ lw_g := lw_in 159 (by decide +kernel) rfl
theorem q_96 : (Cond.fieldLink "HexWorkbench" (94 : Nat) "HexWorkbench$Game" "made" "I") ∈ lw_g := lw_in 160 (by decide +kernel) rfl
theorem q_97 : (Cond.fieldLink "HexWorkbench$Game" (23 : Nat) "HexWorkbench$Game" "known" "I") ∈ lw_g := lw_in 161 (by decide +kernel) rfl
theorem q_98 : (Cond.fieldLink "HexWorkbench" (112 : Nat) "HexWorkbench$Game" "known" "I") ∈ lw_g := lw_in 162 (by decide +kernel) rfl
theorem q_99 : (Cond.fieldLink "HexWorkbench$Game" (9 : Nat) "HexWorkbench$Game" "list" "[I") ∈ lw_g := lw_in 163 (by decide +kernel) rfl
theorem q_100 : (Cond.fieldLink "HexWorkbench$Game" (26 : Nat) "HexWorkbench$Game" "stones0" "J") ∈ lw_g := lw_in 164 (by decide +kernel) rfl
theorem q_101 : (Cond.fieldLink "HexWorkbench$Game" (30 : Nat) "HexWorkbench$Game" "stones1" "J") ∈ lw_g := lw_in 165 (by decide +kernel) rfl
theorem q_115 : (Cond.classLink "HexWorkbench" (59 : Nat) "HexWorkbench$Contest") ∈ lw_g := lw_in 179 (by decide +kernel) rfl
theorem q_116 : (Cond.instantiable "HexWorkbench$Contest" (5 : Nat)) ∈ lw_g := lw_in 180 (by decide +kernel) rfl
theorem q_117 : (Cond.methodLink "HexWorkbench" (61 : Nat) ({ cls := "HexWorkbench$Contest", name := "<init>", desc := "(LHexWorkbench$Board;)V" } : MethodName)) ∈ lw_g := lw_in 181 (by decide +kernel) rfl
theorem q_118 : (Cond.instanceMethod ({ cls := "HexWorkbench$Contest", name := "<init>", desc := "(LHexWorkbench$Board;)V" } : MethodName)) ∈ lw_g := lw_in 182 (by decide +kernel) rfl
theorem q_119 : (Cond.code ({ cls := "HexWorkbench$Contest", name := "<init>", desc := "(LHexWorkbench$Board;)V" } : MethodName) prog_3_method_1_code (2 : Nat) (none : Option FieldType)) ∈ lw_g := lw_in 183 (by decide +kernel) rfl
theorem q_120 : (Cond.methodLink "HexWorkbench$Contest" (3 : Nat) ({ cls := "java/lang/Object", name := "<init>", desc := "()V" } : MethodName)) ∈ lw_g := lw_in 184 (by decide +kernel) rfl
theorem q_121 : (Cond.fieldLink "HexWorkbench$Contest" (18 : Nat) "HexWorkbench$Contest" "board" "LHexWorkbench$Board;") ∈ lw_g := lw_in 185 (by decide +kernel) rfl
theorem q_122 : (Cond.fieldLink "HexWorkbench$Contest" (22 : Nat) "HexWorkbench$Contest" "from" "J") ∈ lw_g := lw_in 186 (by decide +kernel) rfl
theorem q_123 : (Cond.fieldLink "HexWorkbench$Contest" (26 : Nat) "HexWorkbench$Contest" "to" "J") ∈ lw_g := lw_in 187 (by decide +kernel) rfl
theorem q_124 : (Cond.fieldLink "HexWorkbench$Contest" (9 : Nat) "HexWorkbench$Contest" "spots" "[J") ∈ lw_g := lw_in 188 (by decide +kernel) rfl
theorem q_125 : (Cond.fieldLink "HexWorkbench$Contest" (15 : Nat) "HexWorkbench$Contest" "memo" "[J") ∈ lw_g := lw_in 189 (by decide +kernel) rfl
theorem q_137 : (Cond.fieldLink "HexWorkbench" (52 : Nat) "HexWorkbench" "game" "LHexWorkbench$Game;") ∈ lw_g := lw_in 201 (by decide +kernel) rfl
theorem q_138 : (Cond.fieldLink "HexWorkbench" (56 : Nat) "HexWorkbench" "trial" "LHexWorkbench$Game;") ∈ lw_g := lw_in 202 (by decide +kernel) rfl
theorem q_139 : (Cond.fieldLink "HexWorkbench" (11 : Nat) "HexWorkbench" "slots" "[LHexWorkbench$Game;") ∈ lw_g := lw_in 203 (by decide +kernel) rfl
theorem q_140 : (Cond.fieldLink "HexWorkbench" (18 : Nat) "HexWorkbench" "paths" "LHexWorkbench$Paths;") ∈ lw_g := lw_in 204 (by decide +kernel) rfl
theorem q_141 : (Cond.fieldLink "HexWorkbench" (25 : Nat) "HexWorkbench" "table" "LHexWorkbench$Fillings;") ∈ lw_g := lw_in 205 (by decide +kernel) rfl
theorem q_142 : (Cond.fieldLink "HexWorkbench" (62 : Nat) "HexWorkbench" "contest" "LHexWorkbench$Contest;") ∈ lw_g := lw_in 206 (by decide +kernel) rfl
theorem q_143 : (Cond.fieldLink "HexWorkbench" (29 : Nat) "HexWorkbench" "foundBridges" "[I") ∈ lw_g := lw_in 207 (by decide +kernel) rfl
theorem q_144 : (Cond.fieldLink "HexWorkbench" (33 : Nat) "HexWorkbench" "threatPlayers" "[I") ∈ lw_g := lw_in 208 (by decide +kernel) rfl
theorem q_145 : (Cond.fieldLink "HexWorkbench" (36 : Nat) "HexWorkbench" "threatRegions" "[J") ∈ lw_g := lw_in 209 (by decide +kernel) rfl
theorem q_146 : (Cond.fieldLink "HexWorkbench" (77 : Nat) "HexWorkbench" "threatCount" "I") ∈ lw_g := lw_in 210 (by decide +kernel) rfl
theorem q_147 : (Cond.fieldLink "HexWorkbench" (40 : Nat) "HexWorkbench" "text" "[B") ∈ lw_g := lw_in 211 (by decide +kernel) rfl
theorem q_148 : (Cond.fieldLink "HexWorkbench" (249 : Nat) "HexWorkbench" "textLength" "I") ∈ lw_g := lw_in 212 (by decide +kernel) rfl
theorem q_174 : (Cond.methodLink "HexWorkbenchLaw" (13 : Nat) ({ cls := "HexWorkbench", name := "begin", desc := "(I)I" } : MethodName)) ∈ lw_g := lw_in 238 (by decide +kernel) rfl
theorem q_175 : (Cond.instanceMethod ({ cls := "HexWorkbench", name := "begin", desc := "(I)I" } : MethodName)) ∈ lw_g := lw_in 239 (by decide +kernel) rfl
theorem q_176 : (Cond.selects "HexWorkbench" ({ cls := "HexWorkbench", name := "begin", desc := "(I)I" } : MethodName) ({ cls := "HexWorkbench", name := "begin", desc := "(I)I" } : MethodName)) ∈ lw_g := lw_in 240 (by decide +kernel) rfl
theorem q_177 : (Cond.code ({ cls := "HexWorkbench", name := "begin", desc := "(I)I" } : MethodName) prog_1_method_2_code (3 : Nat) (some FieldType.int)) ∈ lw_g := lw_in 241 (by decide +kernel) rfl
theorem q_178 : (Cond.methodLink "HexWorkbench" (74 : Nat) ({ cls := "HexWorkbench$Game", name := "start", desc := "(LHexWorkbench$Board;)V" } : MethodName)) ∈ lw_g := lw_in 242 (by decide +kernel) rfl
theorem q_179 : (Cond.instanceMethod ({ cls := "HexWorkbench$Game", name := "start", desc := "(LHexWorkbench$Board;)V" } : MethodName)) ∈ lw_g := lw_in 243 (by decide +kernel) rfl
theorem q_180 : (Cond.selects "HexWorkbench$Game" ({ cls := "HexWorkbench$Game", name := "start", desc := "(LHexWorkbench$Board;)V" } : MethodName) ({ cls := "HexWorkbench$Game", name := "start", desc := "(LHexWorkbench$Board;)V" } : MethodName)) ∈ lw_g := lw_in 244 (by decide +kernel) rfl
theorem q_181 : (Cond.code ({ cls := "HexWorkbench$Game", name := "start", desc := "(LHexWorkbench$Board;)V" } : MethodName) prog_5_method_2_code (2 : Nat) (none : Option FieldType)) ∈ lw_g := lw_in 245 (by decide +kernel) rfl
theorem q_182 : (Cond.methodLink "HexWorkbenchLaw" (18 : Nat) ({ cls := "HexWorkbench", name := "rows", desc := "()I" } : MethodName)) ∈ lw_g := lw_in 246 (by decide +kernel) rfl
theorem q_183 : (Cond.instanceMethod ({ cls := "HexWorkbench", name := "rows", desc := "()I" } : MethodName)) ∈ lw_g := lw_in 247 (by decide +kernel) rfl
theorem q_184 : (Cond.selects "HexWorkbench" ({ cls := "HexWorkbench", name := "rows", desc := "()I" } : MethodName) ({ cls := "HexWorkbench", name := "rows", desc := "()I" } : MethodName)) ∈ lw_g := lw_in 248 (by decide +kernel) rfl
theorem q_185 : (Cond.code ({ cls := "HexWorkbench", name := "rows", desc := "()I" } : MethodName) prog_1_method_3_code (1 : Nat) (some FieldType.int)) ∈ lw_g := lw_in 249 (by decide +kernel) rfl
theorem q_186 : (Cond.methodLink "HexWorkbenchLaw" (23 : Nat) ({ cls := "HexWorkbench", name := "play", desc := "(I)I" } : MethodName)) ∈ lw_g := lw_in 250 (by decide +kernel) rfl
theorem q_187 : (Cond.instanceMethod ({ cls := "HexWorkbench", name := "play", desc := "(I)I" } : MethodName)) ∈ lw_g := lw_in 251 (by decide +kernel) rfl
theorem q_188 : (Cond.selects "HexWorkbench" ({ cls := "HexWorkbench", name := "play", desc := "(I)I" } : MethodName) ({ cls := "HexWorkbench", name := "play", desc := "(I)I" } : MethodName)) ∈ lw_g := lw_in 252 (by decide +kernel) rfl
theorem q_189 : (Cond.code ({ cls := "HexWorkbench", name := "play", desc := "(I)I" } : MethodName) prog_1_method_4_code (2 : Nat) (some FieldType.int)) ∈ lw_g := lw_in 253 (by decide +kernel) rfl
theorem q_190 : (Cond.methodLink "HexWorkbench" (80 : Nat) ({ cls := "HexWorkbench", name := "isCell", desc := "(I)Z" } : MethodName)) ∈ lw_g := lw_in 254 (by decide +kernel) rfl
theorem q_192 : (Cond.instanceMethod ({ cls := "HexWorkbench", name := "isCell", desc := "(I)Z" } : MethodName)) ∈ lw_g := lw_in 256 (by decide +kernel) rfl
theorem q_193 : (Cond.code ({ cls := "HexWorkbench", name := "isCell", desc := "(I)Z" } : MethodName) prog_1_method_45_code (2 : Nat) (some FieldType.boolean)) ∈ lw_g := lw_in 257 (by decide +kernel) rfl
theorem q_194 : (Cond.methodLink "HexWorkbench" (84 : Nat) ({ cls := "HexWorkbench$Game", name := "isFree", desc := "(I)Z" } : MethodName)) ∈ lw_g := lw_in 258 (by decide +kernel) rfl
theorem q_195 : (Cond.instanceMethod ({ cls := "HexWorkbench$Game", name := "isFree", desc := "(I)Z" } : MethodName)) ∈ lw_g := lw_in 259 (by decide +kernel) rfl
theorem q_196 : (Cond.selects "HexWorkbench$Game" ({ cls := "HexWorkbench$Game", name := "isFree", desc := "(I)Z" } : MethodName) ({ cls := "HexWorkbench$Game", name := "isFree", desc := "(I)Z" } : MethodName)) ∈ lw_g := lw_in 260 (by decide +kernel) rfl
theorem q_197 : (Cond.code ({ cls := "HexWorkbench$Game", name := "isFree", desc := "(I)Z" } : MethodName) prog_5_method_14_code (2 : Nat) (some FieldType.boolean)) ∈ lw_g := lw_in 261 (by decide +kernel) rfl
theorem q_198 : (Cond.methodLink "HexWorkbench$Game" (55 : Nat) ({ cls := "HexWorkbench$Game", name := "free", desc := "()J" } : MethodName)) ∈ lw_g := lw_in 262 (by decide +kernel) rfl
theorem q_199 : (Cond.instanceMethod ({ cls := "HexWorkbench$Game", name := "free", desc := "()J" } : MethodName)) ∈ lw_g := lw_in 263 (by decide +kernel) rfl
theorem q_200 : (Cond.selects "HexWorkbench$Game" ({ cls := "HexWorkbench$Game", name := "free", desc := "()J" } : MethodName) ({ cls := "HexWorkbench$Game", name := "free", desc := "()J" } : MethodName)) ∈ lw_g := lw_in 264 (by decide +kernel) rfl
theorem q_201 : (Cond.code ({ cls := "HexWorkbench$Game", name := "free", desc := "()J" } : MethodName) prog_5_method_13_code (1 : Nat) (some FieldType.long)) ∈ lw_g := lw_in 265 (by decide +kernel) rfl
theorem q_202 : (Cond.constantLong "HexWorkbench$Game" (53 : Nat) (-1 : Int64)) ∈ lw_g := lw_in 266 (by decide +kernel) rfl
theorem q_203 : (Cond.methodLink "HexWorkbench" (87 : Nat) ({ cls := "HexWorkbench$Game", name := "victor", desc := "()I" } : MethodName)) ∈ lw_g := lw_in 267 (by decide +kernel) rfl
theorem q_204 : (Cond.instanceMethod ({ cls := "HexWorkbench$Game", name := "victor", desc := "()I" } : MethodName)) ∈ lw_g := lw_in 268 (by decide +kernel) rfl
theorem q_205 : (Cond.selects "HexWorkbench$Game" ({ cls := "HexWorkbench$Game", name := "victor", desc := "()I" } : MethodName) ({ cls := "HexWorkbench$Game", name := "victor", desc := "()I" } : MethodName)) ∈ lw_g := lw_in 269 (by decide +kernel) rfl
theorem q_206 : (Cond.code ({ cls := "HexWorkbench$Game", name := "victor", desc := "()I" } : MethodName) prog_5_method_15_code (1 : Nat) (some FieldType.int)) ∈ lw_g := lw_in 270 (by decide +kernel) rfl
theorem q_207 : (Cond.methodLink "HexWorkbench$Game" (65 : Nat) ({ cls := "HexWorkbench$Board", name := "linked", desc := "(JJJ)Z" } : MethodName)) ∈ lw_g := lw_in 271 (by decide +kernel) rfl
theorem q_208 : (Cond.instanceMethod ({ cls := "HexWorkbench$Board", name := "linked", desc := "(JJJ)Z" } : MethodName)) ∈ lw_g := lw_in 272 (by decide +kernel) rfl
theorem q_209 : (Cond.selects "HexWorkbench$Board" ({ cls := "HexWorkbench$Board", name := "linked", desc := "(JJJ)Z" } : MethodName) ({ cls := "HexWorkbench$Board", name := "linked", desc := "(JJJ)Z" } : MethodName)) ∈ lw_g := lw_in 273 (by decide +kernel) rfl
theorem q_210 : (Cond.code ({ cls := "HexWorkbench$Board", name := "linked", desc := "(JJJ)Z" } : MethodName) prog_2_method_4_code (7 : Nat) (some FieldType.boolean)) ∈ lw_g := lw_in 274 (by decide +kernel) rfl
theorem q_211 : (Cond.methodLink "HexWorkbench$Board" (34 : Nat) ({ cls := "HexWorkbench$Board", name := "floodUpTo", desc := "(JJJ)J" } : MethodName)) ∈ lw_g := lw_in 275 (by decide +kernel) rfl
theorem q_213 : (Cond.instanceMethod ({ cls := "HexWorkbench$Board", name := "floodUpTo", desc := "(JJJ)J" } : MethodName)) ∈ lw_g := lw_in 277 (by decide +kernel) rfl
theorem q_214 : (Cond.code ({ cls := "HexWorkbench$Board", name := "floodUpTo", desc := "(JJJ)J" } : MethodName) prog_2_method_5_code (12 : Nat) (some FieldType.long)) ∈ lw_g := lw_in 278 (by decide +kernel) rfl
theorem q_215 : (Cond.methodLink "HexWorkbench$Board" (38 : Nat) ({ cls := "HexWorkbench$Board", name := "around", desc := "(J)J" } : MethodName)) ∈ lw_g := lw_in 279 (by decide +kernel) rfl
theorem q_216 : (Cond.instanceMethod ({ cls := "HexWorkbench$Board", name := "around", desc := "(J)J" } : MethodName)) ∈ lw_g := lw_in 280 (by decide +kernel) rfl
theorem q_217 : (Cond.selects "HexWorkbench$Board" ({ cls := "HexWorkbench$Board", name := "around", desc := "(J)J" } : MethodName) ({ cls := "HexWorkbench$Board", name := "around", desc := "(J)J" } : MethodName)) ∈ lw_g := lw_in 281 (by decide +kernel) rfl
theorem q_218 : (Cond.code ({ cls := "HexWorkbench$Board", name := "around", desc := "(J)J" } : MethodName) prog_2_method_2_code (7 : Nat) (some FieldType.long)) ∈ lw_g := lw_in 282 (by decide +kernel) rfl
theorem q_219 : (Cond.constantLong "HexWorkbench$Board" (32 : Nat) (-1 : Int64)) ∈ lw_g := lw_in 283 (by decide +kernel) rfl
theorem q_220 : (Cond.methodLink "HexWorkbench" (91 : Nat) ({ cls := "HexWorkbench$Game", name := "add", desc := "(I)V" } : MethodName)) ∈ lw_g := lw_in 284 (by decide +kernel) rfl
theorem q_221 : (Cond.instanceMethod ({ cls := "HexWorkbench$Game", name := "add", desc := "(I)V" } : MethodName)) ∈ lw_g := lw_in 285 (by decide +kernel) rfl
theorem q_222 : (Cond.selects "HexWorkbench$Game" ({ cls := "HexWorkbench$Game", name := "add", desc := "(I)V" } : MethodName) ({ cls := "HexWorkbench$Game", name := "add", desc := "(I)V" } : MethodName)) ∈ lw_g := lw_in 286 (by decide +kernel) rfl
theorem q_223 : (Cond.code ({ cls := "HexWorkbench$Game", name := "add", desc := "(I)V" } : MethodName) prog_5_method_4_code (2 : Nat) (none : Option FieldType)) ∈ lw_g := lw_in 287 (by decide +kernel) rfl
theorem q_224 : (Cond.methodLink "HexWorkbench$Game" (33 : Nat) ({ cls := "HexWorkbench$Game", name := "redo", desc := "()V" } : MethodName)) ∈ lw_g := lw_in 288 (by decide +kernel) rfl
theorem q_225 : (Cond.instanceMethod ({ cls := "HexWorkbench$Game", name := "redo", desc := "()V" } : MethodName)) ∈ lw_g := lw_in 289 (by decide +kernel) rfl
theorem q_226 : (Cond.selects "HexWorkbench$Game" ({ cls := "HexWorkbench$Game", name := "redo", desc := "()V" } : MethodName) ({ cls := "HexWorkbench$Game", name := "redo", desc := "()V" } : MethodName)) ∈ lw_g := lw_in 290 (by decide +kernel) rfl
theorem q_227 : (Cond.code ({ cls := "HexWorkbench$Game", name := "redo", desc := "()V" } : MethodName) prog_5_method_5_code (1 : Nat) (none : Option FieldType)) ∈ lw_g := lw_in 291 (by decide +kernel) rfl
theorem q_228 : (Cond.methodLink "HexWorkbench$Game" (36 : Nat) ({ cls := "HexWorkbench$Game", name := "apply", desc := "(I)V" } : MethodName)) ∈ lw_g := lw_in 292 (by decide +kernel) rfl
theorem q_230 : (Cond.instanceMethod ({ cls := "HexWorkbench$Game", name := "apply", desc := "(I)V" } : MethodName)) ∈ lw_g := lw_in 294 (by decide +kernel) rfl
theorem q_231 : (Cond.code ({ cls := "HexWorkbench$Game", name := "apply", desc := "(I)V" } : MethodName) prog_5_method_7_code (3 : Nat) (none : Option FieldType)) ∈ lw_g := lw_in 295 (by decide +kernel) rfl
theorem q_232 : (Cond.methodLink "HexWorkbench$Game" (40 : Nat) ({ cls := "HexWorkbench$Game", name := "moveNumber", desc := "(I)I" } : MethodName)) ∈ lw_g := lw_in 296 (by decide +kernel) rfl
theorem q_233 : (Cond.instanceMethod ({ cls := "HexWorkbench$Game", name := "moveNumber", desc := "(I)I" } : MethodName)) ∈ lw_g := lw_in 297 (by decide +kernel) rfl
theorem q_234 : (Cond.selects "HexWorkbench$Game" ({ cls := "HexWorkbench$Game", name := "moveNumber", desc := "(I)I" } : MethodName) ({ cls := "HexWorkbench$Game", name := "moveNumber", desc := "(I)I" } : MethodName)) ∈ lw_g := lw_in 298 (by decide +kernel) rfl
theorem q_235 : (Cond.code ({ cls := "HexWorkbench$Game", name := "moveNumber", desc := "(I)I" } : MethodName) prog_5_method_8_code (2 : Nat) (some FieldType.int)) ∈ lw_g := lw_in 299 (by decide +kernel) rfl
theorem q_236 : (Cond.methodLink "HexWorkbench$Game" (44 : Nat) ({ cls := "HexWorkbench$Board", name := "mirrored", desc := "(J)J" } : MethodName)) ∈ lw_g := lw_in 300 (by decide +kernel) rfl
theorem q_237 : (Cond.instanceMethod ({ cls := "HexWorkbench$Board", name := "mirrored", desc := "(J)J" } : MethodName)) ∈ lw_g := lw_in 301 (by decide +kernel) rfl
theorem q_238 : (Cond.selects "HexWorkbench$Board" ({ cls := "HexWorkbench$Board", name := "mirrored", desc := "(J)J" } : MethodName) ({ cls := "HexWorkbench$Board", name := "mirrored", desc := "(J)J" } : MethodName)) ∈ lw_g := lw_in 302 (by decide +kernel) rfl
theorem q_239 : (Cond.code ({ cls := "HexWorkbench$Board", name := "mirrored", desc := "(J)J" } : MethodName) prog_2_method_9_code (7 : Nat) (some FieldType.long)) ∈ lw_g := lw_in 303 (by decide +kernel) rfl
theorem q_240 : (Cond.methodLink "HexWorkbenchLaw" (27 : Nat) ({ cls := "HexWorkbench", name := "swap", desc := "()I" } : MethodName)) ∈ lw_g := lw_in 304 (by decide +kernel) rfl
theorem q_241 : (Cond.instanceMethod ({ cls := "HexWorkbench", name := "swap", desc := "()I" } : MethodName)) ∈ lw_g := lw_in 305 (by decide +kernel) rfl
theorem q_242 : (Cond.selects "HexWorkbench" ({ cls := "HexWorkbench", name := "swap", desc := "()I" } : MethodName) ({ cls := "HexWorkbench", name := "swap", desc := "()I" } : MethodName)) ∈ lw_g := lw_in 306 (by decide +kernel) rfl
theorem q_243 : (Cond.code ({ cls := "HexWorkbench", name := "swap", desc := "()I" } : MethodName) prog_1_method_5_code (1 : Nat) (some FieldType.int)) ∈ lw_g := lw_in 307 (by decide +kernel) rfl
theorem q_244 : (Cond.methodLink "HexWorkbench" (97 : Nat) ({ cls := "HexWorkbench$Game", name := "maySwap", desc := "()Z" } : MethodName)) ∈ lw_g := lw_in 308 (by decide +kernel) rfl
theorem q_245 : (Cond.instanceMethod ({ cls := "HexWorkbench$Game", name := "maySwap", desc := "()Z" } : MethodName)) ∈ lw_g := lw_in 309 (by decide +kernel) rfl
theorem q_246 : (Cond.selects "HexWorkbench$Game" ({ cls := "HexWorkbench$Game", name := "maySwap", desc := "()Z" } : MethodName) ({ cls := "HexWorkbench$Game", name := "maySwap", desc := "()Z" } : MethodName)) ∈ lw_g := lw_in 310 (by decide +kernel) rfl
theorem q_247 : (Cond.code ({ cls := "HexWorkbench$Game", name := "maySwap", desc := "()Z" } : MethodName) prog_5_method_11_code (1 : Nat) (some FieldType.boolean)) ∈ lw_g := lw_in 311 (by decide +kernel) rfl
theorem q_248 : (Cond.methodLink "HexWorkbench" (101 : Nat) ({ cls := "HexWorkbench$Game", name := "stonesOf", desc := "(I)J" } : MethodName)) ∈ lw_g := lw_in 312 (by decide +kernel) rfl
theorem q_249 : (Cond.instanceMethod ({ cls := "HexWorkbench$Game", name := "stonesOf", desc := "(I)J" } : MethodName)) ∈ lw_g := lw_in 313 (by decide +kernel) rfl
theorem q_250 : (Cond.selects "HexWorkbench$Game" ({ cls := "HexWorkbench$Game", name := "stonesOf", desc := "(I)J" } : MethodName) ({ cls := "HexWorkbench$Game", name := "stonesOf", desc := "(I)J" } : MethodName)) ∈ lw_g := lw_in 314 (by decide +kernel) rfl
theorem q_251 : (Cond.code ({ cls := "HexWorkbench$Game", name := "stonesOf", desc := "(I)J" } : MethodName) prog_5_method_12_code (2 : Nat) (some FieldType.long)) ∈ lw_g := lw_in 315 (by decide +kernel) rfl
theorem q_252 : (Cond.methodLink "HexWorkbench" (105 : Nat) ({ cls := "HexWorkbench", name := "lowest", desc := "(J)I" } : MethodName)) ∈ lw_g := lw_in 316 (by decide +kernel) rfl
theorem q_253 : (Cond.static ({ cls := "HexWorkbench", name := "lowest", desc := "(J)I" } : MethodName)) ∈ lw_g := lw_in 317 (by decide +kernel) rfl
theorem q_254 : (Cond.code ({ cls := "HexWorkbench", name := "lowest", desc := "(J)I" } : MethodName) prog_1_method_47_code (2 : Nat) (some FieldType.int)) ∈ lw_g := lw_in 318 (by decide +kernel) rfl
theorem q_255 : (Cond.methodLink "HexWorkbench" (177 : Nat) ({ cls := "java/lang/Long", name := "bitCount", desc := "(J)I" } : MethodName)) ∈ lw_g := lw_in 319 (by decide +kernel) rfl
theorem q_256 : (Cond.static ({ cls := "java/lang/Long", name := "bitCount", desc := "(J)I" } : MethodName)) ∈ lw_g := lw_in 320 (by decide +kernel) rfl
theorem q_257 : (Cond.code ({ cls := "java/lang/Long", name := "bitCount", desc := "(J)I" } : MethodName) prog_9_method_50_code (2 : Nat) (some FieldType.int)) ∈ lw_g := lw_in 321 (by decide +kernel) rfl
theorem q_258 : (Cond.constantLong "java/lang/Long" (314 : Nat) (6148914691236517205 : Int64)) ∈ lw_g := lw_in 322 (by decide +kernel) rfl
theorem q_259 : (Cond.constantLong "java/lang/Long" (316 : Nat) (3689348814741910323 : Int64)) ∈ lw_g := lw_in 323 (by decide +kernel) rfl
theorem q_260 : (Cond.constantLong "java/lang/Long" (318 : Nat) (1085102592571150095 : Int64)) ∈ lw_g := lw_in 324 (by decide +kernel) rfl
theorem q_261 : (Cond.methodLink "HexWorkbenchLaw" (31 : Nat) ({ cls := "HexWorkbench", name := "takeBack", desc := "()I" } : MethodName)) ∈ lw_g := lw_in 325 (by decide +kernel) rfl
theorem q_262 : (Cond.instanceMethod ({ cls := "HexWorkbench", name := "takeBack", desc := "()I" } : MethodName)) ∈ lw_g := lw_in 326 (by decide +kernel) rfl
theorem q_263 : (Cond.selects "HexWorkbench" ({ cls := "HexWorkbench", name := "takeBack", desc := "()I" } : MethodName) ({ cls := "HexWorkbench", name := "takeBack", desc := "()I" } : MethodName)) ∈ lw_g := lw_in 327 (by decide +kernel) rfl
theorem q_264 : (Cond.code ({ cls := "HexWorkbench", name := "takeBack", desc := "()I" } : MethodName) prog_1_method_6_code (1 : Nat) (some FieldType.int)) ∈ lw_g := lw_in 328 (by decide +kernel) rfl
theorem q_265 : (Cond.methodLink "HexWorkbench" (109 : Nat) ({ cls := "HexWorkbench$Game", name := "undo", desc := "()V" } : MethodName)) ∈ lw_g := lw_in 329 (by decide +kernel) rfl
theorem q_266 : (Cond.instanceMethod ({ cls := "HexWorkbench$Game", name := "undo", desc := "()V" } : MethodName)) ∈ lw_g := lw_in 330 (by decide +kernel) rfl
theorem q_267 : (Cond.selects "HexWorkbench$Game" ({ cls := "HexWorkbench$Game", name := "undo", desc := "()V" } : MethodName) ({ cls := "HexWorkbench$Game", name := "undo", desc := "()V" } : MethodName)) ∈ lw_g := lw_in 331 (by decide +kernel) rfl
theorem q_268 : (Cond.code ({ cls := "HexWorkbench$Game", name := "undo", desc := "()V" } : MethodName) prog_5_method_6_code (3 : Nat) (none : Option FieldType)) ∈ lw_g := lw_in 332 (by decide +kernel) rfl
theorem q_269 : (Cond.methodLink "HexWorkbenchLaw" (35 : Nat) ({ cls := "HexWorkbench", name := "again", desc := "()I" } : MethodName)) ∈ lw_g := lw_in 333 (by decide +kernel) rfl
theorem q_270 : (Cond.instanceMethod ({ cls := "HexWorkbench", name := "again", desc := "()I" } : MethodName)) ∈ lw_g := lw_in 334 (by decide +kernel) rfl
theorem q_271 : (Cond.selects "HexWorkbench" ({ cls := "HexWorkbench", name := "again", desc := "()I" } : MethodName) ({ cls := "HexWorkbench", name := "again", desc := "()I" } : MethodName)) ∈ lw_g := lw_in 335 (by decide +kernel) rfl
theorem q_272 : (Cond.code ({ cls := "HexWorkbench", name := "again", desc := "()I" } : MethodName) prog_1_method_7_code (1 : Nat) (some FieldType.int)) ∈ lw_g := lw_in 336 (by decide +kernel) rfl
theorem q_273 : (Cond.methodLink "HexWorkbench" (115 : Nat) ({ cls := "HexWorkbench$Game", name := "redo", desc := "()V" } : MethodName)) ∈ lw_g := lw_in 337 (by decide +kernel) rfl
theorem q_274 : (Cond.methodLink "HexWorkbenchLaw" (39 : Nat) ({ cls := "HexWorkbench", name := "moves", desc := "()I" } : MethodName)) ∈ lw_g := lw_in 338 (by decide +kernel) rfl
theorem q_275 : (Cond.instanceMethod ({ cls := "HexWorkbench", name := "moves", desc := "()I" } : MethodName)) ∈ lw_g := lw_in 339 (by decide +kernel) rfl
theorem q_276 : (Cond.selects "HexWorkbench" ({ cls := "HexWorkbench", name := "moves", desc := "()I" } : MethodName) ({ cls := "HexWorkbench", name := "moves", desc := "()I" } : MethodName)) ∈ lw_g := lw_in 340 (by decide +kernel) rfl
theorem q_277 : (Cond.code ({ cls := "HexWorkbench", name := "moves", desc := "()I" } : MethodName) prog_1_method_8_code (1 : Nat) (some FieldType.int)) ∈ lw_g := lw_in 341 (by decide +kernel) rfl
theorem q_278 : (Cond.methodLink "HexWorkbenchLaw" (43 : Nat) ({ cls := "HexWorkbench", name := "moveAt", desc := "(I)I" } : MethodName)) ∈ lw_g := lw_in 342 (by decide +kernel) rfl
theorem q_279 : (Cond.instanceMethod ({ cls := "HexWorkbench", name := "moveAt", desc := "(I)I" } : MethodName)) ∈ lw_g := lw_in 343 (by decide +kernel) rfl
theorem q_280 : (Cond.selects "HexWorkbench" ({ cls := "HexWorkbench", name := "moveAt", desc := "(I)I" } : MethodName) ({ cls := "HexWorkbench", name := "moveAt", desc := "(I)I" } : MethodName)) ∈ lw_g := lw_in 344 (by decide +kernel) rfl
theorem q_281 : (Cond.code ({ cls := "HexWorkbench", name := "moveAt", desc := "(I)I" } : MethodName) prog_1_method_9_code (2 : Nat) (some FieldType.int)) ∈ lw_g := lw_in 345 (by decide +kernel) rfl
theorem q_282 : (Cond.methodLink "HexWorkbench" (118 : Nat) ({ cls := "HexWorkbench$Game", name := "moveNumber", desc := "(I)I" } : MethodName)) ∈ lw_g := lw_in 346 (by decide +kernel) rfl
theorem q_283 : (Cond.methodLink "HexWorkbenchLaw" (47 : Nat) ({ cls := "HexWorkbench", name := "turn", desc := "()I" } : MethodName)) ∈ lw_g := lw_in 347 (by decide +kernel) rfl
theorem q_284 : (Cond.instanceMethod ({ cls := "HexWorkbench", name := "turn", desc := "()I" } : MethodName)) ∈ lw_g := lw_in 348 (by decide +kernel) rfl
theorem q_285 : (Cond.selects "HexWorkbench" ({ cls := "HexWorkbench", name := "turn", desc := "()I" } : MethodName) ({ cls := "HexWorkbench", name := "turn", desc := "()I" } : MethodName)) ∈ lw_g := lw_in 349 (by decide +kernel) rfl
theorem q_286 : (Cond.code ({ cls := "HexWorkbench", name := "turn", desc := "()I" } : MethodName) prog_1_method_10_code (1 : Nat) (some FieldType.int)) ∈ lw_g := lw_in 350 (by decide +kernel) rfl
theorem q_287 : (Cond.methodLink "HexWorkbench" (122 : Nat) ({ cls := "HexWorkbench$Game", name := "mover", desc := "()I" } : MethodName)) ∈ lw_g := lw_in 351 (by decide +kernel) rfl
theorem q_288 : (Cond.instanceMethod ({ cls := "HexWorkbench$Game", name := "mover", desc := "()I" } : MethodName)) ∈ lw_g := lw_in 352 (by decide +kernel) rfl
theorem q_289 : (Cond.selects "HexWorkbench$Game" ({ cls := "HexWorkbench$Game", name := "mover", desc := "()I" } : MethodName) ({ cls := "HexWorkbench$Game", name := "mover", desc := "()I" } : MethodName)) ∈ lw_g := lw_in 353 (by decide +kernel) rfl
theorem q_290 : (Cond.code ({ cls := "HexWorkbench$Game", name := "mover", desc := "()I" } : MethodName) prog_5_method_10_code (1 : Nat) (some FieldType.int)) ∈ lw_g := lw_in 354 (by decide +kernel) rfl
theorem q_291 : (Cond.methodLink "HexWorkbenchLaw" (51 : Nat) ({ cls := "HexWorkbench", name := "winner", desc := "()I" } : MethodName)) ∈ lw_g := lw_in 355 (by decide +kernel) rfl
theorem q_292 : (Cond.instanceMethod ({ cls := "HexWorkbench", name := "winner", desc := "()I" } : MethodName)) ∈ lw_g := lw_in 356 (by decide +kernel) rfl
theorem q_293 : (Cond.selects "HexWorkbench" ({ cls := "HexWorkbench", name := "winner", desc := "()I" } : MethodName) ({ cls := "HexWorkbench", name := "winner", desc := "()I" } : MethodName)) ∈ lw_g := lw_in 357 (by decide +kernel) rfl
theorem q_294 : (Cond.code ({ cls := "HexWorkbench", name := "winner", desc := "()I" } : MethodName) prog_1_method_11_code (1 : Nat) (some FieldType.int)) ∈ lw_g := lw_in 358 (by decide +kernel) rfl
theorem q_295 : (Cond.methodLink "HexWorkbenchLaw" (55 : Nat) ({ cls := "HexWorkbench", name := "stones", desc := "(I)J" } : MethodName)) ∈ lw_g := lw_in 359 (by decide +kernel) rfl
theorem q_296 : (Cond.instanceMethod ({ cls := "HexWorkbench", name := "stones", desc := "(I)J" } : MethodName)) ∈ lw_g := lw_in 360 (by decide +kernel) rfl
theorem q_297 : (Cond.selects "HexWorkbench" ({ cls := "HexWorkbench", name := "stones", desc := "(I)J" } : MethodName) ({ cls := "HexWorkbench", name := "stones", desc := "(I)J" } : MethodName)) ∈ lw_g := lw_in 361 (by decide +kernel) rfl
theorem q_298 : (Cond.code ({ cls := "HexWorkbench", name := "stones", desc := "(I)J" } : MethodName) prog_1_method_12_code (2 : Nat) (some FieldType.long)) ∈ lw_g := lw_in 362 (by decide +kernel) rfl
theorem q_299 : (Cond.methodLink "HexWorkbench" (125 : Nat) ({ cls := "HexWorkbench", name := "isPlayer", desc := "(I)Z" } : MethodName)) ∈ lw_g := lw_in 363 (by decide +kernel) rfl
theorem q_300 : (Cond.static ({ cls := "HexWorkbench", name := "isPlayer", desc := "(I)Z" } : MethodName)) ∈ lw_g := lw_in 364 (by decide +kernel) rfl
theorem q_301 : (Cond.code ({ cls := "HexWorkbench", name := "isPlayer", desc := "(I)Z" } : MethodName) prog_1_method_44_code (1 : Nat) (some FieldType.boolean)) ∈ lw_g := lw_in 365 (by decide +kernel) rfl
theorem q_302 : (Cond.constantLong "HexWorkbench" (128 : Nat) (-11 : Int64)) ∈ lw_g := lw_in 366 (by decide +kernel) rfl
theorem q_303 : (Cond.methodLink "HexWorkbenchLaw" (60 : Nat) ({ cls := "HexWorkbench", name := "beside", desc := "(I)J" } : MethodName)) ∈ lw_g := lw_in 367 (by decide +kernel) rfl
theorem q_304 : (Cond.instanceMethod ({ cls := "HexWorkbench", name := "beside", desc := "(I)J" } : MethodName)) ∈ lw_g := lw_in 368 (by decide +kernel) rfl
theorem q_305 : (Cond.selects "HexWorkbench" ({ cls := "HexWorkbench", name := "beside", desc := "(I)J" } : MethodName) ({ cls := "HexWorkbench", name := "beside", desc := "(I)J" } : MethodName)) ∈ lw_g := lw_in 369 (by decide +kernel) rfl
theorem q_306 : (Cond.code ({ cls := "HexWorkbench", name := "beside", desc := "(I)J" } : MethodName) prog_1_method_13_code (2 : Nat) (some FieldType.long)) ∈ lw_g := lw_in 370 (by decide +kernel) rfl
theorem q_307 : (Cond.methodLink "HexWorkbench" (130 : Nat) ({ cls := "HexWorkbench$Board", name := "around", desc := "(J)J" } : MethodName)) ∈ lw_g := lw_in 371 (by decide +kernel) rfl
theorem q_308 : (Cond.methodLink "HexWorkbenchLaw" (64 : Nat) ({ cls := "HexWorkbench", name := "chains", desc := "(I)I" } : MethodName)) ∈ lw_g := lw_in 372 (by decide +kernel) rfl
theorem q_309 : (Cond.instanceMethod ({ cls := "HexWorkbench", name := "chains", desc := "(I)I" } : MethodName)) ∈ lw_g := lw_in 373 (by decide +kernel) rfl
theorem q_310 : (Cond.selects "HexWorkbench" ({ cls := "HexWorkbench", name := "chains", desc := "(I)I" } : MethodName) ({ cls := "HexWorkbench", name := "chains", desc := "(I)I" } : MethodName)) ∈ lw_g := lw_in 374 (by decide +kernel) rfl
theorem q_311 : (Cond.code ({ cls := "HexWorkbench", name := "chains", desc := "(I)I" } : MethodName) prog_1_method_14_code (6 : Nat) (some FieldType.int)) ∈ lw_g := lw_in 375 (by decide +kernel) rfl
theorem q_312 : (Cond.methodLink "HexWorkbench" (134 : Nat) ({ cls := "HexWorkbench$Board", name := "flood", desc := "(JJ)J" } : MethodName)) ∈ lw_g := lw_in 376 (by decide +kernel) rfl
theorem q_313 : (Cond.instanceMethod ({ cls := "HexWorkbench$Board", name := "flood", desc := "(JJ)J" } : MethodName)) ∈ lw_g := lw_in 377 (by decide +kernel) rfl
theorem q_314 : (Cond.selects "HexWorkbench$Board" ({ cls := "HexWorkbench$Board", name := "flood", desc := "(JJ)J" } : MethodName) ({ cls := "HexWorkbench$Board", name := "flood", desc := "(JJ)J" } : MethodName)) ∈ lw_g := lw_in 378 (by decide +kernel) rfl
theorem q_315 : (Cond.code ({ cls := "HexWorkbench$Board", name := "flood", desc := "(JJ)J" } : MethodName) prog_2_method_3_code (5 : Nat) (some FieldType.long)) ∈ lw_g := lw_in 379 (by decide +kernel) rfl
theorem q_316 : (Cond.constantLong "HexWorkbench" (138 : Nat) (-1 : Int64)) ∈ lw_g := lw_in 380 (by decide +kernel) rfl
theorem q_317 : (Cond.methodLink "HexWorkbenchLaw" (68 : Nat) ({ cls := "HexWorkbench", name := "chainOf", desc := "(I)I" } : MethodName)) ∈ lw_g := lw_in 381 (by decide +kernel) rfl
theorem q_318 : (Cond.instanceMethod ({ cls := "HexWorkbench", name := "chainOf", desc := "(I)I" } : MethodName)) ∈ lw_g := lw_in 382 (by decide +kernel) rfl
theorem q_319 : (Cond.selects "HexWorkbench" ({ cls := "HexWorkbench", name := "chainOf", desc := "(I)I" } : MethodName) ({ cls := "HexWorkbench", name := "chainOf", desc := "(I)I" } : MethodName)) ∈ lw_g := lw_in 383 (by decide +kernel) rfl
theorem q_320 : (Cond.code ({ cls := "HexWorkbench", name := "chainOf", desc := "(I)I" } : MethodName) prog_1_method_15_code (4 : Nat) (some FieldType.int)) ∈ lw_g := lw_in 384 (by decide +kernel) rfl
theorem q_321 : (Cond.methodLink "HexWorkbench" (140 : Nat) ({ cls := "HexWorkbench", name := "chainAround", desc := "(I)J" } : MethodName)) ∈ lw_g := lw_in 385 (by decide +kernel) rfl
theorem q_323 : (Cond.instanceMethod ({ cls := "HexWorkbench", name := "chainAround", desc := "(I)J" } : MethodName)) ∈ lw_g := lw_in 387 (by decide +kernel) rfl
theorem q_324 : (Cond.code ({ cls := "HexWorkbench", name := "chainAround", desc := "(I)J" } : MethodName) prog_1_method_50_code (6 : Nat) (some FieldType.long)) ∈ lw_g := lw_in 388 (by decide +kernel) rfl
theorem q_325 : (Cond.methodLink "HexWorkbenchLaw" (72 : Nat) ({ cls := "HexWorkbench", name := "chain", desc := "(I)J" } : MethodName)) ∈ lw_g := lw_in 389 (by decide +kernel) rfl
theorem q_326 : (Cond.instanceMethod ({ cls := "HexWorkbench", name := "chain", desc := "(I)J" } : MethodName)) ∈ lw_g := lw_in 390 (by decide +kernel) rfl
theorem q_327 : (Cond.selects "HexWorkbench" ({ cls := "HexWorkbench", name := "chain", desc := "(I)J" } : MethodName) ({ cls := "HexWorkbench", name := "chain", desc := "(I)J" } : MethodName)) ∈ lw_g := lw_in 391 (by decide +kernel) rfl
theorem q_328 : (Cond.code ({ cls := "HexWorkbench", name := "chain", desc := "(I)J" } : MethodName) prog_1_method_16_code (4 : Nat) (some FieldType.long)) ∈ lw_g := lw_in 392 (by decide +kernel) rfl
theorem q_329 : (Cond.methodLink "HexWorkbenchLaw" (76 : Nat) ({ cls := "HexWorkbench", name := "distance", desc := "(I)I" } : MethodName)) ∈ lw_g := lw_in 393 (by decide +kernel) rfl
theorem q_330 : (Cond.instanceMethod ({ cls := "HexWorkbench", name := "distance", desc := "(I)I" } : MethodName)) ∈ lw_g := lw_in 394 (by decide +kernel) rfl
theorem q_331 : (Cond.selects "HexWorkbench" ({ cls := "HexWorkbench", name := "distance", desc := "(I)I" } : MethodName) ({ cls := "HexWorkbench", name := "distance", desc := "(I)I" } : MethodName)) ∈ lw_g := lw_in 395 (by decide +kernel) rfl
theorem q_332 : (Cond.code ({ cls := "HexWorkbench", name := "distance", desc := "(I)I" } : MethodName) prog_1_method_17_code (2 : Nat) (some FieldType.int)) ∈ lw_g := lw_in 396 (by decide +kernel) rfl
theorem q_333 : (Cond.methodLink "HexWorkbench" (143 : Nat) ({ cls := "HexWorkbench$Paths", name := "measure", desc := "(LHexWorkbench$Game;I)I" } : MethodName)) ∈ lw_g := lw_in 397 (by decide +kernel) rfl
theorem q_334 : (Cond.instanceMethod ({ cls := "HexWorkbench$Paths", name := "measure", desc := "(LHexWorkbench$Game;I)I" } : MethodName)) ∈ lw_g := lw_in 398 (by decide +kernel) rfl
theorem q_335 : (Cond.selects "HexWorkbench$Paths" ({ cls := "HexWorkbench$Paths", name := "measure", desc := "(LHexWorkbench$Game;I)I" } : MethodName) ({ cls := "HexWorkbench$Paths", name := "measure", desc := "(LHexWorkbench$Game;I)I" } : MethodName)) ∈ lw_g := lw_in 399 (by decide +kernel) rfl
theorem q_336 : (Cond.code ({ cls := "HexWorkbench$Paths", name := "measure", desc := "(LHexWorkbench$Game;I)I" } : MethodName) prog_6_method_2_code (11 : Nat) (some FieldType.int)) ∈ lw_g := lw_in 400 (by decide +kernel) rfl
theorem q_337 : (Cond.methodLink "HexWorkbench$Paths" (21 : Nat) ({ cls := "HexWorkbench$Game", name := "stonesOf", desc := "(I)J" } : MethodName)) ∈ lw_g := lw_in 401 (by decide +kernel) rfl
theorem q_338 : (Cond.methodLink "HexWorkbench$Paths" (25 : Nat) ({ cls := "HexWorkbench$Board", name := "firstEdge", desc := "(I)J" } : MethodName)) ∈ lw_g := lw_in 402 (by decide +kernel) rfl
theorem q_339 : (Cond.instanceMethod ({ cls := "HexWorkbench$Board", name := "firstEdge", desc := "(I)J" } : MethodName)) ∈ lw_g := lw_in 403 (by decide +kernel) rfl
theorem q_340 : (Cond.selects "HexWorkbench$Board" ({ cls := "HexWorkbench$Board", name := "firstEdge", desc := "(I)J" } : MethodName) ({ cls := "HexWorkbench$Board", name := "firstEdge", desc := "(I)J" } : MethodName)) ∈ lw_g := lw_in 404 (by decide +kernel) rfl
theorem q_341 : (Cond.code ({ cls := "HexWorkbench$Board", name := "firstEdge", desc := "(I)J" } : MethodName) prog_2_method_6_code (2 : Nat) (some FieldType.long)) ∈ lw_g := lw_in 405 (by decide +kernel) rfl
theorem q_342 : (Cond.methodLink "HexWorkbench$Paths" (30 : Nat) ({ cls := "HexWorkbench$Board", name := "flood", desc := "(JJ)J" } : MethodName)) ∈ lw_g := lw_in 406 (by decide +kernel) rfl
theorem q_343 : (Cond.methodLink "HexWorkbench$Paths" (34 : Nat) ({ cls := "HexWorkbench$Board", name := "secondEdge", desc := "(I)J" } : MethodName)) ∈ lw_g := lw_in 407 (by decide +kernel) rfl
theorem q_344 : (Cond.instanceMethod ({ cls := "HexWorkbench$Board", name := "secondEdge", desc := "(I)J" } : MethodName)) ∈ lw_g := lw_in 408 (by decide +kernel) rfl
theorem q_345 : (Cond.selects "HexWorkbench$Board" ({ cls := "HexWorkbench$Board", name := "secondEdge", desc := "(I)J" } : MethodName) ({ cls := "HexWorkbench$Board", name := "secondEdge", desc := "(I)J" } : MethodName)) ∈ lw_g := lw_in 409 (by decide +kernel) rfl
theorem q_346 : (Cond.code ({ cls := "HexWorkbench$Board", name := "secondEdge", desc := "(I)J" } : MethodName) prog_2_method_7_code (2 : Nat) (some FieldType.long)) ∈ lw_g := lw_in 410 (by decide +kernel) rfl
theorem q_347 : (Cond.methodLink "HexWorkbench$Paths" (37 : Nat) ({ cls := "HexWorkbench$Game", name := "free", desc := "()J" } : MethodName)) ∈ lw_g := lw_in 411 (by decide +kernel) rfl
theorem q_348 : (Cond.methodLink "HexWorkbench$Paths" (41 : Nat) ({ cls := "HexWorkbench$Paths", name := "nextLayer", desc := "(LHexWorkbench$Board;JJJJ)J" } : MethodName)) ∈ lw_g := lw_in 412 (by decide +kernel) rfl
theorem q_349 : (Cond.static ({ cls := "HexWorkbench$Paths", name := "nextLayer", desc := "(LHexWorkbench$Board;JJJJ)J" } : MethodName)) ∈ lw_g := lw_in 413 (by decide +kernel) rfl
theorem q_350 : (Cond.code ({ cls := "HexWorkbench$Paths", name := "nextLayer", desc := "(LHexWorkbench$Board;JJJJ)J" } : MethodName) prog_6_method_3_code (11 : Nat) (some FieldType.long)) ∈ lw_g := lw_in 414 (by decide +kernel) rfl
theorem q_351 : (Cond.methodLink "HexWorkbench$Paths" (45 : Nat) ({ cls := "HexWorkbench$Board", name := "around", desc := "(J)J" } : MethodName)) ∈ lw_g := lw_in 415 (by decide +kernel) rfl
theorem q_352 : (Cond.methodLink "HexWorkbenchLaw" (80 : Nat) ({ cls := "HexWorkbench", name := "shortest", desc := "(I)J" } : MethodName)) ∈ lw_g := lw_in 416 (by decide +kernel) rfl
theorem q_353 : (Cond.instanceMethod ({ cls := "HexWorkbench", name := "shortest", desc := "(I)J" } : MethodName)) ∈ lw_g := lw_in 417 (by decide +kernel) rfl
theorem q_354 : (Cond.selects "HexWorkbench" ({ cls := "HexWorkbench", name := "shortest", desc := "(I)J" } : MethodName) ({ cls := "HexWorkbench", name := "shortest", desc := "(I)J" } : MethodName)) ∈ lw_g := lw_in 418 (by decide +kernel) rfl
theorem q_355 : (Cond.code ({ cls := "HexWorkbench", name := "shortest", desc := "(I)J" } : MethodName) prog_1_method_18_code (2 : Nat) (some FieldType.long)) ∈ lw_g := lw_in 419 (by decide +kernel) rfl
theorem q_356 : (Cond.methodLink "HexWorkbench" (147 : Nat) ({ cls := "HexWorkbench$Paths", name := "onShortest", desc := "(LHexWorkbench$Game;I)J" } : MethodName)) ∈ lw_g := lw_in 420 (by decide +kernel) rfl
theorem q_357 : (Cond.instanceMethod ({ cls := "HexWorkbench$Paths", name := "onShortest", desc := "(LHexWorkbench$Game;I)J" } : MethodName)) ∈ lw_g := lw_in 421 (by decide +kernel) rfl
theorem q_358 : (Cond.selects "HexWorkbench$Paths" ({ cls := "HexWorkbench$Paths", name := "onShortest", desc := "(LHexWorkbench$Game;I)J" } : MethodName) ({ cls := "HexWorkbench$Paths", name := "onShortest", desc := "(LHexWorkbench$Game;I)J" } : MethodName)) ∈ lw_g := lw_in 422 (by decide +kernel) rfl
theorem q_359 : (Cond.code ({ cls := "HexWorkbench$Paths", name := "onShortest", desc := "(LHexWorkbench$Game;I)J" } : MethodName) prog_6_method_4_code (14 : Nat) (some FieldType.long)) ∈ lw_g := lw_in 423 (by decide +kernel) rfl
theorem q_360 : (Cond.methodLink "HexWorkbench$Paths" (49 : Nat) ({ cls := "HexWorkbench$Paths", name := "measure", desc := "(LHexWorkbench$Game;I)I" } : MethodName)) ∈ lw_g := lw_in 424 (by decide +kernel) rfl
theorem q_361 : (Cond.constantLong "HexWorkbench$Paths" (53 : Nat) (-15 : Int64)) ∈ lw_g := lw_in 425 (by decide +kernel) rfl
theorem q_362 : (Cond.methodLink "HexWorkbenchLaw" (84 : Nat) ({ cls := "HexWorkbench", name := "cut", desc := "(I)I" } : MethodName)) ∈ lw_g := lw_in 426 (by decide +kernel) rfl
theorem q_363 : (Cond.instanceMethod ({ cls := "HexWorkbench", name := "cut", desc := "(I)I" } : MethodName)) ∈ lw_g := lw_in 427 (by decide +kernel) rfl
theorem q_364 : (Cond.selects "HexWorkbench" ({ cls := "HexWorkbench", name := "cut", desc := "(I)I" } : MethodName) ({ cls := "HexWorkbench", name := "cut", desc := "(I)I" } : MethodName)) ∈ lw_g := lw_in 428 (by decide +kernel) rfl
theorem q_365 : (Cond.code ({ cls := "HexWorkbench", name := "cut", desc := "(I)I" } : MethodName) prog_1_method_19_code (2 : Nat) (some FieldType.int)) ∈ lw_g := lw_in 429 (by decide +kernel) rfl
theorem q_366 : (Cond.methodLink "HexWorkbenchLaw" (88 : Nat) ({ cls := "HexWorkbench", name := "bridges", desc := "(I)I" } : MethodName)) ∈ lw_g := lw_in 430 (by decide +kernel) rfl
theorem q_367 : (Cond.instanceMethod ({ cls := "HexWorkbench", name := "bridges", desc := "(I)I" } : MethodName)) ∈ lw_g := lw_in 431 (by decide +kernel) rfl
theorem q_368 : (Cond.selects "HexWorkbench" ({ cls := "HexWorkbench", name := "bridges", desc := "(I)I" } : MethodName) ({ cls := "HexWorkbench", name := "bridges", desc := "(I)I" } : MethodName)) ∈ lw_g := lw_in 432 (by decide +kernel) rfl
theorem q_369 : (Cond.code ({ cls := "HexWorkbench", name := "bridges", desc := "(I)I" } : MethodName) prog_1_method_20_code (2 : Nat) (some FieldType.int)) ∈ lw_g := lw_in 433 (by decide +kernel) rfl
theorem q_370 : (Cond.methodLink "HexWorkbench" (151 : Nat) ({ cls := "HexWorkbench$Game", name := "free", desc := "()J" } : MethodName)) ∈ lw_g := lw_in 434 (by decide +kernel) rfl
theorem q_371 : (Cond.methodLink "HexWorkbench" (155 : Nat) ({ cls := "HexWorkbench", name := "findBridges", desc := "(JJ)I" } : MethodName)) ∈ lw_g := lw_in 435 (by decide +kernel) rfl
theorem q_373 : (Cond.instanceMethod ({ cls := "HexWorkbench", name := "findBridges", desc := "(JJ)I" } : MethodName)) ∈ lw_g := lw_in 437 (by decide +kernel) rfl
theorem q_374 : (Cond.code ({ cls := "HexWorkbench", name := "findBridges", desc := "(JJ)I" } : MethodName) prog_1_method_51_code (14 : Nat) (some FieldType.int)) ∈ lw_g := lw_in 438 (by decide +kernel) rfl
theorem q_375 : (Cond.methodLink "HexWorkbench" (304 : Nat) ({ cls := "HexWorkbench", name := "bridgePartners", desc := "(JJ)J" } : MethodName)) ∈ lw_g := lw_in 439 (by decide +kernel) rfl
theorem q_377 : (Cond.instanceMethod ({ cls := "HexWorkbench", name := "bridgePartners", desc := "(JJ)J" } : MethodName)) ∈ lw_g := lw_in 441 (by decide +kernel) rfl
theorem q_378 : (Cond.code ({ cls := "HexWorkbench", name := "bridgePartners", desc := "(JJ)J" } : MethodName) prog_1_method_52_code (9 : Nat) (some FieldType.long)) ∈ lw_g := lw_in 442 (by decide +kernel) rfl
theorem q_379 : (Cond.methodLink "HexWorkbench" (159 : Nat) ({ cls := "HexWorkbench", name := "carrierOf", desc := "(I)J" } : MethodName)) ∈ lw_g := lw_in 443 (by decide +kernel) rfl
theorem q_381 : (Cond.instanceMethod ({ cls := "HexWorkbench", name := "carrierOf", desc := "(I)J" } : MethodName)) ∈ lw_g := lw_in 445 (by decide +kernel) rfl
theorem q_382 : (Cond.code ({ cls := "HexWorkbench", name := "carrierOf", desc := "(I)J" } : MethodName) prog_1_method_53_code (3 : Nat) (some FieldType.long)) ∈ lw_g := lw_in 446 (by decide +kernel) rfl
theorem q_383 : (Cond.methodLink "HexWorkbenchLaw" (92 : Nat) ({ cls := "HexWorkbench", name := "bridge", desc := "(III)I" } : MethodName)) ∈ lw_g := lw_in 447 (by decide +kernel) rfl
theorem q_384 : (Cond.instanceMethod ({ cls := "HexWorkbench", name := "bridge", desc := "(III)I" } : MethodName)) ∈ lw_g := lw_in 448 (by decide +kernel) rfl
theorem q_385 : (Cond.selects "HexWorkbench" ({ cls := "HexWorkbench", name := "bridge", desc := "(III)I" } : MethodName) ({ cls := "HexWorkbench", name := "bridge", desc := "(III)I" } : MethodName)) ∈ lw_g := lw_in 449 (by decide +kernel) rfl
theorem q_386 : (Cond.code ({ cls := "HexWorkbench", name := "bridge", desc := "(III)I" } : MethodName) prog_1_method_21_code (8 : Nat) (some FieldType.int)) ∈ lw_g := lw_in 450 (by decide +kernel) rfl
theorem q_387 : (Cond.methodLink "HexWorkbenchLaw" (97 : Nat) ({ cls := "HexWorkbench", name := "answers", desc := "()J" } : MethodName)) ∈ lw_g := lw_in 451 (by decide +kernel) rfl
theorem q_388 : (Cond.instanceMethod ({ cls := "HexWorkbench", name := "answers", desc := "()J" } : MethodName)) ∈ lw_g := lw_in 452 (by decide +kernel) rfl
theorem q_389 : (Cond.selects "HexWorkbench" ({ cls := "HexWorkbench", name := "answers", desc := "()J" } : MethodName) ({ cls := "HexWorkbench", name := "answers", desc := "()J" } : MethodName)) ∈ lw_g := lw_in 453 (by decide +kernel) rfl
theorem q_390 : (Cond.code ({ cls := "HexWorkbench", name := "answers", desc := "()J" } : MethodName) prog_1_method_22_code (10 : Nat) (some FieldType.long)) ∈ lw_g := lw_in 454 (by decide +kernel) rfl
theorem q_391 : (Cond.methodLink "HexWorkbench" (162 : Nat) ({ cls := "HexWorkbench$Game", name := "latest", desc := "()I" } : MethodName)) ∈ lw_g := lw_in 455 (by decide +kernel) rfl
theorem q_392 : (Cond.instanceMethod ({ cls := "HexWorkbench$Game", name := "latest", desc := "()I" } : MethodName)) ∈ lw_g := lw_in 456 (by decide +kernel) rfl
theorem q_393 : (Cond.selects "HexWorkbench$Game" ({ cls := "HexWorkbench$Game", name := "latest", desc := "()I" } : MethodName) ({ cls := "HexWorkbench$Game", name := "latest", desc := "()I" } : MethodName)) ∈ lw_g := lw_in 457 (by decide +kernel) rfl
theorem q_394 : (Cond.code ({ cls := "HexWorkbench$Game", name := "latest", desc := "()I" } : MethodName) prog_5_method_9_code (1 : Nat) (some FieldType.int)) ∈ lw_g := lw_in 458 (by decide +kernel) rfl
theorem q_395 : (Cond.methodLink "HexWorkbenchLaw" (102 : Nat) ({ cls := "HexWorkbench", name := "fillings", desc := "(I)I" } : MethodName)) ∈ lw_g := lw_in 459 (by decide +kernel) rfl
theorem q_396 : (Cond.instanceMethod ({ cls := "HexWorkbench", name := "fillings", desc := "(I)I" } : MethodName)) ∈ lw_g := lw_in 460 (by decide +kernel) rfl
theorem q_397 : (Cond.selects "HexWorkbench" ({ cls := "HexWorkbench", name := "fillings", desc := "(I)I" } : MethodName) ({ cls := "HexWorkbench", name := "fillings", desc := "(I)I" } : MethodName)) ∈ lw_g := lw_in 461 (by decide +kernel) rfl
theorem q_398 : (Cond.code ({ cls := "HexWorkbench", name := "fillings", desc := "(I)I" } : MethodName) prog_1_method_23_code (3 : Nat) (some FieldType.int)) ∈ lw_g := lw_in 462 (by decide +kernel) rfl
theorem q_399 : (Cond.methodLink "HexWorkbench" (165 : Nat) ({ cls := "HexWorkbench", name := "hasFreeAtMost", desc := "(I)Z" } : MethodName)) ∈ lw_g := lw_in 463 (by decide +kernel) rfl
theorem q_401 : (Cond.instanceMethod ({ cls := "HexWorkbench", name := "hasFreeAtMost", desc := "(I)Z" } : MethodName)) ∈ lw_g := lw_in 465 (by decide +kernel) rfl
theorem q_402 : (Cond.code ({ cls := "HexWorkbench", name := "hasFreeAtMost", desc := "(I)Z" } : MethodName) prog_1_method_46_code (2 : Nat) (some FieldType.boolean)) ∈ lw_g := lw_in 466 (by decide +kernel) rfl
theorem q_403 : (Cond.methodLink "HexWorkbench" (168 : Nat) ({ cls := "HexWorkbench$Fillings", name := "compute", desc := "(LHexWorkbench$Game;)V" } : MethodName)) ∈ lw_g := lw_in 467 (by decide +kernel) rfl
theorem q_404 : (Cond.instanceMethod ({ cls := "HexWorkbench$Fillings", name := "compute", desc := "(LHexWorkbench$Game;)V" } : MethodName)) ∈ lw_g := lw_in 468 (by decide +kernel) rfl
theorem q_405 : (Cond.selects "HexWorkbench$Fillings" ({ cls := "HexWorkbench$Fillings", name := "compute", desc := "(LHexWorkbench$Game;)V" } : MethodName) ({ cls := "HexWorkbench$Fillings", name := "compute", desc := "(LHexWorkbench$Game;)V" } : MethodName)) ∈ lw_g := lw_in 469 (by decide +kernel) rfl
theorem q_406 : (Cond.code ({ cls := "HexWorkbench$Fillings", name := "compute", desc := "(LHexWorkbench$Game;)V" } : MethodName) prog_4_method_2_code (8 : Nat) (none : Option FieldType)) ∈ lw_g := lw_in 470 (by decide +kernel) rfl
theorem q_407 : (Cond.methodLink "HexWorkbench$Fillings" (21 : Nat) ({ cls := "HexWorkbench$Game", name := "free", desc := "()J" } : MethodName)) ∈ lw_g := lw_in 471 (by decide +kernel) rfl
theorem q_408 : (Cond.methodLink "HexWorkbench$Fillings" (25 : Nat) ({ cls := "java/lang/Long", name := "bitCount", desc := "(J)I" } : MethodName)) ∈ lw_g := lw_in 472 (by decide +kernel) rfl
theorem q_409 : (Cond.methodLink "HexWorkbench$Fillings" (31 : Nat) ({ cls := "java/lang/Math", name := "min", desc := "(II)I" } : MethodName)) ∈ lw_g := lw_in 473 (by decide +kernel) rfl
theorem q_410 : (Cond.static ({ cls := "java/lang/Math", name := "min", desc := "(II)I" } : MethodName)) ∈ lw_g := lw_in 474 (by decide +kernel) rfl
theorem q_411 : (Cond.code ({ cls := "java/lang/Math", name := "min", desc := "(II)I" } : MethodName) prog_10_method_69_code (2 : Nat) (some FieldType.int)) ∈ lw_g := lw_in 475 (by decide +kernel) rfl
theorem q_412 : (Cond.methodLink "HexWorkbench$Fillings" (41 : Nat) ({ cls := "HexWorkbench$Fillings", name := "size", desc := "()I" } : MethodName)) ∈ lw_g := lw_in 476 (by decide +kernel) rfl
theorem q_413 : (Cond.instanceMethod ({ cls := "HexWorkbench$Fillings", name := "size", desc := "()I" } : MethodName)) ∈ lw_g := lw_in 477 (by decide +kernel) rfl
theorem q_414 : (Cond.selects "HexWorkbench$Fillings" ({ cls := "HexWorkbench$Fillings", name := "size", desc := "()I" } : MethodName) ({ cls := "HexWorkbench$Fillings", name := "size", desc := "()I" } : MethodName)) ∈ lw_g := lw_in 478 (by decide +kernel) rfl
theorem q_415 : (Cond.code ({ cls := "HexWorkbench$Fillings", name := "size", desc := "()I" } : MethodName) prog_4_method_3_code (1 : Nat) (some FieldType.int)) ∈ lw_g := lw_in 479 (by decide +kernel) rfl
theorem q_416 : (Cond.methodLink "HexWorkbench$Fillings" (45 : Nat) ({ cls := "HexWorkbench$Game", name := "stonesOf", desc := "(I)J" } : MethodName)) ∈ lw_g := lw_in 480 (by decide +kernel) rfl
theorem q_417 : (Cond.methodLink "HexWorkbench$Fillings" (58 : Nat) ({ cls := "HexWorkbench$Board", name := "linked", desc := "(JJJ)Z" } : MethodName)) ∈ lw_g := lw_in 481 (by decide +kernel) rfl
theorem q_418 : (Cond.methodLinkNest "HexWorkbench$Fillings" (62 : Nat) ({ cls := "HexWorkbench", name := "nextSubset", desc := "(JJ)J" } : MethodName) "HexWorkbench") ∈ lw_tbl := List.mem_of_getElem? (i := 482) (by decide +kernel)
theorem q_419 : (Cond.static ({ cls := "HexWorkbench", name := "nextSubset", desc := "(JJ)J" } : MethodName)) ∈ lw_g := lw_in 483 (by decide +kernel) rfl
theorem q_420 : (Cond.code ({ cls := "HexWorkbench", name := "nextSubset", desc := "(JJ)J" } : MethodName) prog_1_method_49_code (4 : Nat) (some FieldType.long)) ∈ lw_g := lw_in 484 (by decide +kernel) rfl
theorem q_421 : (Cond.methodLink "HexWorkbench" (172 : Nat) ({ cls := "HexWorkbench$Fillings", name := "wonByFirst", desc := "()I" } : MethodName)) ∈ lw_g := lw_in 485 (by decide +kernel) rfl
theorem q_422 : (Cond.instanceMethod ({ cls := "HexWorkbench$Fillings", name := "wonByFirst", desc := "()I" } : MethodName)) ∈ lw_g := lw_in 486 (by decide +kernel) rfl
theorem q_423 : (Cond.selects "HexWorkbench$Fillings" ({ cls := "HexWorkbench$Fillings", name := "wonByFirst", desc := "()I" } : MethodName) ({ cls := "HexWorkbench$Fillings", name := "wonByFirst", desc := "()I" } : MethodName)) ∈ lw_g := lw_in 487 (by decide +kernel) rfl
theorem q_424 : (Cond.code ({ cls := "HexWorkbench$Fillings", name := "wonByFirst", desc := "()I" } : MethodName) prog_4_method_4_code (3 : Nat) (some FieldType.int)) ∈ lw_g := lw_in 488 (by decide +kernel) rfl
theorem q_425 : (Cond.methodLink "HexWorkbench" (175 : Nat) ({ cls := "HexWorkbench$Fillings", name := "size", desc := "()I" } : MethodName)) ∈ lw_g := lw_in 489 (by decide +kernel) rfl
theorem q_426 : (Cond.methodLink "HexWorkbenchLaw" (106 : Nat) ({ cls := "HexWorkbench", name := "weight", desc := "(I)I" } : MethodName)) ∈ lw_g := lw_in 490 (by decide +kernel) rfl
theorem q_427 : (Cond.instanceMethod ({ cls := "HexWorkbench", name := "weight", desc := "(I)I" } : MethodName)) ∈ lw_g := lw_in 491 (by decide +kernel) rfl
theorem q_428 : (Cond.selects "HexWorkbench" ({ cls := "HexWorkbench", name := "weight", desc := "(I)I" } : MethodName) ({ cls := "HexWorkbench", name := "weight", desc := "(I)I" } : MethodName)) ∈ lw_g := lw_in 492 (by decide +kernel) rfl
theorem q_429 : (Cond.code ({ cls := "HexWorkbench", name := "weight", desc := "(I)I" } : MethodName) prog_1_method_24_code (2 : Nat) (some FieldType.int)) ∈ lw_g := lw_in 493 (by decide +kernel) rfl
theorem q_430 : (Cond.methodLink "HexWorkbench" (182 : Nat) ({ cls := "HexWorkbench$Fillings", name := "decidedBy", desc := "(I)I" } : MethodName)) ∈ lw_g := lw_in 494 (by decide +kernel) rfl
theorem q_431 : (Cond.instanceMethod ({ cls := "HexWorkbench$Fillings", name := "decidedBy", desc := "(I)I" } : MethodName)) ∈ lw_g := lw_in 495 (by decide +kernel) rfl
theorem q_432 : (Cond.selects "HexWorkbench$Fillings" ({ cls := "HexWorkbench$Fillings", name := "decidedBy", desc := "(I)I" } : MethodName) ({ cls := "HexWorkbench$Fillings", name := "decidedBy", desc := "(I)I" } : MethodName)) ∈ lw_g := lw_in 496 (by decide +kernel) rfl
theorem q_433 : (Cond.code ({ cls := "HexWorkbench$Fillings", name := "decidedBy", desc := "(I)I" } : MethodName) prog_4_method_5_code (5 : Nat) (some FieldType.int)) ∈ lw_g := lw_in 497 (by decide +kernel) rfl
theorem q_434 : (Cond.methodLink "HexWorkbench$Fillings" (66 : Nat) ({ cls := "HexWorkbench$Fillings", name := "isWon", desc := "(I)Z" } : MethodName)) ∈ lw_g := lw_in 498 (by decide +kernel) rfl
theorem q_436 : (Cond.instanceMethod ({ cls := "HexWorkbench$Fillings", name := "isWon", desc := "(I)Z" } : MethodName)) ∈ lw_g := lw_in 500 (by decide +kernel) rfl
theorem q_437 : (Cond.code ({ cls := "HexWorkbench$Fillings", name := "isWon", desc := "(I)Z" } : MethodName) prog_4_method_6_code (3 : Nat) (some FieldType.boolean)) ∈ lw_g := lw_in 501 (by decide +kernel) rfl
theorem q_438 : (Cond.methodLink "HexWorkbenchLaw" (110 : Nat) ({ cls := "HexWorkbench", name := "dead", desc := "()J" } : MethodName)) ∈ lw_g := lw_in 502 (by decide +kernel) rfl
theorem q_439 : (Cond.instanceMethod ({ cls := "HexWorkbench", name := "dead", desc := "()J" } : MethodName)) ∈ lw_g := lw_in 503 (by decide +kernel) rfl
theorem q_440 : (Cond.selects "HexWorkbench" ({ cls := "HexWorkbench", name := "dead", desc := "()J" } : MethodName) ({ cls := "HexWorkbench", name := "dead", desc := "()J" } : MethodName)) ∈ lw_g := lw_in 504 (by decide +kernel) rfl
theorem q_441 : (Cond.code ({ cls := "HexWorkbench", name := "dead", desc := "()J" } : MethodName) prog_1_method_25_code (6 : Nat) (some FieldType.long)) ∈ lw_g := lw_in 505 (by decide +kernel) rfl
theorem q_442 : (Cond.constantLong "HexWorkbench" (185 : Nat) (-13 : Int64)) ∈ lw_g := lw_in 506 (by decide +kernel) rfl
theorem q_443 : (Cond.methodLink "HexWorkbenchLaw" (114 : Nat) ({ cls := "HexWorkbench", name := "solve", desc := "()I" } : MethodName)) ∈ lw_g := lw_in 507 (by decide +kernel) rfl
theorem q_444 : (Cond.instanceMethod ({ cls := "HexWorkbench", name := "solve", desc := "()I" } : MethodName)) ∈ lw_g := lw_in 508 (by decide +kernel) rfl
theorem q_445 : (Cond.selects "HexWorkbench" ({ cls := "HexWorkbench", name := "solve", desc := "()I" } : MethodName) ({ cls := "HexWorkbench", name := "solve", desc := "()I" } : MethodName)) ∈ lw_g := lw_in 509 (by decide +kernel) rfl
theorem q_446 : (Cond.code ({ cls := "HexWorkbench", name := "solve", desc := "()I" } : MethodName) prog_1_method_26_code (1 : Nat) (some FieldType.int)) ∈ lw_g := lw_in 510 (by decide +kernel) rfl
theorem q_447 : (Cond.methodLink "HexWorkbench" (187 : Nat) ({ cls := "HexWorkbench", name := "outcomeOfGame", desc := "()I" } : MethodName)) ∈ lw_g := lw_in 511 (by decide +kernel) rfl
theorem q_449 : (Cond.instanceMethod ({ cls := "HexWorkbench", name := "outcomeOfGame", desc := "()I" } : MethodName)) ∈ lw_g := lw_in 513 (by decide +kernel) rfl
theorem q_450 : (Cond.code ({ cls := "HexWorkbench", name := "outcomeOfGame", desc := "()I" } : MethodName) prog_1_method_54_code (2 : Nat) (some FieldType.int)) ∈ lw_g := lw_in 514 (by decide +kernel) rfl
theorem q_451 : (Cond.methodLink "HexWorkbench" (200 : Nat) ({ cls := "HexWorkbench$Contest", name := "arrange", desc := "(LHexWorkbench$Board;JJJ)V" } : MethodName)) ∈ lw_g := lw_in 515 (by decide +kernel) rfl
theorem q_452 : (Cond.instanceMethod ({ cls := "HexWorkbench$Contest", name := "arrange", desc := "(LHexWorkbench$Board;JJJ)V" } : MethodName)) ∈ lw_g := lw_in 516 (by decide +kernel) rfl
theorem q_453 : (Cond.selects "HexWorkbench$Contest" ({ cls := "HexWorkbench$Contest", name := "arrange", desc := "(LHexWorkbench$Board;JJJ)V" } : MethodName) ({ cls := "HexWorkbench$Contest", name := "arrange", desc := "(LHexWorkbench$Board;JJJ)V" } : MethodName)) ∈ lw_g := lw_in 517 (by decide +kernel) rfl
theorem q_454 : (Cond.code ({ cls := "HexWorkbench$Contest", name := "arrange", desc := "(LHexWorkbench$Board;JJJ)V" } : MethodName) prog_3_method_4_code (12 : Nat) (none : Option FieldType)) ∈ lw_g := lw_in 518 (by decide +kernel) rfl
theorem q_455 : (Cond.methodLink "HexWorkbench" (307 : Nat) ({ cls := "HexWorkbench$Contest", name := "result", desc := "(JJZ)I" } : MethodName)) ∈ lw_g := lw_in 519 (by decide +kernel) rfl
theorem q_456 : (Cond.instanceMethod ({ cls := "HexWorkbench$Contest", name := "result", desc := "(JJZ)I" } : MethodName)) ∈ lw_g := lw_in 520 (by decide +kernel) rfl
theorem q_457 : (Cond.selects "HexWorkbench$Contest" ({ cls := "HexWorkbench$Contest", name := "result", desc := "(JJZ)I" } : MethodName) ({ cls := "HexWorkbench$Contest", name := "result", desc := "(JJZ)I" } : MethodName)) ∈ lw_g := lw_in 521 (by decide +kernel) rfl
theorem q_458 : (Cond.code ({ cls := "HexWorkbench$Contest", name := "result", desc := "(JJZ)I" } : MethodName) prog_3_method_5_code (6 : Nat) (some FieldType.int)) ∈ lw_g := lw_in 522 (by decide +kernel) rfl
theorem q_459 : (Cond.methodLink "HexWorkbench$Contest" (29 : Nat) ({ cls := "HexWorkbench$Contest", name := "outcome", desc := "(JJZII)I" } : MethodName)) ∈ lw_g := lw_in 523 (by decide +kernel) rfl
theorem q_461 : (Cond.instanceMethod ({ cls := "HexWorkbench$Contest", name := "outcome", desc := "(JJZII)I" } : MethodName)) ∈ lw_g := lw_in 525 (by decide +kernel) rfl
theorem q_462 : (Cond.code ({ cls := "HexWorkbench$Contest", name := "outcome", desc := "(JJZII)I" } : MethodName) prog_3_method_6_code (9 : Nat) (some FieldType.int)) ∈ lw_g := lw_in 526 (by decide +kernel) rfl
theorem q_463 : (Cond.methodLink "HexWorkbench$Contest" (33 : Nat) ({ cls := "HexWorkbench$Contest", name := "recall", desc := "(I)I" } : MethodName)) ∈ lw_g := lw_in 527 (by decide +kernel) rfl
theorem q_465 : (Cond.instanceMethod ({ cls := "HexWorkbench$Contest", name := "recall", desc := "(I)I" } : MethodName)) ∈ lw_g := lw_in 529 (by decide +kernel) rfl
theorem q_466 : (Cond.code ({ cls := "HexWorkbench$Contest", name := "recall", desc := "(I)I" } : MethodName) prog_3_method_10_code (3 : Nat) (some FieldType.int)) ∈ lw_g := lw_in 530 (by decide +kernel) rfl
theorem q_467 : (Cond.methodLink "HexWorkbench$Contest" (37 : Nat) ({ cls := "HexWorkbench$Board", name := "linked", desc := "(JJJ)Z" } : MethodName)) ∈ lw_g := lw_in 531 (by decide +kernel) rfl
theorem q_468 : (Cond.methodLink "HexWorkbench$Contest" (43 : Nat) ({ cls := "HexWorkbench$Contest", name := "bestOutcome", desc := "(JJZII)I" } : MethodName)) ∈ lw_g := lw_in 532 (by decide +kernel) rfl
theorem q_470 : (Cond.instanceMethod ({ cls := "HexWorkbench$Contest", name := "bestOutcome", desc := "(JJZII)I" } : MethodName)) ∈ lw_g := lw_in 534 (by decide +kernel) rfl
theorem q_471 : (Cond.code ({ cls := "HexWorkbench$Contest", name := "bestOutcome", desc := "(JJZII)I" } : MethodName) prog_3_method_7_code (14 : Nat) (some FieldType.int)) ∈ lw_g := lw_in 535 (by decide +kernel) rfl
theorem q_472 : (Cond.constantLong "HexWorkbench$Contest" (50 : Nat) (-1 : Int64)) ∈ lw_g := lw_in 536 (by decide +kernel) rfl
theorem q_473 : (Cond.fieldLink "HexWorkbench$Contest" (52 : Nat) "HexWorkbench$Contest" "POWERS" "[I") ∈ lw_g := lw_in 537 (by decide +kernel) rfl
theorem q_474 : (Cond.laysStatic "HexWorkbench$Contest" "POWERS" "[I") ∈ lw_tbl := List.mem_of_getElem? (i := 538) (by decide +kernel)
theorem q_475 : (Cond.methodLink "HexWorkbench$Contest" (56 : Nat) ({ cls := "HexWorkbench$Contest", name := "better", desc := "(IIZ)I" } : MethodName)) ∈ lw_g := lw_in 539 (by decide +kernel) rfl
theorem q_476 : (Cond.static ({ cls := "HexWorkbench$Contest", name := "better", desc := "(IIZ)I" } : MethodName)) ∈ lw_g := lw_in 540 (by decide +kernel) rfl
theorem q_477 : (Cond.code ({ cls := "HexWorkbench$Contest", name := "better", desc := "(IIZ)I" } : MethodName) prog_3_method_8_code (3 : Nat) (some FieldType.int)) ∈ lw_g := lw_in 541 (by decide +kernel) rfl
theorem q_478 : (Cond.methodLink "HexWorkbench$Contest" (60 : Nat) ({ cls := "HexWorkbench$Contest", name := "connects", desc := "(I)Z" } : MethodName)) ∈ lw_g := lw_in 542 (by decide +kernel) rfl
theorem q_479 : (Cond.static ({ cls := "HexWorkbench$Contest", name := "connects", desc := "(I)Z" } : MethodName)) ∈ lw_g := lw_in 543 (by decide +kernel) rfl
theorem q_480 : (Cond.code ({ cls := "HexWorkbench$Contest", name := "connects", desc := "(I)Z" } : MethodName) prog_3_method_2_code (1 : Nat) (some FieldType.boolean)) ∈ lw_g := lw_in 544 (by decide +kernel) rfl
theorem q_481 : (Cond.methodLink "HexWorkbench$Contest" (64 : Nat) ({ cls := "java/lang/Math", name := "min", desc := "(II)I" } : MethodName)) ∈ lw_g := lw_in 545 (by decide +kernel) rfl
theorem q_482 : (Cond.methodLink "HexWorkbench$Contest" (70 : Nat) ({ cls := "java/lang/Math", name := "max", desc := "(II)I" } : MethodName)) ∈ lw_g := lw_in 546 (by decide +kernel) rfl
theorem q_483 : (Cond.static ({ cls := "java/lang/Math", name := "max", desc := "(II)I" } : MethodName)) ∈ lw_g := lw_in 547 (by decide +kernel) rfl
theorem q_484 : (Cond.code ({ cls := "java/lang/Math", name := "max", desc := "(II)I" } : MethodName) prog_10_method_65_code (2 : Nat) (some FieldType.int)) ∈ lw_g := lw_in 548 (by decide +kernel) rfl
theorem q_485 : (Cond.methodLink "HexWorkbench$Contest" (46 : Nat) ({ cls := "HexWorkbench$Contest", name := "remember", desc := "(II)V" } : MethodName)) ∈ lw_g := lw_in 549 (by decide +kernel) rfl
theorem q_487 : (Cond.instanceMethod ({ cls := "HexWorkbench$Contest", name := "remember", desc := "(II)V" } : MethodName)) ∈ lw_g := lw_in 551 (by decide +kernel) rfl
theorem q_488 : (Cond.code ({ cls := "HexWorkbench$Contest", name := "remember", desc := "(II)V" } : MethodName) prog_3_method_11_code (4 : Nat) (none : Option FieldType)) ∈ lw_g := lw_in 552 (by decide +kernel) rfl
theorem q_489 : (Cond.methodLink "HexWorkbench" (190 : Nat) ({ cls := "HexWorkbench$Contest", name := "connects", desc := "(I)Z" } : MethodName)) ∈ lw_g := lw_in 553 (by decide +kernel) rfl
theorem q_490 : (Cond.methodLink "HexWorkbenchLaw" (118 : Nat) ({ cls := "HexWorkbench", name := "winningMoves", desc := "()J" } : MethodName)) ∈ lw_g := lw_in 554 (by decide +kernel) rfl
theorem q_491 : (Cond.instanceMethod ({ cls := "HexWorkbench", name := "winningMoves", desc := "()J" } : MethodName)) ∈ lw_g := lw_in 555 (by decide +kernel) rfl
theorem q_492 : (Cond.selects "HexWorkbench" ({ cls := "HexWorkbench", name := "winningMoves", desc := "()J" } : MethodName) ({ cls := "HexWorkbench", name := "winningMoves", desc := "()J" } : MethodName)) ∈ lw_g := lw_in 556 (by decide +kernel) rfl
theorem q_493 : (Cond.code ({ cls := "HexWorkbench", name := "winningMoves", desc := "()J" } : MethodName) prog_1_method_27_code (2 : Nat) (some FieldType.long)) ∈ lw_g := lw_in 557 (by decide +kernel) rfl
theorem q_494 : (Cond.methodLink "HexWorkbench" (204 : Nat) ({ cls := "HexWorkbench$Contest", name := "winningSpots", desc := "(JJZ)J" } : MethodName)) ∈ lw_g := lw_in 558 (by decide +kernel) rfl
theorem q_495 : (Cond.instanceMethod ({ cls := "HexWorkbench$Contest", name := "winningSpots", desc := "(JJZ)J" } : MethodName)) ∈ lw_g := lw_in 559 (by decide +kernel) rfl
theorem q_496 : (Cond.selects "HexWorkbench$Contest" ({ cls := "HexWorkbench$Contest", name := "winningSpots", desc := "(JJZ)J" } : MethodName) ({ cls := "HexWorkbench$Contest", name := "winningSpots", desc := "(JJZ)J" } : MethodName)) ∈ lw_g := lw_in 560 (by decide +kernel) rfl
theorem q_497 : (Cond.code ({ cls := "HexWorkbench$Contest", name := "winningSpots", desc := "(JJZ)J" } : MethodName) prog_3_method_9_code (13 : Nat) (some FieldType.long)) ∈ lw_g := lw_in 561 (by decide +kernel) rfl
theorem q_498 : (Cond.methodLink "HexWorkbench$Contest" (73 : Nat) ({ cls := "HexWorkbench$Contest", name := "result", desc := "(JJZ)I" } : MethodName)) ∈ lw_g := lw_in 562 (by decide +kernel) rfl
theorem q_499 : (Cond.methodLink "HexWorkbench$Contest" (77 : Nat) ({ cls := "HexWorkbench$Contest", name := "length", desc := "(I)I" } : MethodName)) ∈ lw_g := lw_in 563 (by decide +kernel) rfl
theorem q_500 : (Cond.static ({ cls := "HexWorkbench$Contest", name := "length", desc := "(I)I" } : MethodName)) ∈ lw_g := lw_in 564 (by decide +kernel) rfl
theorem q_501 : (Cond.code ({ cls := "HexWorkbench$Contest", name := "length", desc := "(I)I" } : MethodName) prog_3_method_3_code (1 : Nat) (some FieldType.int)) ∈ lw_g := lw_in 565 (by decide +kernel) rfl
theorem q_502 : (Cond.methodLink "HexWorkbenchLaw" (122 : Nat) ({ cls := "HexWorkbench", name := "duration", desc := "()I" } : MethodName)) ∈ lw_g := lw_in 566 (by decide +kernel) rfl
theorem q_503 : (Cond.instanceMethod ({ cls := "HexWorkbench", name := "duration", desc := "()I" } : MethodName)) ∈ lw_g := lw_in 567 (by decide +kernel) rfl
theorem q_504 : (Cond.selects "HexWorkbench" ({ cls := "HexWorkbench", name := "duration", desc := "()I" } : MethodName) ({ cls := "HexWorkbench", name := "duration", desc := "()I" } : MethodName)) ∈ lw_g := lw_in 568 (by decide +kernel) rfl
theorem q_505 : (Cond.code ({ cls := "HexWorkbench", name := "duration", desc := "()I" } : MethodName) prog_1_method_28_code (1 : Nat) (some FieldType.int)) ∈ lw_g := lw_in 569 (by decide +kernel) rfl
theorem q_506 : (Cond.methodLink "HexWorkbench" (208 : Nat) ({ cls := "HexWorkbench$Contest", name := "length", desc := "(I)I" } : MethodName)) ∈ lw_g := lw_in 570 (by decide +kernel) rfl
theorem q_507 : (Cond.methodLink "HexWorkbenchLaw" (126 : Nat) ({ cls := "HexWorkbench", name := "winningOpenings", desc := "(I)J" } : MethodName)) ∈ lw_g := lw_in 571 (by decide +kernel) rfl
theorem q_508 : (Cond.instanceMethod ({ cls := "HexWorkbench", name := "winningOpenings", desc := "(I)J" } : MethodName)) ∈ lw_g := lw_in 572 (by decide +kernel) rfl
theorem q_509 : (Cond.selects "HexWorkbench" ({ cls := "HexWorkbench", name := "winningOpenings", desc := "(I)J" } : MethodName) ({ cls := "HexWorkbench", name := "winningOpenings", desc := "(I)J" } : MethodName)) ∈ lw_g := lw_in 573 (by decide +kernel) rfl
theorem q_510 : (Cond.code ({ cls := "HexWorkbench", name := "winningOpenings", desc := "(I)J" } : MethodName) prog_1_method_29_code (3 : Nat) (some FieldType.long)) ∈ lw_g := lw_in 574 (by decide +kernel) rfl
theorem q_511 : (Cond.constantLong "HexWorkbench" (211 : Nat) (-12 : Int64)) ∈ lw_g := lw_in 575 (by decide +kernel) rfl
theorem q_512 : (Cond.methodLink "HexWorkbenchLaw" (132 : Nat) ({ cls := "HexWorkbench", name := "strength", desc := "(IIIJ)I" } : MethodName)) ∈ lw_g := lw_in 576 (by decide +kernel) rfl
theorem q_513 : (Cond.instanceMethod ({ cls := "HexWorkbench", name := "strength", desc := "(IIIJ)I" } : MethodName)) ∈ lw_g := lw_in 577 (by decide +kernel) rfl
theorem q_514 : (Cond.selects "HexWorkbench" ({ cls := "HexWorkbench", name := "strength", desc := "(IIIJ)I" } : MethodName) ({ cls := "HexWorkbench", name := "strength", desc := "(IIIJ)I" } : MethodName)) ∈ lw_g := lw_in 578 (by decide +kernel) rfl
theorem q_515 : (Cond.code ({ cls := "HexWorkbench", name := "strength", desc := "(IIIJ)I" } : MethodName) prog_1_method_30_code (7 : Nat) (some FieldType.int)) ∈ lw_g := lw_in 579 (by decide +kernel) rfl
theorem q_516 : (Cond.methodLink "HexWorkbench" (216 : Nat) ({ cls := "HexWorkbench", name := "regionError", desc := "(IIIJI)I" } : MethodName)) ∈ lw_g := lw_in 580 (by decide +kernel) rfl
theorem q_518 : (Cond.instanceMethod ({ cls := "HexWorkbench", name := "regionError", desc := "(IIIJI)I" } : MethodName)) ∈ lw_g := lw_in 582 (by decide +kernel) rfl
theorem q_519 : (Cond.code ({ cls := "HexWorkbench", name := "regionError", desc := "(IIIJI)I" } : MethodName) prog_1_method_56_code (7 : Nat) (some FieldType.int)) ∈ lw_g := lw_in 583 (by decide +kernel) rfl
theorem q_520 : (Cond.methodLink "HexWorkbench" (311 : Nat) ({ cls := "HexWorkbench", name := "isPlace", desc := "(I)Z" } : MethodName)) ∈ lw_g := lw_in 584 (by decide +kernel) rfl
theorem q_522 : (Cond.instanceMethod ({ cls := "HexWorkbench", name := "isPlace", desc := "(I)Z" } : MethodName)) ∈ lw_g := lw_in 586 (by decide +kernel) rfl
theorem q_523 : (Cond.code ({ cls := "HexWorkbench", name := "isPlace", desc := "(I)Z" } : MethodName) prog_1_method_55_code (2 : Nat) (some FieldType.boolean)) ∈ lw_g := lw_in 587 (by decide +kernel) rfl
theorem q_524 : (Cond.methodLink "HexWorkbench" (220 : Nat) ({ cls := "HexWorkbench", name := "canConnect", desc := "(IIIJZ)Z" } : MethodName)) ∈ lw_g := lw_in 588 (by decide +kernel) rfl
theorem q_526 : (Cond.instanceMethod ({ cls := "HexWorkbench", name := "canConnect", desc := "(IIIJZ)Z" } : MethodName)) ∈ lw_g := lw_in 590 (by decide +kernel) rfl
theorem q_527 : (Cond.code ({ cls := "HexWorkbench", name := "canConnect", desc := "(IIIJZ)Z" } : MethodName) prog_1_method_57_code (8 : Nat) (some FieldType.boolean)) ∈ lw_g := lw_in 591 (by decide +kernel) rfl
theorem q_528 : (Cond.methodLink "HexWorkbench" (314 : Nat) ({ cls := "HexWorkbench$Board", name := "cellsOf", desc := "(I)J" } : MethodName)) ∈ lw_g := lw_in 592 (by decide +kernel) rfl
theorem q_529 : (Cond.instanceMethod ({ cls := "HexWorkbench$Board", name := "cellsOf", desc := "(I)J" } : MethodName)) ∈ lw_g := lw_in 593 (by decide +kernel) rfl
theorem q_530 : (Cond.selects "HexWorkbench$Board" ({ cls := "HexWorkbench$Board", name := "cellsOf", desc := "(I)J" } : MethodName) ({ cls := "HexWorkbench$Board", name := "cellsOf", desc := "(I)J" } : MethodName)) ∈ lw_g := lw_in 594 (by decide +kernel) rfl
theorem q_531 : (Cond.code ({ cls := "HexWorkbench$Board", name := "cellsOf", desc := "(I)J" } : MethodName) prog_2_method_8_code (2 : Nat) (some FieldType.long)) ∈ lw_g := lw_in 595 (by decide +kernel) rfl
theorem q_532 : (Cond.methodLink "HexWorkbenchLaw" (137 : Nat) ({ cls := "HexWorkbench", name := "smallestFull", desc := "(IIIJ)I" } : MethodName)) ∈ lw_g := lw_in 596 (by decide +kernel) rfl
theorem q_533 : (Cond.instanceMethod ({ cls := "HexWorkbench", name := "smallestFull", desc := "(IIIJ)I" } : MethodName)) ∈ lw_g := lw_in 597 (by decide +kernel) rfl
theorem q_534 : (Cond.selects "HexWorkbench" ({ cls := "HexWorkbench", name := "smallestFull", desc := "(IIIJ)I" } : MethodName) ({ cls := "HexWorkbench", name := "smallestFull", desc := "(IIIJ)I" } : MethodName)) ∈ lw_g := lw_in 598 (by decide +kernel) rfl
theorem q_535 : (Cond.code ({ cls := "HexWorkbench", name := "smallestFull", desc := "(IIIJ)I" } : MethodName) prog_1_method_31_code (13 : Nat) (some FieldType.int)) ∈ lw_g := lw_in 599 (by decide +kernel) rfl
theorem q_536 : (Cond.methodLink "HexWorkbench" (224 : Nat) ({ cls := "HexWorkbench", name := "nextSubset", desc := "(JJ)J" } : MethodName)) ∈ lw_g := lw_in 600 (by decide +kernel) rfl
theorem q_537 : (Cond.methodLink "HexWorkbenchLaw" (141 : Nat) ({ cls := "HexWorkbench", name := "addThreat", desc := "(IJ)I" } : MethodName)) ∈ lw_g := lw_in 601 (by decide +kernel) rfl
theorem q_538 : (Cond.instanceMethod ({ cls := "HexWorkbench", name := "addThreat", desc := "(IJ)I" } : MethodName)) ∈ lw_g := lw_in 602 (by decide +kernel) rfl
theorem q_539 : (Cond.selects "HexWorkbench" ({ cls := "HexWorkbench", name := "addThreat", desc := "(IJ)I" } : MethodName) ({ cls := "HexWorkbench", name := "addThreat", desc := "(IJ)I" } : MethodName)) ∈ lw_g := lw_in 603 (by decide +kernel) rfl
theorem q_540 : (Cond.code ({ cls := "HexWorkbench", name := "addThreat", desc := "(IJ)I" } : MethodName) prog_1_method_32_code (7 : Nat) (some FieldType.int)) ∈ lw_g := lw_in 604 (by decide +kernel) rfl
theorem q_541 : (Cond.methodLink "HexWorkbenchLaw" (146 : Nat) ({ cls := "HexWorkbench", name := "clearThreats", desc := "()I" } : MethodName)) ∈ lw_g := lw_in 605 (by decide +kernel) rfl
theorem q_542 : (Cond.instanceMethod ({ cls := "HexWorkbench", name := "clearThreats", desc := "()I" } : MethodName)) ∈ lw_g := lw_in 606 (by decide +kernel) rfl
theorem q_543 : (Cond.selects "HexWorkbench" ({ cls := "HexWorkbench", name := "clearThreats", desc := "()I" } : MethodName) ({ cls := "HexWorkbench", name := "clearThreats", desc := "()I" } : MethodName)) ∈ lw_g := lw_in 607 (by decide +kernel) rfl
theorem q_544 : (Cond.code ({ cls := "HexWorkbench", name := "clearThreats", desc := "()I" } : MethodName) prog_1_method_33_code (2 : Nat) (some FieldType.int)) ∈ lw_g := lw_in 608 (by decide +kernel) rfl
theorem q_545 : (Cond.methodLink "HexWorkbenchLaw" (150 : Nat) ({ cls := "HexWorkbench", name := "threats", desc := "(I)I" } : MethodName)) ∈ lw_g := lw_in 609 (by decide +kernel) rfl
theorem q_546 : (Cond.instanceMethod ({ cls := "HexWorkbench", name := "threats", desc := "(I)I" } : MethodName)) ∈ lw_g := lw_in 610 (by decide +kernel) rfl
theorem q_547 : (Cond.selects "HexWorkbench" ({ cls := "HexWorkbench", name := "threats", desc := "(I)I" } : MethodName) ({ cls := "HexWorkbench", name := "threats", desc := "(I)I" } : MethodName)) ∈ lw_g := lw_in 611 (by decide +kernel) rfl
theorem q_548 : (Cond.code ({ cls := "HexWorkbench", name := "threats", desc := "(I)I" } : MethodName) prog_1_method_34_code (4 : Nat) (some FieldType.int)) ∈ lw_g := lw_in 612 (by decide +kernel) rfl
theorem q_549 : (Cond.methodLink "HexWorkbench" (227 : Nat) ({ cls := "HexWorkbench", name := "isValidThreat", desc := "(II)Z" } : MethodName)) ∈ lw_g := lw_in 613 (by decide +kernel) rfl
theorem q_551 : (Cond.instanceMethod ({ cls := "HexWorkbench", name := "isValidThreat", desc := "(II)Z" } : MethodName)) ∈ lw_g := lw_in 615 (by decide +kernel) rfl
theorem q_552 : (Cond.code ({ cls := "HexWorkbench", name := "isValidThreat", desc := "(II)Z" } : MethodName) prog_1_method_58_code (3 : Nat) (some FieldType.boolean)) ∈ lw_g := lw_in 616 (by decide +kernel) rfl
theorem q_553 : (Cond.methodLink "HexWorkbenchLaw" (154 : Nat) ({ cls := "HexWorkbench", name := "needed", desc := "(I)J" } : MethodName)) ∈ lw_g := lw_in 617 (by decide +kernel) rfl
theorem q_554 : (Cond.instanceMethod ({ cls := "HexWorkbench", name := "needed", desc := "(I)J" } : MethodName)) ∈ lw_g := lw_in 618 (by decide +kernel) rfl
theorem q_555 : (Cond.selects "HexWorkbench" ({ cls := "HexWorkbench", name := "needed", desc := "(I)J" } : MethodName) ({ cls := "HexWorkbench", name := "needed", desc := "(I)J" } : MethodName)) ∈ lw_g := lw_in 619 (by decide +kernel) rfl
theorem q_556 : (Cond.code ({ cls := "HexWorkbench", name := "needed", desc := "(I)J" } : MethodName) prog_1_method_35_code (6 : Nat) (some FieldType.long)) ∈ lw_g := lw_in 620 (by decide +kernel) rfl
theorem q_557 : (Cond.constantLong "HexWorkbench" (231 : Nat) (-15 : Int64)) ∈ lw_g := lw_in 621 (by decide +kernel) rfl
theorem q_558 : (Cond.methodLink "HexWorkbenchLaw" (158 : Nat) ({ cls := "HexWorkbench", name := "randomGames", desc := "(II)I" } : MethodName)) ∈ lw_g := lw_in 622 (by decide +kernel) rfl
theorem q_559 : (Cond.instanceMethod ({ cls := "HexWorkbench", name := "randomGames", desc := "(II)I" } : MethodName)) ∈ lw_g := lw_in 623 (by decide +kernel) rfl
theorem q_560 : (Cond.selects "HexWorkbench" ({ cls := "HexWorkbench", name := "randomGames", desc := "(II)I" } : MethodName) ({ cls := "HexWorkbench", name := "randomGames", desc := "(II)I" } : MethodName)) ∈ lw_g := lw_in 624 (by decide +kernel) rfl
theorem q_561 : (Cond.code ({ cls := "HexWorkbench", name := "randomGames", desc := "(II)I" } : MethodName) prog_1_method_36_code (16 : Nat) (some FieldType.int)) ∈ lw_g := lw_in 625 (by decide +kernel) rfl
theorem q_562 : (Cond.constantLong "HexWorkbench" (233 : Nat) (1103515245 : Int64)) ∈ lw_g := lw_in 626 (by decide +kernel) rfl
theorem q_563 : (Cond.constantLong "HexWorkbench" (235 : Nat) (12345 : Int64)) ∈ lw_g := lw_in 627 (by decide +kernel) rfl
theorem q_564 : (Cond.constantLong "HexWorkbench" (237 : Nat) (2147483648 : Int64)) ∈ lw_g := lw_in 628 (by decide +kernel) rfl
theorem q_565 : (Cond.constantLong "HexWorkbench" (239 : Nat) (65536 : Int64)) ∈ lw_g := lw_in 629 (by decide +kernel) rfl
theorem q_566 : (Cond.methodLink "HexWorkbench" (241 : Nat) ({ cls := "HexWorkbench", name := "cellWithNumber", desc := "(JI)J" } : MethodName)) ∈ lw_g := lw_in 630 (by decide +kernel) rfl
theorem q_567 : (Cond.static ({ cls := "HexWorkbench", name := "cellWithNumber", desc := "(JI)J" } : MethodName)) ∈ lw_g := lw_in 631 (by decide +kernel) rfl
theorem q_568 : (Cond.code ({ cls := "HexWorkbench", name := "cellWithNumber", desc := "(JI)J" } : MethodName) prog_1_method_48_code (6 : Nat) (some FieldType.long)) ∈ lw_g := lw_in 632 (by decide +kernel) rfl
theorem q_569 : (Cond.methodLink "HexWorkbench" (245 : Nat) ({ cls := "HexWorkbench$Board", name := "linked", desc := "(JJJ)Z" } : MethodName)) ∈ lw_g := lw_in 633 (by decide +kernel) rfl
theorem q_570 : (Cond.methodLink "HexWorkbenchLaw" (163 : Nat) ({ cls := "HexWorkbench", name := "append", desc := "(I)I" } : MethodName)) ∈ lw_g := lw_in 634 (by decide +kernel) rfl
theorem q_571 : (Cond.instanceMethod ({ cls := "HexWorkbench", name := "append", desc := "(I)I" } : MethodName)) ∈ lw_g := lw_in 635 (by decide +kernel) rfl
theorem q_572 : (Cond.selects "HexWorkbench" ({ cls := "HexWorkbench", name := "append", desc := "(I)I" } : MethodName) ({ cls := "HexWorkbench", name := "append", desc := "(I)I" } : MethodName)) ∈ lw_g := lw_in 636 (by decide +kernel) rfl
theorem q_573 : (Cond.code ({ cls := "HexWorkbench", name := "append", desc := "(I)I" } : MethodName) prog_1_method_37_code (2 : Nat) (some FieldType.int)) ∈ lw_g := lw_in 637 (by decide +kernel) rfl
theorem q_574 : (Cond.methodLink "HexWorkbenchLaw" (167 : Nat) ({ cls := "HexWorkbench", name := "clearText", desc := "()I" } : MethodName)) ∈ lw_g := lw_in 638 (by decide +kernel) rfl
theorem q_575 : (Cond.instanceMethod ({ cls := "HexWorkbench", name := "clearText", desc := "()I" } : MethodName)) ∈ lw_g := lw_in 639 (by decide +kernel) rfl
theorem q_576 : (Cond.selects "HexWorkbench" ({ cls := "HexWorkbench", name := "clearText", desc := "()I" } : MethodName) ({ cls := "HexWorkbench", name := "clearText", desc := "()I" } : MethodName)) ∈ lw_g := lw_in 640 (by decide +kernel) rfl
theorem q_577 : (Cond.code ({ cls := "HexWorkbench", name := "clearText", desc := "()I" } : MethodName) prog_1_method_38_code (2 : Nat) (some FieldType.int)) ∈ lw_g := lw_in 641 (by decide +kernel) rfl
theorem q_578 : (Cond.methodLink "HexWorkbenchLaw" (171 : Nat) ({ cls := "HexWorkbench", name := "faultPosition", desc := "()I" } : MethodName)) ∈ lw_g := lw_in 642 (by decide +kernel) rfl
theorem q_579 : (Cond.instanceMethod ({ cls := "HexWorkbench", name := "faultPosition", desc := "()I" } : MethodName)) ∈ lw_g := lw_in 643 (by decide +kernel) rfl
theorem q_580 : (Cond.selects "HexWorkbench" ({ cls := "HexWorkbench", name := "faultPosition", desc := "()I" } : MethodName) ({ cls := "HexWorkbench", name := "faultPosition", desc := "()I" } : MethodName)) ∈ lw_g := lw_in 644 (by decide +kernel) rfl
theorem q_581 : (Cond.code ({ cls := "HexWorkbench", name := "faultPosition", desc := "()I" } : MethodName) prog_1_method_39_code (1 : Nat) (some FieldType.int)) ∈ lw_g := lw_in 645 (by decide +kernel) rfl
theorem q_582 : (Cond.methodLink "HexWorkbench" (252 : Nat) ({ cls := "HexWorkbench", name := "tryText", desc := "()I" } : MethodName)) ∈ lw_g := lw_in 646 (by decide +kernel) rfl
theorem q_584 : (Cond.instanceMethod ({ cls := "HexWorkbench", name := "tryText", desc := "()I" } : MethodName)) ∈ lw_g := lw_in 648 (by decide +kernel) rfl
theorem q_585 : (Cond.code ({ cls := "HexWorkbench", name := "tryText", desc := "()I" } : MethodName) prog_1_method_59_code (5 : Nat) (some FieldType.int)) ∈ lw_g := lw_in 649 (by decide +kernel) rfl
theorem q_586 : (Cond.methodLink "HexWorkbench" (317 : Nat) ({ cls := "HexWorkbench", name := "moveLength", desc := "(I)I" } : MethodName)) ∈ lw_g := lw_in 650 (by decide +kernel) rfl
theorem q_588 : (Cond.instanceMethod ({ cls := "HexWorkbench", name := "moveLength", desc := "(I)I" } : MethodName)) ∈ lw_g := lw_in 652 (by decide +kernel) rfl
theorem q_589 : (Cond.code ({ cls := "HexWorkbench", name := "moveLength", desc := "(I)I" } : MethodName) prog_1_method_61_code (2 : Nat) (some FieldType.int)) ∈ lw_g := lw_in 653 (by decide +kernel) rfl
theorem q_590 : (Cond.methodLink "HexWorkbench" (327 : Nat) ({ cls := "HexWorkbench", name := "letterAt", desc := "(I)I" } : MethodName)) ∈ lw_g := lw_in 654 (by decide +kernel) rfl
theorem q_592 : (Cond.instanceMethod ({ cls := "HexWorkbench", name := "letterAt", desc := "(I)I" } : MethodName)) ∈ lw_g := lw_in 656 (by decide +kernel) rfl
theorem q_593 : (Cond.code ({ cls := "HexWorkbench", name := "letterAt", desc := "(I)I" } : MethodName) prog_1_method_60_code (2 : Nat) (some FieldType.int)) ∈ lw_g := lw_in 657 (by decide +kernel) rfl
theorem q_594 : (Cond.methodLink "HexWorkbench" (320 : Nat) ({ cls := "HexWorkbench", name := "faultOfMove", desc := "(II)I" } : MethodName)) ∈ lw_g := lw_in 658 (by decide +kernel) rfl
theorem q_596 : (Cond.instanceMethod ({ cls := "HexWorkbench", name := "faultOfMove", desc := "(II)I" } : MethodName)) ∈ lw_g := lw_in 660 (by decide +kernel) rfl
theorem q_597 : (Cond.code ({ cls := "HexWorkbench", name := "faultOfMove", desc := "(II)I" } : MethodName) prog_1_method_63_code (4 : Nat) (some FieldType.int)) ∈ lw_g := lw_in 661 (by decide +kernel) rfl
theorem q_598 : (Cond.methodLink "HexWorkbench" (324 : Nat) ({ cls := "HexWorkbench", name := "cellAt", desc := "(I)I" } : MethodName)) ∈ lw_g := lw_in 662 (by decide +kernel) rfl
theorem q_600 : (Cond.instanceMethod ({ cls := "HexWorkbench", name := "cellAt", desc := "(I)I" } : MethodName)) ∈ lw_g := lw_in 664 (by decide +kernel) rfl
theorem q_601 : (Cond.code ({ cls := "HexWorkbench", name := "cellAt", desc := "(I)I" } : MethodName) prog_1_method_62_code (2 : Nat) (some FieldType.int)) ∈ lw_g := lw_in 665 (by decide +kernel) rfl
theorem q_602 : (Cond.methodLink "HexWorkbenchLaw" (175 : Nat) ({ cls := "HexWorkbench", name := "read", desc := "()I" } : MethodName)) ∈ lw_g := lw_in 666 (by decide +kernel) rfl
theorem q_603 : (Cond.instanceMethod ({ cls := "HexWorkbench", name := "read", desc := "()I" } : MethodName)) ∈ lw_g := lw_in 667 (by decide +kernel) rfl
theorem q_604 : (Cond.selects "HexWorkbench" ({ cls := "HexWorkbench", name := "read", desc := "()I" } : MethodName) ({ cls := "HexWorkbench", name := "read", desc := "()I" } : MethodName)) ∈ lw_g := lw_in 668 (by decide +kernel) rfl
theorem q_605 : (Cond.code ({ cls := "HexWorkbench", name := "read", desc := "()I" } : MethodName) prog_1_method_40_code (1 : Nat) (some FieldType.int)) ∈ lw_g := lw_in 669 (by decide +kernel) rfl
theorem q_606 : (Cond.methodLink "HexWorkbench" (255 : Nat) ({ cls := "HexWorkbench$Game", name := "copyFrom", desc := "(LHexWorkbench$Game;)V" } : MethodName)) ∈ lw_g := lw_in 670 (by decide +kernel) rfl
theorem q_607 : (Cond.instanceMethod ({ cls := "HexWorkbench$Game", name := "copyFrom", desc := "(LHexWorkbench$Game;)V" } : MethodName)) ∈ lw_g := lw_in 671 (by decide +kernel) rfl
theorem q_608 : (Cond.selects "HexWorkbench$Game" ({ cls := "HexWorkbench$Game", name := "copyFrom", desc := "(LHexWorkbench$Game;)V" } : MethodName) ({ cls := "HexWorkbench$Game", name := "copyFrom", desc := "(LHexWorkbench$Game;)V" } : MethodName)) ∈ lw_g := lw_in 672 (by decide +kernel) rfl
theorem q_609 : (Cond.code ({ cls := "HexWorkbench$Game", name := "copyFrom", desc := "(LHexWorkbench$Game;)V" } : MethodName) prog_5_method_3_code (3 : Nat) (none : Option FieldType)) ∈ lw_g := lw_in 673 (by decide +kernel) rfl
theorem q_610 : (Cond.methodLink "HexWorkbenchLaw" (179 : Nat) ({ cls := "HexWorkbench", name := "save", desc := "(I)I" } : MethodName)) ∈ lw_g := lw_in 674 (by decide +kernel) rfl
theorem q_611 : (Cond.instanceMethod ({ cls := "HexWorkbench", name := "save", desc := "(I)I" } : MethodName)) ∈ lw_g := lw_in 675 (by decide +kernel) rfl
theorem q_612 : (Cond.selects "HexWorkbench" ({ cls := "HexWorkbench", name := "save", desc := "(I)I" } : MethodName) ({ cls := "HexWorkbench", name := "save", desc := "(I)I" } : MethodName)) ∈ lw_g := lw_in 676 (by decide +kernel) rfl
theorem q_613 : (Cond.code ({ cls := "HexWorkbench", name := "save", desc := "(I)I" } : MethodName) prog_1_method_41_code (3 : Nat) (some FieldType.int)) ∈ lw_g := lw_in 677 (by decide +kernel) rfl
theorem q_614 : (Cond.methodLink "HexWorkbenchLaw" (183 : Nat) ({ cls := "HexWorkbench", name := "restore", desc := "(I)I" } : MethodName)) ∈ lw_g := lw_in 678 (by decide +kernel) rfl
theorem q_615 : (Cond.instanceMethod ({ cls := "HexWorkbench", name := "restore", desc := "(I)I" } : MethodName)) ∈ lw_g := lw_in 679 (by decide +kernel) rfl
theorem q_616 : (Cond.selects "HexWorkbench" ({ cls := "HexWorkbench", name := "restore", desc := "(I)I" } : MethodName) ({ cls := "HexWorkbench", name := "restore", desc := "(I)I" } : MethodName)) ∈ lw_g := lw_in 680 (by decide +kernel) rfl
theorem q_617 : (Cond.code ({ cls := "HexWorkbench", name := "restore", desc := "(I)I" } : MethodName) prog_1_method_42_code (3 : Nat) (some FieldType.int)) ∈ lw_g := lw_in 681 (by decide +kernel) rfl
theorem q_618 : (Cond.methodLink "HexWorkbenchLaw" (187 : Nat) ({ cls := "HexWorkbench", name := "checksum", desc := "()J" } : MethodName)) ∈ lw_g := lw_in 682 (by decide +kernel) rfl
theorem q_619 : (Cond.instanceMethod ({ cls := "HexWorkbench", name := "checksum", desc := "()J" } : MethodName)) ∈ lw_g := lw_in 683 (by decide +kernel) rfl
theorem q_620 : (Cond.selects "HexWorkbench" ({ cls := "HexWorkbench", name := "checksum", desc := "()J" } : MethodName) ({ cls := "HexWorkbench", name := "checksum", desc := "()J" } : MethodName)) ∈ lw_g := lw_in 684 (by decide +kernel) rfl
theorem q_621 : (Cond.code ({ cls := "HexWorkbench", name := "checksum", desc := "()J" } : MethodName) prog_1_method_43_code (4 : Nat) (some FieldType.long)) ∈ lw_g := lw_in 685 (by decide +kernel) rfl
theorem q_622 : (Cond.constantLong "HexWorkbench" (258 : Nat) (37 : Int64)) ∈ lw_g := lw_in 686 (by decide +kernel) rfl
theorem q_623 : (Cond.constantLong "HexWorkbench" (260 : Nat) (31 : Int64)) ∈ lw_g := lw_in 687 (by decide +kernel) rfl
theorem q_624 : (Cond.methodLink "HexWorkbench" (262 : Nat) ({ cls := "HexWorkbench", name := "rows", desc := "()I" } : MethodName)) ∈ lw_g := lw_in 688 (by decide +kernel) rfl
theorem q_625 : (Cond.methodLink "HexWorkbench" (265 : Nat) ({ cls := "HexWorkbench", name := "moves", desc := "()I" } : MethodName)) ∈ lw_g := lw_in 689 (by decide +kernel) rfl
theorem q_626 : (Cond.methodLink "HexWorkbench" (268 : Nat) ({ cls := "HexWorkbench", name := "moveAt", desc := "(I)I" } : MethodName)) ∈ lw_g := lw_in 690 (by decide +kernel) rfl
theorem q_627 : (Cond.methodLink "HexWorkbench" (271 : Nat) ({ cls := "HexWorkbench", name := "winner", desc := "()I" } : MethodName)) ∈ lw_g := lw_in 691 (by decide +kernel) rfl
theorem q_628 : (Cond.methodLink "HexWorkbench" (274 : Nat) ({ cls := "HexWorkbench", name := "stones", desc := "(I)J" } : MethodName)) ∈ lw_g := lw_in 692 (by decide +kernel) rfl
theorem q_629 : (Cond.methodLink "HexWorkbench" (277 : Nat) ({ cls := "HexWorkbench", name := "chains", desc := "(I)I" } : MethodName)) ∈ lw_g := lw_in 693 (by decide +kernel) rfl
theorem q_630 : (Cond.methodLink "HexWorkbench" (280 : Nat) ({ cls := "HexWorkbench", name := "distance", desc := "(I)I" } : MethodName)) ∈ lw_g := lw_in 694 (by decide +kernel) rfl
theorem q_631 : (Cond.methodLink "HexWorkbench" (283 : Nat) ({ cls := "HexWorkbench", name := "shortest", desc := "(I)J" } : MethodName)) ∈ lw_g := lw_in 695 (by decide +kernel) rfl
theorem q_632 : (Cond.methodLink "HexWorkbench" (286 : Nat) ({ cls := "HexWorkbench", name := "cut", desc := "(I)I" } : MethodName)) ∈ lw_g := lw_in 696 (by decide +kernel) rfl
theorem q_633 : (Cond.methodLink "HexWorkbench" (289 : Nat) ({ cls := "HexWorkbench", name := "bridges", desc := "(I)I" } : MethodName)) ∈ lw_g := lw_in 697 (by decide +kernel) rfl
theorem q_634 : (Cond.methodLink "HexWorkbench" (292 : Nat) ({ cls := "HexWorkbench", name := "threats", desc := "(I)I" } : MethodName)) ∈ lw_g := lw_in 698 (by decide +kernel) rfl
theorem q_635 : (Cond.methodLink "HexWorkbench" (295 : Nat) ({ cls := "HexWorkbench", name := "needed", desc := "(I)J" } : MethodName)) ∈ lw_g := lw_in 699 (by decide +kernel) rfl
theorem q_636 : (Cond.methodLink "HexWorkbench" (298 : Nat) ({ cls := "HexWorkbench", name := "answers", desc := "()J" } : MethodName)) ∈ lw_g := lw_in 700 (by decide +kernel) rfl
theorem q_637 : (Cond.classLink "HexWorkbenchLaw" (10 : Nat) "HexWorkbenchModel") ∈ lw_g := lw_in 701 (by decide +kernel) rfl
theorem q_638 : (Cond.instantiable "HexWorkbenchModel" (24 : Nat)) ∈ lw_g := lw_in 702 (by decide +kernel) rfl
theorem q_639 : (Cond.methodLink "HexWorkbenchLaw" (12 : Nat) ({ cls := "HexWorkbenchModel", name := "<init>", desc := "()V" } : MethodName)) ∈ lw_g := lw_in 703 (by decide +kernel) rfl
theorem q_640 : (Cond.instanceMethod ({ cls := "HexWorkbenchModel", name := "<init>", desc := "()V" } : MethodName)) ∈ lw_g := lw_in 704 (by decide +kernel) rfl
theorem q_641 : (Cond.code ({ cls := "HexWorkbenchModel", name := "<init>", desc := "()V" } : MethodName) prog_8_method_1_code (1 : Nat) (none : Option FieldType)) ∈ lw_g := lw_in 705 (by decide +kernel) rfl
theorem q_642 : (Cond.methodLink "HexWorkbenchModel" (1 : Nat) ({ cls := "java/lang/Object", name := "<init>", desc := "()V" } : MethodName)) ∈ lw_g := lw_in 706 (by decide +kernel) rfl
theorem q_643 : (Cond.methodLink "HexWorkbenchModel" (61 : Nat) ({ cls := "HexWorkbenchModel", name := "shapes", desc := "()V" } : MethodName)) ∈ lw_g := lw_in 707 (by decide +kernel) rfl
theorem q_645 : (Cond.instanceMethod ({ cls := "HexWorkbenchModel", name := "shapes", desc := "()V" } : MethodName)) ∈ lw_g := lw_in 709 (by decide +kernel) rfl
theorem q_646 : (Cond.code ({ cls := "HexWorkbenchModel", name := "shapes", desc := "()V" } : MethodName) prog_8_method_7_code (4 : Nat) (none : Option FieldType)) ∈ lw_g := lw_in 710 (by decide +kernel) rfl
theorem q_647 : (Cond.methodLink "HexWorkbenchModel" (68 : Nat) ({ cls := "HexWorkbenchModel", name := "joins", desc := "(III)V" } : MethodName)) ∈ lw_g := lw_in 711 (by decide +kernel) rfl
theorem q_649 : (Cond.instanceMethod ({ cls := "HexWorkbenchModel", name := "joins", desc := "(III)V" } : MethodName)) ∈ lw_g := lw_in 713 (by decide +kernel) rfl
theorem q_650 : (Cond.code ({ cls := "HexWorkbenchModel", name := "joins", desc := "(III)V" } : MethodName) prog_8_method_6_code (4 : Nat) (none : Option FieldType)) ∈ lw_g := lw_in 714 (by decide +kernel) rfl
theorem q_651 : (Cond.methodLink "HexWorkbenchModel" (64 : Nat) ({ cls := "HexWorkbenchModel", name := "in", desc := "(III)Z" } : MethodName)) ∈ lw_g := lw_in 715 (by decide +kernel) rfl
theorem q_652 : (Cond.static ({ cls := "HexWorkbenchModel", name := "in", desc := "(III)Z" } : MethodName)) ∈ lw_g := lw_in 716 (by decide +kernel) rfl
theorem q_653 : (Cond.code ({ cls := "HexWorkbenchModel", name := "in", desc := "(III)Z" } : MethodName) prog_8_method_3_code (3 : Nat) (some FieldType.boolean)) ∈ lw_g := lw_in 717 (by decide +kernel) rfl
theorem q_654 : (Cond.fieldLink "HexWorkbenchModel" (7 : Nat) "HexWorkbenchModel" "n" "I") ∈ lw_g := lw_in 718 (by decide +kernel) rfl
theorem q_655 : (Cond.fieldLink "HexWorkbenchModel" (13 : Nat) "HexWorkbenchModel" "game" "[I") ∈ lw_g := lw_in 719 (by decide +kernel) rfl
theorem q_656 : (Cond.fieldLink "HexWorkbenchModel" (112 : Nat) "HexWorkbenchModel" "all" "I") ∈ lw_g := lw_in 720 (by decide +kernel) rfl
theorem q_657 : (Cond.fieldLink "HexWorkbenchModel" (109 : Nat) "HexWorkbenchModel" "made" "I") ∈ lw_g := lw_in 721 (by decide +kernel) rfl
theorem q_658 : (Cond.fieldLink "HexWorkbenchModel" (76 : Nat) "HexWorkbenchModel" "own0" "J") ∈ lw_g := lw_in 722 (by decide +kernel) rfl
theorem q_659 : (Cond.fieldLink "HexWorkbenchModel" (82 : Nat) "HexWorkbenchModel" "own1" "J") ∈ lw_g := lw_in 723 (by decide +kernel) rfl
theorem q_660 : (Cond.fieldLink "HexWorkbenchModel" (17 : Nat) "HexWorkbenchModel" "near" "[J") ∈ lw_g := lw_in 724 (by decide +kernel) rfl
theorem q_661 : (Cond.fieldLink "HexWorkbenchModel" (21 : Nat) "HexWorkbenchModel" "kept" "[I") ∈ lw_g := lw_in 725 (by decide +kernel) rfl
theorem q_662 : (Cond.fieldLink "HexWorkbenchModel" (24 : Nat) "HexWorkbenchModel" "isKept" "[Z") ∈ lw_g := lw_in 726 (by decide +kernel) rfl
theorem q_663 : (Cond.fieldLink "HexWorkbenchModel" (28 : Nat) "HexWorkbenchModel" "threatOf" "[I") ∈ lw_g := lw_in 727 (by decide +kernel) rfl
theorem q_664 : (Cond.fieldLink "HexWorkbenchModel" (31 : Nat) "HexWorkbenchModel" "threatSet" "[J") ∈ lw_g := lw_in 728 (by decide +kernel) rfl
theorem q_665 : (Cond.fieldLink "HexWorkbenchModel" (119 : Nat) "HexWorkbenchModel" "threatMany" "I") ∈ lw_g := lw_in 729 (by decide +kernel) rfl
theorem q_666 : (Cond.fieldLink "HexWorkbenchModel" (34 : Nat) "HexWorkbenchModel" "text" "[I") ∈ lw_g := lw_in 730 (by decide +kernel) rfl
theorem q_667 : (Cond.fieldLink "HexWorkbenchModel" (260 : Nat) "HexWorkbenchModel" "length" "I") ∈ lw_g := lw_in 731 (by decide +kernel) rfl
theorem q_668 : (Cond.fieldLink "HexWorkbenchModel" (37 : Nat) "HexWorkbenchModel" "far" "[I") ∈ lw_g := lw_in 732 (by decide +kernel) rfl
theorem q_669 : (Cond.fieldLink "HexWorkbenchModel" (40 : Nat) "HexWorkbenchModel" "back" "[I") ∈ lw_g := lw_in 733 (by decide +kernel) rfl
theorem q_670 : (Cond.fieldLink "HexWorkbenchModel" (43 : Nat) "HexWorkbenchModel" "hole" "[I") ∈ lw_g := lw_in 734 (by decide +kernel) rfl
theorem q_671 : (Cond.fieldLink "HexWorkbenchModel" (177 : Nat) "HexWorkbenchModel" "holes" "I") ∈ lw_g := lw_in 735 (by decide +kernel) rfl
theorem q_672 : (Cond.fieldLink "HexWorkbenchModel" (46 : Nat) "HexWorkbenchModel" "isWon" "[Z") ∈ lw_g := lw_in 736 (by decide +kernel) rfl
theorem q_673 : (Cond.fieldLink "HexWorkbenchModel" (49 : Nat) "HexWorkbenchModel" "won" "[I") ∈ lw_g := lw_in 737 (by decide +kernel) rfl
theorem q_674 : (Cond.fieldLink "HexWorkbenchModel" (52 : Nat) "HexWorkbenchModel" "lasts" "[I") ∈ lw_g := lw_in 738 (by decide +kernel) rfl
theorem q_675 : (Cond.fieldLink "HexWorkbenchModel" (55 : Nat) "HexWorkbenchModel" "power" "[I") ∈ lw_g := lw_in 739 (by decide +kernel) rfl
theorem q_676 : (Cond.fieldLink "HexWorkbenchModel" (58 : Nat) "HexWorkbenchModel" "told" "[I") ∈ lw_g := lw_in 740 (by decide +kernel) rfl
theorem q_677 : (Cond.fieldLink "HexWorkbenchModel" (263 : Nat) "HexWorkbenchModel" "tellings" "I") ∈ lw_g := lw_in 741 (by decide +kernel) rfl
theorem q_727 : (Cond.arrayClass FieldType.boolean) ∈ lw_g := lw_in 791 (by decide +kernel) rfl
theorem q_728 : (Cond.methodLink "HexWorkbenchLaw" (17 : Nat) ({ cls := "HexWorkbenchModel", name := "begin", desc := "(I)I" } : MethodName)) ∈ lw_g := lw_in 792 (by decide +kernel) rfl
theorem q_729 : (Cond.instanceMethod ({ cls := "HexWorkbenchModel", name := "begin", desc := "(I)I" } : MethodName)) ∈ lw_g := lw_in 793 (by decide +kernel) rfl
theorem q_730 : (Cond.selects "HexWorkbenchModel" ({ cls := "HexWorkbenchModel", name := "begin", desc := "(I)I" } : MethodName) ({ cls := "HexWorkbenchModel", name := "begin", desc := "(I)I" } : MethodName)) ∈ lw_g := lw_in 794 (by decide +kernel) rfl
theorem q_731 : (Cond.code ({ cls := "HexWorkbenchModel", name := "begin", desc := "(I)I" } : MethodName) prog_8_method_21_code (3 : Nat) (some FieldType.int)) ∈ lw_g := lw_in 795 (by decide +kernel) rfl
theorem q_732 : (Cond.methodLink "HexWorkbenchModel" (115 : Nat) ({ cls := "HexWorkbenchModel", name := "goes", desc := "(I)V" } : MethodName)) ∈ lw_g := lw_in 796 (by decide +kernel) rfl
theorem q_734 : (Cond.instanceMethod ({ cls := "HexWorkbenchModel", name := "goes", desc := "(I)V" } : MethodName)) ∈ lw_g := lw_in 798 (by decide +kernel) rfl
theorem q_735 : (Cond.code ({ cls := "HexWorkbenchModel", name := "goes", desc := "(I)V" } : MethodName) prog_8_method_19_code (3 : Nat) (none : Option FieldType)) ∈ lw_g := lw_in 799 (by decide +kernel) rfl
theorem q_736 : (Cond.methodLink "HexWorkbenchModel" (105 : Nat) ({ cls := "HexWorkbenchModel", name := "lays", desc := "(II)V" } : MethodName)) ∈ lw_g := lw_in 800 (by decide +kernel) rfl
theorem q_738 : (Cond.instanceMethod ({ cls := "HexWorkbenchModel", name := "lays", desc := "(II)V" } : MethodName)) ∈ lw_g := lw_in 802 (by decide +kernel) rfl
theorem q_739 : (Cond.code ({ cls := "HexWorkbenchModel", name := "lays", desc := "(II)V" } : MethodName) prog_8_method_18_code (4 : Nat) (none : Option FieldType)) ∈ lw_g := lw_in 803 (by decide +kernel) rfl
theorem q_740 : (Cond.methodLink "HexWorkbenchLaw" (22 : Nat) ({ cls := "HexWorkbenchModel", name := "rows", desc := "()I" } : MethodName)) ∈ lw_g := lw_in 804 (by decide +kernel) rfl
theorem q_741 : (Cond.instanceMethod ({ cls := "HexWorkbenchModel", name := "rows", desc := "()I" } : MethodName)) ∈ lw_g := lw_in 805 (by decide +kernel) rfl
theorem q_742 : (Cond.selects "HexWorkbenchModel" ({ cls := "HexWorkbenchModel", name := "rows", desc := "()I" } : MethodName) ({ cls := "HexWorkbenchModel", name := "rows", desc := "()I" } : MethodName)) ∈ lw_g := lw_in 806 (by decide +kernel) rfl
theorem q_743 : (Cond.code ({ cls := "HexWorkbenchModel", name := "rows", desc := "()I" } : MethodName) prog_8_method_22_code (1 : Nat) (some FieldType.int)) ∈ lw_g := lw_in 807 (by decide +kernel) rfl
theorem q_744 : (Cond.methodLink "HexWorkbenchLaw" (26 : Nat) ({ cls := "HexWorkbenchModel", name := "play", desc := "(I)I" } : MethodName)) ∈ lw_g := lw_in 808 (by decide +kernel) rfl
theorem q_745 : (Cond.instanceMethod ({ cls := "HexWorkbenchModel", name := "play", desc := "(I)I" } : MethodName)) ∈ lw_g := lw_in 809 (by decide +kernel) rfl
theorem q_746 : (Cond.selects "HexWorkbenchModel" ({ cls := "HexWorkbenchModel", name := "play", desc := "(I)I" } : MethodName) ({ cls := "HexWorkbenchModel", name := "play", desc := "(I)I" } : MethodName)) ∈ lw_g := lw_in 810 (by decide +kernel) rfl
theorem q_747 : (Cond.code ({ cls := "HexWorkbenchModel", name := "play", desc := "(I)I" } : MethodName) prog_8_method_23_code (2 : Nat) (some FieldType.int)) ∈ lw_g := lw_in 811 (by decide +kernel) rfl
theorem q_748 : (Cond.methodLink "HexWorkbenchModel" (122 : Nat) ({ cls := "HexWorkbenchModel", name := "isCell", desc := "(I)Z" } : MethodName)) ∈ lw_g := lw_in 812 (by decide +kernel) rfl
theorem q_750 : (Cond.instanceMethod ({ cls := "HexWorkbenchModel", name := "isCell", desc := "(I)Z" } : MethodName)) ∈ lw_g := lw_in 814 (by decide +kernel) rfl
theorem q_751 : (Cond.code ({ cls := "HexWorkbenchModel", name := "isCell", desc := "(I)Z" } : MethodName) prog_8_method_11_code (2 : Nat) (some FieldType.boolean)) ∈ lw_g := lw_in 815 (by decide +kernel) rfl
theorem q_752 : (Cond.methodLink "HexWorkbenchModel" (126 : Nat) ({ cls := "HexWorkbenchModel", name := "free", desc := "()J" } : MethodName)) ∈ lw_g := lw_in 816 (by decide +kernel) rfl
theorem q_754 : (Cond.instanceMethod ({ cls := "HexWorkbenchModel", name := "free", desc := "()J" } : MethodName)) ∈ lw_g := lw_in 818 (by decide +kernel) rfl
theorem q_755 : (Cond.code ({ cls := "HexWorkbenchModel", name := "free", desc := "()J" } : MethodName) prog_8_method_9_code (1 : Nat) (some FieldType.long)) ∈ lw_g := lw_in 819 (by decide +kernel) rfl
theorem q_756 : (Cond.methodLink "HexWorkbenchModel" (72 : Nat) ({ cls := "HexWorkbenchModel", name := "cells", desc := "()J" } : MethodName)) ∈ lw_g := lw_in 820 (by decide +kernel) rfl
theorem q_758 : (Cond.instanceMethod ({ cls := "HexWorkbenchModel", name := "cells", desc := "()J" } : MethodName)) ∈ lw_g := lw_in 822 (by decide +kernel) rfl
theorem q_759 : (Cond.code ({ cls := "HexWorkbenchModel", name := "cells", desc := "()J" } : MethodName) prog_8_method_8_code (1 : Nat) (some FieldType.long)) ∈ lw_g := lw_in 823 (by decide +kernel) rfl
theorem q_760 : (Cond.constantLong "HexWorkbenchModel" (80 : Nat) (-1 : Int64)) ∈ lw_g := lw_in 824 (by decide +kernel) rfl
theorem q_761 : (Cond.methodLink "HexWorkbenchModel" (85 : Nat) ({ cls := "HexWorkbenchModel", name := "has", desc := "(JI)Z" } : MethodName)) ∈ lw_g := lw_in 825 (by decide +kernel) rfl
theorem q_762 : (Cond.static ({ cls := "HexWorkbenchModel", name := "has", desc := "(JI)Z" } : MethodName)) ∈ lw_g := lw_in 826 (by decide +kernel) rfl
theorem q_763 : (Cond.code ({ cls := "HexWorkbenchModel", name := "has", desc := "(JI)Z" } : MethodName) prog_8_method_4_code (3 : Nat) (some FieldType.boolean)) ∈ lw_g := lw_in 827 (by decide +kernel) rfl
theorem q_764 : (Cond.methodLink "HexWorkbenchModel" (129 : Nat) ({ cls := "HexWorkbenchModel", name := "winnerNow", desc := "()I" } : MethodName)) ∈ lw_g := lw_in 828 (by decide +kernel) rfl
theorem q_766 : (Cond.instanceMethod ({ cls := "HexWorkbenchModel", name := "winnerNow", desc := "()I" } : MethodName)) ∈ lw_g := lw_in 830 (by decide +kernel) rfl
theorem q_767 : (Cond.code ({ cls := "HexWorkbenchModel", name := "winnerNow", desc := "()I" } : MethodName) prog_8_method_17_code (1 : Nat) (some FieldType.int)) ∈ lw_g := lw_in 831 (by decide +kernel) rfl
theorem q_768 : (Cond.methodLink "HexWorkbenchModel" (101 : Nat) ({ cls := "HexWorkbenchModel", name := "wins", desc := "(IJ)Z" } : MethodName)) ∈ lw_g := lw_in 832 (by decide +kernel) rfl
theorem q_770 : (Cond.instanceMethod ({ cls := "HexWorkbenchModel", name := "wins", desc := "(IJ)Z" } : MethodName)) ∈ lw_g := lw_in 834 (by decide +kernel) rfl
theorem q_771 : (Cond.code ({ cls := "HexWorkbenchModel", name := "wins", desc := "(IJ)Z" } : MethodName) prog_8_method_16_code (4 : Nat) (some FieldType.boolean)) ∈ lw_g := lw_in 835 (by decide +kernel) rfl
theorem q_772 : (Cond.methodLink "HexWorkbenchModel" (93 : Nat) ({ cls := "HexWorkbenchModel", name := "edge", desc := "(I)J" } : MethodName)) ∈ lw_g := lw_in 836 (by decide +kernel) rfl
theorem q_774 : (Cond.instanceMethod ({ cls := "HexWorkbenchModel", name := "edge", desc := "(I)J" } : MethodName)) ∈ lw_g := lw_in 838 (by decide +kernel) rfl
theorem q_775 : (Cond.code ({ cls := "HexWorkbenchModel", name := "edge", desc := "(I)J" } : MethodName) prog_8_method_13_code (6 : Nat) (some FieldType.long)) ∈ lw_g := lw_in 839 (by decide +kernel) rfl
theorem q_776 : (Cond.methodLink "HexWorkbenchModel" (97 : Nat) ({ cls := "HexWorkbenchModel", name := "reach", desc := "(JJ)J" } : MethodName)) ∈ lw_g := lw_in 840 (by decide +kernel) rfl
theorem q_778 : (Cond.instanceMethod ({ cls := "HexWorkbenchModel", name := "reach", desc := "(JJ)J" } : MethodName)) ∈ lw_g := lw_in 842 (by decide +kernel) rfl
theorem q_779 : (Cond.code ({ cls := "HexWorkbenchModel", name := "reach", desc := "(JJ)J" } : MethodName) prog_8_method_15_code (9 : Nat) (some FieldType.long)) ∈ lw_g := lw_in 843 (by decide +kernel) rfl
theorem q_780 : (Cond.methodLink "HexWorkbenchModel" (89 : Nat) ({ cls := "HexWorkbenchModel", name := "around", desc := "(J)J" } : MethodName)) ∈ lw_g := lw_in 844 (by decide +kernel) rfl
theorem q_782 : (Cond.instanceMethod ({ cls := "HexWorkbenchModel", name := "around", desc := "(J)J" } : MethodName)) ∈ lw_g := lw_in 846 (by decide +kernel) rfl
theorem q_783 : (Cond.code ({ cls := "HexWorkbenchModel", name := "around", desc := "(J)J" } : MethodName) prog_8_method_14_code (6 : Nat) (some FieldType.long)) ∈ lw_g := lw_in 847 (by decide +kernel) rfl
theorem q_784 : (Cond.methodLink "HexWorkbenchModel" (133 : Nat) ({ cls := "HexWorkbenchModel", name := "adds", desc := "(I)V" } : MethodName)) ∈ lw_g := lw_in 848 (by decide +kernel) rfl
theorem q_786 : (Cond.instanceMethod ({ cls := "HexWorkbenchModel", name := "adds", desc := "(I)V" } : MethodName)) ∈ lw_g := lw_in 850 (by decide +kernel) rfl
theorem q_787 : (Cond.code ({ cls := "HexWorkbenchModel", name := "adds", desc := "(I)V" } : MethodName) prog_8_method_20_code (2 : Nat) (none : Option FieldType)) ∈ lw_g := lw_in 851 (by decide +kernel) rfl
theorem q_788 : (Cond.methodLink "HexWorkbenchLaw" (30 : Nat) ({ cls := "HexWorkbenchModel", name := "swap", desc := "()I" } : MethodName)) ∈ lw_g := lw_in 852 (by decide +kernel) rfl
theorem q_789 : (Cond.instanceMethod ({ cls := "HexWorkbenchModel", name := "swap", desc := "()I" } : MethodName)) ∈ lw_g := lw_in 853 (by decide +kernel) rfl
theorem q_790 : (Cond.selects "HexWorkbenchModel" ({ cls := "HexWorkbenchModel", name := "swap", desc := "()I" } : MethodName) ({ cls := "HexWorkbenchModel", name := "swap", desc := "()I" } : MethodName)) ∈ lw_g := lw_in 854 (by decide +kernel) rfl
theorem q_791 : (Cond.code ({ cls := "HexWorkbenchModel", name := "swap", desc := "()I" } : MethodName) prog_8_method_24_code (1 : Nat) (some FieldType.int)) ∈ lw_g := lw_in 855 (by decide +kernel) rfl
theorem q_792 : (Cond.methodLink "HexWorkbenchLaw" (34 : Nat) ({ cls := "HexWorkbenchModel", name := "takeBack", desc := "()I" } : MethodName)) ∈ lw_g := lw_in 856 (by decide +kernel) rfl
theorem q_793 : (Cond.instanceMethod ({ cls := "HexWorkbenchModel", name := "takeBack", desc := "()I" } : MethodName)) ∈ lw_g := lw_in 857 (by decide +kernel) rfl
theorem q_794 : (Cond.selects "HexWorkbenchModel" ({ cls := "HexWorkbenchModel", name := "takeBack", desc := "()I" } : MethodName) ({ cls := "HexWorkbenchModel", name := "takeBack", desc := "()I" } : MethodName)) ∈ lw_g := lw_in 858 (by decide +kernel) rfl
theorem q_795 : (Cond.code ({ cls := "HexWorkbenchModel", name := "takeBack", desc := "()I" } : MethodName) prog_8_method_25_code (1 : Nat) (some FieldType.int)) ∈ lw_g := lw_in 859 (by decide +kernel) rfl
theorem q_796 : (Cond.methodLink "HexWorkbenchLaw" (38 : Nat) ({ cls := "HexWorkbenchModel", name := "again", desc := "()I" } : MethodName)) ∈ lw_g := lw_in 860 (by decide +kernel) rfl
theorem q_797 : (Cond.instanceMethod ({ cls := "HexWorkbenchModel", name := "again", desc := "()I" } : MethodName)) ∈ lw_g := lw_in 861 (by decide +kernel) rfl
theorem q_798 : (Cond.selects "HexWorkbenchModel" ({ cls := "HexWorkbenchModel", name := "again", desc := "()I" } : MethodName) ({ cls := "HexWorkbenchModel", name := "again", desc := "()I" } : MethodName)) ∈ lw_g := lw_in 862 (by decide +kernel) rfl
theorem q_799 : (Cond.code ({ cls := "HexWorkbenchModel", name := "again", desc := "()I" } : MethodName) prog_8_method_26_code (1 : Nat) (some FieldType.int)) ∈ lw_g := lw_in 863 (by decide +kernel) rfl
theorem q_800 : (Cond.methodLink "HexWorkbenchLaw" (42 : Nat) ({ cls := "HexWorkbenchModel", name := "moves", desc := "()I" } : MethodName)) ∈ lw_g := lw_in 864 (by decide +kernel) rfl
theorem q_801 : (Cond.instanceMethod ({ cls := "HexWorkbenchModel", name := "moves", desc := "()I" } : MethodName)) ∈ lw_g := lw_in 865 (by decide +kernel) rfl
theorem q_802 : (Cond.selects "HexWorkbenchModel" ({ cls := "HexWorkbenchModel", name := "moves", desc := "()I" } : MethodName) ({ cls := "HexWorkbenchModel", name := "moves", desc := "()I" } : MethodName)) ∈ lw_g := lw_in 866 (by decide +kernel) rfl
theorem q_803 : (Cond.code ({ cls := "HexWorkbenchModel", name := "moves", desc := "()I" } : MethodName) prog_8_method_27_code (1 : Nat) (some FieldType.int)) ∈ lw_g := lw_in 867 (by decide +kernel) rfl
theorem q_804 : (Cond.methodLink "HexWorkbenchLaw" (46 : Nat) ({ cls := "HexWorkbenchModel", name := "moveAt", desc := "(I)I" } : MethodName)) ∈ lw_g := lw_in 868 (by decide +kernel) rfl
theorem q_805 : (Cond.instanceMethod ({ cls := "HexWorkbenchModel", name := "moveAt", desc := "(I)I" } : MethodName)) ∈ lw_g := lw_in 869 (by decide +kernel) rfl
theorem q_806 : (Cond.selects "HexWorkbenchModel" ({ cls := "HexWorkbenchModel", name := "moveAt", desc := "(I)I" } : MethodName) ({ cls := "HexWorkbenchModel", name := "moveAt", desc := "(I)I" } : MethodName)) ∈ lw_g := lw_in 870 (by decide +kernel) rfl
theorem q_807 : (Cond.code ({ cls := "HexWorkbenchModel", name := "moveAt", desc := "(I)I" } : MethodName) prog_8_method_28_code (2 : Nat) (some FieldType.int)) ∈ lw_g := lw_in 871 (by decide +kernel) rfl
theorem q_808 : (Cond.methodLink "HexWorkbenchLaw" (50 : Nat) ({ cls := "HexWorkbenchModel", name := "turn", desc := "()I" } : MethodName)) ∈ lw_g := lw_in 872 (by decide +kernel) rfl
theorem q_809 : (Cond.instanceMethod ({ cls := "HexWorkbenchModel", name := "turn", desc := "()I" } : MethodName)) ∈ lw_g := lw_in 873 (by decide +kernel) rfl
theorem q_810 : (Cond.selects "HexWorkbenchModel" ({ cls := "HexWorkbenchModel", name := "turn", desc := "()I" } : MethodName) ({ cls := "HexWorkbenchModel", name := "turn", desc := "()I" } : MethodName)) ∈ lw_g := lw_in 874 (by decide +kernel) rfl
theorem q_811 : (Cond.code ({ cls := "HexWorkbenchModel", name := "turn", desc := "()I" } : MethodName) prog_8_method_29_code (1 : Nat) (some FieldType.int)) ∈ lw_g := lw_in 875 (by decide +kernel) rfl
theorem q_812 : (Cond.methodLink "HexWorkbenchLaw" (54 : Nat) ({ cls := "HexWorkbenchModel", name := "winner", desc := "()I" } : MethodName)) ∈ lw_g := lw_in 876 (by decide +kernel) rfl
theorem q_813 : (Cond.instanceMethod ({ cls := "HexWorkbenchModel", name := "winner", desc := "()I" } : MethodName)) ∈ lw_g := lw_in 877 (by decide +kernel) rfl
theorem q_814 : (Cond.selects "HexWorkbenchModel" ({ cls := "HexWorkbenchModel", name := "winner", desc := "()I" } : MethodName) ({ cls := "HexWorkbenchModel", name := "winner", desc := "()I" } : MethodName)) ∈ lw_g := lw_in 878 (by decide +kernel) rfl
theorem q_815 : (Cond.code ({ cls := "HexWorkbenchModel", name := "winner", desc := "()I" } : MethodName) prog_8_method_30_code (1 : Nat) (some FieldType.int)) ∈ lw_g := lw_in 879 (by decide +kernel) rfl
theorem q_816 : (Cond.methodLink "HexWorkbenchLaw" (59 : Nat) ({ cls := "HexWorkbenchModel", name := "stones", desc := "(I)J" } : MethodName)) ∈ lw_g := lw_in 880 (by decide +kernel) rfl
theorem q_817 : (Cond.instanceMethod ({ cls := "HexWorkbenchModel", name := "stones", desc := "(I)J" } : MethodName)) ∈ lw_g := lw_in 881 (by decide +kernel) rfl
theorem q_818 : (Cond.selects "HexWorkbenchModel" ({ cls := "HexWorkbenchModel", name := "stones", desc := "(I)J" } : MethodName) ({ cls := "HexWorkbenchModel", name := "stones", desc := "(I)J" } : MethodName)) ∈ lw_g := lw_in 882 (by decide +kernel) rfl
theorem q_819 : (Cond.code ({ cls := "HexWorkbenchModel", name := "stones", desc := "(I)J" } : MethodName) prog_8_method_31_code (2 : Nat) (some FieldType.long)) ∈ lw_g := lw_in 883 (by decide +kernel) rfl
theorem q_820 : (Cond.methodLink "HexWorkbenchModel" (136 : Nat) ({ cls := "HexWorkbenchModel", name := "isPlayer", desc := "(I)Z" } : MethodName)) ∈ lw_g := lw_in 884 (by decide +kernel) rfl
theorem q_821 : (Cond.static ({ cls := "HexWorkbenchModel", name := "isPlayer", desc := "(I)Z" } : MethodName)) ∈ lw_g := lw_in 885 (by decide +kernel) rfl
theorem q_822 : (Cond.code ({ cls := "HexWorkbenchModel", name := "isPlayer", desc := "(I)Z" } : MethodName) prog_8_method_12_code (1 : Nat) (some FieldType.boolean)) ∈ lw_g := lw_in 886 (by decide +kernel) rfl
theorem q_823 : (Cond.methodLink "HexWorkbenchModel" (139 : Nat) ({ cls := "HexWorkbenchModel", name := "own", desc := "(I)J" } : MethodName)) ∈ lw_g := lw_in 887 (by decide +kernel) rfl
theorem q_825 : (Cond.instanceMethod ({ cls := "HexWorkbenchModel", name := "own", desc := "(I)J" } : MethodName)) ∈ lw_g := lw_in 889 (by decide +kernel) rfl
theorem q_826 : (Cond.code ({ cls := "HexWorkbenchModel", name := "own", desc := "(I)J" } : MethodName) prog_8_method_10_code (2 : Nat) (some FieldType.long)) ∈ lw_g := lw_in 890 (by decide +kernel) rfl
theorem q_827 : (Cond.constantLong "HexWorkbenchModel" (142 : Nat) (-11 : Int64)) ∈ lw_g := lw_in 891 (by decide +kernel) rfl
theorem q_828 : (Cond.methodLink "HexWorkbenchLaw" (63 : Nat) ({ cls := "HexWorkbenchModel", name := "beside", desc := "(I)J" } : MethodName)) ∈ lw_g := lw_in 892 (by decide +kernel) rfl
theorem q_829 : (Cond.instanceMethod ({ cls := "HexWorkbenchModel", name := "beside", desc := "(I)J" } : MethodName)) ∈ lw_g := lw_in 893 (by decide +kernel) rfl
theorem q_830 : (Cond.selects "HexWorkbenchModel" ({ cls := "HexWorkbenchModel", name := "beside", desc := "(I)J" } : MethodName) ({ cls := "HexWorkbenchModel", name := "beside", desc := "(I)J" } : MethodName)) ∈ lw_g := lw_in 894 (by decide +kernel) rfl
theorem q_831 : (Cond.code ({ cls := "HexWorkbenchModel", name := "beside", desc := "(I)J" } : MethodName) prog_8_method_32_code (2 : Nat) (some FieldType.long)) ∈ lw_g := lw_in 895 (by decide +kernel) rfl
theorem q_832 : (Cond.methodLink "HexWorkbenchLaw" (67 : Nat) ({ cls := "HexWorkbenchModel", name := "chains", desc := "(I)I" } : MethodName)) ∈ lw_g := lw_in 896 (by decide +kernel) rfl
theorem q_833 : (Cond.instanceMethod ({ cls := "HexWorkbenchModel", name := "chains", desc := "(I)I" } : MethodName)) ∈ lw_g := lw_in 897 (by decide +kernel) rfl
theorem q_834 : (Cond.selects "HexWorkbenchModel" ({ cls := "HexWorkbenchModel", name := "chains", desc := "(I)I" } : MethodName) ({ cls := "HexWorkbenchModel", name := "chains", desc := "(I)I" } : MethodName)) ∈ lw_g := lw_in 898 (by decide +kernel) rfl
theorem q_835 : (Cond.code ({ cls := "HexWorkbenchModel", name := "chains", desc := "(I)I" } : MethodName) prog_8_method_35_code (5 : Nat) (some FieldType.int)) ∈ lw_g := lw_in 899 (by decide +kernel) rfl
theorem q_836 : (Cond.methodLink "HexWorkbenchModel" (144 : Nat) ({ cls := "HexWorkbenchModel", name := "lowest", desc := "(J)I" } : MethodName)) ∈ lw_g := lw_in 900 (by decide +kernel) rfl
theorem q_837 : (Cond.static ({ cls := "HexWorkbenchModel", name := "lowest", desc := "(J)I" } : MethodName)) ∈ lw_g := lw_in 901 (by decide +kernel) rfl
theorem q_838 : (Cond.code ({ cls := "HexWorkbenchModel", name := "lowest", desc := "(J)I" } : MethodName) prog_8_method_33_code (3 : Nat) (some FieldType.int)) ∈ lw_g := lw_in 902 (by decide +kernel) rfl
theorem q_839 : (Cond.methodLink "HexWorkbenchModel" (148 : Nat) ({ cls := "HexWorkbenchModel", name := "chainWith", desc := "(I)J" } : MethodName)) ∈ lw_g := lw_in 903 (by decide +kernel) rfl
theorem q_841 : (Cond.instanceMethod ({ cls := "HexWorkbenchModel", name := "chainWith", desc := "(I)J" } : MethodName)) ∈ lw_g := lw_in 905 (by decide +kernel) rfl
theorem q_842 : (Cond.code ({ cls := "HexWorkbenchModel", name := "chainWith", desc := "(I)J" } : MethodName) prog_8_method_34_code (2 : Nat) (some FieldType.long)) ∈ lw_g := lw_in 906 (by decide +kernel) rfl
theorem q_843 : (Cond.methodLink "HexWorkbenchLaw" (71 : Nat) ({ cls := "HexWorkbenchModel", name := "chainOf", desc := "(I)I" } : MethodName)) ∈ lw_g := lw_in 907 (by decide +kernel) rfl
theorem q_844 : (Cond.instanceMethod ({ cls := "HexWorkbenchModel", name := "chainOf", desc := "(I)I" } : MethodName)) ∈ lw_g := lw_in 908 (by decide +kernel) rfl
theorem q_845 : (Cond.selects "HexWorkbenchModel" ({ cls := "HexWorkbenchModel", name := "chainOf", desc := "(I)I" } : MethodName) ({ cls := "HexWorkbenchModel", name := "chainOf", desc := "(I)I" } : MethodName)) ∈ lw_g := lw_in 909 (by decide +kernel) rfl
theorem q_846 : (Cond.code ({ cls := "HexWorkbenchModel", name := "chainOf", desc := "(I)I" } : MethodName) prog_8_method_36_code (2 : Nat) (some FieldType.int)) ∈ lw_g := lw_in 910 (by decide +kernel) rfl
theorem q_847 : (Cond.methodLink "HexWorkbenchLaw" (75 : Nat) ({ cls := "HexWorkbenchModel", name := "chain", desc := "(I)J" } : MethodName)) ∈ lw_g := lw_in 911 (by decide +kernel) rfl
theorem q_848 : (Cond.instanceMethod ({ cls := "HexWorkbenchModel", name := "chain", desc := "(I)J" } : MethodName)) ∈ lw_g := lw_in 912 (by decide +kernel) rfl
theorem q_849 : (Cond.selects "HexWorkbenchModel" ({ cls := "HexWorkbenchModel", name := "chain", desc := "(I)J" } : MethodName) ({ cls := "HexWorkbenchModel", name := "chain", desc := "(I)J" } : MethodName)) ∈ lw_g := lw_in 913 (by decide +kernel) rfl
theorem q_850 : (Cond.code ({ cls := "HexWorkbenchModel", name := "chain", desc := "(I)J" } : MethodName) prog_8_method_37_code (3 : Nat) (some FieldType.long)) ∈ lw_g := lw_in 914 (by decide +kernel) rfl
theorem q_851 : (Cond.methodLink "HexWorkbenchLaw" (79 : Nat) ({ cls := "HexWorkbenchModel", name := "distance", desc := "(I)I" } : MethodName)) ∈ lw_g := lw_in 915 (by decide +kernel) rfl
theorem q_852 : (Cond.instanceMethod ({ cls := "HexWorkbenchModel", name := "distance", desc := "(I)I" } : MethodName)) ∈ lw_g := lw_in 916 (by decide +kernel) rfl
theorem q_853 : (Cond.selects "HexWorkbenchModel" ({ cls := "HexWorkbenchModel", name := "distance", desc := "(I)I" } : MethodName) ({ cls := "HexWorkbenchModel", name := "distance", desc := "(I)I" } : MethodName)) ∈ lw_g := lw_in 917 (by decide +kernel) rfl
theorem q_854 : (Cond.code ({ cls := "HexWorkbenchModel", name := "distance", desc := "(I)I" } : MethodName) prog_8_method_40_code (2 : Nat) (some FieldType.int)) ∈ lw_g := lw_in 918 (by decide +kernel) rfl
theorem q_855 : (Cond.methodLink "HexWorkbenchModel" (155 : Nat) ({ cls := "HexWorkbenchModel", name := "distanceOf", desc := "(I)I" } : MethodName)) ∈ lw_g := lw_in 919 (by decide +kernel) rfl
theorem q_857 : (Cond.instanceMethod ({ cls := "HexWorkbenchModel", name := "distanceOf", desc := "(I)I" } : MethodName)) ∈ lw_g := lw_in 921 (by decide +kernel) rfl
theorem q_858 : (Cond.code ({ cls := "HexWorkbenchModel", name := "distanceOf", desc := "(I)I" } : MethodName) prog_8_method_39_code (6 : Nat) (some FieldType.int)) ∈ lw_g := lw_in 922 (by decide +kernel) rfl
theorem q_859 : (Cond.methodLink "HexWorkbenchModel" (151 : Nat) ({ cls := "HexWorkbenchModel", name := "levels", desc := "(II[I)V" } : MethodName)) ∈ lw_g := lw_in 923 (by decide +kernel) rfl
theorem q_861 : (Cond.instanceMethod ({ cls := "HexWorkbenchModel", name := "levels", desc := "(II[I)V" } : MethodName)) ∈ lw_g := lw_in 925 (by decide +kernel) rfl
theorem q_862 : (Cond.code ({ cls := "HexWorkbenchModel", name := "levels", desc := "(II[I)V" } : MethodName) prog_8_method_38_code (12 : Nat) (none : Option FieldType)) ∈ lw_g := lw_in 926 (by decide +kernel) rfl
theorem q_863 : (Cond.methodLink "HexWorkbenchLaw" (83 : Nat) ({ cls := "HexWorkbenchModel", name := "shortest", desc := "(I)J" } : MethodName)) ∈ lw_g := lw_in 927 (by decide +kernel) rfl
theorem q_864 : (Cond.instanceMethod ({ cls := "HexWorkbenchModel", name := "shortest", desc := "(I)J" } : MethodName)) ∈ lw_g := lw_in 928 (by decide +kernel) rfl
theorem q_865 : (Cond.selects "HexWorkbenchModel" ({ cls := "HexWorkbenchModel", name := "shortest", desc := "(I)J" } : MethodName) ({ cls := "HexWorkbenchModel", name := "shortest", desc := "(I)J" } : MethodName)) ∈ lw_g := lw_in 929 (by decide +kernel) rfl
theorem q_866 : (Cond.code ({ cls := "HexWorkbenchModel", name := "shortest", desc := "(I)J" } : MethodName) prog_8_method_42_code (2 : Nat) (some FieldType.long)) ∈ lw_g := lw_in 930 (by decide +kernel) rfl
theorem q_867 : (Cond.methodLink "HexWorkbenchModel" (161 : Nat) ({ cls := "HexWorkbenchModel", name := "shortestOf", desc := "(I)J" } : MethodName)) ∈ lw_g := lw_in 931 (by decide +kernel) rfl
theorem q_869 : (Cond.instanceMethod ({ cls := "HexWorkbenchModel", name := "shortestOf", desc := "(I)J" } : MethodName)) ∈ lw_g := lw_in 933 (by decide +kernel) rfl
theorem q_870 : (Cond.code ({ cls := "HexWorkbenchModel", name := "shortestOf", desc := "(I)J" } : MethodName) prog_8_method_41_code (6 : Nat) (some FieldType.long)) ∈ lw_g := lw_in 934 (by decide +kernel) rfl
theorem q_871 : (Cond.constantLong "HexWorkbenchModel" (159 : Nat) (-15 : Int64)) ∈ lw_g := lw_in 935 (by decide +kernel) rfl
theorem q_872 : (Cond.methodLink "HexWorkbenchLaw" (87 : Nat) ({ cls := "HexWorkbenchModel", name := "cut", desc := "(I)I" } : MethodName)) ∈ lw_g := lw_in 936 (by decide +kernel) rfl
theorem q_873 : (Cond.instanceMethod ({ cls := "HexWorkbenchModel", name := "cut", desc := "(I)I" } : MethodName)) ∈ lw_g := lw_in 937 (by decide +kernel) rfl
theorem q_874 : (Cond.selects "HexWorkbenchModel" ({ cls := "HexWorkbenchModel", name := "cut", desc := "(I)I" } : MethodName) ({ cls := "HexWorkbenchModel", name := "cut", desc := "(I)I" } : MethodName)) ∈ lw_g := lw_in 938 (by decide +kernel) rfl
theorem q_875 : (Cond.code ({ cls := "HexWorkbenchModel", name := "cut", desc := "(I)I" } : MethodName) prog_8_method_43_code (2 : Nat) (some FieldType.int)) ∈ lw_g := lw_in 939 (by decide +kernel) rfl
theorem q_876 : (Cond.methodLink "HexWorkbenchLaw" (91 : Nat) ({ cls := "HexWorkbenchModel", name := "bridges", desc := "(I)I" } : MethodName)) ∈ lw_g := lw_in 940 (by decide +kernel) rfl
theorem q_877 : (Cond.instanceMethod ({ cls := "HexWorkbenchModel", name := "bridges", desc := "(I)I" } : MethodName)) ∈ lw_g := lw_in 941 (by decide +kernel) rfl
theorem q_878 : (Cond.selects "HexWorkbenchModel" ({ cls := "HexWorkbenchModel", name := "bridges", desc := "(I)I" } : MethodName) ({ cls := "HexWorkbenchModel", name := "bridges", desc := "(I)I" } : MethodName)) ∈ lw_g := lw_in 942 (by decide +kernel) rfl
theorem q_879 : (Cond.code ({ cls := "HexWorkbenchModel", name := "bridges", desc := "(I)I" } : MethodName) prog_8_method_45_code (5 : Nat) (some FieldType.int)) ∈ lw_g := lw_in 943 (by decide +kernel) rfl
theorem q_880 : (Cond.methodLink "HexWorkbenchModel" (167 : Nat) ({ cls := "HexWorkbenchModel", name := "carrier", desc := "(IIJ)J" } : MethodName)) ∈ lw_g := lw_in 944 (by decide +kernel) rfl
theorem q_882 : (Cond.instanceMethod ({ cls := "HexWorkbenchModel", name := "carrier", desc := "(IIJ)J" } : MethodName)) ∈ lw_g := lw_in 946 (by decide +kernel) rfl
theorem q_883 : (Cond.code ({ cls := "HexWorkbenchModel", name := "carrier", desc := "(IIJ)J" } : MethodName) prog_8_method_44_code (7 : Nat) (some FieldType.long)) ∈ lw_g := lw_in 947 (by decide +kernel) rfl
theorem q_884 : (Cond.methodLink "HexWorkbenchModel" (164 : Nat) ({ cls := "HexWorkbenchModel", name := "size", desc := "(J)I" } : MethodName)) ∈ lw_g := lw_in 948 (by decide +kernel) rfl
theorem q_885 : (Cond.static ({ cls := "HexWorkbenchModel", name := "size", desc := "(J)I" } : MethodName)) ∈ lw_g := lw_in 949 (by decide +kernel) rfl
theorem q_886 : (Cond.code ({ cls := "HexWorkbenchModel", name := "size", desc := "(J)I" } : MethodName) prog_8_method_5_code (5 : Nat) (some FieldType.int)) ∈ lw_g := lw_in 950 (by decide +kernel) rfl
theorem q_887 : (Cond.methodLink "HexWorkbenchLaw" (96 : Nat) ({ cls := "HexWorkbenchModel", name := "bridge", desc := "(III)I" } : MethodName)) ∈ lw_g := lw_in 951 (by decide +kernel) rfl
theorem q_888 : (Cond.instanceMethod ({ cls := "HexWorkbenchModel", name := "bridge", desc := "(III)I" } : MethodName)) ∈ lw_g := lw_in 952 (by decide +kernel) rfl
theorem q_889 : (Cond.selects "HexWorkbenchModel" ({ cls := "HexWorkbenchModel", name := "bridge", desc := "(III)I" } : MethodName) ({ cls := "HexWorkbenchModel", name := "bridge", desc := "(III)I" } : MethodName)) ∈ lw_g := lw_in 953 (by decide +kernel) rfl
theorem q_890 : (Cond.code ({ cls := "HexWorkbenchModel", name := "bridge", desc := "(III)I" } : MethodName) prog_8_method_46_code (10 : Nat) (some FieldType.int)) ∈ lw_g := lw_in 954 (by decide +kernel) rfl
theorem q_891 : (Cond.methodLink "HexWorkbenchModel" (171 : Nat) ({ cls := "HexWorkbenchModel", name := "bridges", desc := "(I)I" } : MethodName)) ∈ lw_g := lw_in 955 (by decide +kernel) rfl
theorem q_892 : (Cond.methodLink "HexWorkbenchLaw" (101 : Nat) ({ cls := "HexWorkbenchModel", name := "answers", desc := "()J" } : MethodName)) ∈ lw_g := lw_in 956 (by decide +kernel) rfl
theorem q_893 : (Cond.instanceMethod ({ cls := "HexWorkbenchModel", name := "answers", desc := "()J" } : MethodName)) ∈ lw_g := lw_in 957 (by decide +kernel) rfl
theorem q_894 : (Cond.selects "HexWorkbenchModel" ({ cls := "HexWorkbenchModel", name := "answers", desc := "()J" } : MethodName) ({ cls := "HexWorkbenchModel", name := "answers", desc := "()J" } : MethodName)) ∈ lw_g := lw_in 958 (by decide +kernel) rfl
theorem q_895 : (Cond.code ({ cls := "HexWorkbenchModel", name := "answers", desc := "()J" } : MethodName) prog_8_method_48_code (1 : Nat) (some FieldType.long)) ∈ lw_g := lw_in 959 (by decide +kernel) rfl
theorem q_896 : (Cond.methodLink "HexWorkbenchModel" (174 : Nat) ({ cls := "HexWorkbenchModel", name := "answersNow", desc := "()J" } : MethodName)) ∈ lw_g := lw_in 960 (by decide +kernel) rfl
theorem q_898 : (Cond.instanceMethod ({ cls := "HexWorkbenchModel", name := "answersNow", desc := "()J" } : MethodName)) ∈ lw_g := lw_in 962 (by decide +kernel) rfl
theorem q_899 : (Cond.code ({ cls := "HexWorkbenchModel", name := "answersNow", desc := "()J" } : MethodName) prog_8_method_47_code (12 : Nat) (some FieldType.long)) ∈ lw_g := lw_in 963 (by decide +kernel) rfl
theorem q_900 : (Cond.methodLink "HexWorkbenchLaw" (105 : Nat) ({ cls := "HexWorkbenchModel", name := "fillings", desc := "(I)I" } : MethodName)) ∈ lw_g := lw_in 964 (by decide +kernel) rfl
theorem q_901 : (Cond.instanceMethod ({ cls := "HexWorkbenchModel", name := "fillings", desc := "(I)I" } : MethodName)) ∈ lw_g := lw_in 965 (by decide +kernel) rfl
theorem q_902 : (Cond.selects "HexWorkbenchModel" ({ cls := "HexWorkbenchModel", name := "fillings", desc := "(I)I" } : MethodName) ({ cls := "HexWorkbenchModel", name := "fillings", desc := "(I)I" } : MethodName)) ∈ lw_g := lw_in 966 (by decide +kernel) rfl
theorem q_903 : (Cond.code ({ cls := "HexWorkbenchModel", name := "fillings", desc := "(I)I" } : MethodName) prog_8_method_51_code (4 : Nat) (some FieldType.int)) ∈ lw_g := lw_in 967 (by decide +kernel) rfl
theorem q_904 : (Cond.methodLink "HexWorkbenchModel" (184 : Nat) ({ cls := "HexWorkbenchModel", name := "fills", desc := "()Z" } : MethodName)) ∈ lw_g := lw_in 968 (by decide +kernel) rfl
theorem q_906 : (Cond.instanceMethod ({ cls := "HexWorkbenchModel", name := "fills", desc := "()Z" } : MethodName)) ∈ lw_g := lw_in 970 (by decide +kernel) rfl
theorem q_907 : (Cond.code ({ cls := "HexWorkbenchModel", name := "fills", desc := "()Z" } : MethodName) prog_8_method_50_code (5 : Nat) (some FieldType.boolean)) ∈ lw_g := lw_in 971 (by decide +kernel) rfl
theorem q_908 : (Cond.methodLink "HexWorkbenchModel" (180 : Nat) ({ cls := "HexWorkbenchModel", name := "findHoles", desc := "(J)V" } : MethodName)) ∈ lw_g := lw_in 972 (by decide +kernel) rfl
theorem q_910 : (Cond.instanceMethod ({ cls := "HexWorkbenchModel", name := "findHoles", desc := "(J)V" } : MethodName)) ∈ lw_g := lw_in 974 (by decide +kernel) rfl
theorem q_911 : (Cond.code ({ cls := "HexWorkbenchModel", name := "findHoles", desc := "(J)V" } : MethodName) prog_8_method_49_code (4 : Nat) (none : Option FieldType)) ∈ lw_g := lw_in 975 (by decide +kernel) rfl
theorem q_912 : (Cond.methodLink "HexWorkbenchLaw" (109 : Nat) ({ cls := "HexWorkbenchModel", name := "weight", desc := "(I)I" } : MethodName)) ∈ lw_g := lw_in 976 (by decide +kernel) rfl
theorem q_913 : (Cond.instanceMethod ({ cls := "HexWorkbenchModel", name := "weight", desc := "(I)I" } : MethodName)) ∈ lw_g := lw_in 977 (by decide +kernel) rfl
theorem q_914 : (Cond.selects "HexWorkbenchModel" ({ cls := "HexWorkbenchModel", name := "weight", desc := "(I)I" } : MethodName) ({ cls := "HexWorkbenchModel", name := "weight", desc := "(I)I" } : MethodName)) ∈ lw_g := lw_in 978 (by decide +kernel) rfl
theorem q_915 : (Cond.code ({ cls := "HexWorkbenchModel", name := "weight", desc := "(I)I" } : MethodName) prog_8_method_53_code (3 : Nat) (some FieldType.int)) ∈ lw_g := lw_in 979 (by decide +kernel) rfl
theorem q_916 : (Cond.methodLink "HexWorkbenchModel" (188 : Nat) ({ cls := "HexWorkbenchModel", name := "weightOf", desc := "(I)I" } : MethodName)) ∈ lw_g := lw_in 980 (by decide +kernel) rfl
theorem q_918 : (Cond.instanceMethod ({ cls := "HexWorkbenchModel", name := "weightOf", desc := "(I)I" } : MethodName)) ∈ lw_g := lw_in 982 (by decide +kernel) rfl
theorem q_919 : (Cond.code ({ cls := "HexWorkbenchModel", name := "weightOf", desc := "(I)I" } : MethodName) prog_8_method_52_code (4 : Nat) (some FieldType.int)) ∈ lw_g := lw_in 983 (by decide +kernel) rfl
theorem q_920 : (Cond.methodLink "HexWorkbenchLaw" (113 : Nat) ({ cls := "HexWorkbenchModel", name := "dead", desc := "()J" } : MethodName)) ∈ lw_g := lw_in 984 (by decide +kernel) rfl
theorem q_921 : (Cond.instanceMethod ({ cls := "HexWorkbenchModel", name := "dead", desc := "()J" } : MethodName)) ∈ lw_g := lw_in 985 (by decide +kernel) rfl
theorem q_922 : (Cond.selects "HexWorkbenchModel" ({ cls := "HexWorkbenchModel", name := "dead", desc := "()J" } : MethodName) ({ cls := "HexWorkbenchModel", name := "dead", desc := "()J" } : MethodName)) ∈ lw_g := lw_in 986 (by decide +kernel) rfl
theorem q_923 : (Cond.code ({ cls := "HexWorkbenchModel", name := "dead", desc := "()J" } : MethodName) prog_8_method_54_code (4 : Nat) (some FieldType.long)) ∈ lw_g := lw_in 987 (by decide +kernel) rfl
theorem q_924 : (Cond.constantLong "HexWorkbenchModel" (191 : Nat) (-13 : Int64)) ∈ lw_g := lw_in 988 (by decide +kernel) rfl
theorem q_925 : (Cond.methodLink "HexWorkbenchLaw" (117 : Nat) ({ cls := "HexWorkbenchModel", name := "solve", desc := "()I" } : MethodName)) ∈ lw_g := lw_in 989 (by decide +kernel) rfl
theorem q_926 : (Cond.instanceMethod ({ cls := "HexWorkbenchModel", name := "solve", desc := "()I" } : MethodName)) ∈ lw_g := lw_in 990 (by decide +kernel) rfl
theorem q_927 : (Cond.selects "HexWorkbenchModel" ({ cls := "HexWorkbenchModel", name := "solve", desc := "()I" } : MethodName) ({ cls := "HexWorkbenchModel", name := "solve", desc := "()I" } : MethodName)) ∈ lw_g := lw_in 991 (by decide +kernel) rfl
theorem q_928 : (Cond.code ({ cls := "HexWorkbenchModel", name := "solve", desc := "()I" } : MethodName) prog_8_method_61_code (1 : Nat) (some FieldType.int)) ∈ lw_g := lw_in 992 (by decide +kernel) rfl
theorem q_929 : (Cond.methodLink "HexWorkbenchModel" (210 : Nat) ({ cls := "HexWorkbenchModel", name := "solves", desc := "()Z" } : MethodName)) ∈ lw_g := lw_in 993 (by decide +kernel) rfl
theorem q_931 : (Cond.instanceMethod ({ cls := "HexWorkbenchModel", name := "solves", desc := "()Z" } : MethodName)) ∈ lw_g := lw_in 995 (by decide +kernel) rfl
theorem q_932 : (Cond.code ({ cls := "HexWorkbenchModel", name := "solves", desc := "()Z" } : MethodName) prog_8_method_60_code (3 : Nat) (some FieldType.boolean)) ∈ lw_g := lw_in 996 (by decide +kernel) rfl
theorem q_933 : (Cond.methodLink "HexWorkbenchModel" (197 : Nat) ({ cls := "HexWorkbenchModel", name := "powers", desc := "()V" } : MethodName)) ∈ lw_g := lw_in 997 (by decide +kernel) rfl
theorem q_935 : (Cond.instanceMethod ({ cls := "HexWorkbenchModel", name := "powers", desc := "()V" } : MethodName)) ∈ lw_g := lw_in 999 (by decide +kernel) rfl
theorem q_936 : (Cond.code ({ cls := "HexWorkbenchModel", name := "powers", desc := "()V" } : MethodName) prog_8_method_55_code (2 : Nat) (none : Option FieldType)) ∈ lw_g := lw_in 1000 (by decide +kernel) rfl
theorem q_937 : (Cond.methodLink "HexWorkbenchModel" (200 : Nat) ({ cls := "HexWorkbenchModel", name := "laid", desc := "(II)J" } : MethodName)) ∈ lw_g := lw_in 1001 (by decide +kernel) rfl
theorem q_939 : (Cond.instanceMethod ({ cls := "HexWorkbenchModel", name := "laid", desc := "(II)J" } : MethodName)) ∈ lw_g := lw_in 1003 (by decide +kernel) rfl
theorem q_940 : (Cond.code ({ cls := "HexWorkbenchModel", name := "laid", desc := "(II)J" } : MethodName) prog_8_method_57_code (6 : Nat) (some FieldType.long)) ∈ lw_g := lw_in 1004 (by decide +kernel) rfl
theorem q_941 : (Cond.methodLink "HexWorkbenchModel" (193 : Nat) ({ cls := "HexWorkbenchModel", name := "digit", desc := "(II)I" } : MethodName)) ∈ lw_g := lw_in 1005 (by decide +kernel) rfl
theorem q_943 : (Cond.instanceMethod ({ cls := "HexWorkbenchModel", name := "digit", desc := "(II)I" } : MethodName)) ∈ lw_g := lw_in 1007 (by decide +kernel) rfl
theorem q_944 : (Cond.code ({ cls := "HexWorkbenchModel", name := "digit", desc := "(II)I" } : MethodName) prog_8_method_56_code (3 : Nat) (some FieldType.int)) ∈ lw_g := lw_in 1008 (by decide +kernel) rfl
theorem q_945 : (Cond.methodLink "HexWorkbenchModel" (204 : Nat) ({ cls := "HexWorkbenchModel", name := "laidMany", desc := "(I)I" } : MethodName)) ∈ lw_g := lw_in 1009 (by decide +kernel) rfl
theorem q_947 : (Cond.instanceMethod ({ cls := "HexWorkbenchModel", name := "laidMany", desc := "(I)I" } : MethodName)) ∈ lw_g := lw_in 1011 (by decide +kernel) rfl
theorem q_948 : (Cond.code ({ cls := "HexWorkbenchModel", name := "laidMany", desc := "(I)I" } : MethodName) prog_8_method_58_code (4 : Nat) (some FieldType.int)) ∈ lw_g := lw_in 1012 (by decide +kernel) rfl
theorem q_949 : (Cond.methodLink "HexWorkbenchModel" (207 : Nat) ({ cls := "HexWorkbenchModel", name := "decides", desc := "(II)V" } : MethodName)) ∈ lw_g := lw_in 1013 (by decide +kernel) rfl
theorem q_951 : (Cond.instanceMethod ({ cls := "HexWorkbenchModel", name := "decides", desc := "(II)V" } : MethodName)) ∈ lw_g := lw_in 1015 (by decide +kernel) rfl
theorem q_952 : (Cond.code ({ cls := "HexWorkbenchModel", name := "decides", desc := "(II)V" } : MethodName) prog_8_method_59_code (8 : Nat) (none : Option FieldType)) ∈ lw_g := lw_in 1016 (by decide +kernel) rfl
theorem q_953 : (Cond.methodLink "HexWorkbenchLaw" (121 : Nat) ({ cls := "HexWorkbenchModel", name := "winningMoves", desc := "()J" } : MethodName)) ∈ lw_g := lw_in 1017 (by decide +kernel) rfl
theorem q_954 : (Cond.instanceMethod ({ cls := "HexWorkbenchModel", name := "winningMoves", desc := "()J" } : MethodName)) ∈ lw_g := lw_in 1018 (by decide +kernel) rfl
theorem q_955 : (Cond.selects "HexWorkbenchModel" ({ cls := "HexWorkbenchModel", name := "winningMoves", desc := "()J" } : MethodName) ({ cls := "HexWorkbenchModel", name := "winningMoves", desc := "()J" } : MethodName)) ∈ lw_g := lw_in 1019 (by decide +kernel) rfl
theorem q_956 : (Cond.code ({ cls := "HexWorkbenchModel", name := "winningMoves", desc := "()J" } : MethodName) prog_8_method_63_code (1 : Nat) (some FieldType.long)) ∈ lw_g := lw_in 1020 (by decide +kernel) rfl
theorem q_957 : (Cond.methodLink "HexWorkbenchModel" (213 : Nat) ({ cls := "HexWorkbenchModel", name := "winning", desc := "()J" } : MethodName)) ∈ lw_g := lw_in 1021 (by decide +kernel) rfl
theorem q_959 : (Cond.instanceMethod ({ cls := "HexWorkbenchModel", name := "winning", desc := "()J" } : MethodName)) ∈ lw_g := lw_in 1023 (by decide +kernel) rfl
theorem q_960 : (Cond.code ({ cls := "HexWorkbenchModel", name := "winning", desc := "()J" } : MethodName) prog_8_method_62_code (4 : Nat) (some FieldType.long)) ∈ lw_g := lw_in 1024 (by decide +kernel) rfl
theorem q_961 : (Cond.methodLink "HexWorkbenchLaw" (125 : Nat) ({ cls := "HexWorkbenchModel", name := "duration", desc := "()I" } : MethodName)) ∈ lw_g := lw_in 1025 (by decide +kernel) rfl
theorem q_962 : (Cond.instanceMethod ({ cls := "HexWorkbenchModel", name := "duration", desc := "()I" } : MethodName)) ∈ lw_g := lw_in 1026 (by decide +kernel) rfl
theorem q_963 : (Cond.selects "HexWorkbenchModel" ({ cls := "HexWorkbenchModel", name := "duration", desc := "()I" } : MethodName) ({ cls := "HexWorkbenchModel", name := "duration", desc := "()I" } : MethodName)) ∈ lw_g := lw_in 1027 (by decide +kernel) rfl
theorem q_964 : (Cond.code ({ cls := "HexWorkbenchModel", name := "duration", desc := "()I" } : MethodName) prog_8_method_64_code (1 : Nat) (some FieldType.int)) ∈ lw_g := lw_in 1028 (by decide +kernel) rfl
theorem q_965 : (Cond.methodLink "HexWorkbenchLaw" (129 : Nat) ({ cls := "HexWorkbenchModel", name := "winningOpenings", desc := "(I)J" } : MethodName)) ∈ lw_g := lw_in 1029 (by decide +kernel) rfl
theorem q_966 : (Cond.instanceMethod ({ cls := "HexWorkbenchModel", name := "winningOpenings", desc := "(I)J" } : MethodName)) ∈ lw_g := lw_in 1030 (by decide +kernel) rfl
theorem q_967 : (Cond.selects "HexWorkbenchModel" ({ cls := "HexWorkbenchModel", name := "winningOpenings", desc := "(I)J" } : MethodName) ({ cls := "HexWorkbenchModel", name := "winningOpenings", desc := "(I)J" } : MethodName)) ∈ lw_g := lw_in 1031 (by decide +kernel) rfl
theorem q_968 : (Cond.code ({ cls := "HexWorkbenchModel", name := "winningOpenings", desc := "(I)J" } : MethodName) prog_8_method_65_code (7 : Nat) (some FieldType.long)) ∈ lw_g := lw_in 1032 (by decide +kernel) rfl
theorem q_969 : (Cond.constantLong "HexWorkbenchModel" (216 : Nat) (-12 : Int64)) ∈ lw_g := lw_in 1033 (by decide +kernel) rfl
theorem q_970 : (Cond.methodLink "HexWorkbenchLaw" (136 : Nat) ({ cls := "HexWorkbenchModel", name := "strength", desc := "(IIIJ)I" } : MethodName)) ∈ lw_g := lw_in 1034 (by decide +kernel) rfl
theorem q_971 : (Cond.instanceMethod ({ cls := "HexWorkbenchModel", name := "strength", desc := "(IIIJ)I" } : MethodName)) ∈ lw_g := lw_in 1035 (by decide +kernel) rfl
theorem q_972 : (Cond.selects "HexWorkbenchModel" ({ cls := "HexWorkbenchModel", name := "strength", desc := "(IIIJ)I" } : MethodName) ({ cls := "HexWorkbenchModel", name := "strength", desc := "(IIIJ)I" } : MethodName)) ∈ lw_g := lw_in 1036 (by decide +kernel) rfl
theorem q_973 : (Cond.code ({ cls := "HexWorkbenchModel", name := "strength", desc := "(IIIJ)I" } : MethodName) prog_8_method_72_code (6 : Nat) (some FieldType.int)) ∈ lw_g := lw_in 1037 (by decide +kernel) rfl
theorem q_974 : (Cond.methodLink "HexWorkbenchModel" (228 : Nat) ({ cls := "HexWorkbenchModel", name := "arePlaces", desc := "(III)Z" } : MethodName)) ∈ lw_g := lw_in 1038 (by decide +kernel) rfl
theorem q_976 : (Cond.instanceMethod ({ cls := "HexWorkbenchModel", name := "arePlaces", desc := "(III)Z" } : MethodName)) ∈ lw_g := lw_in 1040 (by decide +kernel) rfl
theorem q_977 : (Cond.code ({ cls := "HexWorkbenchModel", name := "arePlaces", desc := "(III)Z" } : MethodName) prog_8_method_68_code (4 : Nat) (some FieldType.boolean)) ∈ lw_g := lw_in 1041 (by decide +kernel) rfl
theorem q_978 : (Cond.methodLink "HexWorkbenchModel" (218 : Nat) ({ cls := "HexWorkbenchModel", name := "isPlace", desc := "(I)Z" } : MethodName)) ∈ lw_g := lw_in 1042 (by decide +kernel) rfl
theorem q_980 : (Cond.instanceMethod ({ cls := "HexWorkbenchModel", name := "isPlace", desc := "(I)Z" } : MethodName)) ∈ lw_g := lw_in 1044 (by decide +kernel) rfl
theorem q_981 : (Cond.code ({ cls := "HexWorkbenchModel", name := "isPlace", desc := "(I)Z" } : MethodName) prog_8_method_66_code (2 : Nat) (some FieldType.boolean)) ∈ lw_g := lw_in 1045 (by decide +kernel) rfl
theorem q_982 : (Cond.methodLink "HexWorkbenchModel" (231 : Nat) ({ cls := "HexWorkbenchModel", name := "isRegion", desc := "(JI)Z" } : MethodName)) ∈ lw_g := lw_in 1046 (by decide +kernel) rfl
theorem q_984 : (Cond.instanceMethod ({ cls := "HexWorkbenchModel", name := "isRegion", desc := "(JI)Z" } : MethodName)) ∈ lw_g := lw_in 1048 (by decide +kernel) rfl
theorem q_985 : (Cond.code ({ cls := "HexWorkbenchModel", name := "isRegion", desc := "(JI)Z" } : MethodName) prog_8_method_69_code (4 : Nat) (some FieldType.boolean)) ∈ lw_g := lw_in 1049 (by decide +kernel) rfl
theorem q_986 : (Cond.methodLink "HexWorkbenchModel" (234 : Nat) ({ cls := "HexWorkbenchModel", name := "strengthOf", desc := "(IIIJ)I" } : MethodName)) ∈ lw_g := lw_in 1050 (by decide +kernel) rfl
theorem q_988 : (Cond.instanceMethod ({ cls := "HexWorkbenchModel", name := "strengthOf", desc := "(IIIJ)I" } : MethodName)) ∈ lw_g := lw_in 1052 (by decide +kernel) rfl
theorem q_989 : (Cond.code ({ cls := "HexWorkbenchModel", name := "strengthOf", desc := "(IIIJ)I" } : MethodName) prog_8_method_71_code (6 : Nat) (some FieldType.int)) ∈ lw_g := lw_in 1053 (by decide +kernel) rfl
theorem q_990 : (Cond.methodLink "HexWorkbenchModel" (224 : Nat) ({ cls := "HexWorkbenchModel", name := "connects", desc := "(IIIJI)Z" } : MethodName)) ∈ lw_g := lw_in 1054 (by decide +kernel) rfl
theorem q_992 : (Cond.instanceMethod ({ cls := "HexWorkbenchModel", name := "connects", desc := "(IIIJI)Z" } : MethodName)) ∈ lw_g := lw_in 1056 (by decide +kernel) rfl
theorem q_993 : (Cond.code ({ cls := "HexWorkbenchModel", name := "connects", desc := "(IIIJI)Z" } : MethodName) prog_8_method_70_code (9 : Nat) (some FieldType.boolean)) ∈ lw_g := lw_in 1057 (by decide +kernel) rfl
theorem q_994 : (Cond.methodLink "HexWorkbenchModel" (221 : Nat) ({ cls := "HexWorkbenchModel", name := "place", desc := "(I)J" } : MethodName)) ∈ lw_g := lw_in 1058 (by decide +kernel) rfl
theorem q_996 : (Cond.instanceMethod ({ cls := "HexWorkbenchModel", name := "place", desc := "(I)J" } : MethodName)) ∈ lw_g := lw_in 1060 (by decide +kernel) rfl
theorem q_997 : (Cond.code ({ cls := "HexWorkbenchModel", name := "place", desc := "(I)J" } : MethodName) prog_8_method_67_code (2 : Nat) (some FieldType.long)) ∈ lw_g := lw_in 1061 (by decide +kernel) rfl
theorem q_998 : (Cond.methodLink "HexWorkbenchLaw" (140 : Nat) ({ cls := "HexWorkbenchModel", name := "smallestFull", desc := "(IIIJ)I" } : MethodName)) ∈ lw_g := lw_in 1062 (by decide +kernel) rfl
theorem q_999 : (Cond.instanceMethod ({ cls := "HexWorkbenchModel", name := "smallestFull", desc := "(IIIJ)I" } : MethodName)) ∈ lw_g := lw_in 1063 (by decide +kernel) rfl
theorem q_1000 : (Cond.selects "HexWorkbenchModel" ({ cls := "HexWorkbenchModel", name := "smallestFull", desc := "(IIIJ)I" } : MethodName) ({ cls := "HexWorkbenchModel", name := "smallestFull", desc := "(IIIJ)I" } : MethodName)) ∈ lw_g := lw_in 1064 (by decide +kernel) rfl
theorem q_1001 : (Cond.code ({ cls := "HexWorkbenchModel", name := "smallestFull", desc := "(IIIJ)I" } : MethodName) prog_8_method_73_code (10 : Nat) (some FieldType.int)) ∈ lw_g := lw_in 1065 (by decide +kernel) rfl
theorem q_1002 : (Cond.methodLink "HexWorkbenchLaw" (145 : Nat) ({ cls := "HexWorkbenchModel", name := "addThreat", desc := "(IJ)I" } : MethodName)) ∈ lw_g := lw_in 1066 (by decide +kernel) rfl
theorem q_1003 : (Cond.instanceMethod ({ cls := "HexWorkbenchModel", name := "addThreat", desc := "(IJ)I" } : MethodName)) ∈ lw_g := lw_in 1067 (by decide +kernel) rfl
theorem q_1004 : (Cond.selects "HexWorkbenchModel" ({ cls := "HexWorkbenchModel", name := "addThreat", desc := "(IJ)I" } : MethodName) ({ cls := "HexWorkbenchModel", name := "addThreat", desc := "(IJ)I" } : MethodName)) ∈ lw_g := lw_in 1068 (by decide +kernel) rfl
theorem q_1005 : (Cond.code ({ cls := "HexWorkbenchModel", name := "addThreat", desc := "(IJ)I" } : MethodName) prog_8_method_74_code (4 : Nat) (some FieldType.int)) ∈ lw_g := lw_in 1069 (by decide +kernel) rfl
theorem q_1006 : (Cond.methodLink "HexWorkbenchLaw" (149 : Nat) ({ cls := "HexWorkbenchModel", name := "clearThreats", desc := "()I" } : MethodName)) ∈ lw_g := lw_in 1070 (by decide +kernel) rfl
theorem q_1007 : (Cond.instanceMethod ({ cls := "HexWorkbenchModel", name := "clearThreats", desc := "()I" } : MethodName)) ∈ lw_g := lw_in 1071 (by decide +kernel) rfl
theorem q_1008 : (Cond.selects "HexWorkbenchModel" ({ cls := "HexWorkbenchModel", name := "clearThreats", desc := "()I" } : MethodName) ({ cls := "HexWorkbenchModel", name := "clearThreats", desc := "()I" } : MethodName)) ∈ lw_g := lw_in 1072 (by decide +kernel) rfl
theorem q_1009 : (Cond.code ({ cls := "HexWorkbenchModel", name := "clearThreats", desc := "()I" } : MethodName) prog_8_method_75_code (2 : Nat) (some FieldType.int)) ∈ lw_g := lw_in 1073 (by decide +kernel) rfl
theorem q_1010 : (Cond.methodLink "HexWorkbenchLaw" (153 : Nat) ({ cls := "HexWorkbenchModel", name := "threats", desc := "(I)I" } : MethodName)) ∈ lw_g := lw_in 1074 (by decide +kernel) rfl
theorem q_1011 : (Cond.instanceMethod ({ cls := "HexWorkbenchModel", name := "threats", desc := "(I)I" } : MethodName)) ∈ lw_g := lw_in 1075 (by decide +kernel) rfl
theorem q_1012 : (Cond.selects "HexWorkbenchModel" ({ cls := "HexWorkbenchModel", name := "threats", desc := "(I)I" } : MethodName) ({ cls := "HexWorkbenchModel", name := "threats", desc := "(I)I" } : MethodName)) ∈ lw_g := lw_in 1076 (by decide +kernel) rfl
theorem q_1013 : (Cond.code ({ cls := "HexWorkbenchModel", name := "threats", desc := "(I)I" } : MethodName) prog_8_method_78_code (2 : Nat) (some FieldType.int)) ∈ lw_g := lw_in 1077 (by decide +kernel) rfl
theorem q_1014 : (Cond.methodLink "HexWorkbenchModel" (242 : Nat) ({ cls := "HexWorkbenchModel", name := "threatsOf", desc := "(I)I" } : MethodName)) ∈ lw_g := lw_in 1078 (by decide +kernel) rfl
theorem q_1016 : (Cond.instanceMethod ({ cls := "HexWorkbenchModel", name := "threatsOf", desc := "(I)I" } : MethodName)) ∈ lw_g := lw_in 1080 (by decide +kernel) rfl
theorem q_1017 : (Cond.code ({ cls := "HexWorkbenchModel", name := "threatsOf", desc := "(I)I" } : MethodName) prog_8_method_77_code (4 : Nat) (some FieldType.int)) ∈ lw_g := lw_in 1081 (by decide +kernel) rfl
theorem q_1018 : (Cond.methodLink "HexWorkbenchModel" (238 : Nat) ({ cls := "HexWorkbenchModel", name := "isThreat", desc := "(II)Z" } : MethodName)) ∈ lw_g := lw_in 1082 (by decide +kernel) rfl
theorem q_1020 : (Cond.instanceMethod ({ cls := "HexWorkbenchModel", name := "isThreat", desc := "(II)Z" } : MethodName)) ∈ lw_g := lw_in 1084 (by decide +kernel) rfl
theorem q_1021 : (Cond.code ({ cls := "HexWorkbenchModel", name := "isThreat", desc := "(II)Z" } : MethodName) prog_8_method_76_code (3 : Nat) (some FieldType.boolean)) ∈ lw_g := lw_in 1085 (by decide +kernel) rfl
theorem q_1022 : (Cond.methodLink "HexWorkbenchLaw" (157 : Nat) ({ cls := "HexWorkbenchModel", name := "needed", desc := "(I)J" } : MethodName)) ∈ lw_g := lw_in 1086 (by decide +kernel) rfl
theorem q_1023 : (Cond.instanceMethod ({ cls := "HexWorkbenchModel", name := "needed", desc := "(I)J" } : MethodName)) ∈ lw_g := lw_in 1087 (by decide +kernel) rfl
theorem q_1024 : (Cond.selects "HexWorkbenchModel" ({ cls := "HexWorkbenchModel", name := "needed", desc := "(I)J" } : MethodName) ({ cls := "HexWorkbenchModel", name := "needed", desc := "(I)J" } : MethodName)) ∈ lw_g := lw_in 1088 (by decide +kernel) rfl
theorem q_1025 : (Cond.code ({ cls := "HexWorkbenchModel", name := "needed", desc := "(I)J" } : MethodName) prog_8_method_80_code (2 : Nat) (some FieldType.long)) ∈ lw_g := lw_in 1089 (by decide +kernel) rfl
theorem q_1026 : (Cond.methodLink "HexWorkbenchModel" (245 : Nat) ({ cls := "HexWorkbenchModel", name := "neededOf", desc := "(I)J" } : MethodName)) ∈ lw_g := lw_in 1090 (by decide +kernel) rfl
theorem q_1028 : (Cond.instanceMethod ({ cls := "HexWorkbenchModel", name := "neededOf", desc := "(I)J" } : MethodName)) ∈ lw_g := lw_in 1092 (by decide +kernel) rfl
theorem q_1029 : (Cond.code ({ cls := "HexWorkbenchModel", name := "neededOf", desc := "(I)J" } : MethodName) prog_8_method_79_code (5 : Nat) (some FieldType.long)) ∈ lw_g := lw_in 1093 (by decide +kernel) rfl
theorem q_1030 : (Cond.methodLink "HexWorkbenchLaw" (162 : Nat) ({ cls := "HexWorkbenchModel", name := "randomGames", desc := "(II)I" } : MethodName)) ∈ lw_g := lw_in 1094 (by decide +kernel) rfl
theorem q_1031 : (Cond.instanceMethod ({ cls := "HexWorkbenchModel", name := "randomGames", desc := "(II)I" } : MethodName)) ∈ lw_g := lw_in 1095 (by decide +kernel) rfl
theorem q_1032 : (Cond.selects "HexWorkbenchModel" ({ cls := "HexWorkbenchModel", name := "randomGames", desc := "(II)I" } : MethodName) ({ cls := "HexWorkbenchModel", name := "randomGames", desc := "(II)I" } : MethodName)) ∈ lw_g := lw_in 1096 (by decide +kernel) rfl
theorem q_1033 : (Cond.code ({ cls := "HexWorkbenchModel", name := "randomGames", desc := "(II)I" } : MethodName) prog_8_method_82_code (14 : Nat) (some FieldType.int)) ∈ lw_g := lw_in 1097 (by decide +kernel) rfl
theorem q_1034 : (Cond.constantLong "HexWorkbenchModel" (248 : Nat) (1103515245 : Int64)) ∈ lw_g := lw_in 1098 (by decide +kernel) rfl
theorem q_1035 : (Cond.constantLong "HexWorkbenchModel" (250 : Nat) (12345 : Int64)) ∈ lw_g := lw_in 1099 (by decide +kernel) rfl
theorem q_1036 : (Cond.constantLong "HexWorkbenchModel" (252 : Nat) (2147483648 : Int64)) ∈ lw_g := lw_in 1100 (by decide +kernel) rfl
theorem q_1037 : (Cond.constantLong "HexWorkbenchModel" (254 : Nat) (65536 : Int64)) ∈ lw_g := lw_in 1101 (by decide +kernel) rfl
theorem q_1038 : (Cond.methodLink "HexWorkbenchModel" (256 : Nat) ({ cls := "HexWorkbenchModel", name := "nth", desc := "(JI)I" } : MethodName)) ∈ lw_g := lw_in 1102 (by decide +kernel) rfl
theorem q_1039 : (Cond.static ({ cls := "HexWorkbenchModel", name := "nth", desc := "(JI)I" } : MethodName)) ∈ lw_g := lw_in 1103 (by decide +kernel) rfl
theorem q_1040 : (Cond.code ({ cls := "HexWorkbenchModel", name := "nth", desc := "(JI)I" } : MethodName) prog_8_method_81_code (6 : Nat) (some FieldType.int)) ∈ lw_g := lw_in 1104 (by decide +kernel) rfl
theorem q_1041 : (Cond.methodLink "HexWorkbenchLaw" (166 : Nat) ({ cls := "HexWorkbenchModel", name := "append", desc := "(I)I" } : MethodName)) ∈ lw_g := lw_in 1105 (by decide +kernel) rfl
theorem q_1042 : (Cond.instanceMethod ({ cls := "HexWorkbenchModel", name := "append", desc := "(I)I" } : MethodName)) ∈ lw_g := lw_in 1106 (by decide +kernel) rfl
theorem q_1043 : (Cond.selects "HexWorkbenchModel" ({ cls := "HexWorkbenchModel", name := "append", desc := "(I)I" } : MethodName) ({ cls := "HexWorkbenchModel", name := "append", desc := "(I)I" } : MethodName)) ∈ lw_g := lw_in 1107 (by decide +kernel) rfl
theorem q_1044 : (Cond.code ({ cls := "HexWorkbenchModel", name := "append", desc := "(I)I" } : MethodName) prog_8_method_83_code (2 : Nat) (some FieldType.int)) ∈ lw_g := lw_in 1108 (by decide +kernel) rfl
theorem q_1045 : (Cond.methodLink "HexWorkbenchLaw" (170 : Nat) ({ cls := "HexWorkbenchModel", name := "clearText", desc := "()I" } : MethodName)) ∈ lw_g := lw_in 1109 (by decide +kernel) rfl
theorem q_1046 : (Cond.instanceMethod ({ cls := "HexWorkbenchModel", name := "clearText", desc := "()I" } : MethodName)) ∈ lw_g := lw_in 1110 (by decide +kernel) rfl
theorem q_1047 : (Cond.selects "HexWorkbenchModel" ({ cls := "HexWorkbenchModel", name := "clearText", desc := "()I" } : MethodName) ({ cls := "HexWorkbenchModel", name := "clearText", desc := "()I" } : MethodName)) ∈ lw_g := lw_in 1111 (by decide +kernel) rfl
theorem q_1048 : (Cond.code ({ cls := "HexWorkbenchModel", name := "clearText", desc := "()I" } : MethodName) prog_8_method_84_code (2 : Nat) (some FieldType.int)) ∈ lw_g := lw_in 1112 (by decide +kernel) rfl
theorem q_1049 : (Cond.methodLink "HexWorkbenchLaw" (174 : Nat) ({ cls := "HexWorkbenchModel", name := "faultPosition", desc := "()I" } : MethodName)) ∈ lw_g := lw_in 1113 (by decide +kernel) rfl
theorem q_1050 : (Cond.instanceMethod ({ cls := "HexWorkbenchModel", name := "faultPosition", desc := "()I" } : MethodName)) ∈ lw_g := lw_in 1114 (by decide +kernel) rfl
theorem q_1051 : (Cond.selects "HexWorkbenchModel" ({ cls := "HexWorkbenchModel", name := "faultPosition", desc := "()I" } : MethodName) ({ cls := "HexWorkbenchModel", name := "faultPosition", desc := "()I" } : MethodName)) ∈ lw_g := lw_in 1115 (by decide +kernel) rfl
theorem q_1052 : (Cond.code ({ cls := "HexWorkbenchModel", name := "faultPosition", desc := "()I" } : MethodName) prog_8_method_87_code (2 : Nat) (some FieldType.int)) ∈ lw_g := lw_in 1116 (by decide +kernel) rfl
theorem q_1053 : (Cond.methodLink "HexWorkbenchModel" (269 : Nat) ({ cls := "HexWorkbenchModel", name := "faultAside", desc := "()I" } : MethodName)) ∈ lw_g := lw_in 1117 (by decide +kernel) rfl
theorem q_1055 : (Cond.instanceMethod ({ cls := "HexWorkbenchModel", name := "faultAside", desc := "()I" } : MethodName)) ∈ lw_g := lw_in 1119 (by decide +kernel) rfl
theorem q_1056 : (Cond.code ({ cls := "HexWorkbenchModel", name := "faultAside", desc := "()I" } : MethodName) prog_8_method_86_code (2 : Nat) (some FieldType.int)) ∈ lw_g := lw_in 1120 (by decide +kernel) rfl
theorem q_1057 : (Cond.methodLink "HexWorkbenchModel" (266 : Nat) ({ cls := "HexWorkbenchModel", name := "faultOf", desc := "()I" } : MethodName)) ∈ lw_g := lw_in 1121 (by decide +kernel) rfl
theorem q_1059 : (Cond.instanceMethod ({ cls := "HexWorkbenchModel", name := "faultOf", desc := "()I" } : MethodName)) ∈ lw_g := lw_in 1123 (by decide +kernel) rfl
theorem q_1060 : (Cond.code ({ cls := "HexWorkbenchModel", name := "faultOf", desc := "()I" } : MethodName) prog_8_method_85_code (5 : Nat) (some FieldType.int)) ∈ lw_g := lw_in 1124 (by decide +kernel) rfl
theorem q_1061 : (Cond.methodLink "HexWorkbenchLaw" (178 : Nat) ({ cls := "HexWorkbenchModel", name := "read", desc := "()I" } : MethodName)) ∈ lw_g := lw_in 1125 (by decide +kernel) rfl
theorem q_1062 : (Cond.instanceMethod ({ cls := "HexWorkbenchModel", name := "read", desc := "()I" } : MethodName)) ∈ lw_g := lw_in 1126 (by decide +kernel) rfl
theorem q_1063 : (Cond.selects "HexWorkbenchModel" ({ cls := "HexWorkbenchModel", name := "read", desc := "()I" } : MethodName) ({ cls := "HexWorkbenchModel", name := "read", desc := "()I" } : MethodName)) ∈ lw_g := lw_in 1127 (by decide +kernel) rfl
theorem q_1064 : (Cond.code ({ cls := "HexWorkbenchModel", name := "read", desc := "()I" } : MethodName) prog_8_method_88_code (2 : Nat) (some FieldType.int)) ∈ lw_g := lw_in 1128 (by decide +kernel) rfl
theorem q_1065 : (Cond.methodLink "HexWorkbenchLaw" (182 : Nat) ({ cls := "HexWorkbenchModel", name := "save", desc := "(I)I" } : MethodName)) ∈ lw_g := lw_in 1129 (by decide +kernel) rfl
theorem q_1066 : (Cond.instanceMethod ({ cls := "HexWorkbenchModel", name := "save", desc := "(I)I" } : MethodName)) ∈ lw_g := lw_in 1130 (by decide +kernel) rfl
theorem q_1067 : (Cond.selects "HexWorkbenchModel" ({ cls := "HexWorkbenchModel", name := "save", desc := "(I)I" } : MethodName) ({ cls := "HexWorkbenchModel", name := "save", desc := "(I)I" } : MethodName)) ∈ lw_g := lw_in 1131 (by decide +kernel) rfl
theorem q_1068 : (Cond.code ({ cls := "HexWorkbenchModel", name := "save", desc := "(I)I" } : MethodName) prog_8_method_89_code (4 : Nat) (some FieldType.int)) ∈ lw_g := lw_in 1132 (by decide +kernel) rfl
theorem q_1069 : (Cond.methodLink "HexWorkbenchLaw" (186 : Nat) ({ cls := "HexWorkbenchModel", name := "restore", desc := "(I)I" } : MethodName)) ∈ lw_g := lw_in 1133 (by decide +kernel) rfl
theorem q_1070 : (Cond.instanceMethod ({ cls := "HexWorkbenchModel", name := "restore", desc := "(I)I" } : MethodName)) ∈ lw_g := lw_in 1134 (by decide +kernel) rfl
theorem q_1071 : (Cond.selects "HexWorkbenchModel" ({ cls := "HexWorkbenchModel", name := "restore", desc := "(I)I" } : MethodName) ({ cls := "HexWorkbenchModel", name := "restore", desc := "(I)I" } : MethodName)) ∈ lw_g := lw_in 1135 (by decide +kernel) rfl
theorem q_1072 : (Cond.code ({ cls := "HexWorkbenchModel", name := "restore", desc := "(I)I" } : MethodName) prog_8_method_90_code (4 : Nat) (some FieldType.int)) ∈ lw_g := lw_in 1136 (by decide +kernel) rfl
theorem q_1073 : (Cond.methodLink "HexWorkbenchLaw" (190 : Nat) ({ cls := "HexWorkbenchModel", name := "checksum", desc := "()J" } : MethodName)) ∈ lw_g := lw_in 1137 (by decide +kernel) rfl
theorem q_1074 : (Cond.instanceMethod ({ cls := "HexWorkbenchModel", name := "checksum", desc := "()J" } : MethodName)) ∈ lw_g := lw_in 1138 (by decide +kernel) rfl
theorem q_1075 : (Cond.selects "HexWorkbenchModel" ({ cls := "HexWorkbenchModel", name := "checksum", desc := "()J" } : MethodName) ({ cls := "HexWorkbenchModel", name := "checksum", desc := "()J" } : MethodName)) ∈ lw_g := lw_in 1139 (by decide +kernel) rfl
theorem q_1076 : (Cond.code ({ cls := "HexWorkbenchModel", name := "checksum", desc := "()J" } : MethodName) prog_8_method_92_code (4 : Nat) (some FieldType.long)) ∈ lw_g := lw_in 1140 (by decide +kernel) rfl
theorem q_1077 : (Cond.constantLong "HexWorkbenchModel" (274 : Nat) (37 : Int64)) ∈ lw_g := lw_in 1141 (by decide +kernel) rfl
theorem q_1078 : (Cond.methodLink "HexWorkbenchModel" (276 : Nat) ({ cls := "HexWorkbenchModel", name := "more", desc := "(JJ)J" } : MethodName)) ∈ lw_g := lw_in 1142 (by decide +kernel) rfl
theorem q_1079 : (Cond.static ({ cls := "HexWorkbenchModel", name := "more", desc := "(JJ)J" } : MethodName)) ∈ lw_g := lw_in 1143 (by decide +kernel) rfl
theorem q_1080 : (Cond.code ({ cls := "HexWorkbenchModel", name := "more", desc := "(JJ)J" } : MethodName) prog_8_method_91_code (4 : Nat) (some FieldType.long)) ∈ lw_g := lw_in 1144 (by decide +kernel) rfl
theorem q_1081 : (Cond.constantLong "HexWorkbenchModel" (272 : Nat) (31 : Int64)) ∈ lw_g := lw_in 1145 (by decide +kernel) rfl
theorem q_1082 : (Cond.methodLink "HexWorkbenchModel" (279 : Nat) ({ cls := "HexWorkbenchModel", name := "chains", desc := "(I)I" } : MethodName)) ∈ lw_g := lw_in 1146 (by decide +kernel) rfl
theorem q_1083 : (Cond.methodLink "HexWorkbenchModel" (282 : Nat) ({ cls := "HexWorkbenchModel", name := "cut", desc := "(I)I" } : MethodName)) ∈ lw_g := lw_in 1147 (by decide +kernel) rfl
theorem q_1084 : (Cond.constantLong "HexWorkbenchLaw" (130 : Nat) (4294967295 : Int64)) ∈ lw_g := lw_in 1148 (by decide +kernel) rfl
theorem qp_0 : Cond.selects "HexWorkbench" ⟨"HexWorkbench", "isCell", "(I)Z"⟩ ⟨"HexWorkbench", "isCell", "(I)Z"⟩ ∈ lw_g := lw_in 0 (by decide +kernel) rfl
theorem qp_1 : Cond.selects "HexWorkbench$Board" ⟨"HexWorkbench$Board", "floodUpTo", "(JJJ)J"⟩ ⟨"HexWorkbench$Board", "floodUpTo", "(JJJ)J"⟩ ∈ lw_g := lw_in 1 (by decide +kernel) rfl
theorem qp_2 : Cond.selects "HexWorkbench$Game" ⟨"HexWorkbench$Game", "apply", "(I)V"⟩ ⟨"HexWorkbench$Game", "apply", "(I)V"⟩ ∈ lw_g := lw_in 2 (by decide +kernel) rfl
theorem qp_3 : Cond.selects "HexWorkbench" ⟨"HexWorkbench", "chainAround", "(I)J"⟩ ⟨"HexWorkbench", "chainAround", "(I)J"⟩ ∈ lw_g := lw_in 3 (by decide +kernel) rfl
theorem qp_4 : Cond.selects "HexWorkbench" ⟨"HexWorkbench", "findBridges", "(JJ)I"⟩ ⟨"HexWorkbench", "findBridges", "(JJ)I"⟩ ∈ lw_g := lw_in 4 (by decide +kernel) rfl
theorem qp_5 : Cond.selects "HexWorkbench" ⟨"HexWorkbench", "bridgePartners", "(JJ)J"⟩ ⟨"HexWorkbench", "bridgePartners", "(JJ)J"⟩ ∈ lw_g := lw_in 5 (by decide +kernel) rfl
theorem qp_6 : Cond.selects "HexWorkbench" ⟨"HexWorkbench", "carrierOf", "(I)J"⟩ ⟨"HexWorkbench", "carrierOf", "(I)J"⟩ ∈ lw_g := lw_in 6 (by decide +kernel) rfl
theorem qp_7 : Cond.selects "HexWorkbench" ⟨"HexWorkbench", "hasFreeAtMost", "(I)Z"⟩ ⟨"HexWorkbench", "hasFreeAtMost", "(I)Z"⟩ ∈ lw_g := lw_in 7 (by decide +kernel) rfl
theorem qp_8 : Cond.selects "HexWorkbench$Fillings" ⟨"HexWorkbench$Fillings", "isWon", "(I)Z"⟩ ⟨"HexWorkbench$Fillings", "isWon", "(I)Z"⟩ ∈ lw_g := lw_in 8 (by decide +kernel) rfl
theorem qp_9 : Cond.selects "HexWorkbench" ⟨"HexWorkbench", "outcomeOfGame", "()I"⟩ ⟨"HexWorkbench", "outcomeOfGame", "()I"⟩ ∈ lw_g := lw_in 9 (by decide +kernel) rfl
theorem qp_10 : Cond.selects "HexWorkbench$Contest" ⟨"HexWorkbench$Contest", "outcome", "(JJZII)I"⟩ ⟨"HexWorkbench$Contest", "outcome", "(JJZII)I"⟩ ∈ lw_g := lw_in 10 (by decide +kernel) rfl
theorem qp_11 : Cond.selects "HexWorkbench$Contest" ⟨"HexWorkbench$Contest", "recall", "(I)I"⟩ ⟨"HexWorkbench$Contest", "recall", "(I)I"⟩ ∈ lw_g := lw_in 11 (by decide +kernel) rfl
theorem qp_12 : Cond.selects "HexWorkbench$Contest" ⟨"HexWorkbench$Contest", "bestOutcome", "(JJZII)I"⟩ ⟨"HexWorkbench$Contest", "bestOutcome", "(JJZII)I"⟩ ∈ lw_g := lw_in 12 (by decide +kernel) rfl
theorem qp_13 : Cond.selects "HexWorkbench$Contest" ⟨"HexWorkbench$Contest", "remember", "(II)V"⟩ ⟨"HexWorkbench$Contest", "remember", "(II)V"⟩ ∈ lw_g := lw_in 13 (by decide +kernel) rfl
theorem qp_14 : Cond.selects "HexWorkbench" ⟨"HexWorkbench", "regionError", "(IIIJI)I"⟩ ⟨"HexWorkbench", "regionError", "(IIIJI)I"⟩ ∈ lw_g := lw_in 14 (by decide +kernel) rfl
theorem qp_15 : Cond.selects "HexWorkbench" ⟨"HexWorkbench", "isPlace", "(I)Z"⟩ ⟨"HexWorkbench", "isPlace", "(I)Z"⟩ ∈ lw_g := lw_in 15 (by decide +kernel) rfl
theorem qp_16 : Cond.selects "HexWorkbench" ⟨"HexWorkbench", "canConnect", "(IIIJZ)Z"⟩ ⟨"HexWorkbench", "canConnect", "(IIIJZ)Z"⟩ ∈ lw_g := lw_in 16 (by decide +kernel) rfl
theorem qp_17 : Cond.selects "HexWorkbench" ⟨"HexWorkbench", "isValidThreat", "(II)Z"⟩ ⟨"HexWorkbench", "isValidThreat", "(II)Z"⟩ ∈ lw_g := lw_in 17 (by decide +kernel) rfl
theorem qp_18 : Cond.selects "HexWorkbench" ⟨"HexWorkbench", "tryText", "()I"⟩ ⟨"HexWorkbench", "tryText", "()I"⟩ ∈ lw_g := lw_in 18 (by decide +kernel) rfl
theorem qp_19 : Cond.selects "HexWorkbench" ⟨"HexWorkbench", "moveLength", "(I)I"⟩ ⟨"HexWorkbench", "moveLength", "(I)I"⟩ ∈ lw_g := lw_in 19 (by decide +kernel) rfl
theorem qp_20 : Cond.selects "HexWorkbench" ⟨"HexWorkbench", "letterAt", "(I)I"⟩ ⟨"HexWorkbench", "letterAt", "(I)I"⟩ ∈ lw_g := lw_in 20 (by decide +kernel) rfl
theorem qp_21 : Cond.selects "HexWorkbench" ⟨"HexWorkbench", "faultOfMove", "(II)I"⟩ ⟨"HexWorkbench", "faultOfMove", "(II)I"⟩ ∈ lw_g := lw_in 21 (by decide +kernel) rfl
theorem qp_22 : Cond.selects "HexWorkbench" ⟨"HexWorkbench", "cellAt", "(I)I"⟩ ⟨"HexWorkbench", "cellAt", "(I)I"⟩ ∈ lw_g := lw_in 22 (by decide +kernel) rfl
theorem qp_23 : Cond.selects "HexWorkbenchModel" ⟨"HexWorkbenchModel", "shapes", "()V"⟩ ⟨"HexWorkbenchModel", "shapes", "()V"⟩ ∈ lw_g := lw_in 23 (by decide +kernel) rfl
theorem qp_24 : Cond.selects "HexWorkbenchModel" ⟨"HexWorkbenchModel", "joins", "(III)V"⟩ ⟨"HexWorkbenchModel", "joins", "(III)V"⟩ ∈ lw_g := lw_in 24 (by decide +kernel) rfl
theorem qp_25 : Cond.selects "HexWorkbenchModel" ⟨"HexWorkbenchModel", "goes", "(I)V"⟩ ⟨"HexWorkbenchModel", "goes", "(I)V"⟩ ∈ lw_g := lw_in 25 (by decide +kernel) rfl
theorem qp_26 : Cond.selects "HexWorkbenchModel" ⟨"HexWorkbenchModel", "lays", "(II)V"⟩ ⟨"HexWorkbenchModel", "lays", "(II)V"⟩ ∈ lw_g := lw_in 26 (by decide +kernel) rfl
theorem qp_27 : Cond.selects "HexWorkbenchModel" ⟨"HexWorkbenchModel", "isCell", "(I)Z"⟩ ⟨"HexWorkbenchModel", "isCell", "(I)Z"⟩ ∈ lw_g := lw_in 27 (by decide +kernel) rfl
theorem qp_28 : Cond.selects "HexWorkbenchModel" ⟨"HexWorkbenchModel", "free", "()J"⟩ ⟨"HexWorkbenchModel", "free", "()J"⟩ ∈ lw_g := lw_in 28 (by decide +kernel) rfl
theorem qp_29 : Cond.selects "HexWorkbenchModel" ⟨"HexWorkbenchModel", "cells", "()J"⟩ ⟨"HexWorkbenchModel", "cells", "()J"⟩ ∈ lw_g := lw_in 29 (by decide +kernel) rfl
theorem qp_30 : Cond.selects "HexWorkbenchModel" ⟨"HexWorkbenchModel", "winnerNow", "()I"⟩ ⟨"HexWorkbenchModel", "winnerNow", "()I"⟩ ∈ lw_g := lw_in 30 (by decide +kernel) rfl
theorem qp_31 : Cond.selects "HexWorkbenchModel" ⟨"HexWorkbenchModel", "wins", "(IJ)Z"⟩ ⟨"HexWorkbenchModel", "wins", "(IJ)Z"⟩ ∈ lw_g := lw_in 31 (by decide +kernel) rfl
theorem qp_32 : Cond.selects "HexWorkbenchModel" ⟨"HexWorkbenchModel", "edge", "(I)J"⟩ ⟨"HexWorkbenchModel", "edge", "(I)J"⟩ ∈ lw_g := lw_in 32 (by decide +kernel) rfl
theorem qp_33 : Cond.selects "HexWorkbenchModel" ⟨"HexWorkbenchModel", "reach", "(JJ)J"⟩ ⟨"HexWorkbenchModel", "reach", "(JJ)J"⟩ ∈ lw_g := lw_in 33 (by decide +kernel) rfl
theorem qp_34 : Cond.selects "HexWorkbenchModel" ⟨"HexWorkbenchModel", "around", "(J)J"⟩ ⟨"HexWorkbenchModel", "around", "(J)J"⟩ ∈ lw_g := lw_in 34 (by decide +kernel) rfl
theorem qp_35 : Cond.selects "HexWorkbenchModel" ⟨"HexWorkbenchModel", "adds", "(I)V"⟩ ⟨"HexWorkbenchModel", "adds", "(I)V"⟩ ∈ lw_g := lw_in 35 (by decide +kernel) rfl
theorem qp_36 : Cond.selects "HexWorkbenchModel" ⟨"HexWorkbenchModel", "own", "(I)J"⟩ ⟨"HexWorkbenchModel", "own", "(I)J"⟩ ∈ lw_g := lw_in 36 (by decide +kernel) rfl
theorem qp_37 : Cond.selects "HexWorkbenchModel" ⟨"HexWorkbenchModel", "chainWith", "(I)J"⟩ ⟨"HexWorkbenchModel", "chainWith", "(I)J"⟩ ∈ lw_g := lw_in 37 (by decide +kernel) rfl
theorem qp_38 : Cond.selects "HexWorkbenchModel" ⟨"HexWorkbenchModel", "distanceOf", "(I)I"⟩ ⟨"HexWorkbenchModel", "distanceOf", "(I)I"⟩ ∈ lw_g := lw_in 38 (by decide +kernel) rfl
theorem qp_39 : Cond.selects "HexWorkbenchModel" ⟨"HexWorkbenchModel", "levels", "(II[I)V"⟩ ⟨"HexWorkbenchModel", "levels", "(II[I)V"⟩ ∈ lw_g := lw_in 39 (by decide +kernel) rfl
theorem qp_40 : Cond.selects "HexWorkbenchModel" ⟨"HexWorkbenchModel", "shortestOf", "(I)J"⟩ ⟨"HexWorkbenchModel", "shortestOf", "(I)J"⟩ ∈ lw_g := lw_in 40 (by decide +kernel) rfl
theorem qp_41 : Cond.selects "HexWorkbenchModel" ⟨"HexWorkbenchModel", "carrier", "(IIJ)J"⟩ ⟨"HexWorkbenchModel", "carrier", "(IIJ)J"⟩ ∈ lw_g := lw_in 41 (by decide +kernel) rfl
theorem qp_42 : Cond.selects "HexWorkbenchModel" ⟨"HexWorkbenchModel", "answersNow", "()J"⟩ ⟨"HexWorkbenchModel", "answersNow", "()J"⟩ ∈ lw_g := lw_in 42 (by decide +kernel) rfl
theorem qp_43 : Cond.selects "HexWorkbenchModel" ⟨"HexWorkbenchModel", "fills", "()Z"⟩ ⟨"HexWorkbenchModel", "fills", "()Z"⟩ ∈ lw_g := lw_in 43 (by decide +kernel) rfl
theorem qp_44 : Cond.selects "HexWorkbenchModel" ⟨"HexWorkbenchModel", "findHoles", "(J)V"⟩ ⟨"HexWorkbenchModel", "findHoles", "(J)V"⟩ ∈ lw_g := lw_in 44 (by decide +kernel) rfl
theorem qp_45 : Cond.selects "HexWorkbenchModel" ⟨"HexWorkbenchModel", "weightOf", "(I)I"⟩ ⟨"HexWorkbenchModel", "weightOf", "(I)I"⟩ ∈ lw_g := lw_in 45 (by decide +kernel) rfl
theorem qp_46 : Cond.selects "HexWorkbenchModel" ⟨"HexWorkbenchModel", "solves", "()Z"⟩ ⟨"HexWorkbenchModel", "solves", "()Z"⟩ ∈ lw_g := lw_in 46 (by decide +kernel) rfl
theorem qp_47 : Cond.selects "HexWorkbenchModel" ⟨"HexWorkbenchModel", "powers", "()V"⟩ ⟨"HexWorkbenchModel", "powers", "()V"⟩ ∈ lw_g := lw_in 47 (by decide +kernel) rfl
theorem qp_48 : Cond.selects "HexWorkbenchModel" ⟨"HexWorkbenchModel", "laid", "(II)J"⟩ ⟨"HexWorkbenchModel", "laid", "(II)J"⟩ ∈ lw_g := lw_in 48 (by decide +kernel) rfl
theorem qp_49 : Cond.selects "HexWorkbenchModel" ⟨"HexWorkbenchModel", "digit", "(II)I"⟩ ⟨"HexWorkbenchModel", "digit", "(II)I"⟩ ∈ lw_g := lw_in 49 (by decide +kernel) rfl
theorem qp_50 : Cond.selects "HexWorkbenchModel" ⟨"HexWorkbenchModel", "laidMany", "(I)I"⟩ ⟨"HexWorkbenchModel", "laidMany", "(I)I"⟩ ∈ lw_g := lw_in 50 (by decide +kernel) rfl
theorem qp_51 : Cond.selects "HexWorkbenchModel" ⟨"HexWorkbenchModel", "decides", "(II)V"⟩ ⟨"HexWorkbenchModel", "decides", "(II)V"⟩ ∈ lw_g := lw_in 51 (by decide +kernel) rfl
theorem qp_52 : Cond.selects "HexWorkbenchModel" ⟨"HexWorkbenchModel", "winning", "()J"⟩ ⟨"HexWorkbenchModel", "winning", "()J"⟩ ∈ lw_g := lw_in 52 (by decide +kernel) rfl
theorem qp_53 : Cond.selects "HexWorkbenchModel" ⟨"HexWorkbenchModel", "arePlaces", "(III)Z"⟩ ⟨"HexWorkbenchModel", "arePlaces", "(III)Z"⟩ ∈ lw_g := lw_in 53 (by decide +kernel) rfl
theorem qp_54 : Cond.selects "HexWorkbenchModel" ⟨"HexWorkbenchModel", "isPlace", "(I)Z"⟩ ⟨"HexWorkbenchModel", "isPlace", "(I)Z"⟩ ∈ lw_g := lw_in 54 (by decide +kernel) rfl
theorem qp_55 : Cond.selects "HexWorkbenchModel" ⟨"HexWorkbenchModel", "isRegion", "(JI)Z"⟩ ⟨"HexWorkbenchModel", "isRegion", "(JI)Z"⟩ ∈ lw_g := lw_in 55 (by decide +kernel) rfl
theorem qp_56 : Cond.selects "HexWorkbenchModel" ⟨"HexWorkbenchModel", "strengthOf", "(IIIJ)I"⟩ ⟨"HexWorkbenchModel", "strengthOf", "(IIIJ)I"⟩ ∈ lw_g := lw_in 56 (by decide +kernel) rfl
theorem qp_57 : Cond.selects "HexWorkbenchModel" ⟨"HexWorkbenchModel", "connects", "(IIIJI)Z"⟩ ⟨"HexWorkbenchModel", "connects", "(IIIJI)Z"⟩ ∈ lw_g := lw_in 57 (by decide +kernel) rfl
theorem qp_58 : Cond.selects "HexWorkbenchModel" ⟨"HexWorkbenchModel", "place", "(I)J"⟩ ⟨"HexWorkbenchModel", "place", "(I)J"⟩ ∈ lw_g := lw_in 58 (by decide +kernel) rfl
theorem qp_59 : Cond.selects "HexWorkbenchModel" ⟨"HexWorkbenchModel", "threatsOf", "(I)I"⟩ ⟨"HexWorkbenchModel", "threatsOf", "(I)I"⟩ ∈ lw_g := lw_in 59 (by decide +kernel) rfl
theorem qp_60 : Cond.selects "HexWorkbenchModel" ⟨"HexWorkbenchModel", "isThreat", "(II)Z"⟩ ⟨"HexWorkbenchModel", "isThreat", "(II)Z"⟩ ∈ lw_g := lw_in 60 (by decide +kernel) rfl
theorem qp_61 : Cond.selects "HexWorkbenchModel" ⟨"HexWorkbenchModel", "neededOf", "(I)J"⟩ ⟨"HexWorkbenchModel", "neededOf", "(I)J"⟩ ∈ lw_g := lw_in 61 (by decide +kernel) rfl
theorem qp_62 : Cond.selects "HexWorkbenchModel" ⟨"HexWorkbenchModel", "faultAside", "()I"⟩ ⟨"HexWorkbenchModel", "faultAside", "()I"⟩ ∈ lw_g := lw_in 62 (by decide +kernel) rfl
theorem qp_63 : Cond.selects "HexWorkbenchModel" ⟨"HexWorkbenchModel", "faultOf", "()I"⟩ ⟨"HexWorkbenchModel", "faultOf", "()I"⟩ ∈ lw_g := lw_in 63 (by decide +kernel) rfl
theorem inX0 : ∀ w ∈ u_ws RX0 TX0 7, w ∈ lw_g := lw_ins [133, 135, 137, 139, 141, 143, 145] (by decide +kernel) (by decide +kernel)
theorem inX1 : ∀ w ∈ u_ws RX1 TX1 5, w ∈ lw_g := lw_ins [190, 192, 194, 196, 198] (by decide +kernel) (by decide +kernel)
theorem inX2 : ∀ w ∈ u_ws RX2 TX2 2, w ∈ lw_g := lw_ins [103, 105] (by decide +kernel) (by decide +kernel)
theorem inX3 : ∀ w ∈ u_ws RX3 TX3 6, w ∈ lw_g := lw_ins [166, 168, 170, 172, 174, 176] (by decide +kernel) (by decide +kernel)
theorem inX4 : ∀ w ∈ u_ws RX4 TX4 1, w ∈ lw_g := lw_ins [91] (by decide +kernel) (by decide +kernel)
theorem inX5 : ∀ w ∈ u_ws RX5 TX5 12, w ∈ lw_g := lw_ins [213, 215, 217, 219, 221, 223, 225, 227, 229, 231, 233, 235] (by decide +kernel) (by decide +kernel)
theorem inX6 : ∀ w ∈ u_ws RX6 TX6 24, w ∈ lw_g := lw_ins [742, 744, 746, 748, 750, 752, 754, 756, 758, 760, 762, 764, 766, 768, 770, 772, 774, 776, 778, 780, 782, 784, 786, 788] (by decide +kernel) (by decide +kernel)
