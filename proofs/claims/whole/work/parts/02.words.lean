def uNs : Cond → Bool
  | .methodLinkNest .. => true
  | .fieldLinkNest .. => true
  | .arrayOver (.object _) => true
  | _ => false
/-- the words that keep, and those that want their own rows -/
def lw_g : List Cond := lw_tbl.filter goodWord
def lw_n : List Cond := lw_tbl.filter uNs
theorem tg {w : Cond} (h : w ∈ lw_tbl) (hg : goodWord w = true) : w ∈ lw_g := List.mem_filter.mpr ⟨h, hg⟩
theorem tn {w : Cond} (h : w ∈ lw_tbl) (hg : uNs w = true) : w ∈ lw_n := List.mem_filter.mpr ⟨h, hg⟩
theorem tb1 {w : Cond} (h : w ∈ tables_1_1) : w ∈ lw_tbl := List.mem_append_right _ (show w ∈ tables_1 from List.mem_append_left _ h)
theorem tb2 {w : Cond} (h : w ∈ tables_1_2) : w ∈ lw_tbl := List.mem_append_right _ (show w ∈ tables_1 from List.mem_append_right _ (List.mem_append_left _ h))
theorem tb3 {w : Cond} (h : w ∈ tables_1_3) : w ∈ lw_tbl := List.mem_append_right _ (show w ∈ tables_1 from List.mem_append_right _ (List.mem_append_right _ (List.mem_append_left _ h)))
theorem tb4 {w : Cond} (h : w ∈ tables_1_4) : w ∈ lw_tbl := List.mem_append_right _ (show w ∈ tables_1 from List.mem_append_right _ (List.mem_append_right _ (List.mem_append_right _ (List.mem_append_left _ h))))
theorem tb5 {w : Cond} (h : w ∈ tables_1_5) : w ∈ lw_tbl := List.mem_append_right _ (show w ∈ tables_1 from List.mem_append_right _ (List.mem_append_right _ (List.mem_append_right _ (List.mem_append_right _ (List.mem_append_left _ h)))))
theorem tb6 {w : Cond} (h : w ∈ tables_1_6) : w ∈ lw_tbl := List.mem_append_right _ (show w ∈ tables_1 from List.mem_append_right _ (List.mem_append_right _ (List.mem_append_right _ (List.mem_append_right _ (List.mem_append_right _ (h))))))
theorem tp1 {q : MethodName × Nat} (h : q ∈ lw_privs_1) : Cond.selects q.1.cls q.1 q.1 ∈ lw_tbl := List.mem_append_left _ (List.mem_map.mpr ⟨q, (show q ∈ lw_privs from List.mem_append_left _ h), rfl⟩)
theorem tp2 {q : MethodName × Nat} (h : q ∈ lw_privs_2) : Cond.selects q.1.cls q.1 q.1 ∈ lw_tbl := List.mem_append_left _ (List.mem_map.mpr ⟨q, (show q ∈ lw_privs from List.mem_append_right _ (List.mem_append_left _ h)), rfl⟩)
theorem tp3 {q : MethodName × Nat} (h : q ∈ lw_privs_3) : Cond.selects q.1.cls q.1 q.1 ∈ lw_tbl := List.mem_append_left _ (List.mem_map.mpr ⟨q, (show q ∈ lw_privs from List.mem_append_right _ (List.mem_append_right _ (List.mem_append_left _ h))), rfl⟩)
theorem tp4 {q : MethodName × Nat} (h : q ∈ lw_privs_4) : Cond.selects q.1.cls q.1 q.1 ∈ lw_tbl := List.mem_append_left _ (List.mem_map.mpr ⟨q, (show q ∈ lw_privs from List.mem_append_right _ (List.mem_append_right _ (List.mem_append_right _ (List.mem_append_left _ h)))), rfl⟩)
theorem tp5 {q : MethodName × Nat} (h : q ∈ lw_privs_5) : Cond.selects q.1.cls q.1 q.1 ∈ lw_tbl := List.mem_append_left _ (List.mem_map.mpr ⟨q, (show q ∈ lw_privs from List.mem_append_right _ (List.mem_append_right _ (List.mem_append_right _ (List.mem_append_right _ (h))))), rfl⟩)
theorem tw0 : Cond.initialized RL ∈ lw_g := tg (tb1 (List.mem_of_getElem? (i := 0) rfl)) rfl
theorem tw1 : Cond.initialized RX11 ∈ lw_g := tg (tb1 (List.mem_of_getElem? (i := 1) rfl)) rfl
theorem tw2 : Cond.initialized RX4 ∈ lw_g := tg (tb1 (List.mem_of_getElem? (i := 2) rfl)) rfl
theorem tw3 : Cond.initialized RX6 ∈ lw_g := tg (tb1 (List.mem_of_getElem? (i := 3) rfl)) rfl
theorem tw4 : Cond.initialized RX7 ∈ lw_g := tg (tb1 (List.mem_of_getElem? (i := 4) rfl)) rfl
theorem tw5 : Cond.initialized RJ7 ∈ lw_g := tg (tb1 (List.mem_of_getElem? (i := 5) rfl)) rfl
theorem tw6 : Cond.initialized RX3 ∈ lw_g := tg (tb1 (List.mem_of_getElem? (i := 6) rfl)) rfl
theorem tw7 : Cond.initialized RX2 ∈ lw_g := tg (tb1 (List.mem_of_getElem? (i := 7) rfl)) rfl
theorem tw8 : Cond.initialized RX1 ∈ lw_g := tg (tb1 (List.mem_of_getElem? (i := 8) rfl)) rfl
theorem tw9 : Cond.initialized RX10 ∈ lw_g := tg (tb1 (List.mem_of_getElem? (i := 9) rfl)) rfl
theorem tw10 : Cond.initialized RX0 ∈ lw_g := tg (tb1 (List.mem_of_getElem? (i := 10) rfl)) rfl
theorem tw11 : Cond.initialized RX9 ∈ lw_g := tg (tb1 (List.mem_of_getElem? (i := 11) rfl)) rfl
theorem tw12 : Cond.initialized RX8 ∈ lw_g := tg (tb1 (List.mem_of_getElem? (i := 12) rfl)) rfl
theorem tw13 : Cond.initialized RX5 ∈ lw_g := tg (tb1 (List.mem_of_getElem? (i := 13) rfl)) rfl
theorem tw14 : Cond.initialized RX12 ∈ lw_g := tg (tb1 (List.mem_of_getElem? (i := 14) rfl)) rfl
theorem tw15 : Cond.initialized RJ9 ∈ lw_g := tg (tb1 (List.mem_of_getElem? (i := 15) rfl)) rfl
theorem tw16 : Cond.initialized RJ13 ∈ lw_g := tg (tb1 (List.mem_of_getElem? (i := 16) rfl)) rfl
theorem tw17 : Cond.classLink RL 7 RX11 ∈ lw_g := tg (tb1 (List.mem_of_getElem? (i := 17) rfl)) rfl
theorem tw18 : Cond.instantiable RX11 12 ∈ lw_g := tg (tb1 (List.mem_of_getElem? (i := 18) rfl)) rfl
theorem tw19 : Cond.methodLink RL 9 yX11_init ∈ lw_g := tg (tb1 (List.mem_of_getElem? (i := 19) rfl)) rfl
theorem tw20 : Cond.instanceMethod yX11_init ∈ lw_g := tg (tb1 (List.mem_of_getElem? (i := 20) rfl)) rfl
theorem tw21 : Cond.code yX11_init cX11_init 2 none ∈ lw_g := tg (tb1 (List.mem_of_getElem? (i := 21) rfl)) rfl
theorem tw22 : Cond.methodLink RX11 5 objectInit ∈ lw_g := tg (tb1 (List.mem_of_getElem? (i := 22) rfl)) rfl
theorem tw23 : Cond.instanceMethod objectInit ∈ lw_g := tg (tb1 (List.mem_of_getElem? (i := 23) rfl)) rfl
theorem tw24 : Cond.code objectInit object_method_1_code 1 none ∈ lw_g := tg (tb1 (List.mem_of_getElem? (i := 24) rfl)) rfl
theorem tw25 : Cond.classLink RX11 11 RX4 ∈ lw_g := tg (tb1 (List.mem_of_getElem? (i := 25) rfl)) rfl
theorem tw26 : Cond.instantiable RX4 4 ∈ lw_g := tg (tb1 (List.mem_of_getElem? (i := 26) rfl)) rfl
theorem tw27 : Cond.methodLink RX11 13 yX4_init ∈ lw_g := tg (tb1 (List.mem_of_getElem? (i := 27) rfl)) rfl
theorem tw28 : Cond.instanceMethod yX4_init ∈ lw_g := tg (tb1 (List.mem_of_getElem? (i := 28) rfl)) rfl
theorem tw29 : Cond.code yX4_init cX4_init 3 none ∈ lw_g := tg (tb1 (List.mem_of_getElem? (i := 29) rfl)) rfl
theorem tw30 : Cond.methodLink RX4 3 objectInit ∈ lw_g := tg (tb1 (List.mem_of_getElem? (i := 30) rfl)) rfl
theorem tw31 : Cond.classLink RX4 15 RX7 ∈ lw_g := tg (tb1 (List.mem_of_getElem? (i := 31) rfl)) rfl
theorem tw32 : Cond.arrayOver (FieldType.object "HeaderSpaceNetwork$RuleList") ∈ lw_n := tn (tb1 (List.mem_of_getElem? (i := 32) rfl)) rfl
theorem tw33 : Cond.classLink RX4 21 RX6 ∈ lw_g := tg (tb1 (List.mem_of_getElem? (i := 33) rfl)) rfl
theorem tw34 : Cond.instantiable RX6 8 ∈ lw_g := tg (tb1 (List.mem_of_getElem? (i := 34) rfl)) rfl
theorem tw35 : Cond.methodLink RX4 23 yX6_init ∈ lw_g := tg (tb1 (List.mem_of_getElem? (i := 35) rfl)) rfl
theorem tw36 : Cond.instanceMethod yX6_init ∈ lw_g := tg (tb1 (List.mem_of_getElem? (i := 36) rfl)) rfl
theorem tw37 : Cond.code yX6_init cX6_init 8 none ∈ lw_g := tg (tb1 (List.mem_of_getElem? (i := 37) rfl)) rfl
theorem tw38 : Cond.methodLink RX6 3 objectInit ∈ lw_g := tg (tb1 (List.mem_of_getElem? (i := 38) rfl)) rfl
theorem tw39 : Cond.methodLinkNest RX6 34 yX11_cubeHeaders RX11 ∈ lw_n := tn (tb1 (List.mem_of_getElem? (i := 39) rfl)) rfl
theorem tw40 : Cond.static yX11_cubeHeaders ∈ lw_g := tg (tb1 (List.mem_of_getElem? (i := 40) rfl)) rfl
theorem tw41 : Cond.code yX11_cubeHeaders cX11_cubeHeaders 5 (some FieldType.long) ∈ lw_g := tg (tb1 (List.mem_of_getElem? (i := 41) rfl)) rfl
theorem tw42 : Cond.constantLong RX11 338 (4294967295) ∈ lw_g := tg (tb1 (List.mem_of_getElem? (i := 42) rfl)) rfl
theorem tw43 : Cond.fieldLink RX11 340 RX11 "WITH_BIT" "[J" ∈ lw_g := tg (tb1 (List.mem_of_getElem? (i := 43) rfl)) rfl
theorem tw44 : Cond.laysStatic RX11 "WITH_BIT" "[J" ∈ lw_tbl := tb1 (List.mem_of_getElem? (i := 44) rfl)
theorem tw45 : Cond.constantLong RX11 250 (-1) ∈ lw_g := tg (tb1 (List.mem_of_getElem? (i := 45) rfl)) rfl
theorem tw46 : Cond.fieldLink RX6 9 RX6 "ports" "I" ∈ lw_g := tg (tb1 (List.mem_of_getElem? (i := 46) rfl)) rfl
theorem tw47 : Cond.fieldLink RX8 19 RX6 "ports" "I" ∈ lw_g := tg (tb1 (List.mem_of_getElem? (i := 47) rfl)) rfl
theorem tw48 : Cond.fieldLink RX11 192 RX6 "ports" "I" ∈ lw_g := tg (tb1 (List.mem_of_getElem? (i := 48) rfl)) rfl
theorem tw49 : Cond.fieldLink RX6 15 RX6 "care" "I" ∈ lw_g := tg (tb1 (List.mem_of_getElem? (i := 49) rfl)) rfl
theorem tw50 : Cond.fieldLink RX8 32 RX6 "care" "I" ∈ lw_g := tg (tb1 (List.mem_of_getElem? (i := 50) rfl)) rfl
theorem tw51 : Cond.fieldLink RX11 195 RX6 "care" "I" ∈ lw_g := tg (tb1 (List.mem_of_getElem? (i := 51) rfl)) rfl
theorem tw52 : Cond.fieldLink RX6 18 RX6 "value" "I" ∈ lw_g := tg (tb1 (List.mem_of_getElem? (i := 52) rfl)) rfl
theorem tw53 : Cond.fieldLink RX8 35 RX6 "value" "I" ∈ lw_g := tg (tb1 (List.mem_of_getElem? (i := 53) rfl)) rfl
theorem tw54 : Cond.fieldLink RX11 198 RX6 "value" "I" ∈ lw_g := tg (tb1 (List.mem_of_getElem? (i := 54) rfl)) rfl
theorem tw55 : Cond.fieldLink RX6 21 RX6 "outputs" "I" ∈ lw_g := tg (tb1 (List.mem_of_getElem? (i := 55) rfl)) rfl
theorem tw56 : Cond.fieldLink RX8 42 RX6 "outputs" "I" ∈ lw_g := tg (tb1 (List.mem_of_getElem? (i := 56) rfl)) rfl
theorem tw57 : Cond.fieldLink RX1 65 RX6 "outputs" "I" ∈ lw_g := tg (tb1 (List.mem_of_getElem? (i := 57) rfl)) rfl
theorem tw58 : Cond.fieldLink RX2 73 RX6 "outputs" "I" ∈ lw_g := tg (tb1 (List.mem_of_getElem? (i := 58) rfl)) rfl
theorem tw59 : Cond.fieldLink RX11 152 RX6 "outputs" "I" ∈ lw_g := tg (tb1 (List.mem_of_getElem? (i := 59) rfl)) rfl
theorem tw60 : Cond.fieldLink RX0 119 RX6 "outputs" "I" ∈ lw_g := tg (tb1 (List.mem_of_getElem? (i := 60) rfl)) rfl
theorem tw61 : Cond.fieldLink RX6 24 RX6 "change" "I" ∈ lw_g := tg (tb1 (List.mem_of_getElem? (i := 61) rfl)) rfl
theorem tw62 : Cond.fieldLink RX8 45 RX6 "change" "I" ∈ lw_g := tg (tb1 (List.mem_of_getElem? (i := 62) rfl)) rfl
theorem tw63 : Cond.fieldLink RX11 163 RX6 "change" "I" ∈ lw_g := tg (tb1 (List.mem_of_getElem? (i := 63) rfl)) rfl
theorem tw64 : Cond.fieldLink RX6 27 RX6 "to" "I" ∈ lw_g := tg (tb1 (List.mem_of_getElem? (i := 64) rfl)) rfl
theorem tw65 : Cond.fieldLink RX8 48 RX6 "to" "I" ∈ lw_g := tg (tb1 (List.mem_of_getElem? (i := 65) rfl)) rfl
theorem tw66 : Cond.fieldLink RX11 166 RX6 "to" "I" ∈ lw_g := tg (tb1 (List.mem_of_getElem? (i := 66) rfl)) rfl
theorem tw67 : Cond.fieldLink RX6 30 RX6 "on" "Z" ∈ lw_g := tg (tb1 (List.mem_of_getElem? (i := 67) rfl)) rfl
theorem tw68 : Cond.fieldLink RX7 37 RX6 "on" "Z" ∈ lw_g := tg (tb1 (List.mem_of_getElem? (i := 68) rfl)) rfl
theorem tw69 : Cond.fieldLink RX11 185 RX6 "on" "Z" ∈ lw_g := tg (tb1 (List.mem_of_getElem? (i := 69) rfl)) rfl
theorem tw70 : Cond.fieldLink RX6 38 RX6 "headers" "J" ∈ lw_g := tg (tb1 (List.mem_of_getElem? (i := 70) rfl)) rfl
theorem tw71 : Cond.fieldLink RX7 45 RX6 "headers" "J" ∈ lw_g := tg (tb1 (List.mem_of_getElem? (i := 71) rfl)) rfl
theorem tw72 : Cond.laysFinal RX6 RX6 "ports" "I" ∈ lw_g := tg (tb1 (List.mem_of_getElem? (i := 72) rfl)) rfl
theorem tw74 : Cond.laysFinal RX6 RX6 "care" "I" ∈ lw_g := tg (tb1 (List.mem_of_getElem? (i := 74) rfl)) rfl
theorem tw76 : Cond.laysFinal RX6 RX6 "value" "I" ∈ lw_g := tg (tb1 (List.mem_of_getElem? (i := 76) rfl)) rfl
theorem tw78 : Cond.laysFinal RX6 RX6 "outputs" "I" ∈ lw_g := tg (tb1 (List.mem_of_getElem? (i := 78) rfl)) rfl
theorem tw80 : Cond.laysFinal RX6 RX6 "change" "I" ∈ lw_g := tg (tb1 (List.mem_of_getElem? (i := 80) rfl)) rfl
theorem tw82 : Cond.laysFinal RX6 RX6 "to" "I" ∈ lw_g := tg (tb1 (List.mem_of_getElem? (i := 82) rfl)) rfl
theorem tw84 : Cond.laysFinal RX6 RX6 "on" "Z" ∈ lw_g := tg (tb1 (List.mem_of_getElem? (i := 84) rfl)) rfl
theorem tw86 : Cond.laysFinal RX6 RX6 "headers" "J" ∈ lw_g := tg (tb1 (List.mem_of_getElem? (i := 86) rfl)) rfl
theorem tw89 : Cond.arrayClass FieldType.int ∈ lw_g := tg (tb1 (List.mem_of_getElem? (i := 89) rfl)) rfl
theorem tw90 : Cond.instantiable RX7 2 ∈ lw_g := tg (tb1 (List.mem_of_getElem? (i := 90) rfl)) rfl
theorem tw91 : Cond.methodLink RX4 26 yX7_init ∈ lw_g := tg (tb1 (List.mem_of_getElem? (i := 91) rfl)) rfl
theorem tw92 : Cond.instanceMethod yX7_init ∈ lw_g := tg (tb1 (List.mem_of_getElem? (i := 92) rfl)) rfl
theorem tw93 : Cond.code yX7_init cX7_init 3 none ∈ lw_g := tg (tb1 (List.mem_of_getElem? (i := 93) rfl)) rfl
theorem tw94 : Cond.methodLink RX7 3 objectInit ∈ lw_g := tg (tb1 (List.mem_of_getElem? (i := 94) rfl)) rfl
theorem tw95 : Cond.classLink RX7 9 RX6 ∈ lw_g := tg (tb1 (List.mem_of_getElem? (i := 95) rfl)) rfl
theorem tw96 : Cond.arrayOver (FieldType.object "HeaderSpaceNetwork$Rule") ∈ lw_n := tn (tb1 (List.mem_of_getElem? (i := 96) rfl)) rfl
theorem tw97 : Cond.fieldLink RX7 11 RX7 "rules" "[LHeaderSpaceNetwork$Rule;" ∈ lw_g := tg (tb1 (List.mem_of_getElem? (i := 97) rfl)) rfl
theorem tw98 : Cond.fieldLink RX10 50 RX7 "rules" "[LHeaderSpaceNetwork$Rule;" ∈ lw_g := tg (tb1 (List.mem_of_getElem? (i := 98) rfl)) rfl
theorem tw99 : Cond.fieldLink RX1 53 RX7 "rules" "[LHeaderSpaceNetwork$Rule;" ∈ lw_g := tg (tb1 (List.mem_of_getElem? (i := 99) rfl)) rfl
theorem tw100 : Cond.fieldLink RX2 69 RX7 "rules" "[LHeaderSpaceNetwork$Rule;" ∈ lw_g := tg (tb1 (List.mem_of_getElem? (i := 100) rfl)) rfl
theorem tw101 : Cond.fieldLink RX11 146 RX7 "rules" "[LHeaderSpaceNetwork$Rule;" ∈ lw_g := tg (tb1 (List.mem_of_getElem? (i := 101) rfl)) rfl
theorem tw102 : Cond.fieldLink RX0 109 RX7 "rules" "[LHeaderSpaceNetwork$Rule;" ∈ lw_g := tg (tb1 (List.mem_of_getElem? (i := 102) rfl)) rfl
theorem tw103 : Cond.fieldLink RX7 17 RX7 "size" "I" ∈ lw_g := tg (tb1 (List.mem_of_getElem? (i := 103) rfl)) rfl
theorem tw104 : Cond.fieldLink RX4 46 RX7 "size" "I" ∈ lw_g := tg (tb1 (List.mem_of_getElem? (i := 104) rfl)) rfl
theorem tw105 : Cond.fieldLink RX1 47 RX7 "size" "I" ∈ lw_g := tg (tb1 (List.mem_of_getElem? (i := 105) rfl)) rfl
theorem tw106 : Cond.fieldLink RX2 59 RX7 "size" "I" ∈ lw_g := tg (tb1 (List.mem_of_getElem? (i := 106) rfl)) rfl
theorem tw107 : Cond.fieldLink RX11 176 RX7 "size" "I" ∈ lw_g := tg (tb1 (List.mem_of_getElem? (i := 107) rfl)) rfl
theorem tw108 : Cond.laysFinal RX7 RX7 "rules" "[LHeaderSpaceNetwork$Rule;" ∈ lw_g := tg (tb1 (List.mem_of_getElem? (i := 108) rfl)) rfl
theorem tw110 : Cond.lays RX7 RX7 "size" "I" ∈ lw_g := tg (tb1 (List.mem_of_getElem? (i := 110) rfl)) rfl
theorem tw113 : Cond.methodLink RX4 29 yX4_startAnew ∈ lw_g := tg (tb1 (List.mem_of_getElem? (i := 113) rfl)) rfl
theorem tw114 : Cond.instanceMethod yX4_startAnew ∈ lw_g := tg (tb1 (List.mem_of_getElem? (i := 114) rfl)) rfl
theorem tw115 : Cond.selects RX4 yX4_startAnew yX4_startAnew ∈ lw_g := tg (tb1 (List.mem_of_getElem? (i := 115) rfl)) rfl
theorem tw116 : Cond.code yX4_startAnew cX4_startAnew 3 none ∈ lw_g := tg (tb1 (List.mem_of_getElem? (i := 116) rfl)) rfl
theorem tw117 : Cond.methodLink RX4 40 yJ7_fill_53178 ∈ lw_g := tg (tb1 (List.mem_of_getElem? (i := 117) rfl)) rfl
theorem tw118 : Cond.static yJ7_fill_53178 ∈ lw_g := tg (tb1 (List.mem_of_getElem? (i := 118) rfl)) rfl
theorem tw119 : Cond.code yJ7_fill_53178 cJ7_fill_53178 4 none ∈ lw_g := tg (tb1 (List.mem_of_getElem? (i := 119) rfl)) rfl
theorem tw120 : Cond.fieldLink RX4 33 RX4 "bits" "I" ∈ lw_g := tg (tb1 (List.mem_of_getElem? (i := 120) rfl)) rfl
theorem tw121 : Cond.fieldLink RX11 84 RX4 "bits" "I" ∈ lw_g := tg (tb1 (List.mem_of_getElem? (i := 121) rfl)) rfl
theorem tw122 : Cond.fieldLink RX4 37 RX4 "links" "I" ∈ lw_g := tg (tb1 (List.mem_of_getElem? (i := 122) rfl)) rfl
theorem tw123 : Cond.fieldLink RX11 113 RX4 "links" "I" ∈ lw_g := tg (tb1 (List.mem_of_getElem? (i := 123) rfl)) rfl
theorem tw124 : Cond.fieldLink RX4 9 RX4 "far" "[I" ∈ lw_g := tg (tb1 (List.mem_of_getElem? (i := 124) rfl)) rfl
theorem tw125 : Cond.fieldLink RX11 109 RX4 "far" "[I" ∈ lw_g := tg (tb1 (List.mem_of_getElem? (i := 125) rfl)) rfl
theorem tw126 : Cond.fieldLink RX10 60 RX4 "far" "[I" ∈ lw_g := tg (tb1 (List.mem_of_getElem? (i := 126) rfl)) rfl
theorem tw127 : Cond.fieldLink RX1 75 RX4 "far" "[I" ∈ lw_g := tg (tb1 (List.mem_of_getElem? (i := 127) rfl)) rfl
theorem tw128 : Cond.fieldLink RX2 84 RX4 "far" "[I" ∈ lw_g := tg (tb1 (List.mem_of_getElem? (i := 128) rfl)) rfl
theorem tw129 : Cond.fieldLink RX0 125 RX4 "far" "[I" ∈ lw_g := tg (tb1 (List.mem_of_getElem? (i := 129) rfl)) rfl
theorem tw130 : Cond.fieldLink RX4 17 RX4 "boxes" "[LHeaderSpaceNetwork$RuleList;" ∈ lw_g := tg (tb1 (List.mem_of_getElem? (i := 130) rfl)) rfl
theorem tw131 : Cond.fieldLink RX10 38 RX4 "boxes" "[LHeaderSpaceNetwork$RuleList;" ∈ lw_g := tg (tb1 (List.mem_of_getElem? (i := 131) rfl)) rfl
theorem tw132 : Cond.fieldLink RX3 46 RX4 "boxes" "[LHeaderSpaceNetwork$RuleList;" ∈ lw_g := tg (tb1 (List.mem_of_getElem? (i := 132) rfl)) rfl
theorem tw133 : Cond.fieldLink RX1 37 RX4 "boxes" "[LHeaderSpaceNetwork$RuleList;" ∈ lw_g := tg (tb1 (List.mem_of_getElem? (i := 133) rfl)) rfl
theorem tw134 : Cond.fieldLink RX2 53 RX4 "boxes" "[LHeaderSpaceNetwork$RuleList;" ∈ lw_g := tg (tb1 (List.mem_of_getElem? (i := 134) rfl)) rfl
theorem tw135 : Cond.fieldLink RX11 142 RX4 "boxes" "[LHeaderSpaceNetwork$RuleList;" ∈ lw_g := tg (tb1 (List.mem_of_getElem? (i := 135) rfl)) rfl
theorem tw136 : Cond.fieldLink RX0 97 RX4 "boxes" "[LHeaderSpaceNetwork$RuleList;" ∈ lw_g := tg (tb1 (List.mem_of_getElem? (i := 136) rfl)) rfl
theorem tw137 : Cond.lays RX4 RX4 "bits" "I" ∈ lw_g := tg (tb1 (List.mem_of_getElem? (i := 137) rfl)) rfl
theorem tw139 : Cond.lays RX4 RX4 "links" "I" ∈ lw_g := tg (tb1 (List.mem_of_getElem? (i := 139) rfl)) rfl
theorem tw141 : Cond.laysFinal RX4 RX4 "far" "[I" ∈ lw_g := tg (tb1 (List.mem_of_getElem? (i := 141) rfl)) rfl
theorem tw143 : Cond.laysFinal RX4 RX4 "boxes" "[LHeaderSpaceNetwork$RuleList;" ∈ lw_g := tg (tb1 (List.mem_of_getElem? (i := 143) rfl)) rfl
theorem tw146 : Cond.classLink RX11 18 RX3 ∈ lw_g := tg (tb1 (List.mem_of_getElem? (i := 146) rfl)) rfl
theorem tw147 : Cond.instantiable RX3 4 ∈ lw_g := tg (tb1 (List.mem_of_getElem? (i := 147) rfl)) rfl
theorem tw148 : Cond.methodLink RX11 20 yX3_init ∈ lw_g := tg (tb1 (List.mem_of_getElem? (i := 148) rfl)) rfl
theorem tw149 : Cond.instanceMethod yX3_init ∈ lw_g := tg (tb1 (List.mem_of_getElem? (i := 149) rfl)) rfl
theorem tw150 : Cond.code yX3_init cX3_init 3 none ∈ lw_g := tg (tb1 (List.mem_of_getElem? (i := 150) rfl)) rfl
theorem tw151 : Cond.methodLink RX3 3 objectInit ∈ lw_g := tg (tb1 (List.mem_of_getElem? (i := 151) rfl)) rfl
theorem tw152 : Cond.classLink RX3 9 RX7 ∈ lw_g := tg (tb1 (List.mem_of_getElem? (i := 152) rfl)) rfl
theorem tw153 : Cond.classLink RX3 21 RX6 ∈ lw_g := tg (tb1 (List.mem_of_getElem? (i := 153) rfl)) rfl
theorem tw154 : Cond.methodLink RX3 23 yX6_init ∈ lw_g := tg (tb1 (List.mem_of_getElem? (i := 154) rfl)) rfl
theorem tw155 : Cond.methodLink RX3 26 yX7_init ∈ lw_g := tg (tb1 (List.mem_of_getElem? (i := 155) rfl)) rfl
theorem tw156 : Cond.fieldLink RX3 11 RX3 "lists" "[LHeaderSpaceNetwork$RuleList;" ∈ lw_g := tg (tb1 (List.mem_of_getElem? (i := 156) rfl)) rfl
theorem tw157 : Cond.fieldLink RX3 17 RX3 "boxes" "[I" ∈ lw_g := tg (tb1 (List.mem_of_getElem? (i := 157) rfl)) rfl
theorem tw158 : Cond.fieldLink RX11 92 RX3 "size" "I" ∈ lw_g := tg (tb1 (List.mem_of_getElem? (i := 158) rfl)) rfl
theorem tw159 : Cond.fieldLink RX3 37 RX3 "size" "I" ∈ lw_g := tg (tb1 (List.mem_of_getElem? (i := 159) rfl)) rfl
theorem tw160 : Cond.fieldLink RX3 29 RX3 "next" "I" ∈ lw_g := tg (tb1 (List.mem_of_getElem? (i := 160) rfl)) rfl
theorem tw161 : Cond.laysFinal RX3 RX3 "lists" "[LHeaderSpaceNetwork$RuleList;" ∈ lw_g := tg (tb1 (List.mem_of_getElem? (i := 161) rfl)) rfl
theorem tw163 : Cond.laysFinal RX3 RX3 "boxes" "[I" ∈ lw_g := tg (tb1 (List.mem_of_getElem? (i := 163) rfl)) rfl
theorem tw165 : Cond.lays RX3 RX3 "size" "I" ∈ lw_g := tg (tb1 (List.mem_of_getElem? (i := 165) rfl)) rfl
theorem tw167 : Cond.lays RX3 RX3 "next" "I" ∈ lw_g := tg (tb1 (List.mem_of_getElem? (i := 167) rfl)) rfl
theorem tw170 : Cond.classLink RX11 25 RX2 ∈ lw_g := tg (tb1 (List.mem_of_getElem? (i := 170) rfl)) rfl
theorem tw171 : Cond.instantiable RX2 4 ∈ lw_g := tg (tb1 (List.mem_of_getElem? (i := 171) rfl)) rfl
theorem tw172 : Cond.methodLink RX11 27 yX2_init ∈ lw_g := tg (tb1 (List.mem_of_getElem? (i := 172) rfl)) rfl
theorem tw173 : Cond.instanceMethod yX2_init ∈ lw_g := tg (tb1 (List.mem_of_getElem? (i := 173) rfl)) rfl
theorem tw174 : Cond.code yX2_init cX2_init 2 none ∈ lw_g := tg (tb1 (List.mem_of_getElem? (i := 174) rfl)) rfl
theorem tw175 : Cond.methodLink RX2 3 objectInit ∈ lw_g := tg (tb1 (List.mem_of_getElem? (i := 175) rfl)) rfl
theorem tw176 : Cond.fieldLink RX2 21 RX2 "net" "LHeaderSpaceNetwork$Net;" ∈ lw_g := tg (tb1 (List.mem_of_getElem? (i := 176) rfl)) rfl
theorem tw177 : Cond.fieldLink RX2 9 RX2 "arrived" "[J" ∈ lw_g := tg (tb1 (List.mem_of_getElem? (i := 177) rfl)) rfl
theorem tw178 : Cond.fieldLink RX11 222 RX2 "arrived" "[J" ∈ lw_g := tg (tb1 (List.mem_of_getElem? (i := 178) rfl)) rfl
theorem tw179 : Cond.fieldLink RX2 15 RX2 "fresh" "[J" ∈ lw_g := tg (tb1 (List.mem_of_getElem? (i := 179) rfl)) rfl
theorem tw180 : Cond.fieldLink RX2 18 RX2 "coming" "[J" ∈ lw_g := tg (tb1 (List.mem_of_getElem? (i := 180) rfl)) rfl
theorem tw181 : Cond.laysFinal RX2 RX2 "net" "LHeaderSpaceNetwork$Net;" ∈ lw_g := tg (tb1 (List.mem_of_getElem? (i := 181) rfl)) rfl
theorem tw183 : Cond.laysFinal RX2 RX2 "arrived" "[J" ∈ lw_g := tg (tb1 (List.mem_of_getElem? (i := 183) rfl)) rfl
theorem tw185 : Cond.laysFinal RX2 RX2 "fresh" "[J" ∈ lw_g := tg (tb1 (List.mem_of_getElem? (i := 185) rfl)) rfl
theorem tw187 : Cond.laysFinal RX2 RX2 "coming" "[J" ∈ lw_g := tg (tb1 (List.mem_of_getElem? (i := 187) rfl)) rfl
theorem tw190 : Cond.arrayClass FieldType.long ∈ lw_g := tg (tb1 (List.mem_of_getElem? (i := 190) rfl)) rfl
theorem tw191 : Cond.classLink RX11 34 RX1 ∈ lw_g := tg (tb1 (List.mem_of_getElem? (i := 191) rfl)) rfl
theorem tw192 : Cond.instantiable RX1 2 ∈ lw_g := tg (tb1 (List.mem_of_getElem? (i := 192) rfl)) rfl
theorem tw193 : Cond.methodLink RX11 36 yX1_init ∈ lw_g := tg (tb1 (List.mem_of_getElem? (i := 193) rfl)) rfl
theorem tw194 : Cond.instanceMethod yX1_init ∈ lw_g := tg (tb1 (List.mem_of_getElem? (i := 194) rfl)) rfl
theorem tw195 : Cond.code yX1_init cX1_init 2 none ∈ lw_g := tg (tb1 (List.mem_of_getElem? (i := 195) rfl)) rfl
theorem tw196 : Cond.methodLink RX1 3 objectInit ∈ lw_g := tg (tb1 (List.mem_of_getElem? (i := 196) rfl)) rfl
theorem tw197 : Cond.fieldLink RX1 15 RX1 "net" "LHeaderSpaceNetwork$Net;" ∈ lw_g := tg (tb1 (List.mem_of_getElem? (i := 197) rfl)) rfl
theorem tw198 : Cond.fieldLink RX1 9 RX1 "found" "[J" ∈ lw_g := tg (tb1 (List.mem_of_getElem? (i := 198) rfl)) rfl
theorem tw199 : Cond.fieldLink RX11 286 RX1 "found" "[J" ∈ lw_g := tg (tb1 (List.mem_of_getElem? (i := 199) rfl)) rfl
theorem tw200 : Cond.laysFinal RX1 RX1 "net" "LHeaderSpaceNetwork$Net;" ∈ lw_g := tg (tb1 (List.mem_of_getElem? (i := 200) rfl)) rfl
theorem tw202 : Cond.laysFinal RX1 RX1 "found" "[J" ∈ lw_g := tg (tb1 (List.mem_of_getElem? (i := 202) rfl)) rfl
theorem tw205 : Cond.classLink RX11 41 RX10 ∈ lw_g := tg (tb1 (List.mem_of_getElem? (i := 205) rfl)) rfl
theorem tw206 : Cond.instantiable RX10 5 ∈ lw_g := tg (tb1 (List.mem_of_getElem? (i := 206) rfl)) rfl
theorem tw207 : Cond.methodLink RX11 43 yX10_init ∈ lw_g := tg (tb1 (List.mem_of_getElem? (i := 207) rfl)) rfl
theorem tw208 : Cond.instanceMethod yX10_init ∈ lw_g := tg (tb1 (List.mem_of_getElem? (i := 208) rfl)) rfl
theorem tw209 : Cond.code yX10_init cX10_init 2 none ∈ lw_g := tg (tb1 (List.mem_of_getElem? (i := 209) rfl)) rfl
theorem tw210 : Cond.methodLink RX10 3 objectInit ∈ lw_g := tg (tb1 (List.mem_of_getElem? (i := 210) rfl)) rfl
theorem tw211 : Cond.fieldLink RX10 15 RX10 "net" "LHeaderSpaceNetwork$Net;" ∈ lw_g := tg (tb1 (List.mem_of_getElem? (i := 211) rfl)) rfl
theorem tw212 : Cond.fieldLink RX10 9 RX10 "seen" "[J" ∈ lw_g := tg (tb1 (List.mem_of_getElem? (i := 212) rfl)) rfl
theorem tw213 : Cond.fieldLink RX10 25 RX10 "place" "I" ∈ lw_g := tg (tb1 (List.mem_of_getElem? (i := 213) rfl)) rfl
theorem tw214 : Cond.fieldLink RX11 274 RX10 "place" "I" ∈ lw_g := tg (tb1 (List.mem_of_getElem? (i := 214) rfl)) rfl
theorem tw215 : Cond.fieldLink RX10 29 RX10 "header" "I" ∈ lw_g := tg (tb1 (List.mem_of_getElem? (i := 215) rfl)) rfl
theorem tw216 : Cond.fieldLink RX11 277 RX10 "header" "I" ∈ lw_g := tg (tb1 (List.mem_of_getElem? (i := 216) rfl)) rfl
theorem tw217 : Cond.fieldLink RX10 32 RX10 "end" "I" ∈ lw_g := tg (tb1 (List.mem_of_getElem? (i := 217) rfl)) rfl
theorem tw218 : Cond.fieldLink RX11 280 RX10 "end" "I" ∈ lw_g := tg (tb1 (List.mem_of_getElem? (i := 218) rfl)) rfl
theorem tw219 : Cond.laysFinal RX10 RX10 "net" "LHeaderSpaceNetwork$Net;" ∈ lw_g := tg (tb1 (List.mem_of_getElem? (i := 219) rfl)) rfl
theorem tw221 : Cond.laysFinal RX10 RX10 "seen" "[J" ∈ lw_g := tg (tb1 (List.mem_of_getElem? (i := 221) rfl)) rfl
theorem tw223 : Cond.lays RX10 RX10 "place" "I" ∈ lw_g := tg (tb1 (List.mem_of_getElem? (i := 223) rfl)) rfl
theorem tw225 : Cond.lays RX10 RX10 "header" "I" ∈ lw_g := tg (tb1 (List.mem_of_getElem? (i := 225) rfl)) rfl
theorem tw227 : Cond.lays RX10 RX10 "end" "I" ∈ lw_g := tg (tb1 (List.mem_of_getElem? (i := 227) rfl)) rfl
theorem tw230 : Cond.classLink RX11 48 RX0 ∈ lw_g := tg (tb1 (List.mem_of_getElem? (i := 230) rfl)) rfl
theorem tw231 : Cond.instantiable RX0 11 ∈ lw_g := tg (tb1 (List.mem_of_getElem? (i := 231) rfl)) rfl
theorem tw232 : Cond.methodLink RX11 50 yX0_init ∈ lw_g := tg (tb1 (List.mem_of_getElem? (i := 232) rfl)) rfl
theorem tw233 : Cond.instanceMethod yX0_init ∈ lw_g := tg (tb1 (List.mem_of_getElem? (i := 233) rfl)) rfl
theorem tw234 : Cond.code yX0_init cX0_init 2 none ∈ lw_g := tg (tb1 (List.mem_of_getElem? (i := 234) rfl)) rfl
theorem tw235 : Cond.methodLink RX0 3 objectInit ∈ lw_g := tg (tb1 (List.mem_of_getElem? (i := 235) rfl)) rfl
theorem tw236 : Cond.fieldLink RX0 31 RX0 "net" "LHeaderSpaceNetwork$Net;" ∈ lw_g := tg (tb1 (List.mem_of_getElem? (i := 236) rfl)) rfl
theorem tw237 : Cond.fieldLink RX0 9 RX0 "members" "[I" ∈ lw_g := tg (tb1 (List.mem_of_getElem? (i := 237) rfl)) rfl
theorem tw238 : Cond.fieldLink RX11 293 RX0 "members" "[I" ∈ lw_g := tg (tb1 (List.mem_of_getElem? (i := 238) rfl)) rfl
theorem tw239 : Cond.fieldLink RX0 15 RX0 "withoutOne" "[J" ∈ lw_g := tg (tb1 (List.mem_of_getElem? (i := 239) rfl)) rfl
theorem tw240 : Cond.fieldLink RX0 19 RX0 "withoutTwo" "[J" ∈ lw_g := tg (tb2 (List.mem_of_getElem? (i := 0) rfl)) rfl
theorem tw241 : Cond.fieldLink RX0 22 RX0 "queue" "[I" ∈ lw_g := tg (tb2 (List.mem_of_getElem? (i := 1) rfl)) rfl
theorem tw242 : Cond.fieldLink RX0 25 RX0 "wayHere" "[J" ∈ lw_g := tg (tb2 (List.mem_of_getElem? (i := 2) rfl)) rfl
theorem tw243 : Cond.fieldLink RX0 28 RX0 "seen" "[J" ∈ lw_g := tg (tb2 (List.mem_of_getElem? (i := 3) rfl)) rfl
theorem tw244 : Cond.fieldLink RX0 79 RX0 "queued" "I" ∈ lw_g := tg (tb2 (List.mem_of_getElem? (i := 4) rfl)) rfl
theorem tw245 : Cond.fieldLink RX0 35 RX0 "from" "I" ∈ lw_g := tg (tb2 (List.mem_of_getElem? (i := 5) rfl)) rfl
theorem tw246 : Cond.fieldLink RX0 39 RX0 "packets" "J" ∈ lw_g := tg (tb2 (List.mem_of_getElem? (i := 6) rfl)) rfl
theorem tw247 : Cond.fieldLink RX0 43 RX0 "target" "I" ∈ lw_g := tg (tb2 (List.mem_of_getElem? (i := 7) rfl)) rfl
theorem tw248 : Cond.laysFinal RX0 RX0 "net" "LHeaderSpaceNetwork$Net;" ∈ lw_g := tg (tb2 (List.mem_of_getElem? (i := 8) rfl)) rfl
theorem tw250 : Cond.laysFinal RX0 RX0 "members" "[I" ∈ lw_g := tg (tb2 (List.mem_of_getElem? (i := 10) rfl)) rfl
theorem tw252 : Cond.laysFinal RX0 RX0 "withoutOne" "[J" ∈ lw_g := tg (tb2 (List.mem_of_getElem? (i := 12) rfl)) rfl
theorem tw254 : Cond.laysFinal RX0 RX0 "withoutTwo" "[J" ∈ lw_g := tg (tb2 (List.mem_of_getElem? (i := 14) rfl)) rfl
theorem tw256 : Cond.laysFinal RX0 RX0 "queue" "[I" ∈ lw_g := tg (tb2 (List.mem_of_getElem? (i := 16) rfl)) rfl
theorem tw258 : Cond.laysFinal RX0 RX0 "wayHere" "[J" ∈ lw_g := tg (tb2 (List.mem_of_getElem? (i := 18) rfl)) rfl
theorem tw260 : Cond.laysFinal RX0 RX0 "seen" "[J" ∈ lw_g := tg (tb2 (List.mem_of_getElem? (i := 20) rfl)) rfl
theorem tw262 : Cond.lays RX0 RX0 "queued" "I" ∈ lw_g := tg (tb2 (List.mem_of_getElem? (i := 22) rfl)) rfl
theorem tw264 : Cond.lays RX0 RX0 "from" "I" ∈ lw_g := tg (tb2 (List.mem_of_getElem? (i := 24) rfl)) rfl
theorem tw266 : Cond.lays RX0 RX0 "packets" "J" ∈ lw_g := tg (tb2 (List.mem_of_getElem? (i := 26) rfl)) rfl
theorem tw268 : Cond.lays RX0 RX0 "target" "I" ∈ lw_g := tg (tb2 (List.mem_of_getElem? (i := 28) rfl)) rfl
theorem tw271 : Cond.classLink RX11 55 RX9 ∈ lw_g := tg (tb2 (List.mem_of_getElem? (i := 31) rfl)) rfl
theorem tw272 : Cond.instantiable RX9 9 ∈ lw_g := tg (tb2 (List.mem_of_getElem? (i := 32) rfl)) rfl
theorem tw273 : Cond.methodLinkNest RX11 57 yX9_init RX11 ∈ lw_n := tn (tb2 (List.mem_of_getElem? (i := 33) rfl)) rfl
theorem tw274 : Cond.instanceMethod yX9_init ∈ lw_g := tg (tb2 (List.mem_of_getElem? (i := 34) rfl)) rfl
theorem tw275 : Cond.code yX9_init cX9_init 1 none ∈ lw_g := tg (tb2 (List.mem_of_getElem? (i := 35) rfl)) rfl
theorem tw276 : Cond.methodLink RX9 3 objectInit ∈ lw_g := tg (tb2 (List.mem_of_getElem? (i := 36) rfl)) rfl
theorem tw277 : Cond.fieldLink RX9 9 RX9 "characters" "[C" ∈ lw_g := tg (tb2 (List.mem_of_getElem? (i := 37) rfl)) rfl
theorem tw278 : Cond.fieldLink RX11 318 RX9 "characters" "[C" ∈ lw_g := tg (tb2 (List.mem_of_getElem? (i := 38) rfl)) rfl
theorem tw279 : Cond.fieldLink RX9 40 RX9 "length" "I" ∈ lw_g := tg (tb2 (List.mem_of_getElem? (i := 39) rfl)) rfl
theorem tw280 : Cond.fieldLink RX11 315 RX9 "length" "I" ∈ lw_g := tg (tb2 (List.mem_of_getElem? (i := 40) rfl)) rfl
theorem tw281 : Cond.fieldLink RX9 15 RX9 "at" "I" ∈ lw_g := tg (tb2 (List.mem_of_getElem? (i := 41) rfl)) rfl
theorem tw282 : Cond.fieldLink RX11 325 RX9 "at" "I" ∈ lw_g := tg (tb2 (List.mem_of_getElem? (i := 42) rfl)) rfl
theorem tw283 : Cond.fieldLink RX9 51 RX9 "ports" "I" ∈ lw_g := tg (tb2 (List.mem_of_getElem? (i := 43) rfl)) rfl
theorem tw284 : Cond.fieldLink RX9 19 RX9 "outputs" "I" ∈ lw_g := tg (tb2 (List.mem_of_getElem? (i := 44) rfl)) rfl
theorem tw285 : Cond.fieldLink RX9 54 RX9 "care" "I" ∈ lw_g := tg (tb2 (List.mem_of_getElem? (i := 45) rfl)) rfl
theorem tw286 : Cond.fieldLink RX9 57 RX9 "value" "I" ∈ lw_g := tg (tb2 (List.mem_of_getElem? (i := 46) rfl)) rfl
theorem tw287 : Cond.fieldLink RX9 22 RX9 "change" "I" ∈ lw_g := tg (tb2 (List.mem_of_getElem? (i := 47) rfl)) rfl
theorem tw288 : Cond.fieldLink RX9 25 RX9 "to" "I" ∈ lw_g := tg (tb2 (List.mem_of_getElem? (i := 48) rfl)) rfl
theorem tw289 : Cond.laysFinal RX9 RX9 "characters" "[C" ∈ lw_g := tg (tb2 (List.mem_of_getElem? (i := 49) rfl)) rfl
theorem tw291 : Cond.lays RX9 RX9 "length" "I" ∈ lw_g := tg (tb2 (List.mem_of_getElem? (i := 51) rfl)) rfl
theorem tw293 : Cond.lays RX9 RX9 "at" "I" ∈ lw_g := tg (tb2 (List.mem_of_getElem? (i := 53) rfl)) rfl
theorem tw295 : Cond.lays RX9 RX9 "ports" "I" ∈ lw_g := tg (tb2 (List.mem_of_getElem? (i := 55) rfl)) rfl
theorem tw297 : Cond.lays RX9 RX9 "outputs" "I" ∈ lw_g := tg (tb2 (List.mem_of_getElem? (i := 57) rfl)) rfl
theorem tw299 : Cond.lays RX9 RX9 "care" "I" ∈ lw_g := tg (tb2 (List.mem_of_getElem? (i := 59) rfl)) rfl
theorem tw301 : Cond.lays RX9 RX9 "value" "I" ∈ lw_g := tg (tb2 (List.mem_of_getElem? (i := 61) rfl)) rfl
theorem tw303 : Cond.lays RX9 RX9 "change" "I" ∈ lw_g := tg (tb2 (List.mem_of_getElem? (i := 63) rfl)) rfl
theorem tw305 : Cond.lays RX9 RX9 "to" "I" ∈ lw_g := tg (tb2 (List.mem_of_getElem? (i := 65) rfl)) rfl
theorem tw308 : Cond.arrayClass FieldType.char ∈ lw_g := tg (tb2 (List.mem_of_getElem? (i := 68) rfl)) rfl
theorem tw309 : Cond.classLink RX11 62 RX8 ∈ lw_g := tg (tb2 (List.mem_of_getElem? (i := 69) rfl)) rfl
theorem tw310 : Cond.instantiable RX8 2 ∈ lw_g := tg (tb2 (List.mem_of_getElem? (i := 70) rfl)) rfl
theorem tw311 : Cond.methodLinkNest RX11 64 yX8_init RX11 ∈ lw_n := tn (tb2 (List.mem_of_getElem? (i := 71) rfl)) rfl
theorem tw312 : Cond.instanceMethod yX8_init ∈ lw_g := tg (tb2 (List.mem_of_getElem? (i := 72) rfl)) rfl
theorem tw313 : Cond.code yX8_init cX8_init 1 none ∈ lw_g := tg (tb2 (List.mem_of_getElem? (i := 73) rfl)) rfl
theorem tw314 : Cond.methodLink RX8 3 objectInit ∈ lw_g := tg (tb2 (List.mem_of_getElem? (i := 74) rfl)) rfl
theorem tw315 : Cond.fieldLink RX8 9 RX8 "characters" "[C" ∈ lw_g := tg (tb2 (List.mem_of_getElem? (i := 75) rfl)) rfl
theorem tw316 : Cond.fieldLink RX11 337 RX8 "characters" "[C" ∈ lw_g := tg (tb2 (List.mem_of_getElem? (i := 76) rfl)) rfl
theorem tw317 : Cond.fieldLink RX8 15 RX8 "length" "I" ∈ lw_g := tg (tb2 (List.mem_of_getElem? (i := 77) rfl)) rfl
theorem tw318 : Cond.fieldLink RX11 336 RX8 "length" "I" ∈ lw_g := tg (tb2 (List.mem_of_getElem? (i := 78) rfl)) rfl
theorem tw319 : Cond.laysFinal RX8 RX8 "characters" "[C" ∈ lw_g := tg (tb2 (List.mem_of_getElem? (i := 79) rfl)) rfl
theorem tw321 : Cond.lays RX8 RX8 "length" "I" ∈ lw_g := tg (tb2 (List.mem_of_getElem? (i := 81) rfl)) rfl
theorem tw324 : Cond.classLink RX11 69 RX5 ∈ lw_g := tg (tb2 (List.mem_of_getElem? (i := 84) rfl)) rfl
theorem tw325 : Cond.arrayOver (FieldType.object "HeaderSpaceNetwork$Policy") ∈ lw_n := tn (tb2 (List.mem_of_getElem? (i := 85) rfl)) rfl
theorem tw326 : Cond.instantiable RX5 4 ∈ lw_g := tg (tb2 (List.mem_of_getElem? (i := 86) rfl)) rfl
theorem tw327 : Cond.methodLinkNest RX11 75 yX5_init RX11 ∈ lw_n := tn (tb2 (List.mem_of_getElem? (i := 87) rfl)) rfl
theorem tw328 : Cond.instanceMethod yX5_init ∈ lw_g := tg (tb2 (List.mem_of_getElem? (i := 88) rfl)) rfl
theorem tw329 : Cond.code yX5_init cX5_init 1 none ∈ lw_g := tg (tb2 (List.mem_of_getElem? (i := 89) rfl)) rfl
theorem tw330 : Cond.methodLink RX5 1 objectInit ∈ lw_g := tg (tb2 (List.mem_of_getElem? (i := 90) rfl)) rfl
theorem tw331 : Cond.fieldLink RX11 296 RX5 "always" "Z" ∈ lw_g := tg (tb2 (List.mem_of_getElem? (i := 91) rfl)) rfl
theorem tw332 : Cond.fieldLink RX11 299 RX5 "from" "I" ∈ lw_g := tg (tb2 (List.mem_of_getElem? (i := 92) rfl)) rfl
theorem tw333 : Cond.fieldLink RX11 302 RX5 "target" "I" ∈ lw_g := tg (tb2 (List.mem_of_getElem? (i := 93) rfl)) rfl
theorem tw334 : Cond.fieldLink RX11 305 RX5 "headers" "J" ∈ lw_g := tg (tb2 (List.mem_of_getElem? (i := 94) rfl)) rfl
theorem tw335 : Cond.lays RX5 RX5 "always" "Z" ∈ lw_g := tg (tb2 (List.mem_of_getElem? (i := 95) rfl)) rfl
theorem tw337 : Cond.lays RX5 RX5 "from" "I" ∈ lw_g := tg (tb2 (List.mem_of_getElem? (i := 97) rfl)) rfl
theorem tw339 : Cond.lays RX5 RX5 "target" "I" ∈ lw_g := tg (tb2 (List.mem_of_getElem? (i := 99) rfl)) rfl
theorem tw341 : Cond.lays RX5 RX5 "headers" "J" ∈ lw_g := tg (tb2 (List.mem_of_getElem? (i := 101) rfl)) rfl
theorem tw344 : Cond.methodLink RX11 76 yX4_allHeaders ∈ lw_g := tg (tb2 (List.mem_of_getElem? (i := 104) rfl)) rfl
theorem tw345 : Cond.instanceMethod yX4_allHeaders ∈ lw_g := tg (tb2 (List.mem_of_getElem? (i := 105) rfl)) rfl
theorem tw346 : Cond.selects RX4 yX4_allHeaders yX4_allHeaders ∈ lw_g := tg (tb2 (List.mem_of_getElem? (i := 106) rfl)) rfl
theorem tw347 : Cond.code yX4_allHeaders cX4_allHeaders 1 (some FieldType.long) ∈ lw_g := tg (tb2 (List.mem_of_getElem? (i := 107) rfl)) rfl
theorem tw348 : Cond.fieldLink RX11 14 RX11 "net" "LHeaderSpaceNetwork$Net;" ∈ lw_g := tg (tb2 (List.mem_of_getElem? (i := 108) rfl)) rfl
theorem tw349 : Cond.fieldLink RX11 21 RX11 "history" "LHeaderSpaceNetwork$History;" ∈ lw_g := tg (tb2 (List.mem_of_getElem? (i := 109) rfl)) rfl
theorem tw350 : Cond.fieldLink RX11 30 RX11 "flow" "LHeaderSpaceNetwork$Flow;" ∈ lw_g := tg (tb2 (List.mem_of_getElem? (i := 110) rfl)) rfl
theorem tw351 : Cond.fieldLink RX11 37 RX11 "fates" "LHeaderSpaceNetwork$Fates;" ∈ lw_g := tg (tb2 (List.mem_of_getElem? (i := 111) rfl)) rfl
theorem tw352 : Cond.fieldLink RX11 44 RX11 "walk" "LHeaderSpaceNetwork$Walk;" ∈ lw_g := tg (tb2 (List.mem_of_getElem? (i := 112) rfl)) rfl
theorem tw353 : Cond.fieldLink RX11 51 RX11 "cuts" "LHeaderSpaceNetwork$Cuts;" ∈ lw_g := tg (tb2 (List.mem_of_getElem? (i := 113) rfl)) rfl
theorem tw354 : Cond.fieldLink RX11 58 RX11 "text" "LHeaderSpaceNetwork$Text;" ∈ lw_g := tg (tb2 (List.mem_of_getElem? (i := 114) rfl)) rfl
theorem tw355 : Cond.fieldLink RX11 65 RX11 "writer" "LHeaderSpaceNetwork$RuleWriter;" ∈ lw_g := tg (tb2 (List.mem_of_getElem? (i := 115) rfl)) rfl
theorem tw356 : Cond.fieldLink RX11 71 RX11 "policies" "[LHeaderSpaceNetwork$Policy;" ∈ lw_g := tg (tb2 (List.mem_of_getElem? (i := 116) rfl)) rfl
theorem tw357 : Cond.fieldLink RX11 95 RX11 "policyCount" "I" ∈ lw_g := tg (tb2 (List.mem_of_getElem? (i := 117) rfl)) rfl
theorem tw358 : Cond.fieldLink RX11 98 RX11 "entry" "I" ∈ lw_g := tg (tb2 (List.mem_of_getElem? (i := 118) rfl)) rfl
theorem tw359 : Cond.fieldLink RX11 80 RX11 "entering" "J" ∈ lw_g := tg (tb2 (List.mem_of_getElem? (i := 119) rfl)) rfl
theorem tw360 : Cond.laysFinal RX11 RX11 "net" "LHeaderSpaceNetwork$Net;" ∈ lw_g := tg (tb2 (List.mem_of_getElem? (i := 120) rfl)) rfl
theorem tw362 : Cond.laysFinal RX11 RX11 "history" "LHeaderSpaceNetwork$History;" ∈ lw_g := tg (tb2 (List.mem_of_getElem? (i := 122) rfl)) rfl
theorem tw364 : Cond.laysFinal RX11 RX11 "flow" "LHeaderSpaceNetwork$Flow;" ∈ lw_g := tg (tb2 (List.mem_of_getElem? (i := 124) rfl)) rfl
theorem tw366 : Cond.laysFinal RX11 RX11 "fates" "LHeaderSpaceNetwork$Fates;" ∈ lw_g := tg (tb2 (List.mem_of_getElem? (i := 126) rfl)) rfl
theorem tw368 : Cond.laysFinal RX11 RX11 "walk" "LHeaderSpaceNetwork$Walk;" ∈ lw_g := tg (tb2 (List.mem_of_getElem? (i := 128) rfl)) rfl
theorem tw370 : Cond.laysFinal RX11 RX11 "cuts" "LHeaderSpaceNetwork$Cuts;" ∈ lw_g := tg (tb2 (List.mem_of_getElem? (i := 130) rfl)) rfl
theorem tw372 : Cond.laysFinal RX11 RX11 "text" "LHeaderSpaceNetwork$Text;" ∈ lw_g := tg (tb2 (List.mem_of_getElem? (i := 132) rfl)) rfl
theorem tw374 : Cond.laysFinal RX11 RX11 "writer" "LHeaderSpaceNetwork$RuleWriter;" ∈ lw_g := tg (tb2 (List.mem_of_getElem? (i := 134) rfl)) rfl
theorem tw376 : Cond.laysFinal RX11 RX11 "policies" "[LHeaderSpaceNetwork$Policy;" ∈ lw_g := tg (tb2 (List.mem_of_getElem? (i := 136) rfl)) rfl
theorem tw378 : Cond.lays RX11 RX11 "policyCount" "I" ∈ lw_g := tg (tb2 (List.mem_of_getElem? (i := 138) rfl)) rfl
theorem tw380 : Cond.lays RX11 RX11 "entry" "I" ∈ lw_g := tg (tb2 (List.mem_of_getElem? (i := 140) rfl)) rfl
theorem tw382 : Cond.lays RX11 RX11 "entering" "J" ∈ lw_g := tg (tb2 (List.mem_of_getElem? (i := 142) rfl)) rfl
theorem tw385 : Cond.methodLink RL 13 yX11_reset ∈ lw_g := tg (tb2 (List.mem_of_getElem? (i := 145) rfl)) rfl
theorem tw386 : Cond.instanceMethod yX11_reset ∈ lw_g := tg (tb2 (List.mem_of_getElem? (i := 146) rfl)) rfl
theorem tw387 : Cond.selects RX11 yX11_reset yX11_reset ∈ lw_g := tg (tb2 (List.mem_of_getElem? (i := 147) rfl)) rfl
theorem tw388 : Cond.code yX11_reset cX11_reset 3 (some FieldType.int) ∈ lw_g := tg (tb2 (List.mem_of_getElem? (i := 148) rfl)) rfl
theorem tw389 : Cond.methodLink RX11 88 yX4_startAnew ∈ lw_g := tg (tb2 (List.mem_of_getElem? (i := 149) rfl)) rfl
theorem tw390 : Cond.methodLink RL 18 yX11_connect ∈ lw_g := tg (tb2 (List.mem_of_getElem? (i := 150) rfl)) rfl
theorem tw391 : Cond.instanceMethod yX11_connect ∈ lw_g := tg (tb2 (List.mem_of_getElem? (i := 151) rfl)) rfl
theorem tw392 : Cond.selects RX11 yX11_connect yX11_connect ∈ lw_g := tg (tb2 (List.mem_of_getElem? (i := 152) rfl)) rfl
theorem tw393 : Cond.code yX11_connect cX11_connect 7 (some FieldType.int) ∈ lw_g := tg (tb2 (List.mem_of_getElem? (i := 153) rfl)) rfl
theorem tw394 : Cond.methodLink RX11 101 yX11_isPlace ∈ lw_g := tg (tb2 (List.mem_of_getElem? (i := 154) rfl)) rfl
theorem tw395 : Cond.static yX11_isPlace ∈ lw_g := tg (tb2 (List.mem_of_getElem? (i := 155) rfl)) rfl
theorem tw396 : Cond.code yX11_isPlace cX11_isPlace 2 (some FieldType.boolean) ∈ lw_g := tg (tb2 (List.mem_of_getElem? (i := 156) rfl)) rfl
theorem tw397 : Cond.methodLink RX11 116 yX11_isBox ∈ lw_g := tg (tb2 (List.mem_of_getElem? (i := 157) rfl)) rfl
theorem tw398 : Cond.static yX11_isBox ∈ lw_g := tg (tb2 (List.mem_of_getElem? (i := 158) rfl)) rfl
theorem tw399 : Cond.code yX11_isBox cX11_isBox 1 (some FieldType.boolean) ∈ lw_g := tg (tb2 (List.mem_of_getElem? (i := 159) rfl)) rfl
theorem tw400 : Cond.methodLink RX11 105 yX11_placeOf ∈ lw_g := tg (tb2 (List.mem_of_getElem? (i := 160) rfl)) rfl
theorem tw401 : Cond.static yX11_placeOf ∈ lw_g := tg (tb2 (List.mem_of_getElem? (i := 161) rfl)) rfl
theorem tw402 : Cond.code yX11_placeOf cX11_placeOf 2 (some FieldType.int) ∈ lw_g := tg (tb2 (List.mem_of_getElem? (i := 162) rfl)) rfl
theorem tw403 : Cond.methodLink RL 23 yX11_disconnect ∈ lw_g := tg (tb2 (List.mem_of_getElem? (i := 163) rfl)) rfl
theorem tw404 : Cond.instanceMethod yX11_disconnect ∈ lw_g := tg (tb2 (List.mem_of_getElem? (i := 164) rfl)) rfl
theorem tw405 : Cond.selects RX11 yX11_disconnect yX11_disconnect ∈ lw_g := tg (tb2 (List.mem_of_getElem? (i := 165) rfl)) rfl
theorem tw406 : Cond.code yX11_disconnect cX11_disconnect 5 (some FieldType.int) ∈ lw_g := tg (tb2 (List.mem_of_getElem? (i := 166) rfl)) rfl
theorem tw407 : Cond.methodLink RL 28 yX11_other ∈ lw_g := tg (tb2 (List.mem_of_getElem? (i := 167) rfl)) rfl
theorem tw408 : Cond.instanceMethod yX11_other ∈ lw_g := tg (tb2 (List.mem_of_getElem? (i := 168) rfl)) rfl
theorem tw409 : Cond.selects RX11 yX11_other yX11_other ∈ lw_g := tg (tb2 (List.mem_of_getElem? (i := 169) rfl)) rfl
theorem tw410 : Cond.code yX11_other cX11_other 4 (some FieldType.int) ∈ lw_g := tg (tb2 (List.mem_of_getElem? (i := 170) rfl)) rfl
theorem tw411 : Cond.methodLink RL 32 yX11_insertDrop ∈ lw_g := tg (tb2 (List.mem_of_getElem? (i := 171) rfl)) rfl
theorem tw412 : Cond.instanceMethod yX11_insertDrop ∈ lw_g := tg (tb2 (List.mem_of_getElem? (i := 172) rfl)) rfl
theorem tw413 : Cond.selects RX11 yX11_insertDrop yX11_insertDrop ∈ lw_g := tg (tb2 (List.mem_of_getElem? (i := 173) rfl)) rfl
theorem tw414 : Cond.code yX11_insertDrop cX11_insertDrop 6 (some FieldType.int) ∈ lw_g := tg (tb2 (List.mem_of_getElem? (i := 174) rfl)) rfl
theorem tw415 : Cond.methodLink RX11 120 yX11_isInsertable ∈ lw_g := tg (tb2 (List.mem_of_getElem? (i := 175) rfl)) rfl
theorem tw417 : Cond.instanceMethod yX11_isInsertable ∈ lw_g := tg (tb2 (List.mem_of_getElem? (i := 177) rfl)) rfl
theorem tw418 : Cond.code yX11_isInsertable cX11_isInsertable 6 (some FieldType.boolean) ∈ lw_g := tg (tb2 (List.mem_of_getElem? (i := 178) rfl)) rfl
theorem tw419 : Cond.methodLink RX11 133 yX11_isPortSet ∈ lw_g := tg (tb2 (List.mem_of_getElem? (i := 179) rfl)) rfl
theorem tw420 : Cond.static yX11_isPortSet ∈ lw_g := tg (tb2 (List.mem_of_getElem? (i := 180) rfl)) rfl
theorem tw421 : Cond.code yX11_isPortSet cX11_isPortSet 1 (some FieldType.boolean) ∈ lw_g := tg (tb2 (List.mem_of_getElem? (i := 181) rfl)) rfl
theorem tw422 : Cond.methodLink RX11 139 yX4_isCube ∈ lw_g := tg (tb2 (List.mem_of_getElem? (i := 182) rfl)) rfl
theorem tw423 : Cond.instanceMethod yX4_isCube ∈ lw_g := tg (tb2 (List.mem_of_getElem? (i := 183) rfl)) rfl
theorem tw424 : Cond.selects RX4 yX4_isCube yX4_isCube ∈ lw_g := tg (tb2 (List.mem_of_getElem? (i := 184) rfl)) rfl
theorem tw425 : Cond.code yX4_isCube cX4_isCube 3 (some FieldType.boolean) ∈ lw_g := tg (tb2 (List.mem_of_getElem? (i := 185) rfl)) rfl
theorem tw426 : Cond.methodLink RX4 49 yX4_isHeader ∈ lw_g := tg (tb2 (List.mem_of_getElem? (i := 186) rfl)) rfl
theorem tw427 : Cond.instanceMethod yX4_isHeader ∈ lw_g := tg (tb2 (List.mem_of_getElem? (i := 187) rfl)) rfl
theorem tw428 : Cond.selects RX4 yX4_isHeader yX4_isHeader ∈ lw_g := tg (tb2 (List.mem_of_getElem? (i := 188) rfl)) rfl
theorem tw429 : Cond.code yX4_isHeader cX4_isHeader 2 (some FieldType.boolean) ∈ lw_g := tg (tb2 (List.mem_of_getElem? (i := 189) rfl)) rfl
theorem tw430 : Cond.classLink RX11 124 RX6 ∈ lw_g := tg (tb2 (List.mem_of_getElem? (i := 190) rfl)) rfl
theorem tw431 : Cond.methodLink RX11 126 yX6_init ∈ lw_g := tg (tb2 (List.mem_of_getElem? (i := 191) rfl)) rfl
theorem tw432 : Cond.methodLink RX11 129 yX11_insertRule ∈ lw_g := tg (tb2 (List.mem_of_getElem? (i := 192) rfl)) rfl
theorem tw434 : Cond.instanceMethod yX11_insertRule ∈ lw_g := tg (tb2 (List.mem_of_getElem? (i := 194) rfl)) rfl
theorem tw435 : Cond.code yX11_insertRule cX11_insertRule 5 (some FieldType.int) ∈ lw_g := tg (tb2 (List.mem_of_getElem? (i := 195) rfl)) rfl
theorem tw436 : Cond.methodLink RX11 169 yX3_keep ∈ lw_g := tg (tb2 (List.mem_of_getElem? (i := 196) rfl)) rfl
theorem tw437 : Cond.instanceMethod yX3_keep ∈ lw_g := tg (tb2 (List.mem_of_getElem? (i := 197) rfl)) rfl
theorem tw438 : Cond.selects RX3 yX3_keep yX3_keep ∈ lw_g := tg (tb2 (List.mem_of_getElem? (i := 198) rfl)) rfl
theorem tw439 : Cond.code yX3_keep cX3_keep 3 none ∈ lw_g := tg (tb2 (List.mem_of_getElem? (i := 199) rfl)) rfl
theorem tw440 : Cond.methodLink RX3 33 yX7_copyFrom ∈ lw_g := tg (tb2 (List.mem_of_getElem? (i := 200) rfl)) rfl
theorem tw441 : Cond.instanceMethod yX7_copyFrom ∈ lw_g := tg (tb2 (List.mem_of_getElem? (i := 201) rfl)) rfl
theorem tw442 : Cond.selects RX7 yX7_copyFrom yX7_copyFrom ∈ lw_g := tg (tb2 (List.mem_of_getElem? (i := 202) rfl)) rfl
theorem tw443 : Cond.code yX7_copyFrom cX7_copyFrom 3 none ∈ lw_g := tg (tb2 (List.mem_of_getElem? (i := 203) rfl)) rfl
theorem tw444 : Cond.methodLink RX3 40 yJ9_min_7cf53 ∈ lw_g := tg (tb2 (List.mem_of_getElem? (i := 204) rfl)) rfl
theorem tw445 : Cond.static yJ9_min_7cf53 ∈ lw_g := tg (tb2 (List.mem_of_getElem? (i := 205) rfl)) rfl
theorem tw446 : Cond.code yJ9_min_7cf53 cJ9_min_7cf53 2 (some FieldType.int) ∈ lw_g := tg (tb2 (List.mem_of_getElem? (i := 206) rfl)) rfl
theorem tw447 : Cond.methodLink RX11 177 yX7_insertAt ∈ lw_g := tg (tb2 (List.mem_of_getElem? (i := 207) rfl)) rfl
theorem tw448 : Cond.instanceMethod yX7_insertAt ∈ lw_g := tg (tb2 (List.mem_of_getElem? (i := 208) rfl)) rfl
theorem tw449 : Cond.selects RX7 yX7_insertAt yX7_insertAt ∈ lw_g := tg (tb2 (List.mem_of_getElem? (i := 209) rfl)) rfl
theorem tw450 : Cond.code yX7_insertAt cX7_insertAt 4 none ∈ lw_g := tg (tb2 (List.mem_of_getElem? (i := 210) rfl)) rfl
theorem tw451 : Cond.methodLink RX7 21 yJ9_min_7cf53 ∈ lw_g := tg (tb2 (List.mem_of_getElem? (i := 211) rfl)) rfl
theorem tw452 : Cond.methodLink RL 37 yX11_insertForward ∈ lw_g := tg (tb2 (List.mem_of_getElem? (i := 212) rfl)) rfl
theorem tw453 : Cond.instanceMethod yX11_insertForward ∈ lw_g := tg (tb2 (List.mem_of_getElem? (i := 213) rfl)) rfl
theorem tw454 : Cond.selects RX11 yX11_insertForward yX11_insertForward ∈ lw_g := tg (tb2 (List.mem_of_getElem? (i := 214) rfl)) rfl
theorem tw455 : Cond.code yX11_insertForward cX11_insertForward 7 (some FieldType.int) ∈ lw_g := tg (tb2 (List.mem_of_getElem? (i := 215) rfl)) rfl
theorem tw456 : Cond.methodLink RL 42 yX11_setRewriting ∈ lw_g := tg (tb2 (List.mem_of_getElem? (i := 216) rfl)) rfl
theorem tw457 : Cond.instanceMethod yX11_setRewriting ∈ lw_g := tg (tb2 (List.mem_of_getElem? (i := 217) rfl)) rfl
theorem tw458 : Cond.selects RX11 yX11_setRewriting yX11_setRewriting ∈ lw_g := tg (tb2 (List.mem_of_getElem? (i := 218) rfl)) rfl
theorem tw459 : Cond.code yX11_setRewriting cX11_setRewriting 8 (some FieldType.int) ∈ lw_g := tg (tb2 (List.mem_of_getElem? (i := 219) rfl)) rfl
theorem tw460 : Cond.methodLink RX11 136 yX11_ruleError ∈ lw_g := tg (tb2 (List.mem_of_getElem? (i := 220) rfl)) rfl
theorem tw462 : Cond.instanceMethod yX11_ruleError ∈ lw_g := tg (tb2 (List.mem_of_getElem? (i := 222) rfl)) rfl
theorem tw463 : Cond.code yX11_ruleError cX11_ruleError 3 (some FieldType.int) ∈ lw_g := tg (tb2 (List.mem_of_getElem? (i := 223) rfl)) rfl
theorem tw464 : Cond.methodLink RX11 155 yX6_withRewriting ∈ lw_g := tg (tb2 (List.mem_of_getElem? (i := 224) rfl)) rfl
theorem tw465 : Cond.instanceMethod yX6_withRewriting ∈ lw_g := tg (tb2 (List.mem_of_getElem? (i := 225) rfl)) rfl
theorem tw466 : Cond.selects RX6 yX6_withRewriting yX6_withRewriting ∈ lw_g := tg (tb2 (List.mem_of_getElem? (i := 226) rfl)) rfl
theorem tw467 : Cond.code yX6_withRewriting cX6_withRewriting 3 (some (FieldType.object "HeaderSpaceNetwork$Rule")) ∈ lw_g := tg (tb2 (List.mem_of_getElem? (i := 227) rfl)) rfl
theorem tw468 : Cond.classLink RX6 10 RX6 ∈ lw_g := tg (tb2 (List.mem_of_getElem? (i := 228) rfl)) rfl
theorem tw469 : Cond.methodLink RX6 42 yX6_init ∈ lw_g := tg (tb2 (List.mem_of_getElem? (i := 229) rfl)) rfl
theorem tw470 : Cond.methodLink RX11 159 yX11_replaceRule ∈ lw_g := tg (tb2 (List.mem_of_getElem? (i := 230) rfl)) rfl
theorem tw472 : Cond.instanceMethod yX11_replaceRule ∈ lw_g := tg (tb2 (List.mem_of_getElem? (i := 232) rfl)) rfl
theorem tw473 : Cond.code yX11_replaceRule cX11_replaceRule 5 none ∈ lw_g := tg (tb2 (List.mem_of_getElem? (i := 233) rfl)) rfl
theorem tw474 : Cond.methodLink RL 46 yX11_removeRule ∈ lw_g := tg (tb2 (List.mem_of_getElem? (i := 234) rfl)) rfl
theorem tw475 : Cond.instanceMethod yX11_removeRule ∈ lw_g := tg (tb2 (List.mem_of_getElem? (i := 235) rfl)) rfl
theorem tw476 : Cond.selects RX11 yX11_removeRule yX11_removeRule ∈ lw_g := tg (tb2 (List.mem_of_getElem? (i := 236) rfl)) rfl
theorem tw477 : Cond.code yX11_removeRule cX11_removeRule 5 (some FieldType.int) ∈ lw_g := tg (tb2 (List.mem_of_getElem? (i := 237) rfl)) rfl
theorem tw478 : Cond.methodLink RX11 173 yX7_removeAt ∈ lw_g := tg (tb2 (List.mem_of_getElem? (i := 238) rfl)) rfl
theorem tw479 : Cond.instanceMethod yX7_removeAt ∈ lw_g := tg (tb2 (List.mem_of_getElem? (i := 239) rfl)) rfl
theorem tw480 : Cond.selects RX7 yX7_removeAt yX7_removeAt ∈ lw_g := tg (tb3 (List.mem_of_getElem? (i := 0) rfl)) rfl
theorem tw481 : Cond.code yX7_removeAt cX7_removeAt 3 none ∈ lw_g := tg (tb3 (List.mem_of_getElem? (i := 1) rfl)) rfl
theorem tw482 : Cond.methodLink RL 50 yX11_moveRule ∈ lw_g := tg (tb3 (List.mem_of_getElem? (i := 2) rfl)) rfl
theorem tw483 : Cond.instanceMethod yX11_moveRule ∈ lw_g := tg (tb3 (List.mem_of_getElem? (i := 3) rfl)) rfl
theorem tw484 : Cond.selects RX11 yX11_moveRule yX11_moveRule ∈ lw_g := tg (tb3 (List.mem_of_getElem? (i := 4) rfl)) rfl
theorem tw485 : Cond.code yX11_moveRule cX11_moveRule 7 (some FieldType.int) ∈ lw_g := tg (tb3 (List.mem_of_getElem? (i := 5) rfl)) rfl
theorem tw486 : Cond.methodLink RL 55 yX11_switchRule ∈ lw_g := tg (tb3 (List.mem_of_getElem? (i := 6) rfl)) rfl
theorem tw487 : Cond.instanceMethod yX11_switchRule ∈ lw_g := tg (tb3 (List.mem_of_getElem? (i := 7) rfl)) rfl
theorem tw488 : Cond.selects RX11 yX11_switchRule yX11_switchRule ∈ lw_g := tg (tb3 (List.mem_of_getElem? (i := 8) rfl)) rfl
theorem tw489 : Cond.code yX11_switchRule cX11_switchRule 6 (some FieldType.int) ∈ lw_g := tg (tb3 (List.mem_of_getElem? (i := 9) rfl)) rfl
theorem tw490 : Cond.methodLink RX11 181 yX6_switched ∈ lw_g := tg (tb3 (List.mem_of_getElem? (i := 10) rfl)) rfl
theorem tw491 : Cond.instanceMethod yX6_switched ∈ lw_g := tg (tb3 (List.mem_of_getElem? (i := 11) rfl)) rfl
theorem tw492 : Cond.selects RX6 yX6_switched yX6_switched ∈ lw_g := tg (tb3 (List.mem_of_getElem? (i := 12) rfl)) rfl
theorem tw493 : Cond.code yX6_switched cX6_switched 2 (some (FieldType.object "HeaderSpaceNetwork$Rule")) ∈ lw_g := tg (tb3 (List.mem_of_getElem? (i := 13) rfl)) rfl
theorem tw494 : Cond.methodLink RL 60 yX11_undo ∈ lw_g := tg (tb3 (List.mem_of_getElem? (i := 14) rfl)) rfl
theorem tw495 : Cond.instanceMethod yX11_undo ∈ lw_g := tg (tb3 (List.mem_of_getElem? (i := 15) rfl)) rfl
theorem tw496 : Cond.selects RX11 yX11_undo yX11_undo ∈ lw_g := tg (tb3 (List.mem_of_getElem? (i := 16) rfl)) rfl
theorem tw497 : Cond.code yX11_undo cX11_undo 1 (some FieldType.int) ∈ lw_g := tg (tb3 (List.mem_of_getElem? (i := 17) rfl)) rfl
theorem tw498 : Cond.methodLink RX11 189 yX3_takeBack ∈ lw_g := tg (tb3 (List.mem_of_getElem? (i := 18) rfl)) rfl
theorem tw499 : Cond.instanceMethod yX3_takeBack ∈ lw_g := tg (tb3 (List.mem_of_getElem? (i := 19) rfl)) rfl
theorem tw500 : Cond.selects RX3 yX3_takeBack yX3_takeBack ∈ lw_g := tg (tb3 (List.mem_of_getElem? (i := 20) rfl)) rfl
theorem tw501 : Cond.code yX3_takeBack cX3_takeBack 2 none ∈ lw_g := tg (tb3 (List.mem_of_getElem? (i := 21) rfl)) rfl
theorem tw502 : Cond.methodLink RL 65 yX11_rule ∈ lw_g := tg (tb3 (List.mem_of_getElem? (i := 22) rfl)) rfl
theorem tw503 : Cond.instanceMethod yX11_rule ∈ lw_g := tg (tb3 (List.mem_of_getElem? (i := 23) rfl)) rfl
theorem tw504 : Cond.selects RX11 yX11_rule yX11_rule ∈ lw_g := tg (tb3 (List.mem_of_getElem? (i := 24) rfl)) rfl
theorem tw505 : Cond.code yX11_rule cX11_rule 6 (some FieldType.int) ∈ lw_g := tg (tb3 (List.mem_of_getElem? (i := 25) rfl)) rfl
theorem tw506 : Cond.methodLink RL 69 yX11_count ∈ lw_g := tg (tb3 (List.mem_of_getElem? (i := 26) rfl)) rfl
theorem tw507 : Cond.instanceMethod yX11_count ∈ lw_g := tg (tb3 (List.mem_of_getElem? (i := 27) rfl)) rfl
theorem tw508 : Cond.selects RX11 yX11_count yX11_count ∈ lw_g := tg (tb3 (List.mem_of_getElem? (i := 28) rfl)) rfl
theorem tw509 : Cond.code yX11_count cX11_count 2 (some FieldType.int) ∈ lw_g := tg (tb3 (List.mem_of_getElem? (i := 29) rfl)) rfl
theorem tw510 : Cond.methodLink RX11 201 yX4_countRules ∈ lw_g := tg (tb3 (List.mem_of_getElem? (i := 30) rfl)) rfl
theorem tw511 : Cond.instanceMethod yX4_countRules ∈ lw_g := tg (tb3 (List.mem_of_getElem? (i := 31) rfl)) rfl
theorem tw512 : Cond.selects RX4 yX4_countRules yX4_countRules ∈ lw_g := tg (tb3 (List.mem_of_getElem? (i := 32) rfl)) rfl
theorem tw513 : Cond.code yX4_countRules cX4_countRules 3 (some FieldType.int) ∈ lw_g := tg (tb3 (List.mem_of_getElem? (i := 33) rfl)) rfl
theorem tw514 : Cond.methodLink RL 73 yX11_shadowed ∈ lw_g := tg (tb3 (List.mem_of_getElem? (i := 34) rfl)) rfl
theorem tw515 : Cond.instanceMethod yX11_shadowed ∈ lw_g := tg (tb3 (List.mem_of_getElem? (i := 35) rfl)) rfl
theorem tw516 : Cond.selects RX11 yX11_shadowed yX11_shadowed ∈ lw_g := tg (tb3 (List.mem_of_getElem? (i := 36) rfl)) rfl
theorem tw517 : Cond.code yX11_shadowed cX11_shadowed 2 (some FieldType.int) ∈ lw_g := tg (tb3 (List.mem_of_getElem? (i := 37) rfl)) rfl
theorem tw518 : Cond.methodLink RX11 205 yX7_hiddenRules ∈ lw_g := tg (tb3 (List.mem_of_getElem? (i := 38) rfl)) rfl
theorem tw519 : Cond.instanceMethod yX7_hiddenRules ∈ lw_g := tg (tb3 (List.mem_of_getElem? (i := 39) rfl)) rfl
theorem tw520 : Cond.selects RX7 yX7_hiddenRules yX7_hiddenRules ∈ lw_g := tg (tb3 (List.mem_of_getElem? (i := 40) rfl)) rfl
theorem tw521 : Cond.code yX7_hiddenRules cX7_hiddenRules 3 (some FieldType.int) ∈ lw_g := tg (tb3 (List.mem_of_getElem? (i := 41) rfl)) rfl
theorem tw522 : Cond.methodLink RX7 41 yX7_isHidden ∈ lw_g := tg (tb3 (List.mem_of_getElem? (i := 42) rfl)) rfl
theorem tw524 : Cond.instanceMethod yX7_isHidden ∈ lw_g := tg (tb3 (List.mem_of_getElem? (i := 44) rfl)) rfl
theorem tw525 : Cond.code yX7_isHidden cX7_isHidden 3 (some FieldType.boolean) ∈ lw_g := tg (tb3 (List.mem_of_getElem? (i := 45) rfl)) rfl
theorem tw526 : Cond.methodLink RX7 49 yX7_handled ∈ lw_g := tg (tb3 (List.mem_of_getElem? (i := 46) rfl)) rfl
theorem tw527 : Cond.instanceMethod yX7_handled ∈ lw_g := tg (tb3 (List.mem_of_getElem? (i := 47) rfl)) rfl
theorem tw528 : Cond.selects RX7 yX7_handled yX7_handled ∈ lw_g := tg (tb3 (List.mem_of_getElem? (i := 48) rfl)) rfl
theorem tw529 : Cond.code yX7_handled cX7_handled 5 (some FieldType.long) ∈ lw_g := tg (tb3 (List.mem_of_getElem? (i := 49) rfl)) rfl
theorem tw530 : Cond.methodLink RX7 33 yX7_leftFor ∈ lw_g := tg (tb3 (List.mem_of_getElem? (i := 50) rfl)) rfl
theorem tw531 : Cond.instanceMethod yX7_leftFor ∈ lw_g := tg (tb3 (List.mem_of_getElem? (i := 51) rfl)) rfl
theorem tw532 : Cond.selects RX7 yX7_leftFor yX7_leftFor ∈ lw_g := tg (tb3 (List.mem_of_getElem? (i := 52) rfl)) rfl
theorem tw533 : Cond.code yX7_leftFor cX7_leftFor 8 (some FieldType.long) ∈ lw_g := tg (tb3 (List.mem_of_getElem? (i := 53) rfl)) rfl
theorem tw534 : Cond.methodLink RX7 27 yX6_taken ∈ lw_g := tg (tb3 (List.mem_of_getElem? (i := 54) rfl)) rfl
theorem tw535 : Cond.instanceMethod yX6_taken ∈ lw_g := tg (tb3 (List.mem_of_getElem? (i := 55) rfl)) rfl
theorem tw536 : Cond.selects RX6 yX6_taken yX6_taken ∈ lw_g := tg (tb3 (List.mem_of_getElem? (i := 56) rfl)) rfl
theorem tw537 : Cond.code yX6_taken cX6_taken 4 (some FieldType.long) ∈ lw_g := tg (tb3 (List.mem_of_getElem? (i := 57) rfl)) rfl
theorem tw538 : Cond.constantLong RX7 31 (-1) ∈ lw_g := tg (tb3 (List.mem_of_getElem? (i := 58) rfl)) rfl
theorem tw539 : Cond.methodLink RL 77 yX11_inject ∈ lw_g := tg (tb3 (List.mem_of_getElem? (i := 59) rfl)) rfl
theorem tw540 : Cond.instanceMethod yX11_inject ∈ lw_g := tg (tb3 (List.mem_of_getElem? (i := 60) rfl)) rfl
theorem tw541 : Cond.selects RX11 yX11_inject yX11_inject ∈ lw_g := tg (tb3 (List.mem_of_getElem? (i := 61) rfl)) rfl
theorem tw542 : Cond.code yX11_inject cX11_inject 5 (some FieldType.int) ∈ lw_g := tg (tb3 (List.mem_of_getElem? (i := 62) rfl)) rfl
theorem tw543 : Cond.methodLink RX11 208 yX11_cubeHeaders ∈ lw_g := tg (tb3 (List.mem_of_getElem? (i := 63) rfl)) rfl
theorem tw544 : Cond.methodLink RX11 212 yJ13_bitCount_95d88 ∈ lw_g := tg (tb3 (List.mem_of_getElem? (i := 64) rfl)) rfl
theorem tw545 : Cond.static yJ13_bitCount_95d88 ∈ lw_g := tg (tb3 (List.mem_of_getElem? (i := 65) rfl)) rfl
theorem tw546 : Cond.code yJ13_bitCount_95d88 cJ13_bitCount_95d88 2 (some FieldType.int) ∈ lw_g := tg (tb3 (List.mem_of_getElem? (i := 66) rfl)) rfl
theorem tw547 : Cond.constantLong RJ13 314 (6148914691236517205) ∈ lw_g := tg (tb3 (List.mem_of_getElem? (i := 67) rfl)) rfl
theorem tw548 : Cond.constantLong RJ13 316 (3689348814741910323) ∈ lw_g := tg (tb3 (List.mem_of_getElem? (i := 68) rfl)) rfl
theorem tw549 : Cond.constantLong RJ13 318 (1085102592571150095) ∈ lw_g := tg (tb3 (List.mem_of_getElem? (i := 69) rfl)) rfl
theorem tw550 : Cond.methodLink RL 81 yX11_arriving ∈ lw_g := tg (tb3 (List.mem_of_getElem? (i := 70) rfl)) rfl
theorem tw551 : Cond.instanceMethod yX11_arriving ∈ lw_g := tg (tb3 (List.mem_of_getElem? (i := 71) rfl)) rfl
theorem tw552 : Cond.selects RX11 yX11_arriving yX11_arriving ∈ lw_g := tg (tb3 (List.mem_of_getElem? (i := 72) rfl)) rfl
theorem tw553 : Cond.code yX11_arriving cX11_arriving 3 (some FieldType.long) ∈ lw_g := tg (tb3 (List.mem_of_getElem? (i := 73) rfl)) rfl
theorem tw554 : Cond.constantLong RX11 216 (-9223372036854775808) ∈ lw_g := tg (tb3 (List.mem_of_getElem? (i := 74) rfl)) rfl
theorem tw555 : Cond.methodLink RX11 218 yX2_spreadFrom ∈ lw_g := tg (tb3 (List.mem_of_getElem? (i := 75) rfl)) rfl
theorem tw556 : Cond.instanceMethod yX2_spreadFrom ∈ lw_g := tg (tb3 (List.mem_of_getElem? (i := 76) rfl)) rfl
theorem tw557 : Cond.selects RX2 yX2_spreadFrom yX2_spreadFrom ∈ lw_g := tg (tb3 (List.mem_of_getElem? (i := 77) rfl)) rfl
theorem tw558 : Cond.code yX2_spreadFrom cX2_spreadFrom 4 none ∈ lw_g := tg (tb3 (List.mem_of_getElem? (i := 78) rfl)) rfl
theorem tw559 : Cond.methodLink RX2 25 yX2_forget ∈ lw_g := tg (tb3 (List.mem_of_getElem? (i := 79) rfl)) rfl
theorem tw561 : Cond.instanceMethod yX2_forget ∈ lw_g := tg (tb3 (List.mem_of_getElem? (i := 81) rfl)) rfl
theorem tw562 : Cond.code yX2_forget cX2_forget 1 none ∈ lw_g := tg (tb3 (List.mem_of_getElem? (i := 82) rfl)) rfl
theorem tw563 : Cond.methodLink RX2 100 yJ7_fill_d0a16 ∈ lw_g := tg (tb3 (List.mem_of_getElem? (i := 83) rfl)) rfl
theorem tw564 : Cond.static yJ7_fill_d0a16 ∈ lw_g := tg (tb3 (List.mem_of_getElem? (i := 84) rfl)) rfl
theorem tw565 : Cond.code yJ7_fill_d0a16 cJ7_fill_d0a16 5 none ∈ lw_g := tg (tb3 (List.mem_of_getElem? (i := 85) rfl)) rfl
theorem tw566 : Cond.methodLink RX2 28 yX2_enter ∈ lw_g := tg (tb3 (List.mem_of_getElem? (i := 86) rfl)) rfl
theorem tw568 : Cond.instanceMethod yX2_enter ∈ lw_g := tg (tb3 (List.mem_of_getElem? (i := 88) rfl)) rfl
theorem tw569 : Cond.code yX2_enter cX2_enter 4 none ∈ lw_g := tg (tb3 (List.mem_of_getElem? (i := 89) rfl)) rfl
theorem tw570 : Cond.constantLong RX2 106 (-1) ∈ lw_g := tg (tb3 (List.mem_of_getElem? (i := 90) rfl)) rfl
theorem tw571 : Cond.methodLink RX2 32 yX2_spread ∈ lw_g := tg (tb3 (List.mem_of_getElem? (i := 91) rfl)) rfl
theorem tw573 : Cond.instanceMethod yX2_spread ∈ lw_g := tg (tb3 (List.mem_of_getElem? (i := 93) rfl)) rfl
theorem tw574 : Cond.code yX2_spread cX2_spread 3 none ∈ lw_g := tg (tb3 (List.mem_of_getElem? (i := 94) rfl)) rfl
theorem tw575 : Cond.methodLink RX2 39 yX2_goOneLink ∈ lw_g := tg (tb3 (List.mem_of_getElem? (i := 95) rfl)) rfl
theorem tw577 : Cond.instanceMethod yX2_goOneLink ∈ lw_g := tg (tb3 (List.mem_of_getElem? (i := 97) rfl)) rfl
theorem tw578 : Cond.code yX2_goOneLink cX2_goOneLink 3 (some FieldType.boolean) ∈ lw_g := tg (tb3 (List.mem_of_getElem? (i := 98) rfl)) rfl
theorem tw579 : Cond.methodLink RX2 108 yX2_handle ∈ lw_g := tg (tb3 (List.mem_of_getElem? (i := 99) rfl)) rfl
theorem tw581 : Cond.instanceMethod yX2_handle ∈ lw_g := tg (tb3 (List.mem_of_getElem? (i := 101) rfl)) rfl
theorem tw582 : Cond.code yX2_handle cX2_handle 12 none ∈ lw_g := tg (tb3 (List.mem_of_getElem? (i := 102) rfl)) rfl
theorem tw583 : Cond.methodLink RX2 111 yX6_taken ∈ lw_g := tg (tb3 (List.mem_of_getElem? (i := 103) rfl)) rfl
theorem tw584 : Cond.methodLink RX2 96 yX6_rewrittenSet ∈ lw_g := tg (tb3 (List.mem_of_getElem? (i := 104) rfl)) rfl
theorem tw585 : Cond.instanceMethod yX6_rewrittenSet ∈ lw_g := tg (tb3 (List.mem_of_getElem? (i := 105) rfl)) rfl
theorem tw586 : Cond.selects RX6 yX6_rewrittenSet yX6_rewrittenSet ∈ lw_g := tg (tb3 (List.mem_of_getElem? (i := 106) rfl)) rfl
theorem tw587 : Cond.code yX6_rewrittenSet cX6_rewrittenSet 11 (some FieldType.long) ∈ lw_g := tg (tb3 (List.mem_of_getElem? (i := 107) rfl)) rfl
theorem tw588 : Cond.fieldLinkNest RX6 45 RX11 "WITH_BIT" "[J" RX11 ∈ lw_n := tn (tb3 (List.mem_of_getElem? (i := 108) rfl)) rfl
theorem tw589 : Cond.constantLong RX6 49 (-1) ∈ lw_g := tg (tb3 (List.mem_of_getElem? (i := 109) rfl)) rfl
theorem tw590 : Cond.methodLink RX2 115 yX2_sendOut ∈ lw_g := tg (tb3 (List.mem_of_getElem? (i := 110) rfl)) rfl
theorem tw592 : Cond.instanceMethod yX2_sendOut ∈ lw_g := tg (tb3 (List.mem_of_getElem? (i := 112) rfl)) rfl
theorem tw593 : Cond.code yX2_sendOut cX2_sendOut 7 none ∈ lw_g := tg (tb3 (List.mem_of_getElem? (i := 113) rfl)) rfl
theorem tw594 : Cond.methodLinkNest RX2 43 yX11_placeOf RX11 ∈ lw_n := tn (tb3 (List.mem_of_getElem? (i := 114) rfl)) rfl
theorem tw595 : Cond.methodLinkNest RX2 88 yX11_hasPort RX11 ∈ lw_n := tn (tb3 (List.mem_of_getElem? (i := 115) rfl)) rfl
theorem tw596 : Cond.static yX11_hasPort ∈ lw_g := tg (tb3 (List.mem_of_getElem? (i := 116) rfl)) rfl
theorem tw597 : Cond.code yX11_hasPort cX11_hasPort 2 (some FieldType.boolean) ∈ lw_g := tg (tb3 (List.mem_of_getElem? (i := 117) rfl)) rfl
theorem tw598 : Cond.methodLink RL 86 yX11_delivered ∈ lw_g := tg (tb3 (List.mem_of_getElem? (i := 118) rfl)) rfl
theorem tw599 : Cond.instanceMethod yX11_delivered ∈ lw_g := tg (tb3 (List.mem_of_getElem? (i := 119) rfl)) rfl
theorem tw600 : Cond.selects RX11 yX11_delivered yX11_delivered ∈ lw_g := tg (tb3 (List.mem_of_getElem? (i := 120) rfl)) rfl
theorem tw601 : Cond.code yX11_delivered cX11_delivered 3 (some FieldType.long) ∈ lw_g := tg (tb3 (List.mem_of_getElem? (i := 121) rfl)) rfl
theorem tw602 : Cond.methodLink RX11 226 yX2_deliveredAt ∈ lw_g := tg (tb3 (List.mem_of_getElem? (i := 122) rfl)) rfl
theorem tw603 : Cond.instanceMethod yX2_deliveredAt ∈ lw_g := tg (tb3 (List.mem_of_getElem? (i := 123) rfl)) rfl
theorem tw604 : Cond.selects RX2 yX2_deliveredAt yX2_deliveredAt ∈ lw_g := tg (tb3 (List.mem_of_getElem? (i := 124) rfl)) rfl
theorem tw605 : Cond.code yX2_deliveredAt cX2_deliveredAt 8 (some FieldType.long) ∈ lw_g := tg (tb3 (List.mem_of_getElem? (i := 125) rfl)) rfl
theorem tw606 : Cond.methodLink RX2 92 yX2_allHandled ∈ lw_g := tg (tb3 (List.mem_of_getElem? (i := 126) rfl)) rfl
theorem tw608 : Cond.instanceMethod yX2_allHandled ∈ lw_g := tg (tb3 (List.mem_of_getElem? (i := 128) rfl)) rfl
theorem tw609 : Cond.code yX2_allHandled cX2_allHandled 7 (some FieldType.long) ∈ lw_g := tg (tb3 (List.mem_of_getElem? (i := 129) rfl)) rfl
theorem tw610 : Cond.methodLink RX2 81 yX7_handled ∈ lw_g := tg (tb3 (List.mem_of_getElem? (i := 130) rfl)) rfl
theorem tw611 : Cond.methodLink RL 90 yX11_arrivals ∈ lw_g := tg (tb3 (List.mem_of_getElem? (i := 131) rfl)) rfl
theorem tw612 : Cond.instanceMethod yX11_arrivals ∈ lw_g := tg (tb3 (List.mem_of_getElem? (i := 132) rfl)) rfl
theorem tw613 : Cond.selects RX11 yX11_arrivals yX11_arrivals ∈ lw_g := tg (tb3 (List.mem_of_getElem? (i := 133) rfl)) rfl
theorem tw614 : Cond.code yX11_arrivals cX11_arrivals 3 (some FieldType.int) ∈ lw_g := tg (tb3 (List.mem_of_getElem? (i := 134) rfl)) rfl
theorem tw615 : Cond.methodLink RX11 229 yX2_countArrived ∈ lw_g := tg (tb3 (List.mem_of_getElem? (i := 135) rfl)) rfl
theorem tw616 : Cond.instanceMethod yX2_countArrived ∈ lw_g := tg (tb3 (List.mem_of_getElem? (i := 136) rfl)) rfl
theorem tw617 : Cond.selects RX2 yX2_countArrived yX2_countArrived ∈ lw_g := tg (tb3 (List.mem_of_getElem? (i := 137) rfl)) rfl
theorem tw618 : Cond.code yX2_countArrived cX2_countArrived 4 (some FieldType.int) ∈ lw_g := tg (tb3 (List.mem_of_getElem? (i := 138) rfl)) rfl
theorem tw619 : Cond.methodLink RX2 47 yJ13_bitCount_95d88 ∈ lw_g := tg (tb3 (List.mem_of_getElem? (i := 139) rfl)) rfl
theorem tw620 : Cond.methodLink RX11 233 yX2_countDropped ∈ lw_g := tg (tb3 (List.mem_of_getElem? (i := 140) rfl)) rfl
theorem tw621 : Cond.instanceMethod yX2_countDropped ∈ lw_g := tg (tb3 (List.mem_of_getElem? (i := 141) rfl)) rfl
theorem tw622 : Cond.selects RX2 yX2_countDropped yX2_countDropped ∈ lw_g := tg (tb3 (List.mem_of_getElem? (i := 142) rfl)) rfl
theorem tw623 : Cond.code yX2_countDropped cX2_countDropped 5 (some FieldType.int) ∈ lw_g := tg (tb3 (List.mem_of_getElem? (i := 143) rfl)) rfl
theorem tw624 : Cond.methodLink RX2 78 yX2_countHandled ∈ lw_g := tg (tb3 (List.mem_of_getElem? (i := 144) rfl)) rfl
theorem tw625 : Cond.instanceMethod yX2_countHandled ∈ lw_g := tg (tb3 (List.mem_of_getElem? (i := 145) rfl)) rfl
theorem tw626 : Cond.selects RX2 yX2_countHandled yX2_countHandled ∈ lw_g := tg (tb3 (List.mem_of_getElem? (i := 146) rfl)) rfl
theorem tw627 : Cond.code yX2_countHandled cX2_countHandled 6 (some FieldType.int) ∈ lw_g := tg (tb3 (List.mem_of_getElem? (i := 147) rfl)) rfl
theorem tw628 : Cond.methodLink RX11 236 yX2_countLost ∈ lw_g := tg (tb3 (List.mem_of_getElem? (i := 148) rfl)) rfl
theorem tw629 : Cond.instanceMethod yX2_countLost ∈ lw_g := tg (tb3 (List.mem_of_getElem? (i := 149) rfl)) rfl
theorem tw630 : Cond.selects RX2 yX2_countLost yX2_countLost ∈ lw_g := tg (tb3 (List.mem_of_getElem? (i := 150) rfl)) rfl
theorem tw631 : Cond.code yX2_countLost cX2_countLost 5 (some FieldType.int) ∈ lw_g := tg (tb3 (List.mem_of_getElem? (i := 151) rfl)) rfl
theorem tw632 : Cond.methodLink RX2 65 yX7_leftFor ∈ lw_g := tg (tb3 (List.mem_of_getElem? (i := 152) rfl)) rfl
theorem tw633 : Cond.methodLink RL 94 yX11_hits ∈ lw_g := tg (tb3 (List.mem_of_getElem? (i := 153) rfl)) rfl
theorem tw634 : Cond.instanceMethod yX11_hits ∈ lw_g := tg (tb3 (List.mem_of_getElem? (i := 154) rfl)) rfl
theorem tw635 : Cond.selects RX11 yX11_hits yX11_hits ∈ lw_g := tg (tb3 (List.mem_of_getElem? (i := 155) rfl)) rfl
theorem tw636 : Cond.code yX11_hits cX11_hits 4 (some FieldType.int) ∈ lw_g := tg (tb3 (List.mem_of_getElem? (i := 156) rfl)) rfl
theorem tw637 : Cond.methodLink RX11 239 yX2_countHandled ∈ lw_g := tg (tb3 (List.mem_of_getElem? (i := 157) rfl)) rfl
theorem tw638 : Cond.methodLink RL 98 yX11_cube ∈ lw_g := tg (tb3 (List.mem_of_getElem? (i := 158) rfl)) rfl
theorem tw639 : Cond.instanceMethod yX11_cube ∈ lw_g := tg (tb3 (List.mem_of_getElem? (i := 159) rfl)) rfl
theorem tw640 : Cond.selects RX11 yX11_cube yX11_cube ∈ lw_g := tg (tb3 (List.mem_of_getElem? (i := 160) rfl)) rfl
theorem tw641 : Cond.code yX11_cube cX11_cube 12 (some FieldType.int) ∈ lw_g := tg (tb3 (List.mem_of_getElem? (i := 161) rfl)) rfl
theorem tw642 : Cond.methodLink RX11 242 yX11_hasHeader ∈ lw_g := tg (tb3 (List.mem_of_getElem? (i := 162) rfl)) rfl
theorem tw643 : Cond.static yX11_hasHeader ∈ lw_g := tg (tb3 (List.mem_of_getElem? (i := 163) rfl)) rfl
theorem tw644 : Cond.code yX11_hasHeader cX11_hasHeader 3 (some FieldType.boolean) ∈ lw_g := tg (tb3 (List.mem_of_getElem? (i := 164) rfl)) rfl
theorem tw645 : Cond.methodLink RX11 246 yX11_widestCare ∈ lw_g := tg (tb3 (List.mem_of_getElem? (i := 165) rfl)) rfl
theorem tw647 : Cond.instanceMethod yX11_widestCare ∈ lw_g := tg (tb3 (List.mem_of_getElem? (i := 167) rfl)) rfl
theorem tw648 : Cond.code yX11_widestCare cX11_widestCare 9 (some FieldType.int) ∈ lw_g := tg (tb3 (List.mem_of_getElem? (i := 168) rfl)) rfl
theorem tw649 : Cond.methodLink RL 102 yX11_origin ∈ lw_g := tg (tb3 (List.mem_of_getElem? (i := 169) rfl)) rfl
theorem tw650 : Cond.instanceMethod yX11_origin ∈ lw_g := tg (tb3 (List.mem_of_getElem? (i := 170) rfl)) rfl
theorem tw651 : Cond.selects RX11 yX11_origin yX11_origin ∈ lw_g := tg (tb3 (List.mem_of_getElem? (i := 171) rfl)) rfl
theorem tw652 : Cond.code yX11_origin cX11_origin 4 (some FieldType.int) ∈ lw_g := tg (tb3 (List.mem_of_getElem? (i := 172) rfl)) rfl
theorem tw653 : Cond.methodLink RX11 252 yX4_isHeader ∈ lw_g := tg (tb3 (List.mem_of_getElem? (i := 173) rfl)) rfl
theorem tw654 : Cond.methodLink RX11 255 yX2_leastOrigin ∈ lw_g := tg (tb3 (List.mem_of_getElem? (i := 174) rfl)) rfl
theorem tw655 : Cond.instanceMethod yX2_leastOrigin ∈ lw_g := tg (tb3 (List.mem_of_getElem? (i := 175) rfl)) rfl
theorem tw656 : Cond.selects RX2 yX2_leastOrigin yX2_leastOrigin ∈ lw_g := tg (tb3 (List.mem_of_getElem? (i := 176) rfl)) rfl
theorem tw657 : Cond.code yX2_leastOrigin cX2_leastOrigin 7 (some FieldType.int) ∈ lw_g := tg (tb3 (List.mem_of_getElem? (i := 177) rfl)) rfl
theorem tw658 : Cond.methodLinkNest RX2 35 yX11_hasHeader RX11 ∈ lw_n := tn (tb3 (List.mem_of_getElem? (i := 178) rfl)) rfl
theorem tw659 : Cond.methodLink RL 106 yX11_distance ∈ lw_g := tg (tb3 (List.mem_of_getElem? (i := 179) rfl)) rfl
theorem tw660 : Cond.instanceMethod yX11_distance ∈ lw_g := tg (tb3 (List.mem_of_getElem? (i := 180) rfl)) rfl
theorem tw661 : Cond.selects RX11 yX11_distance yX11_distance ∈ lw_g := tg (tb3 (List.mem_of_getElem? (i := 181) rfl)) rfl
theorem tw662 : Cond.code yX11_distance cX11_distance 4 (some FieldType.int) ∈ lw_g := tg (tb3 (List.mem_of_getElem? (i := 182) rfl)) rfl
theorem tw663 : Cond.methodLink RX11 259 yX11_isInjected ∈ lw_g := tg (tb3 (List.mem_of_getElem? (i := 183) rfl)) rfl
theorem tw665 : Cond.instanceMethod yX11_isInjected ∈ lw_g := tg (tb3 (List.mem_of_getElem? (i := 185) rfl)) rfl
theorem tw666 : Cond.code yX11_isInjected cX11_isInjected 2 (some FieldType.boolean) ∈ lw_g := tg (tb3 (List.mem_of_getElem? (i := 186) rfl)) rfl
theorem tw667 : Cond.methodLink RX11 262 yX2_leastLinks ∈ lw_g := tg (tb3 (List.mem_of_getElem? (i := 187) rfl)) rfl
theorem tw668 : Cond.instanceMethod yX2_leastLinks ∈ lw_g := tg (tb3 (List.mem_of_getElem? (i := 188) rfl)) rfl
theorem tw669 : Cond.selects RX2 yX2_leastLinks yX2_leastLinks ∈ lw_g := tg (tb3 (List.mem_of_getElem? (i := 189) rfl)) rfl
theorem tw670 : Cond.code yX2_leastLinks cX2_leastLinks 5 (some FieldType.int) ∈ lw_g := tg (tb3 (List.mem_of_getElem? (i := 190) rfl)) rfl
theorem tw671 : Cond.methodLink RL 110 yX11_trace ∈ lw_g := tg (tb3 (List.mem_of_getElem? (i := 191) rfl)) rfl
theorem tw672 : Cond.instanceMethod yX11_trace ∈ lw_g := tg (tb3 (List.mem_of_getElem? (i := 192) rfl)) rfl
theorem tw673 : Cond.selects RX11 yX11_trace yX11_trace ∈ lw_g := tg (tb3 (List.mem_of_getElem? (i := 193) rfl)) rfl
theorem tw674 : Cond.code yX11_trace cX11_trace 4 (some FieldType.int) ∈ lw_g := tg (tb3 (List.mem_of_getElem? (i := 194) rfl)) rfl
theorem tw675 : Cond.methodLink RX11 266 yJ9_min_7cf53 ∈ lw_g := tg (tb3 (List.mem_of_getElem? (i := 195) rfl)) rfl
theorem tw676 : Cond.methodLink RX11 271 yX10_go ∈ lw_g := tg (tb3 (List.mem_of_getElem? (i := 196) rfl)) rfl
theorem tw677 : Cond.instanceMethod yX10_go ∈ lw_g := tg (tb3 (List.mem_of_getElem? (i := 197) rfl)) rfl
theorem tw678 : Cond.selects RX10 yX10_go yX10_go ∈ lw_g := tg (tb3 (List.mem_of_getElem? (i := 198) rfl)) rfl
theorem tw679 : Cond.code yX10_go cX10_go 5 (some FieldType.int) ∈ lw_g := tg (tb3 (List.mem_of_getElem? (i := 199) rfl)) rfl
theorem tw680 : Cond.methodLink RX10 19 yJ7_fill_d0a16 ∈ lw_g := tg (tb3 (List.mem_of_getElem? (i := 200) rfl)) rfl
theorem tw681 : Cond.methodLink RX10 35 yX10_goOnce ∈ lw_g := tg (tb3 (List.mem_of_getElem? (i := 201) rfl)) rfl
theorem tw683 : Cond.instanceMethod yX10_goOnce ∈ lw_g := tg (tb3 (List.mem_of_getElem? (i := 203) rfl)) rfl
theorem tw684 : Cond.code yX10_goOnce cX10_goOnce 7 none ∈ lw_g := tg (tb3 (List.mem_of_getElem? (i := 204) rfl)) rfl
theorem tw685 : Cond.methodLink RX10 44 yX7_handler ∈ lw_g := tg (tb3 (List.mem_of_getElem? (i := 205) rfl)) rfl
theorem tw686 : Cond.instanceMethod yX7_handler ∈ lw_g := tg (tb3 (List.mem_of_getElem? (i := 206) rfl)) rfl
theorem tw687 : Cond.selects RX7 yX7_handler yX7_handler ∈ lw_g := tg (tb3 (List.mem_of_getElem? (i := 207) rfl)) rfl
theorem tw688 : Cond.code yX7_handler cX7_handler 7 (some FieldType.int) ∈ lw_g := tg (tb3 (List.mem_of_getElem? (i := 208) rfl)) rfl
theorem tw689 : Cond.methodLink RX10 54 yX6_lowestOutput ∈ lw_g := tg (tb3 (List.mem_of_getElem? (i := 209) rfl)) rfl
theorem tw690 : Cond.instanceMethod yX6_lowestOutput ∈ lw_g := tg (tb3 (List.mem_of_getElem? (i := 210) rfl)) rfl
theorem tw691 : Cond.selects RX6 yX6_lowestOutput yX6_lowestOutput ∈ lw_g := tg (tb3 (List.mem_of_getElem? (i := 211) rfl)) rfl
theorem tw692 : Cond.code yX6_lowestOutput cX6_lowestOutput 2 (some FieldType.int) ∈ lw_g := tg (tb3 (List.mem_of_getElem? (i := 212) rfl)) rfl
theorem tw693 : Cond.methodLinkNest RX6 51 yX11_hasPort RX11 ∈ lw_n := tn (tb3 (List.mem_of_getElem? (i := 213) rfl)) rfl
theorem tw694 : Cond.methodLinkNest RX10 64 yX11_placeOf RX11 ∈ lw_n := tn (tb3 (List.mem_of_getElem? (i := 214) rfl)) rfl
theorem tw695 : Cond.methodLink RX10 68 yX6_rewritten ∈ lw_g := tg (tb3 (List.mem_of_getElem? (i := 215) rfl)) rfl
theorem tw696 : Cond.instanceMethod yX6_rewritten ∈ lw_g := tg (tb3 (List.mem_of_getElem? (i := 216) rfl)) rfl
theorem tw697 : Cond.selects RX6 yX6_rewritten yX6_rewritten ∈ lw_g := tg (tb3 (List.mem_of_getElem? (i := 217) rfl)) rfl
theorem tw698 : Cond.code yX6_rewritten cX6_rewritten 2 (some FieldType.int) ∈ lw_g := tg (tb3 (List.mem_of_getElem? (i := 218) rfl)) rfl
theorem tw699 : Cond.methodLinkNest RX10 72 yX11_hasHeader RX11 ∈ lw_n := tn (tb3 (List.mem_of_getElem? (i := 219) rfl)) rfl
theorem tw700 : Cond.methodLink RL 114 yX11_traceEnd ∈ lw_g := tg (tb3 (List.mem_of_getElem? (i := 220) rfl)) rfl
theorem tw701 : Cond.instanceMethod yX11_traceEnd ∈ lw_g := tg (tb3 (List.mem_of_getElem? (i := 221) rfl)) rfl
theorem tw702 : Cond.selects RX11 yX11_traceEnd yX11_traceEnd ∈ lw_g := tg (tb3 (List.mem_of_getElem? (i := 222) rfl)) rfl
theorem tw703 : Cond.code yX11_traceEnd cX11_traceEnd 2 (some FieldType.int) ∈ lw_g := tg (tb3 (List.mem_of_getElem? (i := 223) rfl)) rfl
theorem tw704 : Cond.methodLink RL 118 yX11_loops ∈ lw_g := tg (tb3 (List.mem_of_getElem? (i := 224) rfl)) rfl
theorem tw705 : Cond.instanceMethod yX11_loops ∈ lw_g := tg (tb3 (List.mem_of_getElem? (i := 225) rfl)) rfl
theorem tw706 : Cond.selects RX11 yX11_loops yX11_loops ∈ lw_g := tg (tb3 (List.mem_of_getElem? (i := 226) rfl)) rfl
theorem tw707 : Cond.code yX11_loops cX11_loops 1 (some FieldType.long) ∈ lw_g := tg (tb3 (List.mem_of_getElem? (i := 227) rfl)) rfl
theorem tw708 : Cond.methodLink RX11 283 yX1_find ∈ lw_g := tg (tb3 (List.mem_of_getElem? (i := 228) rfl)) rfl
theorem tw709 : Cond.instanceMethod yX1_find ∈ lw_g := tg (tb3 (List.mem_of_getElem? (i := 229) rfl)) rfl
theorem tw710 : Cond.selects RX1 yX1_find yX1_find ∈ lw_g := tg (tb3 (List.mem_of_getElem? (i := 230) rfl)) rfl
theorem tw711 : Cond.code yX1_find cX1_find 4 none ∈ lw_g := tg (tb3 (List.mem_of_getElem? (i := 231) rfl)) rfl
theorem tw712 : Cond.methodLink RX1 19 yJ7_fill_d0a16 ∈ lw_g := tg (tb3 (List.mem_of_getElem? (i := 232) rfl)) rfl
theorem tw713 : Cond.methodLink RX1 25 yX1_growOnce ∈ lw_g := tg (tb3 (List.mem_of_getElem? (i := 233) rfl)) rfl
theorem tw715 : Cond.instanceMethod yX1_growOnce ∈ lw_g := tg (tb3 (List.mem_of_getElem? (i := 235) rfl)) rfl
theorem tw716 : Cond.code yX1_growOnce cX1_growOnce 6 (some FieldType.boolean) ∈ lw_g := tg (tb3 (List.mem_of_getElem? (i := 236) rfl)) rfl
theorem tw717 : Cond.methodLink RX1 29 yX1_ending ∈ lw_g := tg (tb3 (List.mem_of_getElem? (i := 237) rfl)) rfl
theorem tw719 : Cond.instanceMethod yX1_ending ∈ lw_g := tg (tb3 (List.mem_of_getElem? (i := 239) rfl)) rfl
theorem tw720 : Cond.code yX1_ending cX1_ending 12 (some FieldType.long) ∈ lw_g := tg (tb4 (List.mem_of_getElem? (i := 0) rfl)) rfl
theorem tw721 : Cond.methodLink RX1 43 yX4_allHeaders ∈ lw_g := tg (tb4 (List.mem_of_getElem? (i := 1) rfl)) rfl
theorem tw722 : Cond.methodLink RX1 57 yX6_taken ∈ lw_g := tg (tb4 (List.mem_of_getElem? (i := 2) rfl)) rfl
theorem tw723 : Cond.constantLong RX1 63 (-1) ∈ lw_g := tg (tb4 (List.mem_of_getElem? (i := 3) rfl)) rfl
theorem tw724 : Cond.methodLink RX1 68 yX1_endingBehindAll ∈ lw_g := tg (tb4 (List.mem_of_getElem? (i := 4) rfl)) rfl
theorem tw726 : Cond.instanceMethod yX1_endingBehindAll ∈ lw_g := tg (tb4 (List.mem_of_getElem? (i := 6) rfl)) rfl
theorem tw727 : Cond.code yX1_endingBehindAll cX1_endingBehindAll 7 (some FieldType.long) ∈ lw_g := tg (tb4 (List.mem_of_getElem? (i := 7) rfl)) rfl
theorem tw728 : Cond.methodLinkNest RX1 79 yX11_placeOf RX11 ∈ lw_n := tn (tb4 (List.mem_of_getElem? (i := 8) rfl)) rfl
theorem tw729 : Cond.methodLinkNest RX1 83 yX11_hasPort RX11 ∈ lw_n := tn (tb4 (List.mem_of_getElem? (i := 9) rfl)) rfl
theorem tw730 : Cond.methodLink RX1 71 yX6_leadingInto ∈ lw_g := tg (tb4 (List.mem_of_getElem? (i := 10) rfl)) rfl
theorem tw731 : Cond.instanceMethod yX6_leadingInto ∈ lw_g := tg (tb4 (List.mem_of_getElem? (i := 11) rfl)) rfl
theorem tw732 : Cond.selects RX6 yX6_leadingInto yX6_leadingInto ∈ lw_g := tg (tb4 (List.mem_of_getElem? (i := 12) rfl)) rfl
theorem tw733 : Cond.code yX6_leadingInto cX6_leadingInto 11 (some FieldType.long) ∈ lw_g := tg (tb4 (List.mem_of_getElem? (i := 13) rfl)) rfl
theorem tw734 : Cond.methodLink RX1 33 yX1_delivering ∈ lw_g := tg (tb4 (List.mem_of_getElem? (i := 14) rfl)) rfl
theorem tw736 : Cond.instanceMethod yX1_delivering ∈ lw_g := tg (tb4 (List.mem_of_getElem? (i := 16) rfl)) rfl
theorem tw737 : Cond.code yX1_delivering cX1_delivering 13 (some FieldType.long) ∈ lw_g := tg (tb4 (List.mem_of_getElem? (i := 17) rfl)) rfl
theorem tw738 : Cond.methodLink RX1 87 yX1_deliveredBehindOne ∈ lw_g := tg (tb4 (List.mem_of_getElem? (i := 18) rfl)) rfl
theorem tw740 : Cond.instanceMethod yX1_deliveredBehindOne ∈ lw_g := tg (tb4 (List.mem_of_getElem? (i := 20) rfl)) rfl
theorem tw741 : Cond.code yX1_deliveredBehindOne cX1_deliveredBehindOne 8 (some FieldType.long) ∈ lw_g := tg (tb4 (List.mem_of_getElem? (i := 21) rfl)) rfl
theorem tw742 : Cond.methodLink RL 123 yX11_cutSize ∈ lw_g := tg (tb4 (List.mem_of_getElem? (i := 22) rfl)) rfl
theorem tw743 : Cond.instanceMethod yX11_cutSize ∈ lw_g := tg (tb4 (List.mem_of_getElem? (i := 23) rfl)) rfl
theorem tw744 : Cond.selects RX11 yX11_cutSize yX11_cutSize ∈ lw_g := tg (tb4 (List.mem_of_getElem? (i := 24) rfl)) rfl
theorem tw745 : Cond.code yX11_cutSize cX11_cutSize 3 (some FieldType.int) ∈ lw_g := tg (tb4 (List.mem_of_getElem? (i := 25) rfl)) rfl
theorem tw746 : Cond.methodLink RX11 289 yX0_smallest ∈ lw_g := tg (tb4 (List.mem_of_getElem? (i := 26) rfl)) rfl
theorem tw747 : Cond.instanceMethod yX0_smallest ∈ lw_g := tg (tb4 (List.mem_of_getElem? (i := 27) rfl)) rfl
theorem tw748 : Cond.selects RX0 yX0_smallest yX0_smallest ∈ lw_g := tg (tb4 (List.mem_of_getElem? (i := 28) rfl)) rfl
theorem tw749 : Cond.code yX0_smallest cX0_smallest 7 (some FieldType.int) ∈ lw_g := tg (tb4 (List.mem_of_getElem? (i := 29) rfl)) rfl
theorem tw750 : Cond.methodLink RX0 46 yX0_openWay ∈ lw_g := tg (tb4 (List.mem_of_getElem? (i := 30) rfl)) rfl
theorem tw752 : Cond.instanceMethod yX0_openWay ∈ lw_g := tg (tb4 (List.mem_of_getElem? (i := 32) rfl)) rfl
theorem tw753 : Cond.code yX0_openWay cX0_openWay 5 (some FieldType.long) ∈ lw_g := tg (tb4 (List.mem_of_getElem? (i := 33) rfl)) rfl
theorem tw754 : Cond.methodLink RX0 73 yJ7_fill_d0a16 ∈ lw_g := tg (tb4 (List.mem_of_getElem? (i := 34) rfl)) rfl
theorem tw755 : Cond.methodLinkNest RX0 82 yX11_hasHeader RX11 ∈ lw_n := tn (tb4 (List.mem_of_getElem? (i := 35) rfl)) rfl
theorem tw756 : Cond.methodLink RX0 85 yX0_enqueue ∈ lw_g := tg (tb4 (List.mem_of_getElem? (i := 36) rfl)) rfl
theorem tw758 : Cond.instanceMethod yX0_enqueue ∈ lw_g := tg (tb4 (List.mem_of_getElem? (i := 38) rfl)) rfl
theorem tw759 : Cond.code yX0_enqueue cX0_enqueue 5 none ∈ lw_g := tg (tb4 (List.mem_of_getElem? (i := 39) rfl)) rfl
theorem tw760 : Cond.methodLink RX0 89 yX0_handlingSlot ∈ lw_g := tg (tb4 (List.mem_of_getElem? (i := 40) rfl)) rfl
theorem tw762 : Cond.instanceMethod yX0_handlingSlot ∈ lw_g := tg (tb4 (List.mem_of_getElem? (i := 42) rfl)) rfl
theorem tw763 : Cond.code yX0_handlingSlot cX0_handlingSlot 9 (some FieldType.int) ∈ lw_g := tg (tb4 (List.mem_of_getElem? (i := 43) rfl)) rfl
theorem tw764 : Cond.methodLink RX0 103 yX7_handler ∈ lw_g := tg (tb4 (List.mem_of_getElem? (i := 44) rfl)) rfl
theorem tw765 : Cond.methodLink RX0 93 yX0_reachesTarget ∈ lw_g := tg (tb4 (List.mem_of_getElem? (i := 45) rfl)) rfl
theorem tw767 : Cond.instanceMethod yX0_reachesTarget ∈ lw_g := tg (tb4 (List.mem_of_getElem? (i := 47) rfl)) rfl
theorem tw768 : Cond.code yX0_reachesTarget cX0_reachesTarget 10 (some FieldType.boolean) ∈ lw_g := tg (tb4 (List.mem_of_getElem? (i := 48) rfl)) rfl
theorem tw769 : Cond.methodLink RX0 113 yX6_rewritten ∈ lw_g := tg (tb4 (List.mem_of_getElem? (i := 49) rfl)) rfl
theorem tw770 : Cond.methodLinkNest RX0 122 yX11_hasPort RX11 ∈ lw_n := tn (tb4 (List.mem_of_getElem? (i := 50) rfl)) rfl
theorem tw771 : Cond.methodLinkNest RX0 128 yX11_placeOf RX11 ∈ lw_n := tn (tb4 (List.mem_of_getElem? (i := 51) rfl)) rfl
theorem tw772 : Cond.methodLink RX0 50 yX0_cutByOne ∈ lw_g := tg (tb4 (List.mem_of_getElem? (i := 52) rfl)) rfl
theorem tw774 : Cond.instanceMethod yX0_cutByOne ∈ lw_g := tg (tb4 (List.mem_of_getElem? (i := 54) rfl)) rfl
theorem tw775 : Cond.code yX0_cutByOne cX0_cutByOne 4 (some FieldType.boolean) ∈ lw_g := tg (tb4 (List.mem_of_getElem? (i := 55) rfl)) rfl
theorem tw776 : Cond.methodLink RX0 61 yX0_isOn ∈ lw_g := tg (tb4 (List.mem_of_getElem? (i := 56) rfl)) rfl
theorem tw777 : Cond.static yX0_isOn ∈ lw_g := tg (tb4 (List.mem_of_getElem? (i := 57) rfl)) rfl
theorem tw778 : Cond.code yX0_isOn cX0_isOn 3 (some FieldType.boolean) ∈ lw_g := tg (tb4 (List.mem_of_getElem? (i := 58) rfl)) rfl
theorem tw779 : Cond.methodLink RX0 54 yX0_cutByTwo ∈ lw_g := tg (tb4 (List.mem_of_getElem? (i := 59) rfl)) rfl
theorem tw781 : Cond.instanceMethod yX0_cutByTwo ∈ lw_g := tg (tb4 (List.mem_of_getElem? (i := 61) rfl)) rfl
theorem tw782 : Cond.code yX0_cutByTwo cX0_cutByTwo 5 (some FieldType.boolean) ∈ lw_g := tg (tb4 (List.mem_of_getElem? (i := 62) rfl)) rfl
theorem tw783 : Cond.methodLink RX0 65 yX0_knownWay ∈ lw_g := tg (tb4 (List.mem_of_getElem? (i := 63) rfl)) rfl
theorem tw785 : Cond.instanceMethod yX0_knownWay ∈ lw_g := tg (tb4 (List.mem_of_getElem? (i := 65) rfl)) rfl
theorem tw786 : Cond.code yX0_knownWay cX0_knownWay 3 (some FieldType.long) ∈ lw_g := tg (tb4 (List.mem_of_getElem? (i := 66) rfl)) rfl
theorem tw787 : Cond.methodLink RX0 58 yX0_cutByThree ∈ lw_g := tg (tb4 (List.mem_of_getElem? (i := 67) rfl)) rfl
theorem tw789 : Cond.instanceMethod yX0_cutByThree ∈ lw_g := tg (tb4 (List.mem_of_getElem? (i := 69) rfl)) rfl
theorem tw790 : Cond.code yX0_cutByThree cX0_cutByThree 6 (some FieldType.boolean) ∈ lw_g := tg (tb4 (List.mem_of_getElem? (i := 70) rfl)) rfl
theorem tw791 : Cond.methodLink RX0 69 yX0_isWorthTrying ∈ lw_g := tg (tb4 (List.mem_of_getElem? (i := 71) rfl)) rfl
theorem tw793 : Cond.instanceMethod yX0_isWorthTrying ∈ lw_g := tg (tb4 (List.mem_of_getElem? (i := 73) rfl)) rfl
theorem tw794 : Cond.code yX0_isWorthTrying cX0_isWorthTrying 4 (some FieldType.boolean) ∈ lw_g := tg (tb4 (List.mem_of_getElem? (i := 74) rfl)) rfl
theorem tw795 : Cond.methodLink RL 127 yX11_cutRule ∈ lw_g := tg (tb4 (List.mem_of_getElem? (i := 75) rfl)) rfl
theorem tw796 : Cond.instanceMethod yX11_cutRule ∈ lw_g := tg (tb4 (List.mem_of_getElem? (i := 76) rfl)) rfl
theorem tw797 : Cond.selects RX11 yX11_cutRule yX11_cutRule ∈ lw_g := tg (tb4 (List.mem_of_getElem? (i := 77) rfl)) rfl
theorem tw798 : Cond.code yX11_cutRule cX11_cutRule 6 (some FieldType.int) ∈ lw_g := tg (tb4 (List.mem_of_getElem? (i := 78) rfl)) rfl
theorem tw799 : Cond.methodLink RL 131 yX11_addPolicy ∈ lw_g := tg (tb4 (List.mem_of_getElem? (i := 79) rfl)) rfl
theorem tw800 : Cond.instanceMethod yX11_addPolicy ∈ lw_g := tg (tb4 (List.mem_of_getElem? (i := 80) rfl)) rfl
theorem tw801 : Cond.selects RX11 yX11_addPolicy yX11_addPolicy ∈ lw_g := tg (tb4 (List.mem_of_getElem? (i := 81) rfl)) rfl
theorem tw802 : Cond.code yX11_addPolicy cX11_addPolicy 7 (some FieldType.int) ∈ lw_g := tg (tb4 (List.mem_of_getElem? (i := 82) rfl)) rfl
theorem tw803 : Cond.methodLink RL 136 yX11_setPolicyCube ∈ lw_g := tg (tb4 (List.mem_of_getElem? (i := 83) rfl)) rfl
theorem tw804 : Cond.instanceMethod yX11_setPolicyCube ∈ lw_g := tg (tb4 (List.mem_of_getElem? (i := 84) rfl)) rfl
theorem tw805 : Cond.selects RX11 yX11_setPolicyCube yX11_setPolicyCube ∈ lw_g := tg (tb4 (List.mem_of_getElem? (i := 85) rfl)) rfl
theorem tw806 : Cond.code yX11_setPolicyCube cX11_setPolicyCube 6 (some FieldType.int) ∈ lw_g := tg (tb4 (List.mem_of_getElem? (i := 86) rfl)) rfl
theorem tw807 : Cond.methodLink RX11 308 yX11_isPolicy ∈ lw_g := tg (tb4 (List.mem_of_getElem? (i := 87) rfl)) rfl
theorem tw809 : Cond.instanceMethod yX11_isPolicy ∈ lw_g := tg (tb4 (List.mem_of_getElem? (i := 89) rfl)) rfl
theorem tw810 : Cond.code yX11_isPolicy cX11_isPolicy 2 (some FieldType.boolean) ∈ lw_g := tg (tb4 (List.mem_of_getElem? (i := 90) rfl)) rfl
theorem tw811 : Cond.methodLink RL 140 yX11_counterexamples ∈ lw_g := tg (tb4 (List.mem_of_getElem? (i := 91) rfl)) rfl
theorem tw812 : Cond.instanceMethod yX11_counterexamples ∈ lw_g := tg (tb4 (List.mem_of_getElem? (i := 92) rfl)) rfl
theorem tw813 : Cond.selects RX11 yX11_counterexamples yX11_counterexamples ∈ lw_g := tg (tb4 (List.mem_of_getElem? (i := 93) rfl)) rfl
theorem tw814 : Cond.code yX11_counterexamples cX11_counterexamples 2 (some FieldType.long) ∈ lw_g := tg (tb4 (List.mem_of_getElem? (i := 94) rfl)) rfl
theorem tw815 : Cond.methodLink RX11 311 yX11_against ∈ lw_g := tg (tb4 (List.mem_of_getElem? (i := 95) rfl)) rfl
theorem tw817 : Cond.instanceMethod yX11_against ∈ lw_g := tg (tb4 (List.mem_of_getElem? (i := 97) rfl)) rfl
theorem tw818 : Cond.code yX11_against cX11_against 4 (some FieldType.long) ∈ lw_g := tg (tb4 (List.mem_of_getElem? (i := 98) rfl)) rfl
theorem tw819 : Cond.methodLink RL 145 yX11_violated ∈ lw_g := tg (tb4 (List.mem_of_getElem? (i := 99) rfl)) rfl
theorem tw820 : Cond.instanceMethod yX11_violated ∈ lw_g := tg (tb4 (List.mem_of_getElem? (i := 100) rfl)) rfl
theorem tw821 : Cond.selects RX11 yX11_violated yX11_violated ∈ lw_g := tg (tb4 (List.mem_of_getElem? (i := 101) rfl)) rfl
theorem tw822 : Cond.code yX11_violated cX11_violated 3 (some FieldType.int) ∈ lw_g := tg (tb4 (List.mem_of_getElem? (i := 102) rfl)) rfl
theorem tw823 : Cond.methodLink RL 149 yX11_clearPolicies ∈ lw_g := tg (tb4 (List.mem_of_getElem? (i := 103) rfl)) rfl
theorem tw824 : Cond.instanceMethod yX11_clearPolicies ∈ lw_g := tg (tb4 (List.mem_of_getElem? (i := 104) rfl)) rfl
theorem tw825 : Cond.selects RX11 yX11_clearPolicies yX11_clearPolicies ∈ lw_g := tg (tb4 (List.mem_of_getElem? (i := 105) rfl)) rfl
theorem tw826 : Cond.code yX11_clearPolicies cX11_clearPolicies 2 (some FieldType.int) ∈ lw_g := tg (tb4 (List.mem_of_getElem? (i := 106) rfl)) rfl
theorem tw827 : Cond.methodLink RL 153 yX11_type ∈ lw_g := tg (tb4 (List.mem_of_getElem? (i := 107) rfl)) rfl
theorem tw828 : Cond.instanceMethod yX11_type ∈ lw_g := tg (tb4 (List.mem_of_getElem? (i := 108) rfl)) rfl
theorem tw829 : Cond.selects RX11 yX11_type yX11_type ∈ lw_g := tg (tb4 (List.mem_of_getElem? (i := 109) rfl)) rfl
theorem tw830 : Cond.code yX11_type cX11_type 2 (some FieldType.int) ∈ lw_g := tg (tb4 (List.mem_of_getElem? (i := 110) rfl)) rfl
theorem tw831 : Cond.methodLink RL 158 yX11_clearText ∈ lw_g := tg (tb4 (List.mem_of_getElem? (i := 111) rfl)) rfl
theorem tw832 : Cond.instanceMethod yX11_clearText ∈ lw_g := tg (tb4 (List.mem_of_getElem? (i := 112) rfl)) rfl
theorem tw833 : Cond.selects RX11 yX11_clearText yX11_clearText ∈ lw_g := tg (tb4 (List.mem_of_getElem? (i := 113) rfl)) rfl
theorem tw834 : Cond.code yX11_clearText cX11_clearText 2 (some FieldType.int) ∈ lw_g := tg (tb4 (List.mem_of_getElem? (i := 114) rfl)) rfl
theorem tw835 : Cond.methodLink RL 162 yX11_readRule ∈ lw_g := tg (tb4 (List.mem_of_getElem? (i := 115) rfl)) rfl
theorem tw836 : Cond.instanceMethod yX11_readRule ∈ lw_g := tg (tb4 (List.mem_of_getElem? (i := 116) rfl)) rfl
theorem tw837 : Cond.selects RX11 yX11_readRule yX11_readRule ∈ lw_g := tg (tb4 (List.mem_of_getElem? (i := 117) rfl)) rfl
theorem tw838 : Cond.code yX11_readRule cX11_readRule 2 (some FieldType.int) ∈ lw_g := tg (tb4 (List.mem_of_getElem? (i := 118) rfl)) rfl
theorem tw839 : Cond.methodLink RX11 322 yX9_isRule ∈ lw_g := tg (tb4 (List.mem_of_getElem? (i := 119) rfl)) rfl
theorem tw840 : Cond.instanceMethod yX9_isRule ∈ lw_g := tg (tb4 (List.mem_of_getElem? (i := 120) rfl)) rfl
theorem tw841 : Cond.selects RX9 yX9_isRule yX9_isRule ∈ lw_g := tg (tb4 (List.mem_of_getElem? (i := 121) rfl)) rfl
theorem tw842 : Cond.code yX9_isRule cX9_isRule 2 (some FieldType.boolean) ∈ lw_g := tg (tb4 (List.mem_of_getElem? (i := 122) rfl)) rfl
theorem tw843 : Cond.methodLink RX9 28 yX9_readsPorts ∈ lw_g := tg (tb4 (List.mem_of_getElem? (i := 123) rfl)) rfl
theorem tw845 : Cond.instanceMethod yX9_readsPorts ∈ lw_g := tg (tb4 (List.mem_of_getElem? (i := 125) rfl)) rfl
theorem tw846 : Cond.code yX9_readsPorts cX9_readsPorts 1 (some FieldType.boolean) ∈ lw_g := tg (tb4 (List.mem_of_getElem? (i := 126) rfl)) rfl
theorem tw847 : Cond.methodLink RX9 32 yX9_accepts ∈ lw_g := tg (tb4 (List.mem_of_getElem? (i := 127) rfl)) rfl
theorem tw849 : Cond.instanceMethod yX9_accepts ∈ lw_g := tg (tb4 (List.mem_of_getElem? (i := 129) rfl)) rfl
theorem tw850 : Cond.code yX9_accepts cX9_accepts 2 (some FieldType.boolean) ∈ lw_g := tg (tb4 (List.mem_of_getElem? (i := 130) rfl)) rfl
theorem tw851 : Cond.methodLink RX9 63 yX9_readDigits ∈ lw_g := tg (tb4 (List.mem_of_getElem? (i := 131) rfl)) rfl
theorem tw853 : Cond.instanceMethod yX9_readDigits ∈ lw_g := tg (tb4 (List.mem_of_getElem? (i := 133) rfl)) rfl
theorem tw854 : Cond.code yX9_readDigits cX9_readDigits 3 (some FieldType.int) ∈ lw_g := tg (tb4 (List.mem_of_getElem? (i := 134) rfl)) rfl
theorem tw855 : Cond.methodLink RX9 36 yX9_readsPattern ∈ lw_g := tg (tb4 (List.mem_of_getElem? (i := 135) rfl)) rfl
theorem tw857 : Cond.instanceMethod yX9_readsPattern ∈ lw_g := tg (tb4 (List.mem_of_getElem? (i := 137) rfl)) rfl
theorem tw858 : Cond.code yX9_readsPattern cX9_readsPattern 3 (some FieldType.boolean) ∈ lw_g := tg (tb4 (List.mem_of_getElem? (i := 138) rfl)) rfl
theorem tw859 : Cond.methodLink RX9 43 yX9_readsOutputs ∈ lw_g := tg (tb4 (List.mem_of_getElem? (i := 139) rfl)) rfl
theorem tw861 : Cond.instanceMethod yX9_readsOutputs ∈ lw_g := tg (tb4 (List.mem_of_getElem? (i := 141) rfl)) rfl
theorem tw862 : Cond.code yX9_readsOutputs cX9_readsOutputs 1 (some FieldType.boolean) ∈ lw_g := tg (tb4 (List.mem_of_getElem? (i := 142) rfl)) rfl
theorem tw863 : Cond.methodLink RX9 46 yX9_readsRewriting ∈ lw_g := tg (tb4 (List.mem_of_getElem? (i := 143) rfl)) rfl
theorem tw865 : Cond.instanceMethod yX9_readsRewriting ∈ lw_g := tg (tb4 (List.mem_of_getElem? (i := 145) rfl)) rfl
theorem tw866 : Cond.code yX9_readsRewriting cX9_readsRewriting 5 (some FieldType.boolean) ∈ lw_g := tg (tb4 (List.mem_of_getElem? (i := 146) rfl)) rfl
theorem tw867 : Cond.methodLink RX11 328 yX9_readOne ∈ lw_g := tg (tb4 (List.mem_of_getElem? (i := 147) rfl)) rfl
theorem tw868 : Cond.instanceMethod yX9_readOne ∈ lw_g := tg (tb4 (List.mem_of_getElem? (i := 148) rfl)) rfl
theorem tw869 : Cond.selects RX9 yX9_readOne yX9_readOne ∈ lw_g := tg (tb4 (List.mem_of_getElem? (i := 149) rfl)) rfl
theorem tw870 : Cond.code yX9_readOne cX9_readOne 1 (some (FieldType.object "HeaderSpaceNetwork$Rule")) ∈ lw_g := tg (tb4 (List.mem_of_getElem? (i := 150) rfl)) rfl
theorem tw871 : Cond.classLink RX9 49 RX6 ∈ lw_g := tg (tb4 (List.mem_of_getElem? (i := 151) rfl)) rfl
theorem tw872 : Cond.methodLink RX9 60 yX6_init ∈ lw_g := tg (tb4 (List.mem_of_getElem? (i := 152) rfl)) rfl
theorem tw873 : Cond.methodLink RL 166 yX11_ruleText ∈ lw_g := tg (tb4 (List.mem_of_getElem? (i := 153) rfl)) rfl
theorem tw874 : Cond.instanceMethod yX11_ruleText ∈ lw_g := tg (tb4 (List.mem_of_getElem? (i := 154) rfl)) rfl
theorem tw875 : Cond.selects RX11 yX11_ruleText yX11_ruleText ∈ lw_g := tg (tb4 (List.mem_of_getElem? (i := 155) rfl)) rfl
theorem tw876 : Cond.code yX11_ruleText cX11_ruleText 5 (some FieldType.int) ∈ lw_g := tg (tb4 (List.mem_of_getElem? (i := 156) rfl)) rfl
theorem tw877 : Cond.methodLink RX11 332 yX8_write ∈ lw_g := tg (tb4 (List.mem_of_getElem? (i := 157) rfl)) rfl
theorem tw878 : Cond.instanceMethod yX8_write ∈ lw_g := tg (tb4 (List.mem_of_getElem? (i := 158) rfl)) rfl
theorem tw879 : Cond.selects RX8 yX8_write yX8_write ∈ lw_g := tg (tb4 (List.mem_of_getElem? (i := 159) rfl)) rfl
theorem tw880 : Cond.code yX8_write cX8_write 3 none ∈ lw_g := tg (tb4 (List.mem_of_getElem? (i := 160) rfl)) rfl
theorem tw881 : Cond.methodLink RX8 24 yX8_put ∈ lw_g := tg (tb4 (List.mem_of_getElem? (i := 161) rfl)) rfl
theorem tw883 : Cond.instanceMethod yX8_put ∈ lw_g := tg (tb4 (List.mem_of_getElem? (i := 163) rfl)) rfl
theorem tw884 : Cond.code yX8_put cX8_put 2 none ∈ lw_g := tg (tb4 (List.mem_of_getElem? (i := 164) rfl)) rfl
theorem tw885 : Cond.methodLink RX8 28 yX8_putDigits ∈ lw_g := tg (tb4 (List.mem_of_getElem? (i := 165) rfl)) rfl
theorem tw887 : Cond.instanceMethod yX8_putDigits ∈ lw_g := tg (tb4 (List.mem_of_getElem? (i := 167) rfl)) rfl
theorem tw888 : Cond.code yX8_putDigits cX8_putDigits 3 none ∈ lw_g := tg (tb4 (List.mem_of_getElem? (i := 168) rfl)) rfl
theorem tw889 : Cond.methodLinkNest RX8 51 yX11_hasPort RX11 ∈ lw_n := tn (tb4 (List.mem_of_getElem? (i := 169) rfl)) rfl
theorem tw890 : Cond.methodLink RX8 38 yX8_putPattern ∈ lw_g := tg (tb4 (List.mem_of_getElem? (i := 170) rfl)) rfl
theorem tw892 : Cond.instanceMethod yX8_putPattern ∈ lw_g := tg (tb4 (List.mem_of_getElem? (i := 172) rfl)) rfl
theorem tw893 : Cond.code yX8_putPattern cX8_putPattern 5 none ∈ lw_g := tg (tb4 (List.mem_of_getElem? (i := 173) rfl)) rfl
theorem tw894 : Cond.classLink RL 10 RX12 ∈ lw_g := tg (tb4 (List.mem_of_getElem? (i := 174) rfl)) rfl
theorem tw895 : Cond.instantiable RX12 33 ∈ lw_g := tg (tb4 (List.mem_of_getElem? (i := 175) rfl)) rfl
theorem tw896 : Cond.methodLink RL 12 yX12_init ∈ lw_g := tg (tb4 (List.mem_of_getElem? (i := 176) rfl)) rfl
theorem tw897 : Cond.instanceMethod yX12_init ∈ lw_g := tg (tb4 (List.mem_of_getElem? (i := 177) rfl)) rfl
theorem tw898 : Cond.code yX12_init cX12_init 1 none ∈ lw_g := tg (tb4 (List.mem_of_getElem? (i := 178) rfl)) rfl
theorem tw899 : Cond.methodLink RX12 1 objectInit ∈ lw_g := tg (tb4 (List.mem_of_getElem? (i := 179) rfl)) rfl
theorem tw900 : Cond.methodLink RX12 71 yX12_begin ∈ lw_g := tg (tb4 (List.mem_of_getElem? (i := 180) rfl)) rfl
theorem tw902 : Cond.instanceMethod yX12_begin ∈ lw_g := tg (tb4 (List.mem_of_getElem? (i := 182) rfl)) rfl
theorem tw903 : Cond.code yX12_begin cX12_begin 2 none ∈ lw_g := tg (tb4 (List.mem_of_getElem? (i := 183) rfl)) rfl
theorem tw904 : Cond.fieldLink RX12 67 RX12 "bits" "I" ∈ lw_g := tg (tb4 (List.mem_of_getElem? (i := 184) rfl)) rfl
theorem tw905 : Cond.fieldLink RX12 7 RX12 "linked" "[I" ∈ lw_g := tg (tb4 (List.mem_of_getElem? (i := 185) rfl)) rfl
theorem tw906 : Cond.fieldLink RX12 76 RX12 "links" "I" ∈ lw_g := tg (tb4 (List.mem_of_getElem? (i := 186) rfl)) rfl
theorem tw907 : Cond.fieldLink RX12 13 RX12 "now" "[I" ∈ lw_g := tg (tb4 (List.mem_of_getElem? (i := 187) rfl)) rfl
theorem tw908 : Cond.fieldLink RX12 79 RX12 "injectedAt" "I" ∈ lw_g := tg (tb4 (List.mem_of_getElem? (i := 188) rfl)) rfl
theorem tw909 : Cond.fieldLink RX12 82 RX12 "injectedCare" "I" ∈ lw_g := tg (tb4 (List.mem_of_getElem? (i := 189) rfl)) rfl
theorem tw910 : Cond.fieldLink RX12 85 RX12 "injectedValue" "I" ∈ lw_g := tg (tb4 (List.mem_of_getElem? (i := 190) rfl)) rfl
theorem tw911 : Cond.fieldLink RX12 91 RX12 "kept" "I" ∈ lw_g := tg (tb4 (List.mem_of_getElem? (i := 191) rfl)) rfl
theorem tw912 : Cond.fieldLink RX12 16 RX12 "keptRow" "[I" ∈ lw_g := tg (tb4 (List.mem_of_getElem? (i := 192) rfl)) rfl
theorem tw913 : Cond.fieldLink RX12 19 RX12 "moved" "[I" ∈ lw_g := tg (tb4 (List.mem_of_getElem? (i := 193) rfl)) rfl
theorem tw914 : Cond.fieldLink RX12 22 RX12 "arrived" "[J" ∈ lw_g := tg (tb4 (List.mem_of_getElem? (i := 194) rfl)) rfl
theorem tw915 : Cond.fieldLink RX12 26 RX12 "gone" "[J" ∈ lw_g := tg (tb4 (List.mem_of_getElem? (i := 195) rfl)) rfl
theorem tw916 : Cond.fieldLink RX12 29 RX12 "delivered" "[J" ∈ lw_g := tg (tb4 (List.mem_of_getElem? (i := 196) rfl)) rfl
theorem tw917 : Cond.fieldLink RX12 32 RX12 "wave" "[J" ∈ lw_g := tg (tb4 (List.mem_of_getElem? (i := 197) rfl)) rfl
theorem tw918 : Cond.fieldLink RX12 35 RX12 "way" "[I" ∈ lw_g := tg (tb4 (List.mem_of_getElem? (i := 198) rfl)) rfl
theorem tw919 : Cond.fieldLink RX12 189 RX12 "ways" "I" ∈ lw_g := tg (tb4 (List.mem_of_getElem? (i := 199) rfl)) rfl
theorem tw920 : Cond.fieldLink RX12 192 RX12 "ended" "I" ∈ lw_g := tg (tb4 (List.mem_of_getElem? (i := 200) rfl)) rfl
theorem tw921 : Cond.fieldLink RX12 38 RX12 "safe" "[J" ∈ lw_g := tg (tb4 (List.mem_of_getElem? (i := 201) rfl)) rfl
theorem tw922 : Cond.fieldLink RX12 41 RX12 "cut" "[I" ∈ lw_g := tg (tb4 (List.mem_of_getElem? (i := 202) rfl)) rfl
theorem tw923 : Cond.fieldLink RX12 88 RX12 "policies" "I" ∈ lw_g := tg (tb4 (List.mem_of_getElem? (i := 203) rfl)) rfl
theorem tw924 : Cond.fieldLink RX12 44 RX12 "isAlways" "[Z" ∈ lw_g := tg (tb4 (List.mem_of_getElem? (i := 204) rfl)) rfl
theorem tw925 : Cond.fieldLink RX12 48 RX12 "policyFrom" "[I" ∈ lw_g := tg (tb4 (List.mem_of_getElem? (i := 205) rfl)) rfl
theorem tw926 : Cond.fieldLink RX12 51 RX12 "policyTo" "[I" ∈ lw_g := tg (tb4 (List.mem_of_getElem? (i := 206) rfl)) rfl
theorem tw927 : Cond.fieldLink RX12 54 RX12 "policyCare" "[I" ∈ lw_g := tg (tb4 (List.mem_of_getElem? (i := 207) rfl)) rfl
theorem tw928 : Cond.fieldLink RX12 57 RX12 "policyValue" "[I" ∈ lw_g := tg (tb4 (List.mem_of_getElem? (i := 208) rfl)) rfl
theorem tw929 : Cond.fieldLink RX12 227 RX12 "typed" "I" ∈ lw_g := tg (tb4 (List.mem_of_getElem? (i := 209) rfl)) rfl
theorem tw930 : Cond.fieldLink RX12 60 RX12 "text" "[C" ∈ lw_g := tg (tb4 (List.mem_of_getElem? (i := 210) rfl)) rfl
theorem tw931 : Cond.fieldLink RX12 230 RX12 "place" "I" ∈ lw_g := tg (tb4 (List.mem_of_getElem? (i := 211) rfl)) rfl
theorem tw932 : Cond.fieldLink RX12 233 RX12 "isGood" "Z" ∈ lw_g := tg (tb4 (List.mem_of_getElem? (i := 212) rfl)) rfl
theorem tw933 : Cond.fieldLink RX12 241 RX12 "readCare" "I" ∈ lw_g := tg (tb4 (List.mem_of_getElem? (i := 213) rfl)) rfl
theorem tw934 : Cond.fieldLink RX12 244 RX12 "readValue" "I" ∈ lw_g := tg (tb4 (List.mem_of_getElem? (i := 214) rfl)) rfl
theorem tw935 : Cond.fieldLink RX12 257 RX12 "written" "I" ∈ lw_g := tg (tb4 (List.mem_of_getElem? (i := 215) rfl)) rfl
theorem tw936 : Cond.fieldLink RX12 64 RX12 "line" "[I" ∈ lw_g := tg (tb4 (List.mem_of_getElem? (i := 216) rfl)) rfl
theorem tw937 : Cond.lays RX12 RX12 "bits" "I" ∈ lw_g := tg (tb4 (List.mem_of_getElem? (i := 217) rfl)) rfl
theorem tw939 : Cond.laysFinal RX12 RX12 "linked" "[I" ∈ lw_g := tg (tb4 (List.mem_of_getElem? (i := 219) rfl)) rfl
theorem tw941 : Cond.lays RX12 RX12 "links" "I" ∈ lw_g := tg (tb4 (List.mem_of_getElem? (i := 221) rfl)) rfl
theorem tw943 : Cond.laysFinal RX12 RX12 "now" "[I" ∈ lw_g := tg (tb4 (List.mem_of_getElem? (i := 223) rfl)) rfl
theorem tw945 : Cond.lays RX12 RX12 "injectedAt" "I" ∈ lw_g := tg (tb4 (List.mem_of_getElem? (i := 225) rfl)) rfl
theorem tw947 : Cond.lays RX12 RX12 "injectedCare" "I" ∈ lw_g := tg (tb4 (List.mem_of_getElem? (i := 227) rfl)) rfl
theorem tw949 : Cond.lays RX12 RX12 "injectedValue" "I" ∈ lw_g := tg (tb4 (List.mem_of_getElem? (i := 229) rfl)) rfl
theorem tw951 : Cond.lays RX12 RX12 "kept" "I" ∈ lw_g := tg (tb4 (List.mem_of_getElem? (i := 231) rfl)) rfl
theorem tw953 : Cond.laysFinal RX12 RX12 "keptRow" "[I" ∈ lw_g := tg (tb4 (List.mem_of_getElem? (i := 233) rfl)) rfl
theorem tw955 : Cond.laysFinal RX12 RX12 "moved" "[I" ∈ lw_g := tg (tb4 (List.mem_of_getElem? (i := 235) rfl)) rfl
theorem tw957 : Cond.laysFinal RX12 RX12 "arrived" "[J" ∈ lw_g := tg (tb4 (List.mem_of_getElem? (i := 237) rfl)) rfl
theorem tw959 : Cond.laysFinal RX12 RX12 "gone" "[J" ∈ lw_g := tg (tb4 (List.mem_of_getElem? (i := 239) rfl)) rfl
theorem tw961 : Cond.laysFinal RX12 RX12 "delivered" "[J" ∈ lw_g := tg (tb5 (List.mem_of_getElem? (i := 1) rfl)) rfl
theorem tw963 : Cond.laysFinal RX12 RX12 "wave" "[J" ∈ lw_g := tg (tb5 (List.mem_of_getElem? (i := 3) rfl)) rfl
theorem tw965 : Cond.laysFinal RX12 RX12 "way" "[I" ∈ lw_g := tg (tb5 (List.mem_of_getElem? (i := 5) rfl)) rfl
theorem tw967 : Cond.lays RX12 RX12 "ways" "I" ∈ lw_g := tg (tb5 (List.mem_of_getElem? (i := 7) rfl)) rfl
theorem tw969 : Cond.lays RX12 RX12 "ended" "I" ∈ lw_g := tg (tb5 (List.mem_of_getElem? (i := 9) rfl)) rfl
theorem tw971 : Cond.laysFinal RX12 RX12 "safe" "[J" ∈ lw_g := tg (tb5 (List.mem_of_getElem? (i := 11) rfl)) rfl
theorem tw973 : Cond.laysFinal RX12 RX12 "cut" "[I" ∈ lw_g := tg (tb5 (List.mem_of_getElem? (i := 13) rfl)) rfl
theorem tw975 : Cond.lays RX12 RX12 "policies" "I" ∈ lw_g := tg (tb5 (List.mem_of_getElem? (i := 15) rfl)) rfl
theorem tw977 : Cond.laysFinal RX12 RX12 "isAlways" "[Z" ∈ lw_g := tg (tb5 (List.mem_of_getElem? (i := 17) rfl)) rfl
theorem tw979 : Cond.laysFinal RX12 RX12 "policyFrom" "[I" ∈ lw_g := tg (tb5 (List.mem_of_getElem? (i := 19) rfl)) rfl
theorem tw981 : Cond.laysFinal RX12 RX12 "policyTo" "[I" ∈ lw_g := tg (tb5 (List.mem_of_getElem? (i := 21) rfl)) rfl
theorem tw983 : Cond.laysFinal RX12 RX12 "policyCare" "[I" ∈ lw_g := tg (tb5 (List.mem_of_getElem? (i := 23) rfl)) rfl
theorem tw985 : Cond.laysFinal RX12 RX12 "policyValue" "[I" ∈ lw_g := tg (tb5 (List.mem_of_getElem? (i := 25) rfl)) rfl
theorem tw987 : Cond.lays RX12 RX12 "typed" "I" ∈ lw_g := tg (tb5 (List.mem_of_getElem? (i := 27) rfl)) rfl
theorem tw989 : Cond.laysFinal RX12 RX12 "text" "[C" ∈ lw_g := tg (tb5 (List.mem_of_getElem? (i := 29) rfl)) rfl
theorem tw991 : Cond.lays RX12 RX12 "place" "I" ∈ lw_g := tg (tb5 (List.mem_of_getElem? (i := 31) rfl)) rfl
theorem tw993 : Cond.lays RX12 RX12 "isGood" "Z" ∈ lw_g := tg (tb5 (List.mem_of_getElem? (i := 33) rfl)) rfl
theorem tw995 : Cond.lays RX12 RX12 "readCare" "I" ∈ lw_g := tg (tb5 (List.mem_of_getElem? (i := 35) rfl)) rfl
theorem tw997 : Cond.lays RX12 RX12 "readValue" "I" ∈ lw_g := tg (tb5 (List.mem_of_getElem? (i := 37) rfl)) rfl
theorem tw999 : Cond.lays RX12 RX12 "written" "I" ∈ lw_g := tg (tb5 (List.mem_of_getElem? (i := 39) rfl)) rfl
theorem tw1001 : Cond.laysFinal RX12 RX12 "line" "[I" ∈ lw_g := tg (tb5 (List.mem_of_getElem? (i := 41) rfl)) rfl
theorem tw1004 : Cond.arrayClass FieldType.boolean ∈ lw_g := tg (tb5 (List.mem_of_getElem? (i := 44) rfl)) rfl
theorem tw1005 : Cond.methodLink RL 17 yX12_reset ∈ lw_g := tg (tb5 (List.mem_of_getElem? (i := 45) rfl)) rfl
theorem tw1006 : Cond.instanceMethod yX12_reset ∈ lw_g := tg (tb5 (List.mem_of_getElem? (i := 46) rfl)) rfl
theorem tw1007 : Cond.selects RX12 yX12_reset yX12_reset ∈ lw_g := tg (tb5 (List.mem_of_getElem? (i := 47) rfl)) rfl
theorem tw1008 : Cond.code yX12_reset cX12_reset 3 (some FieldType.int) ∈ lw_g := tg (tb5 (List.mem_of_getElem? (i := 48) rfl)) rfl
theorem tw1009 : Cond.methodLink RX12 94 yX12_in ∈ lw_g := tg (tb5 (List.mem_of_getElem? (i := 49) rfl)) rfl
theorem tw1010 : Cond.static yX12_in ∈ lw_g := tg (tb5 (List.mem_of_getElem? (i := 50) rfl)) rfl
theorem tw1011 : Cond.code yX12_in cX12_in 3 (some FieldType.boolean) ∈ lw_g := tg (tb5 (List.mem_of_getElem? (i := 51) rfl)) rfl
theorem tw1012 : Cond.methodLink RL 22 yX12_connect ∈ lw_g := tg (tb5 (List.mem_of_getElem? (i := 52) rfl)) rfl
theorem tw1013 : Cond.instanceMethod yX12_connect ∈ lw_g := tg (tb5 (List.mem_of_getElem? (i := 53) rfl)) rfl
theorem tw1014 : Cond.selects RX12 yX12_connect yX12_connect ∈ lw_g := tg (tb5 (List.mem_of_getElem? (i := 54) rfl)) rfl
theorem tw1015 : Cond.code yX12_connect cX12_connect 7 (some FieldType.int) ∈ lw_g := tg (tb5 (List.mem_of_getElem? (i := 55) rfl)) rfl
theorem tw1016 : Cond.methodLink RX12 106 yX12_noPlace ∈ lw_g := tg (tb5 (List.mem_of_getElem? (i := 56) rfl)) rfl
theorem tw1017 : Cond.static yX12_noPlace ∈ lw_g := tg (tb5 (List.mem_of_getElem? (i := 57) rfl)) rfl
theorem tw1018 : Cond.code yX12_noPlace cX12_noPlace 2 (some FieldType.boolean) ∈ lw_g := tg (tb5 (List.mem_of_getElem? (i := 58) rfl)) rfl
theorem tw1019 : Cond.methodLink RX12 102 yX12_noBox ∈ lw_g := tg (tb5 (List.mem_of_getElem? (i := 59) rfl)) rfl
theorem tw1020 : Cond.static yX12_noBox ∈ lw_g := tg (tb5 (List.mem_of_getElem? (i := 60) rfl)) rfl
theorem tw1021 : Cond.code yX12_noBox cX12_noBox 1 (some FieldType.boolean) ∈ lw_g := tg (tb5 (List.mem_of_getElem? (i := 61) rfl)) rfl
theorem tw1022 : Cond.methodLink RL 27 yX12_disconnect ∈ lw_g := tg (tb5 (List.mem_of_getElem? (i := 62) rfl)) rfl
theorem tw1023 : Cond.instanceMethod yX12_disconnect ∈ lw_g := tg (tb5 (List.mem_of_getElem? (i := 63) rfl)) rfl
theorem tw1024 : Cond.selects RX12 yX12_disconnect yX12_disconnect ∈ lw_g := tg (tb5 (List.mem_of_getElem? (i := 64) rfl)) rfl
theorem tw1025 : Cond.code yX12_disconnect cX12_disconnect 4 (some FieldType.int) ∈ lw_g := tg (tb5 (List.mem_of_getElem? (i := 65) rfl)) rfl
theorem tw1026 : Cond.methodLink RL 31 yX12_other ∈ lw_g := tg (tb5 (List.mem_of_getElem? (i := 66) rfl)) rfl
theorem tw1027 : Cond.instanceMethod yX12_other ∈ lw_g := tg (tb5 (List.mem_of_getElem? (i := 67) rfl)) rfl
theorem tw1028 : Cond.selects RX12 yX12_other yX12_other ∈ lw_g := tg (tb5 (List.mem_of_getElem? (i := 68) rfl)) rfl
theorem tw1029 : Cond.code yX12_other cX12_other 4 (some FieldType.int) ∈ lw_g := tg (tb5 (List.mem_of_getElem? (i := 69) rfl)) rfl
theorem tw1030 : Cond.methodLink RL 64 yX12_undo ∈ lw_g := tg (tb5 (List.mem_of_getElem? (i := 70) rfl)) rfl
theorem tw1031 : Cond.instanceMethod yX12_undo ∈ lw_g := tg (tb5 (List.mem_of_getElem? (i := 71) rfl)) rfl
theorem tw1032 : Cond.selects RX12 yX12_undo yX12_undo ∈ lw_g := tg (tb5 (List.mem_of_getElem? (i := 72) rfl)) rfl
theorem tw1033 : Cond.code yX12_undo cX12_undo 2 (some FieldType.int) ∈ lw_g := tg (tb5 (List.mem_of_getElem? (i := 73) rfl)) rfl
theorem tw1034 : Cond.methodLink RL 36 yX12_insertDrop ∈ lw_g := tg (tb5 (List.mem_of_getElem? (i := 74) rfl)) rfl
theorem tw1035 : Cond.instanceMethod yX12_insertDrop ∈ lw_g := tg (tb5 (List.mem_of_getElem? (i := 75) rfl)) rfl
theorem tw1036 : Cond.selects RX12 yX12_insertDrop yX12_insertDrop ∈ lw_g := tg (tb5 (List.mem_of_getElem? (i := 76) rfl)) rfl
theorem tw1037 : Cond.code yX12_insertDrop cX12_insertDrop 6 (some FieldType.int) ∈ lw_g := tg (tb5 (List.mem_of_getElem? (i := 77) rfl)) rfl
theorem tw1038 : Cond.methodLink RX12 132 yX12_insert ∈ lw_g := tg (tb5 (List.mem_of_getElem? (i := 78) rfl)) rfl
theorem tw1040 : Cond.instanceMethod yX12_insert ∈ lw_g := tg (tb5 (List.mem_of_getElem? (i := 80) rfl)) rfl
theorem tw1041 : Cond.code yX12_insert cX12_insert 7 (some FieldType.int) ∈ lw_g := tg (tb5 (List.mem_of_getElem? (i := 81) rfl)) rfl
theorem tw1042 : Cond.methodLink RX12 110 yX12_many ∈ lw_g := tg (tb5 (List.mem_of_getElem? (i := 82) rfl)) rfl
theorem tw1044 : Cond.instanceMethod yX12_many ∈ lw_g := tg (tb5 (List.mem_of_getElem? (i := 84) rfl)) rfl
theorem tw1045 : Cond.code yX12_many cX12_many 2 (some FieldType.int) ∈ lw_g := tg (tb5 (List.mem_of_getElem? (i := 85) rfl)) rfl
theorem tw1046 : Cond.methodLink RX12 122 yX12_noHeader ∈ lw_g := tg (tb5 (List.mem_of_getElem? (i := 86) rfl)) rfl
theorem tw1048 : Cond.instanceMethod yX12_noHeader ∈ lw_g := tg (tb5 (List.mem_of_getElem? (i := 88) rfl)) rfl
theorem tw1049 : Cond.code yX12_noHeader cX12_noHeader 2 (some FieldType.boolean) ∈ lw_g := tg (tb5 (List.mem_of_getElem? (i := 89) rfl)) rfl
theorem tw1050 : Cond.methodLink RX12 98 yX12_headers ∈ lw_g := tg (tb5 (List.mem_of_getElem? (i := 90) rfl)) rfl
theorem tw1052 : Cond.instanceMethod yX12_headers ∈ lw_g := tg (tb5 (List.mem_of_getElem? (i := 92) rfl)) rfl
theorem tw1053 : Cond.code yX12_headers cX12_headers 1 (some FieldType.int) ∈ lw_g := tg (tb5 (List.mem_of_getElem? (i := 93) rfl)) rfl
theorem tw1054 : Cond.methodLink RX12 125 yX12_keep ∈ lw_g := tg (tb5 (List.mem_of_getElem? (i := 94) rfl)) rfl
theorem tw1056 : Cond.instanceMethod yX12_keep ∈ lw_g := tg (tb5 (List.mem_of_getElem? (i := 96) rfl)) rfl
theorem tw1057 : Cond.code yX12_keep cX12_keep 2 none ∈ lw_g := tg (tb5 (List.mem_of_getElem? (i := 97) rfl)) rfl
theorem tw1058 : Cond.methodLink RX12 128 yX12_open ∈ lw_g := tg (tb5 (List.mem_of_getElem? (i := 98) rfl)) rfl
theorem tw1060 : Cond.instanceMethod yX12_open ∈ lw_g := tg (tb5 (List.mem_of_getElem? (i := 100) rfl)) rfl
theorem tw1061 : Cond.code yX12_open cX12_open 5 none ∈ lw_g := tg (tb5 (List.mem_of_getElem? (i := 101) rfl)) rfl
theorem tw1062 : Cond.methodLink RX12 114 yX12_of ∈ lw_g := tg (tb5 (List.mem_of_getElem? (i := 102) rfl)) rfl
theorem tw1064 : Cond.instanceMethod yX12_of ∈ lw_g := tg (tb5 (List.mem_of_getElem? (i := 104) rfl)) rfl
theorem tw1065 : Cond.code yX12_of cX12_of 4 (some FieldType.int) ∈ lw_g := tg (tb5 (List.mem_of_getElem? (i := 105) rfl)) rfl
theorem tw1066 : Cond.methodLink RX12 118 yX12_put ∈ lw_g := tg (tb5 (List.mem_of_getElem? (i := 106) rfl)) rfl
theorem tw1068 : Cond.instanceMethod yX12_put ∈ lw_g := tg (tb5 (List.mem_of_getElem? (i := 108) rfl)) rfl
theorem tw1069 : Cond.code yX12_put cX12_put 5 none ∈ lw_g := tg (tb5 (List.mem_of_getElem? (i := 109) rfl)) rfl
theorem tw1070 : Cond.methodLink RL 41 yX12_insertForward ∈ lw_g := tg (tb5 (List.mem_of_getElem? (i := 110) rfl)) rfl
theorem tw1071 : Cond.instanceMethod yX12_insertForward ∈ lw_g := tg (tb5 (List.mem_of_getElem? (i := 111) rfl)) rfl
theorem tw1072 : Cond.selects RX12 yX12_insertForward yX12_insertForward ∈ lw_g := tg (tb5 (List.mem_of_getElem? (i := 112) rfl)) rfl
theorem tw1073 : Cond.code yX12_insertForward cX12_insertForward 7 (some FieldType.int) ∈ lw_g := tg (tb5 (List.mem_of_getElem? (i := 113) rfl)) rfl
theorem tw1074 : Cond.methodLink RL 45 yX12_setRewriting ∈ lw_g := tg (tb5 (List.mem_of_getElem? (i := 114) rfl)) rfl
theorem tw1075 : Cond.instanceMethod yX12_setRewriting ∈ lw_g := tg (tb5 (List.mem_of_getElem? (i := 115) rfl)) rfl
theorem tw1076 : Cond.selects RX12 yX12_setRewriting yX12_setRewriting ∈ lw_g := tg (tb5 (List.mem_of_getElem? (i := 116) rfl)) rfl
theorem tw1077 : Cond.code yX12_setRewriting cX12_setRewriting 7 (some FieldType.int) ∈ lw_g := tg (tb5 (List.mem_of_getElem? (i := 117) rfl)) rfl
theorem tw1078 : Cond.methodLink RX12 139 yX12_ruleBarred ∈ lw_g := tg (tb5 (List.mem_of_getElem? (i := 118) rfl)) rfl
theorem tw1080 : Cond.instanceMethod yX12_ruleBarred ∈ lw_g := tg (tb5 (List.mem_of_getElem? (i := 120) rfl)) rfl
theorem tw1081 : Cond.code yX12_ruleBarred cX12_ruleBarred 3 (some FieldType.int) ∈ lw_g := tg (tb5 (List.mem_of_getElem? (i := 121) rfl)) rfl
theorem tw1082 : Cond.methodLink RX12 136 yX12_noRule ∈ lw_g := tg (tb5 (List.mem_of_getElem? (i := 122) rfl)) rfl
theorem tw1084 : Cond.instanceMethod yX12_noRule ∈ lw_g := tg (tb5 (List.mem_of_getElem? (i := 124) rfl)) rfl
theorem tw1085 : Cond.code yX12_noRule cX12_noRule 3 (some FieldType.boolean) ∈ lw_g := tg (tb5 (List.mem_of_getElem? (i := 125) rfl)) rfl
theorem tw1086 : Cond.methodLink RL 49 yX12_removeRule ∈ lw_g := tg (tb5 (List.mem_of_getElem? (i := 126) rfl)) rfl
theorem tw1087 : Cond.instanceMethod yX12_removeRule ∈ lw_g := tg (tb5 (List.mem_of_getElem? (i := 127) rfl)) rfl
theorem tw1088 : Cond.selects RX12 yX12_removeRule yX12_removeRule ∈ lw_g := tg (tb5 (List.mem_of_getElem? (i := 128) rfl)) rfl
theorem tw1089 : Cond.code yX12_removeRule cX12_removeRule 4 (some FieldType.int) ∈ lw_g := tg (tb5 (List.mem_of_getElem? (i := 129) rfl)) rfl
theorem tw1090 : Cond.methodLink RX12 143 yX12_close ∈ lw_g := tg (tb5 (List.mem_of_getElem? (i := 130) rfl)) rfl
theorem tw1092 : Cond.instanceMethod yX12_close ∈ lw_g := tg (tb5 (List.mem_of_getElem? (i := 132) rfl)) rfl
theorem tw1093 : Cond.code yX12_close cX12_close 5 none ∈ lw_g := tg (tb5 (List.mem_of_getElem? (i := 133) rfl)) rfl
theorem tw1094 : Cond.methodLink RL 54 yX12_moveRule ∈ lw_g := tg (tb5 (List.mem_of_getElem? (i := 134) rfl)) rfl
theorem tw1095 : Cond.instanceMethod yX12_moveRule ∈ lw_g := tg (tb5 (List.mem_of_getElem? (i := 135) rfl)) rfl
theorem tw1096 : Cond.selects RX12 yX12_moveRule yX12_moveRule ∈ lw_g := tg (tb5 (List.mem_of_getElem? (i := 136) rfl)) rfl
theorem tw1097 : Cond.code yX12_moveRule cX12_moveRule 6 (some FieldType.int) ∈ lw_g := tg (tb5 (List.mem_of_getElem? (i := 137) rfl)) rfl
theorem tw1098 : Cond.methodLink RL 59 yX12_switchRule ∈ lw_g := tg (tb5 (List.mem_of_getElem? (i := 138) rfl)) rfl
theorem tw1099 : Cond.instanceMethod yX12_switchRule ∈ lw_g := tg (tb5 (List.mem_of_getElem? (i := 139) rfl)) rfl
theorem tw1100 : Cond.selects RX12 yX12_switchRule yX12_switchRule ∈ lw_g := tg (tb5 (List.mem_of_getElem? (i := 140) rfl)) rfl
theorem tw1101 : Cond.code yX12_switchRule cX12_switchRule 7 (some FieldType.int) ∈ lw_g := tg (tb5 (List.mem_of_getElem? (i := 141) rfl)) rfl
theorem tw1102 : Cond.methodLink RL 68 yX12_rule ∈ lw_g := tg (tb5 (List.mem_of_getElem? (i := 142) rfl)) rfl
theorem tw1103 : Cond.instanceMethod yX12_rule ∈ lw_g := tg (tb5 (List.mem_of_getElem? (i := 143) rfl)) rfl
theorem tw1104 : Cond.selects RX12 yX12_rule yX12_rule ∈ lw_g := tg (tb5 (List.mem_of_getElem? (i := 144) rfl)) rfl
theorem tw1105 : Cond.code yX12_rule cX12_rule 5 (some FieldType.int) ∈ lw_g := tg (tb5 (List.mem_of_getElem? (i := 145) rfl)) rfl
theorem tw1106 : Cond.methodLink RL 72 yX12_count ∈ lw_g := tg (tb5 (List.mem_of_getElem? (i := 146) rfl)) rfl
theorem tw1107 : Cond.instanceMethod yX12_count ∈ lw_g := tg (tb5 (List.mem_of_getElem? (i := 147) rfl)) rfl
theorem tw1108 : Cond.selects RX12 yX12_count yX12_count ∈ lw_g := tg (tb5 (List.mem_of_getElem? (i := 148) rfl)) rfl
theorem tw1109 : Cond.code yX12_count cX12_count 4 (some FieldType.int) ∈ lw_g := tg (tb5 (List.mem_of_getElem? (i := 149) rfl)) rfl
theorem tw1110 : Cond.methodLink RL 76 yX12_shadowed ∈ lw_g := tg (tb5 (List.mem_of_getElem? (i := 150) rfl)) rfl
theorem tw1111 : Cond.instanceMethod yX12_shadowed ∈ lw_g := tg (tb5 (List.mem_of_getElem? (i := 151) rfl)) rfl
theorem tw1112 : Cond.selects RX12 yX12_shadowed yX12_shadowed ∈ lw_g := tg (tb5 (List.mem_of_getElem? (i := 152) rfl)) rfl
theorem tw1113 : Cond.code yX12_shadowed cX12_shadowed 6 (some FieldType.int) ∈ lw_g := tg (tb5 (List.mem_of_getElem? (i := 153) rfl)) rfl
theorem tw1114 : Cond.methodLink RX12 150 yX12_handler ∈ lw_g := tg (tb5 (List.mem_of_getElem? (i := 154) rfl)) rfl
theorem tw1116 : Cond.instanceMethod yX12_handler ∈ lw_g := tg (tb5 (List.mem_of_getElem? (i := 156) rfl)) rfl
theorem tw1117 : Cond.code yX12_handler cX12_handler 5 (some FieldType.int) ∈ lw_g := tg (tb5 (List.mem_of_getElem? (i := 157) rfl)) rfl
theorem tw1118 : Cond.methodLink RX12 146 yX12_matches ∈ lw_g := tg (tb5 (List.mem_of_getElem? (i := 158) rfl)) rfl
theorem tw1120 : Cond.instanceMethod yX12_matches ∈ lw_g := tg (tb5 (List.mem_of_getElem? (i := 160) rfl)) rfl
theorem tw1121 : Cond.code yX12_matches cX12_matches 5 (some FieldType.boolean) ∈ lw_g := tg (tb5 (List.mem_of_getElem? (i := 161) rfl)) rfl
theorem tw1122 : Cond.methodLink RL 80 yX12_inject ∈ lw_g := tg (tb5 (List.mem_of_getElem? (i := 162) rfl)) rfl
theorem tw1123 : Cond.instanceMethod yX12_inject ∈ lw_g := tg (tb5 (List.mem_of_getElem? (i := 163) rfl)) rfl
theorem tw1124 : Cond.selects RX12 yX12_inject yX12_inject ∈ lw_g := tg (tb5 (List.mem_of_getElem? (i := 164) rfl)) rfl
theorem tw1125 : Cond.code yX12_inject cX12_inject 5 (some FieldType.int) ∈ lw_g := tg (tb5 (List.mem_of_getElem? (i := 165) rfl)) rfl
theorem tw1126 : Cond.methodLink RX12 164 yX12_injected ∈ lw_g := tg (tb5 (List.mem_of_getElem? (i := 166) rfl)) rfl
theorem tw1128 : Cond.instanceMethod yX12_injected ∈ lw_g := tg (tb5 (List.mem_of_getElem? (i := 168) rfl)) rfl
theorem tw1129 : Cond.code yX12_injected cX12_injected 4 (some FieldType.long) ∈ lw_g := tg (tb5 (List.mem_of_getElem? (i := 169) rfl)) rfl
theorem tw1130 : Cond.methodLink RX12 153 yX12_isInjected ∈ lw_g := tg (tb5 (List.mem_of_getElem? (i := 170) rfl)) rfl
theorem tw1132 : Cond.instanceMethod yX12_isInjected ∈ lw_g := tg (tb5 (List.mem_of_getElem? (i := 172) rfl)) rfl
theorem tw1133 : Cond.code yX12_isInjected cX12_isInjected 2 (some FieldType.boolean) ∈ lw_g := tg (tb5 (List.mem_of_getElem? (i := 173) rfl)) rfl
theorem tw1134 : Cond.methodLink RX12 172 yX12_size ∈ lw_g := tg (tb5 (List.mem_of_getElem? (i := 174) rfl)) rfl
theorem tw1135 : Cond.static yX12_size ∈ lw_g := tg (tb5 (List.mem_of_getElem? (i := 175) rfl)) rfl
theorem tw1136 : Cond.code yX12_size cX12_size 5 (some FieldType.int) ∈ lw_g := tg (tb5 (List.mem_of_getElem? (i := 176) rfl)) rfl
theorem tw1137 : Cond.methodLink RL 85 yX12_arriving ∈ lw_g := tg (tb5 (List.mem_of_getElem? (i := 177) rfl)) rfl
theorem tw1138 : Cond.instanceMethod yX12_arriving ∈ lw_g := tg (tb5 (List.mem_of_getElem? (i := 178) rfl)) rfl
theorem tw1139 : Cond.selects RX12 yX12_arriving yX12_arriving ∈ lw_g := tg (tb5 (List.mem_of_getElem? (i := 179) rfl)) rfl
theorem tw1140 : Cond.code yX12_arriving cX12_arriving 3 (some FieldType.long) ∈ lw_g := tg (tb5 (List.mem_of_getElem? (i := 180) rfl)) rfl
theorem tw1141 : Cond.methodLink RX12 176 yX12_lost ∈ lw_g := tg (tb5 (List.mem_of_getElem? (i := 181) rfl)) rfl
theorem tw1142 : Cond.static yX12_lost ∈ lw_g := tg (tb5 (List.mem_of_getElem? (i := 182) rfl)) rfl
theorem tw1143 : Cond.code yX12_lost cX12_lost 0 (some FieldType.long) ∈ lw_g := tg (tb5 (List.mem_of_getElem? (i := 183) rfl)) rfl
theorem tw1144 : Cond.constantLong RX12 74 (-9223372036854775808) ∈ lw_g := tg (tb5 (List.mem_of_getElem? (i := 184) rfl)) rfl
theorem tw1145 : Cond.methodLink RX12 179 yX12_spreadAll ∈ lw_g := tg (tb5 (List.mem_of_getElem? (i := 185) rfl)) rfl
theorem tw1147 : Cond.instanceMethod yX12_spreadAll ∈ lw_g := tg (tb5 (List.mem_of_getElem? (i := 187) rfl)) rfl
theorem tw1148 : Cond.code yX12_spreadAll cX12_spreadAll 1 none ∈ lw_g := tg (tb5 (List.mem_of_getElem? (i := 188) rfl)) rfl
theorem tw1149 : Cond.methodLink RX12 168 yX12_spread ∈ lw_g := tg (tb5 (List.mem_of_getElem? (i := 189) rfl)) rfl
theorem tw1151 : Cond.instanceMethod yX12_spread ∈ lw_g := tg (tb5 (List.mem_of_getElem? (i := 191) rfl)) rfl
theorem tw1152 : Cond.code yX12_spread cX12_spread 9 none ∈ lw_g := tg (tb5 (List.mem_of_getElem? (i := 192) rfl)) rfl
theorem tw1153 : Cond.constantLong RX12 159 (-1) ∈ lw_g := tg (tb5 (List.mem_of_getElem? (i := 193) rfl)) rfl
theorem tw1154 : Cond.methodLink RX12 161 yX12_goOn ∈ lw_g := tg (tb5 (List.mem_of_getElem? (i := 194) rfl)) rfl
theorem tw1156 : Cond.instanceMethod yX12_goOn ∈ lw_g := tg (tb5 (List.mem_of_getElem? (i := 196) rfl)) rfl
theorem tw1157 : Cond.code yX12_goOn cX12_goOn 9 none ∈ lw_g := tg (tb5 (List.mem_of_getElem? (i := 197) rfl)) rfl
theorem tw1158 : Cond.methodLink RX12 156 yX12_rewritten ∈ lw_g := tg (tb5 (List.mem_of_getElem? (i := 198) rfl)) rfl
theorem tw1160 : Cond.instanceMethod yX12_rewritten ∈ lw_g := tg (tb5 (List.mem_of_getElem? (i := 200) rfl)) rfl
theorem tw1161 : Cond.code yX12_rewritten cX12_rewritten 4 (some FieldType.int) ∈ lw_g := tg (tb5 (List.mem_of_getElem? (i := 201) rfl)) rfl
theorem tw1162 : Cond.methodLink RL 89 yX12_delivered ∈ lw_g := tg (tb5 (List.mem_of_getElem? (i := 202) rfl)) rfl
theorem tw1163 : Cond.instanceMethod yX12_delivered ∈ lw_g := tg (tb5 (List.mem_of_getElem? (i := 203) rfl)) rfl
theorem tw1164 : Cond.selects RX12 yX12_delivered yX12_delivered ∈ lw_g := tg (tb5 (List.mem_of_getElem? (i := 204) rfl)) rfl
theorem tw1165 : Cond.code yX12_delivered cX12_delivered 3 (some FieldType.long) ∈ lw_g := tg (tb5 (List.mem_of_getElem? (i := 205) rfl)) rfl
theorem tw1166 : Cond.methodLink RL 93 yX12_arrivals ∈ lw_g := tg (tb5 (List.mem_of_getElem? (i := 206) rfl)) rfl
theorem tw1167 : Cond.instanceMethod yX12_arrivals ∈ lw_g := tg (tb5 (List.mem_of_getElem? (i := 207) rfl)) rfl
theorem tw1168 : Cond.selects RX12 yX12_arrivals yX12_arrivals ∈ lw_g := tg (tb5 (List.mem_of_getElem? (i := 208) rfl)) rfl
theorem tw1169 : Cond.code yX12_arrivals cX12_arrivals 6 (some FieldType.int) ∈ lw_g := tg (tb5 (List.mem_of_getElem? (i := 209) rfl)) rfl
theorem tw1170 : Cond.methodLink RX12 182 yX12_handledBy ∈ lw_g := tg (tb5 (List.mem_of_getElem? (i := 210) rfl)) rfl
theorem tw1172 : Cond.instanceMethod yX12_handledBy ∈ lw_g := tg (tb5 (List.mem_of_getElem? (i := 212) rfl)) rfl
theorem tw1173 : Cond.code yX12_handledBy cX12_handledBy 6 (some FieldType.int) ∈ lw_g := tg (tb5 (List.mem_of_getElem? (i := 213) rfl)) rfl
theorem tw1174 : Cond.methodLink RL 97 yX12_hits ∈ lw_g := tg (tb5 (List.mem_of_getElem? (i := 214) rfl)) rfl
theorem tw1175 : Cond.instanceMethod yX12_hits ∈ lw_g := tg (tb5 (List.mem_of_getElem? (i := 215) rfl)) rfl
theorem tw1176 : Cond.selects RX12 yX12_hits yX12_hits ∈ lw_g := tg (tb5 (List.mem_of_getElem? (i := 216) rfl)) rfl
theorem tw1177 : Cond.code yX12_hits cX12_hits 4 (some FieldType.int) ∈ lw_g := tg (tb5 (List.mem_of_getElem? (i := 217) rfl)) rfl
theorem tw1178 : Cond.methodLink RL 101 yX12_cube ∈ lw_g := tg (tb5 (List.mem_of_getElem? (i := 218) rfl)) rfl
theorem tw1179 : Cond.instanceMethod yX12_cube ∈ lw_g := tg (tb5 (List.mem_of_getElem? (i := 219) rfl)) rfl
theorem tw1180 : Cond.selects RX12 yX12_cube yX12_cube ∈ lw_g := tg (tb5 (List.mem_of_getElem? (i := 220) rfl)) rfl
theorem tw1181 : Cond.code yX12_cube cX12_cube 13 (some FieldType.int) ∈ lw_g := tg (tb5 (List.mem_of_getElem? (i := 221) rfl)) rfl
theorem tw1182 : Cond.methodLink RX12 185 yX12_cubeOf ∈ lw_g := tg (tb5 (List.mem_of_getElem? (i := 222) rfl)) rfl
theorem tw1184 : Cond.instanceMethod yX12_cubeOf ∈ lw_g := tg (tb5 (List.mem_of_getElem? (i := 224) rfl)) rfl
theorem tw1185 : Cond.code yX12_cubeOf cX12_cubeOf 6 (some FieldType.long) ∈ lw_g := tg (tb5 (List.mem_of_getElem? (i := 225) rfl)) rfl
theorem tw1186 : Cond.methodLink RL 105 yX12_origin ∈ lw_g := tg (tb5 (List.mem_of_getElem? (i := 226) rfl)) rfl
theorem tw1187 : Cond.instanceMethod yX12_origin ∈ lw_g := tg (tb5 (List.mem_of_getElem? (i := 227) rfl)) rfl
theorem tw1188 : Cond.selects RX12 yX12_origin yX12_origin ∈ lw_g := tg (tb5 (List.mem_of_getElem? (i := 228) rfl)) rfl
theorem tw1189 : Cond.code yX12_origin cX12_origin 5 (some FieldType.int) ∈ lw_g := tg (tb5 (List.mem_of_getElem? (i := 229) rfl)) rfl
theorem tw1190 : Cond.methodLink RL 109 yX12_distance ∈ lw_g := tg (tb5 (List.mem_of_getElem? (i := 230) rfl)) rfl
theorem tw1191 : Cond.instanceMethod yX12_distance ∈ lw_g := tg (tb5 (List.mem_of_getElem? (i := 231) rfl)) rfl
theorem tw1192 : Cond.selects RX12 yX12_distance yX12_distance ∈ lw_g := tg (tb5 (List.mem_of_getElem? (i := 232) rfl)) rfl
theorem tw1193 : Cond.code yX12_distance cX12_distance 8 (some FieldType.int) ∈ lw_g := tg (tb5 (List.mem_of_getElem? (i := 233) rfl)) rfl
theorem tw1194 : Cond.methodLink RL 113 yX12_trace ∈ lw_g := tg (tb5 (List.mem_of_getElem? (i := 234) rfl)) rfl
theorem tw1195 : Cond.instanceMethod yX12_trace ∈ lw_g := tg (tb5 (List.mem_of_getElem? (i := 235) rfl)) rfl
theorem tw1196 : Cond.selects RX12 yX12_trace yX12_trace ∈ lw_g := tg (tb5 (List.mem_of_getElem? (i := 236) rfl)) rfl
theorem tw1197 : Cond.code yX12_trace cX12_trace 4 (some FieldType.int) ∈ lw_g := tg (tb5 (List.mem_of_getElem? (i := 237) rfl)) rfl
theorem tw1198 : Cond.methodLink RX12 198 yX12_follow ∈ lw_g := tg (tb5 (List.mem_of_getElem? (i := 238) rfl)) rfl
theorem tw1200 : Cond.instanceMethod yX12_follow ∈ lw_g := tg (tb6 (List.mem_of_getElem? (i := 0) rfl)) rfl
theorem tw1201 : Cond.code yX12_follow cX12_follow 9 none ∈ lw_g := tg (tb6 (List.mem_of_getElem? (i := 1) rfl)) rfl
theorem tw1202 : Cond.methodLink RX12 195 yX12_wasThere ∈ lw_g := tg (tb6 (List.mem_of_getElem? (i := 2) rfl)) rfl
theorem tw1204 : Cond.instanceMethod yX12_wasThere ∈ lw_g := tg (tb6 (List.mem_of_getElem? (i := 4) rfl)) rfl
theorem tw1205 : Cond.code yX12_wasThere cX12_wasThere 3 (some FieldType.boolean) ∈ lw_g := tg (tb6 (List.mem_of_getElem? (i := 5) rfl)) rfl
theorem tw1206 : Cond.methodLink RL 117 yX12_traceEnd ∈ lw_g := tg (tb6 (List.mem_of_getElem? (i := 6) rfl)) rfl
theorem tw1207 : Cond.instanceMethod yX12_traceEnd ∈ lw_g := tg (tb6 (List.mem_of_getElem? (i := 7) rfl)) rfl
theorem tw1208 : Cond.selects RX12 yX12_traceEnd yX12_traceEnd ∈ lw_g := tg (tb6 (List.mem_of_getElem? (i := 8) rfl)) rfl
theorem tw1209 : Cond.code yX12_traceEnd cX12_traceEnd 2 (some FieldType.int) ∈ lw_g := tg (tb6 (List.mem_of_getElem? (i := 9) rfl)) rfl
theorem tw1210 : Cond.methodLink RL 122 yX12_loops ∈ lw_g := tg (tb6 (List.mem_of_getElem? (i := 10) rfl)) rfl
theorem tw1211 : Cond.instanceMethod yX12_loops ∈ lw_g := tg (tb6 (List.mem_of_getElem? (i := 11) rfl)) rfl
theorem tw1212 : Cond.selects RX12 yX12_loops yX12_loops ∈ lw_g := tg (tb6 (List.mem_of_getElem? (i := 12) rfl)) rfl
theorem tw1213 : Cond.code yX12_loops cX12_loops 4 (some FieldType.long) ∈ lw_g := tg (tb6 (List.mem_of_getElem? (i := 13) rfl)) rfl
theorem tw1214 : Cond.methodLink RX12 202 yX12_isSafe ∈ lw_g := tg (tb6 (List.mem_of_getElem? (i := 14) rfl)) rfl
theorem tw1216 : Cond.instanceMethod yX12_isSafe ∈ lw_g := tg (tb6 (List.mem_of_getElem? (i := 16) rfl)) rfl
theorem tw1217 : Cond.code yX12_isSafe cX12_isSafe 9 (some FieldType.boolean) ∈ lw_g := tg (tb6 (List.mem_of_getElem? (i := 17) rfl)) rfl
theorem tw1218 : Cond.methodLink RL 126 yX12_cutSize ∈ lw_g := tg (tb6 (List.mem_of_getElem? (i := 18) rfl)) rfl
theorem tw1219 : Cond.instanceMethod yX12_cutSize ∈ lw_g := tg (tb6 (List.mem_of_getElem? (i := 19) rfl)) rfl
theorem tw1220 : Cond.selects RX12 yX12_cutSize yX12_cutSize ∈ lw_g := tg (tb6 (List.mem_of_getElem? (i := 20) rfl)) rfl
theorem tw1221 : Cond.code yX12_cutSize cX12_cutSize 3 (some FieldType.int) ∈ lw_g := tg (tb6 (List.mem_of_getElem? (i := 21) rfl)) rfl
theorem tw1222 : Cond.methodLink RX12 217 yX12_findSize ∈ lw_g := tg (tb6 (List.mem_of_getElem? (i := 22) rfl)) rfl
theorem tw1224 : Cond.instanceMethod yX12_findSize ∈ lw_g := tg (tb6 (List.mem_of_getElem? (i := 24) rfl)) rfl
theorem tw1225 : Cond.code yX12_findSize cX12_findSize 3 (some FieldType.int) ∈ lw_g := tg (tb6 (List.mem_of_getElem? (i := 25) rfl)) rfl
theorem tw1226 : Cond.methodLink RX12 214 yX12_findCut ∈ lw_g := tg (tb6 (List.mem_of_getElem? (i := 26) rfl)) rfl
theorem tw1228 : Cond.instanceMethod yX12_findCut ∈ lw_g := tg (tb6 (List.mem_of_getElem? (i := 28) rfl)) rfl
theorem tw1229 : Cond.code yX12_findCut cX12_findCut 6 (some FieldType.boolean) ∈ lw_g := tg (tb6 (List.mem_of_getElem? (i := 29) rfl)) rfl
theorem tw1230 : Cond.methodLink RX12 205 yX12_isStopped ∈ lw_g := tg (tb6 (List.mem_of_getElem? (i := 30) rfl)) rfl
theorem tw1232 : Cond.instanceMethod yX12_isStopped ∈ lw_g := tg (tb6 (List.mem_of_getElem? (i := 32) rfl)) rfl
theorem tw1233 : Cond.code yX12_isStopped cX12_isStopped 2 (some FieldType.boolean) ∈ lw_g := tg (tb6 (List.mem_of_getElem? (i := 33) rfl)) rfl
theorem tw1234 : Cond.methodLink RX12 208 yX12_turn ∈ lw_g := tg (tb6 (List.mem_of_getElem? (i := 34) rfl)) rfl
theorem tw1236 : Cond.instanceMethod yX12_turn ∈ lw_g := tg (tb6 (List.mem_of_getElem? (i := 36) rfl)) rfl
theorem tw1237 : Cond.code yX12_turn cX12_turn 3 none ∈ lw_g := tg (tb6 (List.mem_of_getElem? (i := 37) rfl)) rfl
theorem tw1238 : Cond.methodLink RX12 211 yX12_isOn ∈ lw_g := tg (tb6 (List.mem_of_getElem? (i := 38) rfl)) rfl
theorem tw1240 : Cond.instanceMethod yX12_isOn ∈ lw_g := tg (tb6 (List.mem_of_getElem? (i := 40) rfl)) rfl
theorem tw1241 : Cond.code yX12_isOn cX12_isOn 2 (some FieldType.boolean) ∈ lw_g := tg (tb6 (List.mem_of_getElem? (i := 41) rfl)) rfl
theorem tw1242 : Cond.methodLink RL 130 yX12_cutRule ∈ lw_g := tg (tb6 (List.mem_of_getElem? (i := 42) rfl)) rfl
theorem tw1243 : Cond.instanceMethod yX12_cutRule ∈ lw_g := tg (tb6 (List.mem_of_getElem? (i := 43) rfl)) rfl
theorem tw1244 : Cond.selects RX12 yX12_cutRule yX12_cutRule ∈ lw_g := tg (tb6 (List.mem_of_getElem? (i := 44) rfl)) rfl
theorem tw1245 : Cond.code yX12_cutRule cX12_cutRule 5 (some FieldType.int) ∈ lw_g := tg (tb6 (List.mem_of_getElem? (i := 45) rfl)) rfl
theorem tw1246 : Cond.methodLink RL 135 yX12_addPolicy ∈ lw_g := tg (tb6 (List.mem_of_getElem? (i := 46) rfl)) rfl
theorem tw1247 : Cond.instanceMethod yX12_addPolicy ∈ lw_g := tg (tb6 (List.mem_of_getElem? (i := 47) rfl)) rfl
theorem tw1248 : Cond.selects RX12 yX12_addPolicy yX12_addPolicy ∈ lw_g := tg (tb6 (List.mem_of_getElem? (i := 48) rfl)) rfl
theorem tw1249 : Cond.code yX12_addPolicy cX12_addPolicy 6 (some FieldType.int) ∈ lw_g := tg (tb6 (List.mem_of_getElem? (i := 49) rfl)) rfl
theorem tw1250 : Cond.methodLink RL 139 yX12_setPolicyCube ∈ lw_g := tg (tb6 (List.mem_of_getElem? (i := 50) rfl)) rfl
theorem tw1251 : Cond.instanceMethod yX12_setPolicyCube ∈ lw_g := tg (tb6 (List.mem_of_getElem? (i := 51) rfl)) rfl
theorem tw1252 : Cond.selects RX12 yX12_setPolicyCube yX12_setPolicyCube ∈ lw_g := tg (tb6 (List.mem_of_getElem? (i := 52) rfl)) rfl
theorem tw1253 : Cond.code yX12_setPolicyCube cX12_setPolicyCube 4 (some FieldType.int) ∈ lw_g := tg (tb6 (List.mem_of_getElem? (i := 53) rfl)) rfl
theorem tw1254 : Cond.methodLink RX12 220 yX12_noPolicy ∈ lw_g := tg (tb6 (List.mem_of_getElem? (i := 54) rfl)) rfl
theorem tw1256 : Cond.instanceMethod yX12_noPolicy ∈ lw_g := tg (tb6 (List.mem_of_getElem? (i := 56) rfl)) rfl
theorem tw1257 : Cond.code yX12_noPolicy cX12_noPolicy 2 (some FieldType.boolean) ∈ lw_g := tg (tb6 (List.mem_of_getElem? (i := 57) rfl)) rfl
theorem tw1258 : Cond.methodLink RL 144 yX12_counterexamples ∈ lw_g := tg (tb6 (List.mem_of_getElem? (i := 58) rfl)) rfl
theorem tw1259 : Cond.instanceMethod yX12_counterexamples ∈ lw_g := tg (tb6 (List.mem_of_getElem? (i := 59) rfl)) rfl
theorem tw1260 : Cond.selects RX12 yX12_counterexamples yX12_counterexamples ∈ lw_g := tg (tb6 (List.mem_of_getElem? (i := 60) rfl)) rfl
theorem tw1261 : Cond.code yX12_counterexamples cX12_counterexamples 2 (some FieldType.long) ∈ lw_g := tg (tb6 (List.mem_of_getElem? (i := 61) rfl)) rfl
theorem tw1262 : Cond.methodLink RX12 223 yX12_against ∈ lw_g := tg (tb6 (List.mem_of_getElem? (i := 62) rfl)) rfl
theorem tw1264 : Cond.instanceMethod yX12_against ∈ lw_g := tg (tb6 (List.mem_of_getElem? (i := 64) rfl)) rfl
theorem tw1265 : Cond.code yX12_against cX12_against 6 (some FieldType.long) ∈ lw_g := tg (tb6 (List.mem_of_getElem? (i := 65) rfl)) rfl
theorem tw1266 : Cond.methodLink RL 148 yX12_violated ∈ lw_g := tg (tb6 (List.mem_of_getElem? (i := 66) rfl)) rfl
theorem tw1267 : Cond.instanceMethod yX12_violated ∈ lw_g := tg (tb6 (List.mem_of_getElem? (i := 67) rfl)) rfl
theorem tw1268 : Cond.selects RX12 yX12_violated yX12_violated ∈ lw_g := tg (tb6 (List.mem_of_getElem? (i := 68) rfl)) rfl
theorem tw1269 : Cond.code yX12_violated cX12_violated 3 (some FieldType.int) ∈ lw_g := tg (tb6 (List.mem_of_getElem? (i := 69) rfl)) rfl
theorem tw1270 : Cond.methodLink RL 152 yX12_clearPolicies ∈ lw_g := tg (tb6 (List.mem_of_getElem? (i := 70) rfl)) rfl
theorem tw1271 : Cond.instanceMethod yX12_clearPolicies ∈ lw_g := tg (tb6 (List.mem_of_getElem? (i := 71) rfl)) rfl
theorem tw1272 : Cond.selects RX12 yX12_clearPolicies yX12_clearPolicies ∈ lw_g := tg (tb6 (List.mem_of_getElem? (i := 72) rfl)) rfl
theorem tw1273 : Cond.code yX12_clearPolicies cX12_clearPolicies 2 (some FieldType.int) ∈ lw_g := tg (tb6 (List.mem_of_getElem? (i := 73) rfl)) rfl
theorem tw1274 : Cond.methodLink RL 157 yX12_type ∈ lw_g := tg (tb6 (List.mem_of_getElem? (i := 74) rfl)) rfl
theorem tw1275 : Cond.instanceMethod yX12_type ∈ lw_g := tg (tb6 (List.mem_of_getElem? (i := 75) rfl)) rfl
theorem tw1276 : Cond.selects RX12 yX12_type yX12_type ∈ lw_g := tg (tb6 (List.mem_of_getElem? (i := 76) rfl)) rfl
theorem tw1277 : Cond.code yX12_type cX12_type 2 (some FieldType.int) ∈ lw_g := tg (tb6 (List.mem_of_getElem? (i := 77) rfl)) rfl
theorem tw1278 : Cond.methodLink RL 161 yX12_clearText ∈ lw_g := tg (tb6 (List.mem_of_getElem? (i := 78) rfl)) rfl
theorem tw1279 : Cond.instanceMethod yX12_clearText ∈ lw_g := tg (tb6 (List.mem_of_getElem? (i := 79) rfl)) rfl
theorem tw1280 : Cond.selects RX12 yX12_clearText yX12_clearText ∈ lw_g := tg (tb6 (List.mem_of_getElem? (i := 80) rfl)) rfl
theorem tw1281 : Cond.code yX12_clearText cX12_clearText 2 (some FieldType.int) ∈ lw_g := tg (tb6 (List.mem_of_getElem? (i := 81) rfl)) rfl
theorem tw1282 : Cond.methodLink RL 165 yX12_readRule ∈ lw_g := tg (tb6 (List.mem_of_getElem? (i := 82) rfl)) rfl
theorem tw1283 : Cond.instanceMethod yX12_readRule ∈ lw_g := tg (tb6 (List.mem_of_getElem? (i := 83) rfl)) rfl
theorem tw1284 : Cond.selects RX12 yX12_readRule yX12_readRule ∈ lw_g := tg (tb6 (List.mem_of_getElem? (i := 84) rfl)) rfl
theorem tw1285 : Cond.code yX12_readRule cX12_readRule 9 (some FieldType.int) ∈ lw_g := tg (tb6 (List.mem_of_getElem? (i := 85) rfl)) rfl
theorem tw1286 : Cond.methodLink RX12 237 yX12_isAt ∈ lw_g := tg (tb6 (List.mem_of_getElem? (i := 86) rfl)) rfl
theorem tw1288 : Cond.instanceMethod yX12_isAt ∈ lw_g := tg (tb6 (List.mem_of_getElem? (i := 88) rfl)) rfl
theorem tw1289 : Cond.code yX12_isAt cX12_isAt 2 (some FieldType.boolean) ∈ lw_g := tg (tb6 (List.mem_of_getElem? (i := 89) rfl)) rfl
theorem tw1290 : Cond.methodLink RX12 247 yX12_readPorts ∈ lw_g := tg (tb6 (List.mem_of_getElem? (i := 90) rfl)) rfl
theorem tw1292 : Cond.instanceMethod yX12_readPorts ∈ lw_g := tg (tb6 (List.mem_of_getElem? (i := 92) rfl)) rfl
theorem tw1293 : Cond.code yX12_readPorts cX12_readPorts 2 (some FieldType.int) ∈ lw_g := tg (tb6 (List.mem_of_getElem? (i := 93) rfl)) rfl
theorem tw1294 : Cond.methodLink RX12 250 yX12_expect ∈ lw_g := tg (tb6 (List.mem_of_getElem? (i := 94) rfl)) rfl
theorem tw1296 : Cond.instanceMethod yX12_expect ∈ lw_g := tg (tb6 (List.mem_of_getElem? (i := 96) rfl)) rfl
theorem tw1297 : Cond.code yX12_expect cX12_expect 2 none ∈ lw_g := tg (tb6 (List.mem_of_getElem? (i := 97) rfl)) rfl
theorem tw1298 : Cond.methodLink RX12 254 yX12_readPattern ∈ lw_g := tg (tb6 (List.mem_of_getElem? (i := 98) rfl)) rfl
theorem tw1300 : Cond.instanceMethod yX12_readPattern ∈ lw_g := tg (tb6 (List.mem_of_getElem? (i := 100) rfl)) rfl
theorem tw1301 : Cond.code yX12_readPattern cX12_readPattern 2 none ∈ lw_g := tg (tb6 (List.mem_of_getElem? (i := 101) rfl)) rfl
theorem tw1302 : Cond.methodLink RL 169 yX12_ruleText ∈ lw_g := tg (tb6 (List.mem_of_getElem? (i := 102) rfl)) rfl
theorem tw1303 : Cond.instanceMethod yX12_ruleText ∈ lw_g := tg (tb6 (List.mem_of_getElem? (i := 103) rfl)) rfl
theorem tw1304 : Cond.selects RX12 yX12_ruleText yX12_ruleText ∈ lw_g := tg (tb6 (List.mem_of_getElem? (i := 104) rfl)) rfl
theorem tw1305 : Cond.code yX12_ruleText cX12_ruleText 5 (some FieldType.int) ∈ lw_g := tg (tb6 (List.mem_of_getElem? (i := 105) rfl)) rfl
theorem tw1306 : Cond.methodLink RX12 260 yX12_write ∈ lw_g := tg (tb6 (List.mem_of_getElem? (i := 106) rfl)) rfl
theorem tw1308 : Cond.instanceMethod yX12_write ∈ lw_g := tg (tb6 (List.mem_of_getElem? (i := 108) rfl)) rfl
theorem tw1309 : Cond.code yX12_write cX12_write 2 none ∈ lw_g := tg (tb6 (List.mem_of_getElem? (i := 109) rfl)) rfl
theorem tw1310 : Cond.methodLink RX12 263 yX12_writePorts ∈ lw_g := tg (tb6 (List.mem_of_getElem? (i := 110) rfl)) rfl
theorem tw1312 : Cond.instanceMethod yX12_writePorts ∈ lw_g := tg (tb6 (List.mem_of_getElem? (i := 112) rfl)) rfl
theorem tw1313 : Cond.code yX12_writePorts cX12_writePorts 3 none ∈ lw_g := tg (tb6 (List.mem_of_getElem? (i := 113) rfl)) rfl
theorem tw1314 : Cond.methodLink RX12 266 yX12_writePattern ∈ lw_g := tg (tb6 (List.mem_of_getElem? (i := 114) rfl)) rfl
theorem tw1316 : Cond.instanceMethod yX12_writePattern ∈ lw_g := tg (tb6 (List.mem_of_getElem? (i := 116) rfl)) rfl
theorem tw1317 : Cond.code yX12_writePattern cX12_writePattern 4 none ∈ lw_g := tg (tb6 (List.mem_of_getElem? (i := 117) rfl)) rfl
theorem ts1_0 : Cond.selects RX11 yX11_isInsertable yX11_isInsertable ∈ lw_g := tg (tp1 (q := (yX11_isInsertable, 12)) (List.mem_of_getElem? (i := 0) rfl)) rfl
theorem ts1_1 : Cond.selects RX11 yX11_insertRule yX11_insertRule ∈ lw_g := tg (tp1 (q := (yX11_insertRule, 12)) (List.mem_of_getElem? (i := 1) rfl)) rfl
theorem ts1_2 : Cond.selects RX11 yX11_ruleError yX11_ruleError ∈ lw_g := tg (tp1 (q := (yX11_ruleError, 12)) (List.mem_of_getElem? (i := 2) rfl)) rfl
theorem ts1_3 : Cond.selects RX11 yX11_replaceRule yX11_replaceRule ∈ lw_g := tg (tp1 (q := (yX11_replaceRule, 12)) (List.mem_of_getElem? (i := 3) rfl)) rfl
theorem ts1_4 : Cond.selects RX7 yX7_isHidden yX7_isHidden ∈ lw_g := tg (tp1 (q := (yX7_isHidden, 2)) (List.mem_of_getElem? (i := 4) rfl)) rfl
theorem ts1_5 : Cond.selects RX2 yX2_forget yX2_forget ∈ lw_g := tg (tp1 (q := (yX2_forget, 4)) (List.mem_of_getElem? (i := 5) rfl)) rfl
theorem ts1_6 : Cond.selects RX2 yX2_enter yX2_enter ∈ lw_g := tg (tp1 (q := (yX2_enter, 4)) (List.mem_of_getElem? (i := 6) rfl)) rfl
theorem ts1_7 : Cond.selects RX2 yX2_spread yX2_spread ∈ lw_g := tg (tp1 (q := (yX2_spread, 4)) (List.mem_of_getElem? (i := 7) rfl)) rfl
theorem ts1_8 : Cond.selects RX2 yX2_goOneLink yX2_goOneLink ∈ lw_g := tg (tp1 (q := (yX2_goOneLink, 4)) (List.mem_of_getElem? (i := 8) rfl)) rfl
theorem ts1_9 : Cond.selects RX2 yX2_handle yX2_handle ∈ lw_g := tg (tp1 (q := (yX2_handle, 4)) (List.mem_of_getElem? (i := 9) rfl)) rfl
theorem ts1_10 : Cond.selects RX2 yX2_sendOut yX2_sendOut ∈ lw_g := tg (tp1 (q := (yX2_sendOut, 4)) (List.mem_of_getElem? (i := 10) rfl)) rfl
theorem ts1_11 : Cond.selects RX2 yX2_allHandled yX2_allHandled ∈ lw_g := tg (tp1 (q := (yX2_allHandled, 4)) (List.mem_of_getElem? (i := 11) rfl)) rfl
theorem ts1_12 : Cond.selects RX11 yX11_widestCare yX11_widestCare ∈ lw_g := tg (tp1 (q := (yX11_widestCare, 12)) (List.mem_of_getElem? (i := 12) rfl)) rfl
theorem ts1_13 : Cond.selects RX11 yX11_isInjected yX11_isInjected ∈ lw_g := tg (tp1 (q := (yX11_isInjected, 12)) (List.mem_of_getElem? (i := 13) rfl)) rfl
theorem ts1_14 : Cond.selects RX10 yX10_goOnce yX10_goOnce ∈ lw_g := tg (tp1 (q := (yX10_goOnce, 5)) (List.mem_of_getElem? (i := 14) rfl)) rfl
theorem ts1_15 : Cond.selects RX1 yX1_growOnce yX1_growOnce ∈ lw_g := tg (tp1 (q := (yX1_growOnce, 2)) (List.mem_of_getElem? (i := 15) rfl)) rfl
theorem ts2_0 : Cond.selects RX1 yX1_ending yX1_ending ∈ lw_g := tg (tp2 (q := (yX1_ending, 2)) (List.mem_of_getElem? (i := 0) rfl)) rfl
theorem ts2_1 : Cond.selects RX1 yX1_endingBehindAll yX1_endingBehindAll ∈ lw_g := tg (tp2 (q := (yX1_endingBehindAll, 2)) (List.mem_of_getElem? (i := 1) rfl)) rfl
theorem ts2_2 : Cond.selects RX1 yX1_delivering yX1_delivering ∈ lw_g := tg (tp2 (q := (yX1_delivering, 2)) (List.mem_of_getElem? (i := 2) rfl)) rfl
theorem ts2_3 : Cond.selects RX1 yX1_deliveredBehindOne yX1_deliveredBehindOne ∈ lw_g := tg (tp2 (q := (yX1_deliveredBehindOne, 2)) (List.mem_of_getElem? (i := 3) rfl)) rfl
theorem ts2_4 : Cond.selects RX0 yX0_openWay yX0_openWay ∈ lw_g := tg (tp2 (q := (yX0_openWay, 11)) (List.mem_of_getElem? (i := 4) rfl)) rfl
theorem ts2_5 : Cond.selects RX0 yX0_enqueue yX0_enqueue ∈ lw_g := tg (tp2 (q := (yX0_enqueue, 11)) (List.mem_of_getElem? (i := 5) rfl)) rfl
theorem ts2_6 : Cond.selects RX0 yX0_handlingSlot yX0_handlingSlot ∈ lw_g := tg (tp2 (q := (yX0_handlingSlot, 11)) (List.mem_of_getElem? (i := 6) rfl)) rfl
theorem ts2_7 : Cond.selects RX0 yX0_reachesTarget yX0_reachesTarget ∈ lw_g := tg (tp2 (q := (yX0_reachesTarget, 11)) (List.mem_of_getElem? (i := 7) rfl)) rfl
theorem ts2_8 : Cond.selects RX0 yX0_cutByOne yX0_cutByOne ∈ lw_g := tg (tp2 (q := (yX0_cutByOne, 11)) (List.mem_of_getElem? (i := 8) rfl)) rfl
theorem ts2_9 : Cond.selects RX0 yX0_cutByTwo yX0_cutByTwo ∈ lw_g := tg (tp2 (q := (yX0_cutByTwo, 11)) (List.mem_of_getElem? (i := 9) rfl)) rfl
theorem ts2_10 : Cond.selects RX0 yX0_knownWay yX0_knownWay ∈ lw_g := tg (tp2 (q := (yX0_knownWay, 11)) (List.mem_of_getElem? (i := 10) rfl)) rfl
theorem ts2_11 : Cond.selects RX0 yX0_cutByThree yX0_cutByThree ∈ lw_g := tg (tp2 (q := (yX0_cutByThree, 11)) (List.mem_of_getElem? (i := 11) rfl)) rfl
theorem ts2_12 : Cond.selects RX0 yX0_isWorthTrying yX0_isWorthTrying ∈ lw_g := tg (tp2 (q := (yX0_isWorthTrying, 11)) (List.mem_of_getElem? (i := 12) rfl)) rfl
theorem ts2_13 : Cond.selects RX11 yX11_isPolicy yX11_isPolicy ∈ lw_g := tg (tp2 (q := (yX11_isPolicy, 12)) (List.mem_of_getElem? (i := 13) rfl)) rfl
theorem ts2_14 : Cond.selects RX11 yX11_against yX11_against ∈ lw_g := tg (tp2 (q := (yX11_against, 12)) (List.mem_of_getElem? (i := 14) rfl)) rfl
theorem ts2_15 : Cond.selects RX9 yX9_readsPorts yX9_readsPorts ∈ lw_g := tg (tp2 (q := (yX9_readsPorts, 9)) (List.mem_of_getElem? (i := 15) rfl)) rfl
theorem ts3_0 : Cond.selects RX9 yX9_accepts yX9_accepts ∈ lw_g := tg (tp3 (q := (yX9_accepts, 9)) (List.mem_of_getElem? (i := 0) rfl)) rfl
theorem ts3_1 : Cond.selects RX9 yX9_readDigits yX9_readDigits ∈ lw_g := tg (tp3 (q := (yX9_readDigits, 9)) (List.mem_of_getElem? (i := 1) rfl)) rfl
theorem ts3_2 : Cond.selects RX9 yX9_readsPattern yX9_readsPattern ∈ lw_g := tg (tp3 (q := (yX9_readsPattern, 9)) (List.mem_of_getElem? (i := 2) rfl)) rfl
theorem ts3_3 : Cond.selects RX9 yX9_readsOutputs yX9_readsOutputs ∈ lw_g := tg (tp3 (q := (yX9_readsOutputs, 9)) (List.mem_of_getElem? (i := 3) rfl)) rfl
theorem ts3_4 : Cond.selects RX9 yX9_readsRewriting yX9_readsRewriting ∈ lw_g := tg (tp3 (q := (yX9_readsRewriting, 9)) (List.mem_of_getElem? (i := 4) rfl)) rfl
theorem ts3_5 : Cond.selects RX8 yX8_put yX8_put ∈ lw_g := tg (tp3 (q := (yX8_put, 2)) (List.mem_of_getElem? (i := 5) rfl)) rfl
theorem ts3_6 : Cond.selects RX8 yX8_putDigits yX8_putDigits ∈ lw_g := tg (tp3 (q := (yX8_putDigits, 2)) (List.mem_of_getElem? (i := 6) rfl)) rfl
theorem ts3_7 : Cond.selects RX8 yX8_putPattern yX8_putPattern ∈ lw_g := tg (tp3 (q := (yX8_putPattern, 2)) (List.mem_of_getElem? (i := 7) rfl)) rfl
theorem ts3_8 : Cond.selects RX12 yX12_begin yX12_begin ∈ lw_g := tg (tp3 (q := (yX12_begin, 33)) (List.mem_of_getElem? (i := 8) rfl)) rfl
theorem ts3_9 : Cond.selects RX12 yX12_insert yX12_insert ∈ lw_g := tg (tp3 (q := (yX12_insert, 33)) (List.mem_of_getElem? (i := 9) rfl)) rfl
theorem ts3_10 : Cond.selects RX12 yX12_many yX12_many ∈ lw_g := tg (tp3 (q := (yX12_many, 33)) (List.mem_of_getElem? (i := 10) rfl)) rfl
theorem ts3_11 : Cond.selects RX12 yX12_noHeader yX12_noHeader ∈ lw_g := tg (tp3 (q := (yX12_noHeader, 33)) (List.mem_of_getElem? (i := 11) rfl)) rfl
theorem ts3_12 : Cond.selects RX12 yX12_headers yX12_headers ∈ lw_g := tg (tp3 (q := (yX12_headers, 33)) (List.mem_of_getElem? (i := 12) rfl)) rfl
theorem ts3_13 : Cond.selects RX12 yX12_keep yX12_keep ∈ lw_g := tg (tp3 (q := (yX12_keep, 33)) (List.mem_of_getElem? (i := 13) rfl)) rfl
theorem ts3_14 : Cond.selects RX12 yX12_open yX12_open ∈ lw_g := tg (tp3 (q := (yX12_open, 33)) (List.mem_of_getElem? (i := 14) rfl)) rfl
theorem ts3_15 : Cond.selects RX12 yX12_of yX12_of ∈ lw_g := tg (tp3 (q := (yX12_of, 33)) (List.mem_of_getElem? (i := 15) rfl)) rfl
theorem ts4_0 : Cond.selects RX12 yX12_put yX12_put ∈ lw_g := tg (tp4 (q := (yX12_put, 33)) (List.mem_of_getElem? (i := 0) rfl)) rfl
theorem ts4_1 : Cond.selects RX12 yX12_ruleBarred yX12_ruleBarred ∈ lw_g := tg (tp4 (q := (yX12_ruleBarred, 33)) (List.mem_of_getElem? (i := 1) rfl)) rfl
theorem ts4_2 : Cond.selects RX12 yX12_noRule yX12_noRule ∈ lw_g := tg (tp4 (q := (yX12_noRule, 33)) (List.mem_of_getElem? (i := 2) rfl)) rfl
theorem ts4_3 : Cond.selects RX12 yX12_close yX12_close ∈ lw_g := tg (tp4 (q := (yX12_close, 33)) (List.mem_of_getElem? (i := 3) rfl)) rfl
theorem ts4_4 : Cond.selects RX12 yX12_handler yX12_handler ∈ lw_g := tg (tp4 (q := (yX12_handler, 33)) (List.mem_of_getElem? (i := 4) rfl)) rfl
theorem ts4_5 : Cond.selects RX12 yX12_matches yX12_matches ∈ lw_g := tg (tp4 (q := (yX12_matches, 33)) (List.mem_of_getElem? (i := 5) rfl)) rfl
theorem ts4_6 : Cond.selects RX12 yX12_injected yX12_injected ∈ lw_g := tg (tp4 (q := (yX12_injected, 33)) (List.mem_of_getElem? (i := 6) rfl)) rfl
theorem ts4_7 : Cond.selects RX12 yX12_isInjected yX12_isInjected ∈ lw_g := tg (tp4 (q := (yX12_isInjected, 33)) (List.mem_of_getElem? (i := 7) rfl)) rfl
theorem ts4_8 : Cond.selects RX12 yX12_spreadAll yX12_spreadAll ∈ lw_g := tg (tp4 (q := (yX12_spreadAll, 33)) (List.mem_of_getElem? (i := 8) rfl)) rfl
theorem ts4_9 : Cond.selects RX12 yX12_spread yX12_spread ∈ lw_g := tg (tp4 (q := (yX12_spread, 33)) (List.mem_of_getElem? (i := 9) rfl)) rfl
theorem ts4_10 : Cond.selects RX12 yX12_goOn yX12_goOn ∈ lw_g := tg (tp4 (q := (yX12_goOn, 33)) (List.mem_of_getElem? (i := 10) rfl)) rfl
theorem ts4_11 : Cond.selects RX12 yX12_rewritten yX12_rewritten ∈ lw_g := tg (tp4 (q := (yX12_rewritten, 33)) (List.mem_of_getElem? (i := 11) rfl)) rfl
theorem ts4_12 : Cond.selects RX12 yX12_handledBy yX12_handledBy ∈ lw_g := tg (tp4 (q := (yX12_handledBy, 33)) (List.mem_of_getElem? (i := 12) rfl)) rfl
theorem ts4_13 : Cond.selects RX12 yX12_cubeOf yX12_cubeOf ∈ lw_g := tg (tp4 (q := (yX12_cubeOf, 33)) (List.mem_of_getElem? (i := 13) rfl)) rfl
theorem ts4_14 : Cond.selects RX12 yX12_follow yX12_follow ∈ lw_g := tg (tp4 (q := (yX12_follow, 33)) (List.mem_of_getElem? (i := 14) rfl)) rfl
theorem ts4_15 : Cond.selects RX12 yX12_wasThere yX12_wasThere ∈ lw_g := tg (tp4 (q := (yX12_wasThere, 33)) (List.mem_of_getElem? (i := 15) rfl)) rfl
theorem ts5_0 : Cond.selects RX12 yX12_isSafe yX12_isSafe ∈ lw_g := tg (tp5 (q := (yX12_isSafe, 33)) (List.mem_of_getElem? (i := 0) rfl)) rfl
theorem ts5_1 : Cond.selects RX12 yX12_findSize yX12_findSize ∈ lw_g := tg (tp5 (q := (yX12_findSize, 33)) (List.mem_of_getElem? (i := 1) rfl)) rfl
theorem ts5_2 : Cond.selects RX12 yX12_findCut yX12_findCut ∈ lw_g := tg (tp5 (q := (yX12_findCut, 33)) (List.mem_of_getElem? (i := 2) rfl)) rfl
theorem ts5_3 : Cond.selects RX12 yX12_isStopped yX12_isStopped ∈ lw_g := tg (tp5 (q := (yX12_isStopped, 33)) (List.mem_of_getElem? (i := 3) rfl)) rfl
theorem ts5_4 : Cond.selects RX12 yX12_turn yX12_turn ∈ lw_g := tg (tp5 (q := (yX12_turn, 33)) (List.mem_of_getElem? (i := 4) rfl)) rfl
theorem ts5_5 : Cond.selects RX12 yX12_isOn yX12_isOn ∈ lw_g := tg (tp5 (q := (yX12_isOn, 33)) (List.mem_of_getElem? (i := 5) rfl)) rfl
theorem ts5_6 : Cond.selects RX12 yX12_noPolicy yX12_noPolicy ∈ lw_g := tg (tp5 (q := (yX12_noPolicy, 33)) (List.mem_of_getElem? (i := 6) rfl)) rfl
theorem ts5_7 : Cond.selects RX12 yX12_against yX12_against ∈ lw_g := tg (tp5 (q := (yX12_against, 33)) (List.mem_of_getElem? (i := 7) rfl)) rfl
theorem ts5_8 : Cond.selects RX12 yX12_isAt yX12_isAt ∈ lw_g := tg (tp5 (q := (yX12_isAt, 33)) (List.mem_of_getElem? (i := 8) rfl)) rfl
theorem ts5_9 : Cond.selects RX12 yX12_readPorts yX12_readPorts ∈ lw_g := tg (tp5 (q := (yX12_readPorts, 33)) (List.mem_of_getElem? (i := 9) rfl)) rfl
theorem ts5_10 : Cond.selects RX12 yX12_expect yX12_expect ∈ lw_g := tg (tp5 (q := (yX12_expect, 33)) (List.mem_of_getElem? (i := 10) rfl)) rfl
theorem ts5_11 : Cond.selects RX12 yX12_readPattern yX12_readPattern ∈ lw_g := tg (tp5 (q := (yX12_readPattern, 33)) (List.mem_of_getElem? (i := 11) rfl)) rfl
theorem ts5_12 : Cond.selects RX12 yX12_write yX12_write ∈ lw_g := tg (tp5 (q := (yX12_write, 33)) (List.mem_of_getElem? (i := 12) rfl)) rfl
theorem ts5_13 : Cond.selects RX12 yX12_writePorts yX12_writePorts ∈ lw_g := tg (tp5 (q := (yX12_writePorts, 33)) (List.mem_of_getElem? (i := 13) rfl)) rfl
theorem ts5_14 : Cond.selects RX12 yX12_writePattern yX12_writePattern ∈ lw_g := tg (tp5 (q := (yX12_writePattern, 33)) (List.mem_of_getElem? (i := 14) rfl)) rfl
theorem inG0 : ∀ w ∈ u_ws RX0 TX0 11, w ∈ lw_g := show ∀ w ∈ [Cond.laysFinal RX0 RX0 "net" "LHeaderSpaceNetwork$Net;", Cond.laysFinal RX0 RX0 "members" "[I", Cond.laysFinal RX0 RX0 "withoutOne" "[J", Cond.laysFinal RX0 RX0 "withoutTwo" "[J", Cond.laysFinal RX0 RX0 "queue" "[I", Cond.laysFinal RX0 RX0 "wayHere" "[J", Cond.laysFinal RX0 RX0 "seen" "[J", Cond.lays RX0 RX0 "queued" "I", Cond.lays RX0 RX0 "from" "I", Cond.lays RX0 RX0 "packets" "J", Cond.lays RX0 RX0 "target" "I"], w ∈ lw_g from (List.forall_mem_cons.mpr ⟨tw248, (List.forall_mem_cons.mpr ⟨tw250, (List.forall_mem_cons.mpr ⟨tw252, (List.forall_mem_cons.mpr ⟨tw254, (List.forall_mem_cons.mpr ⟨tw256, (List.forall_mem_cons.mpr ⟨tw258, (List.forall_mem_cons.mpr ⟨tw260, (List.forall_mem_cons.mpr ⟨tw262, (List.forall_mem_cons.mpr ⟨tw264, (List.forall_mem_cons.mpr ⟨tw266, (List.forall_mem_cons.mpr ⟨tw268, (fun _ h => absurd h List.not_mem_nil)⟩)⟩)⟩)⟩)⟩)⟩)⟩)⟩)⟩)⟩)⟩)
theorem inG1 : ∀ w ∈ u_ws RX1 TX1 2, w ∈ lw_g := show ∀ w ∈ [Cond.laysFinal RX1 RX1 "net" "LHeaderSpaceNetwork$Net;", Cond.laysFinal RX1 RX1 "found" "[J"], w ∈ lw_g from (List.forall_mem_cons.mpr ⟨tw200, (List.forall_mem_cons.mpr ⟨tw202, (fun _ h => absurd h List.not_mem_nil)⟩)⟩)
theorem inG2 : ∀ w ∈ u_ws RX2 TX2 4, w ∈ lw_g := show ∀ w ∈ [Cond.laysFinal RX2 RX2 "net" "LHeaderSpaceNetwork$Net;", Cond.laysFinal RX2 RX2 "arrived" "[J", Cond.laysFinal RX2 RX2 "fresh" "[J", Cond.laysFinal RX2 RX2 "coming" "[J"], w ∈ lw_g from (List.forall_mem_cons.mpr ⟨tw181, (List.forall_mem_cons.mpr ⟨tw183, (List.forall_mem_cons.mpr ⟨tw185, (List.forall_mem_cons.mpr ⟨tw187, (fun _ h => absurd h List.not_mem_nil)⟩)⟩)⟩)⟩)
theorem inG3 : ∀ w ∈ u_ws RX3 TX3 4, w ∈ lw_g := show ∀ w ∈ [Cond.laysFinal RX3 RX3 "lists" "[LHeaderSpaceNetwork$RuleList;", Cond.laysFinal RX3 RX3 "boxes" "[I", Cond.lays RX3 RX3 "size" "I", Cond.lays RX3 RX3 "next" "I"], w ∈ lw_g from (List.forall_mem_cons.mpr ⟨tw161, (List.forall_mem_cons.mpr ⟨tw163, (List.forall_mem_cons.mpr ⟨tw165, (List.forall_mem_cons.mpr ⟨tw167, (fun _ h => absurd h List.not_mem_nil)⟩)⟩)⟩)⟩)
theorem inG4 : ∀ w ∈ u_ws RX4 TX4 4, w ∈ lw_g := show ∀ w ∈ [Cond.lays RX4 RX4 "bits" "I", Cond.lays RX4 RX4 "links" "I", Cond.laysFinal RX4 RX4 "far" "[I", Cond.laysFinal RX4 RX4 "boxes" "[LHeaderSpaceNetwork$RuleList;"], w ∈ lw_g from (List.forall_mem_cons.mpr ⟨tw137, (List.forall_mem_cons.mpr ⟨tw139, (List.forall_mem_cons.mpr ⟨tw141, (List.forall_mem_cons.mpr ⟨tw143, (fun _ h => absurd h List.not_mem_nil)⟩)⟩)⟩)⟩)
theorem inG5 : ∀ w ∈ u_ws RX5 TX5 4, w ∈ lw_g := show ∀ w ∈ [Cond.lays RX5 RX5 "always" "Z", Cond.lays RX5 RX5 "from" "I", Cond.lays RX5 RX5 "target" "I", Cond.lays RX5 RX5 "headers" "J"], w ∈ lw_g from (List.forall_mem_cons.mpr ⟨tw335, (List.forall_mem_cons.mpr ⟨tw337, (List.forall_mem_cons.mpr ⟨tw339, (List.forall_mem_cons.mpr ⟨tw341, (fun _ h => absurd h List.not_mem_nil)⟩)⟩)⟩)⟩)
theorem inG6 : ∀ w ∈ u_ws RX6 TX6 8, w ∈ lw_g := show ∀ w ∈ [Cond.laysFinal RX6 RX6 "ports" "I", Cond.laysFinal RX6 RX6 "care" "I", Cond.laysFinal RX6 RX6 "value" "I", Cond.laysFinal RX6 RX6 "outputs" "I", Cond.laysFinal RX6 RX6 "change" "I", Cond.laysFinal RX6 RX6 "to" "I", Cond.laysFinal RX6 RX6 "on" "Z", Cond.laysFinal RX6 RX6 "headers" "J"], w ∈ lw_g from (List.forall_mem_cons.mpr ⟨tw72, (List.forall_mem_cons.mpr ⟨tw74, (List.forall_mem_cons.mpr ⟨tw76, (List.forall_mem_cons.mpr ⟨tw78, (List.forall_mem_cons.mpr ⟨tw80, (List.forall_mem_cons.mpr ⟨tw82, (List.forall_mem_cons.mpr ⟨tw84, (List.forall_mem_cons.mpr ⟨tw86, (fun _ h => absurd h List.not_mem_nil)⟩)⟩)⟩)⟩)⟩)⟩)⟩)⟩)
theorem inG7 : ∀ w ∈ u_ws RX7 TX7 2, w ∈ lw_g := show ∀ w ∈ [Cond.laysFinal RX7 RX7 "rules" "[LHeaderSpaceNetwork$Rule;", Cond.lays RX7 RX7 "size" "I"], w ∈ lw_g from (List.forall_mem_cons.mpr ⟨tw108, (List.forall_mem_cons.mpr ⟨tw110, (fun _ h => absurd h List.not_mem_nil)⟩)⟩)
theorem inG8 : ∀ w ∈ u_ws RX8 TX8 2, w ∈ lw_g := show ∀ w ∈ [Cond.laysFinal RX8 RX8 "characters" "[C", Cond.lays RX8 RX8 "length" "I"], w ∈ lw_g from (List.forall_mem_cons.mpr ⟨tw319, (List.forall_mem_cons.mpr ⟨tw321, (fun _ h => absurd h List.not_mem_nil)⟩)⟩)
theorem inG9 : ∀ w ∈ u_ws RX9 TX9 9, w ∈ lw_g := show ∀ w ∈ [Cond.laysFinal RX9 RX9 "characters" "[C", Cond.lays RX9 RX9 "length" "I", Cond.lays RX9 RX9 "at" "I", Cond.lays RX9 RX9 "ports" "I", Cond.lays RX9 RX9 "outputs" "I", Cond.lays RX9 RX9 "care" "I", Cond.lays RX9 RX9 "value" "I", Cond.lays RX9 RX9 "change" "I", Cond.lays RX9 RX9 "to" "I"], w ∈ lw_g from (List.forall_mem_cons.mpr ⟨tw289, (List.forall_mem_cons.mpr ⟨tw291, (List.forall_mem_cons.mpr ⟨tw293, (List.forall_mem_cons.mpr ⟨tw295, (List.forall_mem_cons.mpr ⟨tw297, (List.forall_mem_cons.mpr ⟨tw299, (List.forall_mem_cons.mpr ⟨tw301, (List.forall_mem_cons.mpr ⟨tw303, (List.forall_mem_cons.mpr ⟨tw305, (fun _ h => absurd h List.not_mem_nil)⟩)⟩)⟩)⟩)⟩)⟩)⟩)⟩)⟩)
theorem inG10 : ∀ w ∈ u_ws RX10 TX10 5, w ∈ lw_g := show ∀ w ∈ [Cond.laysFinal RX10 RX10 "net" "LHeaderSpaceNetwork$Net;", Cond.laysFinal RX10 RX10 "seen" "[J", Cond.lays RX10 RX10 "place" "I", Cond.lays RX10 RX10 "header" "I", Cond.lays RX10 RX10 "end" "I"], w ∈ lw_g from (List.forall_mem_cons.mpr ⟨tw219, (List.forall_mem_cons.mpr ⟨tw221, (List.forall_mem_cons.mpr ⟨tw223, (List.forall_mem_cons.mpr ⟨tw225, (List.forall_mem_cons.mpr ⟨tw227, (fun _ h => absurd h List.not_mem_nil)⟩)⟩)⟩)⟩)⟩)
theorem inG11 : ∀ w ∈ u_ws RX11 TX11 12, w ∈ lw_g := show ∀ w ∈ [Cond.laysFinal RX11 RX11 "net" "LHeaderSpaceNetwork$Net;", Cond.laysFinal RX11 RX11 "history" "LHeaderSpaceNetwork$History;", Cond.laysFinal RX11 RX11 "flow" "LHeaderSpaceNetwork$Flow;", Cond.laysFinal RX11 RX11 "fates" "LHeaderSpaceNetwork$Fates;", Cond.laysFinal RX11 RX11 "walk" "LHeaderSpaceNetwork$Walk;", Cond.laysFinal RX11 RX11 "cuts" "LHeaderSpaceNetwork$Cuts;", Cond.laysFinal RX11 RX11 "text" "LHeaderSpaceNetwork$Text;", Cond.laysFinal RX11 RX11 "writer" "LHeaderSpaceNetwork$RuleWriter;", Cond.laysFinal RX11 RX11 "policies" "[LHeaderSpaceNetwork$Policy;", Cond.lays RX11 RX11 "policyCount" "I", Cond.lays RX11 RX11 "entry" "I", Cond.lays RX11 RX11 "entering" "J"], w ∈ lw_g from (List.forall_mem_cons.mpr ⟨tw360, (List.forall_mem_cons.mpr ⟨tw362, (List.forall_mem_cons.mpr ⟨tw364, (List.forall_mem_cons.mpr ⟨tw366, (List.forall_mem_cons.mpr ⟨tw368, (List.forall_mem_cons.mpr ⟨tw370, (List.forall_mem_cons.mpr ⟨tw372, (List.forall_mem_cons.mpr ⟨tw374, (List.forall_mem_cons.mpr ⟨tw376, (List.forall_mem_cons.mpr ⟨tw378, (List.forall_mem_cons.mpr ⟨tw380, (List.forall_mem_cons.mpr ⟨tw382, (fun _ h => absurd h List.not_mem_nil)⟩)⟩)⟩)⟩)⟩)⟩)⟩)⟩)⟩)⟩)⟩)⟩)
theorem inG12 : ∀ w ∈ u_ws RX12 TX12 33, w ∈ lw_g := show ∀ w ∈ [Cond.lays RX12 RX12 "bits" "I", Cond.laysFinal RX12 RX12 "linked" "[I", Cond.lays RX12 RX12 "links" "I", Cond.laysFinal RX12 RX12 "now" "[I", Cond.lays RX12 RX12 "injectedAt" "I", Cond.lays RX12 RX12 "injectedCare" "I", Cond.lays RX12 RX12 "injectedValue" "I", Cond.lays RX12 RX12 "kept" "I", Cond.laysFinal RX12 RX12 "keptRow" "[I", Cond.laysFinal RX12 RX12 "moved" "[I", Cond.laysFinal RX12 RX12 "arrived" "[J", Cond.laysFinal RX12 RX12 "gone" "[J", Cond.laysFinal RX12 RX12 "delivered" "[J", Cond.laysFinal RX12 RX12 "wave" "[J", Cond.laysFinal RX12 RX12 "way" "[I", Cond.lays RX12 RX12 "ways" "I", Cond.lays RX12 RX12 "ended" "I", Cond.laysFinal RX12 RX12 "safe" "[J", Cond.laysFinal RX12 RX12 "cut" "[I", Cond.lays RX12 RX12 "policies" "I", Cond.laysFinal RX12 RX12 "isAlways" "[Z", Cond.laysFinal RX12 RX12 "policyFrom" "[I", Cond.laysFinal RX12 RX12 "policyTo" "[I", Cond.laysFinal RX12 RX12 "policyCare" "[I", Cond.laysFinal RX12 RX12 "policyValue" "[I", Cond.lays RX12 RX12 "typed" "I", Cond.laysFinal RX12 RX12 "text" "[C", Cond.lays RX12 RX12 "place" "I", Cond.lays RX12 RX12 "isGood" "Z", Cond.lays RX12 RX12 "readCare" "I", Cond.lays RX12 RX12 "readValue" "I", Cond.lays RX12 RX12 "written" "I", Cond.laysFinal RX12 RX12 "line" "[I"], w ∈ lw_g from (List.forall_mem_cons.mpr ⟨tw937, (List.forall_mem_cons.mpr ⟨tw939, (List.forall_mem_cons.mpr ⟨tw941, (List.forall_mem_cons.mpr ⟨tw943, (List.forall_mem_cons.mpr ⟨tw945, (List.forall_mem_cons.mpr ⟨tw947, (List.forall_mem_cons.mpr ⟨tw949, (List.forall_mem_cons.mpr ⟨tw951, (List.forall_mem_cons.mpr ⟨tw953, (List.forall_mem_cons.mpr ⟨tw955, (List.forall_mem_cons.mpr ⟨tw957, (List.forall_mem_cons.mpr ⟨tw959, (List.forall_mem_cons.mpr ⟨tw961, (List.forall_mem_cons.mpr ⟨tw963, (List.forall_mem_cons.mpr ⟨tw965, (List.forall_mem_cons.mpr ⟨tw967, (List.forall_mem_cons.mpr ⟨tw969, (List.forall_mem_cons.mpr ⟨tw971, (List.forall_mem_cons.mpr ⟨tw973, (List.forall_mem_cons.mpr ⟨tw975, (List.forall_mem_cons.mpr ⟨tw977, (List.forall_mem_cons.mpr ⟨tw979, (List.forall_mem_cons.mpr ⟨tw981, (List.forall_mem_cons.mpr ⟨tw983, (List.forall_mem_cons.mpr ⟨tw985, (List.forall_mem_cons.mpr ⟨tw987, (List.forall_mem_cons.mpr ⟨tw989, (List.forall_mem_cons.mpr ⟨tw991, (List.forall_mem_cons.mpr ⟨tw993, (List.forall_mem_cons.mpr ⟨tw995, (List.forall_mem_cons.mpr ⟨tw997, (List.forall_mem_cons.mpr ⟨tw999, (List.forall_mem_cons.mpr ⟨tw1001, (fun _ h => absurd h List.not_mem_nil)⟩)⟩)⟩)⟩)⟩)⟩)⟩)⟩)⟩)⟩)⟩)⟩)⟩)⟩)⟩)⟩)⟩)⟩)⟩)⟩)⟩)⟩)⟩)⟩)⟩)⟩)⟩)⟩)⟩)⟩)⟩)⟩)⟩)
