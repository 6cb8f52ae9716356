/-! ===== the words that every method may use: those of the tables that stay ===== -/
def zG : List Cond := lw_tbl.filter goodWord
theorem zG_of {w : Cond} (h : w ∈ lw_tbl) (hg : goodWord w = true) : w ∈ zG := List.mem_filter.mpr ⟨h, hg⟩
theorem zgi {L : List Cond} (h : ∀ w ∈ L, w ∈ zG) : GoodIn zG L := fun w hw => ⟨h w hw, good_of_word (List.mem_filter.mp (h w hw)).2⟩
theorem zgc {w : Cond} (h : w ∈ zG) : GoodIn zG (w :: zG) := zgi (fun v hv => (List.mem_cons.mp hv).elim (fun e => e ▸ h) id)
theorem zt1 {w : Cond} (h : w ∈ tables_1_1) : w ∈ lw_tbl := List.mem_append_right _ (show w ∈ tables_1_1 ++ (tables_1_2 ++ (tables_1_3 ++ (tables_1_4 ++ (tables_1_5 ++ tables_1_6)))) from List.mem_append_left _ h)
theorem zt2 {w : Cond} (h : w ∈ tables_1_2) : w ∈ lw_tbl := List.mem_append_right _ (show w ∈ tables_1_1 ++ (tables_1_2 ++ (tables_1_3 ++ (tables_1_4 ++ (tables_1_5 ++ tables_1_6)))) from List.mem_append_right _ (List.mem_append_left _ h))
theorem zt3 {w : Cond} (h : w ∈ tables_1_3) : w ∈ lw_tbl := List.mem_append_right _ (show w ∈ tables_1_1 ++ (tables_1_2 ++ (tables_1_3 ++ (tables_1_4 ++ (tables_1_5 ++ tables_1_6)))) from List.mem_append_right _ (List.mem_append_right _ (List.mem_append_left _ h)))
theorem zt4 {w : Cond} (h : w ∈ tables_1_4) : w ∈ lw_tbl := List.mem_append_right _ (show w ∈ tables_1_1 ++ (tables_1_2 ++ (tables_1_3 ++ (tables_1_4 ++ (tables_1_5 ++ tables_1_6)))) from List.mem_append_right _ (List.mem_append_right _ (List.mem_append_right _ (List.mem_append_left _ h))))
theorem zt5 {w : Cond} (h : w ∈ tables_1_5) : w ∈ lw_tbl := List.mem_append_right _ (show w ∈ tables_1_1 ++ (tables_1_2 ++ (tables_1_3 ++ (tables_1_4 ++ (tables_1_5 ++ tables_1_6)))) from List.mem_append_right _ (List.mem_append_right _ (List.mem_append_right _ (List.mem_append_right _ (List.mem_append_left _ h)))))
theorem zt6 {w : Cond} (h : w ∈ tables_1_6) : w ∈ lw_tbl := List.mem_append_right _ (show w ∈ tables_1_1 ++ (tables_1_2 ++ (tables_1_3 ++ (tables_1_4 ++ (tables_1_5 ++ tables_1_6)))) from List.mem_append_right _ (List.mem_append_right _ (List.mem_append_right _ (List.mem_append_right _ (List.mem_append_right _ (h))))))
theorem zp {q : MethodName × Nat} (h : q ∈ lw_privs) : Cond.selects q.1.cls q.1 q.1 ∈ lw_tbl := List.mem_append_left _ (List.mem_map.mpr ⟨q, h, rfl⟩)
theorem zp1 {q : MethodName × Nat} (h : q ∈ lw_privs_1) : q ∈ lw_privs := (show q ∈ lw_privs_1 ++ (lw_privs_2 ++ (lw_privs_3 ++ (lw_privs_4 ++ (lw_privs_5 ++ (lw_privs_6 ++ (lw_privs_7)))))) from List.mem_append_left _ h)
theorem zp2 {q : MethodName × Nat} (h : q ∈ lw_privs_2) : q ∈ lw_privs := (show q ∈ lw_privs_1 ++ (lw_privs_2 ++ (lw_privs_3 ++ (lw_privs_4 ++ (lw_privs_5 ++ (lw_privs_6 ++ (lw_privs_7)))))) from List.mem_append_right _ (List.mem_append_left _ h))
theorem zp3 {q : MethodName × Nat} (h : q ∈ lw_privs_3) : q ∈ lw_privs := (show q ∈ lw_privs_1 ++ (lw_privs_2 ++ (lw_privs_3 ++ (lw_privs_4 ++ (lw_privs_5 ++ (lw_privs_6 ++ (lw_privs_7)))))) from List.mem_append_right _ (List.mem_append_right _ (List.mem_append_left _ h)))
theorem zp4 {q : MethodName × Nat} (h : q ∈ lw_privs_4) : q ∈ lw_privs := (show q ∈ lw_privs_1 ++ (lw_privs_2 ++ (lw_privs_3 ++ (lw_privs_4 ++ (lw_privs_5 ++ (lw_privs_6 ++ (lw_privs_7)))))) from List.mem_append_right _ (List.mem_append_right _ (List.mem_append_right _ (List.mem_append_left _ h))))
theorem zp5 {q : MethodName × Nat} (h : q ∈ lw_privs_5) : q ∈ lw_privs := (show q ∈ lw_privs_1 ++ (lw_privs_2 ++ (lw_privs_3 ++ (lw_privs_4 ++ (lw_privs_5 ++ (lw_privs_6 ++ (lw_privs_7)))))) from List.mem_append_right _ (List.mem_append_right _ (List.mem_append_right _ (List.mem_append_right _ (List.mem_append_left _ h)))))
theorem zp6 {q : MethodName × Nat} (h : q ∈ lw_privs_6) : q ∈ lw_privs := (show q ∈ lw_privs_1 ++ (lw_privs_2 ++ (lw_privs_3 ++ (lw_privs_4 ++ (lw_privs_5 ++ (lw_privs_6 ++ (lw_privs_7)))))) from List.mem_append_right _ (List.mem_append_right _ (List.mem_append_right _ (List.mem_append_right _ (List.mem_append_right _ (List.mem_append_left _ h))))))
theorem zp7 {q : MethodName × Nat} (h : q ∈ lw_privs_7) : q ∈ lw_privs := (show q ∈ lw_privs_1 ++ (lw_privs_2 ++ (lw_privs_3 ++ (lw_privs_4 ++ (lw_privs_5 ++ (lw_privs_6 ++ (lw_privs_7)))))) from List.mem_append_right _ (List.mem_append_right _ (List.mem_append_right _ (List.mem_append_right _ (List.mem_append_right _ (List.mem_append_right _ (h)))))))
theorem zw0 : Cond.initialized RL ∈ zG := zG_of (zt1 (List.mem_of_getElem? (i := 0) rfl)) rfl
theorem zw1 : Cond.initialized RX11 ∈ zG := zG_of (zt1 (List.mem_of_getElem? (i := 1) rfl)) rfl
theorem zw2 : Cond.initialized RX10 ∈ zG := zG_of (zt1 (List.mem_of_getElem? (i := 2) rfl)) rfl
theorem zw3 : Cond.initialized RX5 ∈ zG := zG_of (zt1 (List.mem_of_getElem? (i := 3) rfl)) rfl
theorem zw4 : Cond.initialized RX8 ∈ zG := zG_of (zt1 (List.mem_of_getElem? (i := 4) rfl)) rfl
theorem zw5 : Cond.initialized RX4 ∈ zG := zG_of (zt1 (List.mem_of_getElem? (i := 5) rfl)) rfl
theorem zw6 : Cond.initialized RX9 ∈ zG := zG_of (zt1 (List.mem_of_getElem? (i := 6) rfl)) rfl
theorem zw7 : Cond.initialized RX3 ∈ zG := zG_of (zt1 (List.mem_of_getElem? (i := 7) rfl)) rfl
theorem zw8 : Cond.initialized RX7 ∈ zG := zG_of (zt1 (List.mem_of_getElem? (i := 8) rfl)) rfl
theorem zw9 : Cond.initialized RX6 ∈ zG := zG_of (zt1 (List.mem_of_getElem? (i := 9) rfl)) rfl
theorem zw10 : Cond.initialized RX0 ∈ zG := zG_of (zt1 (List.mem_of_getElem? (i := 10) rfl)) rfl
theorem zw11 : Cond.initialized RX2 ∈ zG := zG_of (zt1 (List.mem_of_getElem? (i := 11) rfl)) rfl
theorem zw12 : Cond.initialized RX1 ∈ zG := zG_of (zt1 (List.mem_of_getElem? (i := 12) rfl)) rfl
theorem zw13 : Cond.initialized RX12 ∈ zG := zG_of (zt1 (List.mem_of_getElem? (i := 13) rfl)) rfl
theorem zw14 : Cond.initialized RJ9 ∈ zG := zG_of (zt1 (List.mem_of_getElem? (i := 14) rfl)) rfl
theorem zw15 : Cond.initialized RJ0 ∈ zG := zG_of (zt1 (List.mem_of_getElem? (i := 15) rfl)) rfl
theorem zw16 : Cond.initialized RJ1 ∈ zG := zG_of (zt1 (List.mem_of_getElem? (i := 16) rfl)) rfl
theorem zw17 : Cond.initialized RJ3 ∈ zG := zG_of (zt1 (List.mem_of_getElem? (i := 17) rfl)) rfl
theorem zw18 : Cond.initialized RJ2 ∈ zG := zG_of (zt1 (List.mem_of_getElem? (i := 18) rfl)) rfl
theorem zw19 : Cond.initialized RJ10 ∈ zG := zG_of (zt1 (List.mem_of_getElem? (i := 19) rfl)) rfl
theorem zw20 : Cond.classLink RL 7 RX11 ∈ zG := zG_of (zt1 (List.mem_of_getElem? (i := 20) rfl)) rfl
theorem zw21 : Cond.instantiable RX11 13 ∈ zG := zG_of (zt1 (List.mem_of_getElem? (i := 21) rfl)) rfl
theorem zw22 : Cond.methodLink RL 9 yX11_init ∈ zG := zG_of (zt1 (List.mem_of_getElem? (i := 22) rfl)) rfl
theorem zw23 : Cond.instanceMethod yX11_init ∈ zG := zG_of (zt1 (List.mem_of_getElem? (i := 23) rfl)) rfl
theorem zw24 : Cond.code yX11_init cX11_init 1 none ∈ zG := zG_of (zt1 (List.mem_of_getElem? (i := 24) rfl)) rfl
theorem zw25 : Cond.methodLink RX11 3 objectInit ∈ zG := zG_of (zt1 (List.mem_of_getElem? (i := 25) rfl)) rfl
theorem zw26 : Cond.instanceMethod objectInit ∈ zG := zG_of (zt1 (List.mem_of_getElem? (i := 26) rfl)) rfl
theorem zw27 : Cond.code objectInit ⟨#[0xb1]⟩ 1 none ∈ zG := zG_of (zt1 (List.mem_of_getElem? (i := 27) rfl)) rfl
theorem zw28 : Cond.classLink RX11 9 RX3 ∈ zG := zG_of (zt1 (List.mem_of_getElem? (i := 28) rfl)) rfl
theorem zw29 : Cond.classLink RX11 15 RX10 ∈ zG := zG_of (zt1 (List.mem_of_getElem? (i := 30) rfl)) rfl
theorem zw30 : Cond.instantiable RX10 10 ∈ zG := zG_of (zt1 (List.mem_of_getElem? (i := 31) rfl)) rfl
theorem zw31 : Cond.instanceMethod yX10_init ∈ zG := zG_of (zt1 (List.mem_of_getElem? (i := 33) rfl)) rfl
theorem zw32 : Cond.code yX10_init cX10_init 1 none ∈ zG := zG_of (zt1 (List.mem_of_getElem? (i := 34) rfl)) rfl
theorem zw33 : Cond.methodLink RX10 3 objectInit ∈ zG := zG_of (zt1 (List.mem_of_getElem? (i := 35) rfl)) rfl
theorem zw34 : Cond.classLink RX10 9 RX5 ∈ zG := zG_of (zt1 (List.mem_of_getElem? (i := 36) rfl)) rfl
theorem zw35 : Cond.instantiable RX5 4 ∈ zG := zG_of (zt1 (List.mem_of_getElem? (i := 37) rfl)) rfl
theorem zw36 : Cond.instanceMethod yX5_init ∈ zG := zG_of (zt1 (List.mem_of_getElem? (i := 39) rfl)) rfl
theorem zw37 : Cond.code yX5_init cX5_init 1 none ∈ zG := zG_of (zt1 (List.mem_of_getElem? (i := 40) rfl)) rfl
theorem zw38 : Cond.methodLink RX5 3 objectInit ∈ zG := zG_of (zt1 (List.mem_of_getElem? (i := 41) rfl)) rfl
theorem zw39 : Cond.fieldLink RX5 9 RX5 "length" "I" ∈ zG := zG_of (zt1 (List.mem_of_getElem? (i := 42) rfl)) rfl
theorem zw40 : Cond.fieldLink RX5 15 RX5 "hold" "I" ∈ zG := zG_of (zt1 (List.mem_of_getElem? (i := 47) rfl)) rfl
theorem zw41 : Cond.fieldLink RX5 18 RX5 "cobbles" "[I" ∈ zG := zG_of (zt1 (List.mem_of_getElem? (i := 50) rfl)) rfl
theorem zw42 : Cond.fieldLink RX5 22 RX5 "winds" "[I" ∈ zG := zG_of (zt1 (List.mem_of_getElem? (i := 51) rfl)) rfl
theorem zw43 : Cond.lays "SmallCrown$Road" "SmallCrown$Road" "length" "I" ∈ zG := zG_of (zt1 (List.mem_of_getElem? (i := 52) rfl)) rfl
theorem zw44 : Cond.lays "SmallCrown$Road" "SmallCrown$Road" "hold" "I" ∈ zG := zG_of (zt1 (List.mem_of_getElem? (i := 54) rfl)) rfl
theorem zw45 : Cond.laysFinal "SmallCrown$Road" "SmallCrown$Road" "cobbles" "[I" ∈ zG := zG_of (zt1 (List.mem_of_getElem? (i := 56) rfl)) rfl
theorem zw46 : Cond.laysFinal "SmallCrown$Road" "SmallCrown$Road" "winds" "[I" ∈ zG := zG_of (zt1 (List.mem_of_getElem? (i := 58) rfl)) rfl
theorem zw47 : Cond.superclass RX5 "java/lang/Object" ∈ zG := zG_of (zt1 (List.mem_of_getElem? (i := 60) rfl)) rfl
theorem zw48 : Cond.arrayClass .int ∈ zG := zG_of (zt1 (List.mem_of_getElem? (i := 61) rfl)) rfl
theorem zw49 : Cond.classLink RX10 18 RX8 ∈ zG := zG_of (zt1 (List.mem_of_getElem? (i := 62) rfl)) rfl
theorem zw50 : Cond.instantiable RX8 8 ∈ zG := zG_of (zt1 (List.mem_of_getElem? (i := 63) rfl)) rfl
theorem zw51 : Cond.instanceMethod yX8_init ∈ zG := zG_of (zt1 (List.mem_of_getElem? (i := 65) rfl)) rfl
theorem zw52 : Cond.code yX8_init cX8_init 1 none ∈ zG := zG_of (zt1 (List.mem_of_getElem? (i := 66) rfl)) rfl
theorem zw53 : Cond.methodLink RX8 3 objectInit ∈ zG := zG_of (zt1 (List.mem_of_getElem? (i := 67) rfl)) rfl
theorem zw54 : Cond.fieldLink RX8 9 RX8 "head" "I" ∈ zG := zG_of (zt1 (List.mem_of_getElem? (i := 68) rfl)) rfl
theorem zw55 : Cond.fieldLink RX8 15 RX8 "cell" "I" ∈ zG := zG_of (zt1 (List.mem_of_getElem? (i := 70) rfl)) rfl
theorem zw56 : Cond.fieldLink RX8 18 RX8 "step" "I" ∈ zG := zG_of (zt1 (List.mem_of_getElem? (i := 72) rfl)) rfl
theorem zw57 : Cond.fieldLink RX8 21 RX8 "lean" "I" ∈ zG := zG_of (zt1 (List.mem_of_getElem? (i := 74) rfl)) rfl
theorem zw58 : Cond.fieldLink RX8 24 RX8 "kept" "I" ∈ zG := zG_of (zt1 (List.mem_of_getElem? (i := 76) rfl)) rfl
theorem zw59 : Cond.fieldLink RX8 27 RX8 "keptCells" "[I" ∈ zG := zG_of (zt1 (List.mem_of_getElem? (i := 78) rfl)) rfl
theorem zw60 : Cond.fieldLink RX8 31 RX8 "keptSteps" "[I" ∈ zG := zG_of (zt1 (List.mem_of_getElem? (i := 79) rfl)) rfl
theorem zw61 : Cond.fieldLink RX8 34 RX8 "keptLeans" "[I" ∈ zG := zG_of (zt1 (List.mem_of_getElem? (i := 80) rfl)) rfl
theorem zw62 : Cond.lays "SmallCrown$Walk" "SmallCrown$Walk" "head" "I" ∈ zG := zG_of (zt1 (List.mem_of_getElem? (i := 81) rfl)) rfl
theorem zw63 : Cond.lays "SmallCrown$Walk" "SmallCrown$Walk" "cell" "I" ∈ zG := zG_of (zt1 (List.mem_of_getElem? (i := 83) rfl)) rfl
theorem zw64 : Cond.lays "SmallCrown$Walk" "SmallCrown$Walk" "step" "I" ∈ zG := zG_of (zt1 (List.mem_of_getElem? (i := 85) rfl)) rfl
theorem zw65 : Cond.lays "SmallCrown$Walk" "SmallCrown$Walk" "lean" "I" ∈ zG := zG_of (zt1 (List.mem_of_getElem? (i := 87) rfl)) rfl
theorem zw66 : Cond.lays "SmallCrown$Walk" "SmallCrown$Walk" "kept" "I" ∈ zG := zG_of (zt1 (List.mem_of_getElem? (i := 89) rfl)) rfl
theorem zw67 : Cond.laysFinal "SmallCrown$Walk" "SmallCrown$Walk" "keptCells" "[I" ∈ zG := zG_of (zt1 (List.mem_of_getElem? (i := 91) rfl)) rfl
theorem zw68 : Cond.laysFinal "SmallCrown$Walk" "SmallCrown$Walk" "keptSteps" "[I" ∈ zG := zG_of (zt1 (List.mem_of_getElem? (i := 93) rfl)) rfl
theorem zw69 : Cond.laysFinal "SmallCrown$Walk" "SmallCrown$Walk" "keptLeans" "[I" ∈ zG := zG_of (zt1 (List.mem_of_getElem? (i := 95) rfl)) rfl
theorem zw70 : Cond.superclass RX8 "java/lang/Object" ∈ zG := zG_of (zt1 (List.mem_of_getElem? (i := 97) rfl)) rfl
theorem zw71 : Cond.fieldLink RX10 12 RX10 "road" "LSmallCrown$Road;" ∈ zG := zG_of (zt1 (List.mem_of_getElem? (i := 98) rfl)) rfl
theorem zw72 : Cond.fieldLink RX10 21 RX10 "walk" "LSmallCrown$Walk;" ∈ zG := zG_of (zt1 (List.mem_of_getElem? (i := 101) rfl)) rfl
theorem zw73 : Cond.fieldLink RX10 25 RX10 "heads" "I" ∈ zG := zG_of (zt1 (List.mem_of_getElem? (i := 103) rfl)) rfl
theorem zw74 : Cond.fieldLink RX10 29 RX10 "headKinds" "[I" ∈ zG := zG_of (zt1 (List.mem_of_getElem? (i := 106) rfl)) rfl
theorem zw75 : Cond.fieldLink RX10 33 RX10 "headSets" "[I" ∈ zG := zG_of (zt1 (List.mem_of_getElem? (i := 107) rfl)) rfl
theorem zw76 : Cond.fieldLink RX10 36 RX10 "notes" "I" ∈ zG := zG_of (zt1 (List.mem_of_getElem? (i := 108) rfl)) rfl
theorem zw77 : Cond.fieldLink RX10 39 RX10 "noteHeads" "[I" ∈ zG := zG_of (zt1 (List.mem_of_getElem? (i := 110) rfl)) rfl
theorem zw78 : Cond.fieldLink RX10 42 RX10 "noteSteps" "[I" ∈ zG := zG_of (zt1 (List.mem_of_getElem? (i := 112) rfl)) rfl
theorem zw79 : Cond.fieldLink RX10 45 RX10 "noteRows" "[I" ∈ zG := zG_of (zt1 (List.mem_of_getElem? (i := 114) rfl)) rfl
theorem zw80 : Cond.fieldLink RX10 48 RX10 "noteCells" "[I" ∈ zG := zG_of (zt1 (List.mem_of_getElem? (i := 116) rfl)) rfl
theorem zw81 : Cond.laysFinal "SmallCrown$World" "SmallCrown$World" "road" "LSmallCrown$Road;" ∈ zG := zG_of (zt1 (List.mem_of_getElem? (i := 118) rfl)) rfl
theorem zw82 : Cond.laysFinal "SmallCrown$World" "SmallCrown$World" "walk" "LSmallCrown$Walk;" ∈ zG := zG_of (zt1 (List.mem_of_getElem? (i := 120) rfl)) rfl
theorem zw83 : Cond.lays "SmallCrown$World" "SmallCrown$World" "heads" "I" ∈ zG := zG_of (zt1 (List.mem_of_getElem? (i := 122) rfl)) rfl
theorem zw84 : Cond.laysFinal "SmallCrown$World" "SmallCrown$World" "headKinds" "[I" ∈ zG := zG_of (zt1 (List.mem_of_getElem? (i := 124) rfl)) rfl
theorem zw85 : Cond.laysFinal "SmallCrown$World" "SmallCrown$World" "headSets" "[I" ∈ zG := zG_of (zt1 (List.mem_of_getElem? (i := 126) rfl)) rfl
theorem zw86 : Cond.lays "SmallCrown$World" "SmallCrown$World" "notes" "I" ∈ zG := zG_of (zt1 (List.mem_of_getElem? (i := 128) rfl)) rfl
theorem zw87 : Cond.laysFinal "SmallCrown$World" "SmallCrown$World" "noteHeads" "[I" ∈ zG := zG_of (zt1 (List.mem_of_getElem? (i := 130) rfl)) rfl
theorem zw88 : Cond.laysFinal "SmallCrown$World" "SmallCrown$World" "noteSteps" "[I" ∈ zG := zG_of (zt1 (List.mem_of_getElem? (i := 132) rfl)) rfl
theorem zw89 : Cond.laysFinal "SmallCrown$World" "SmallCrown$World" "noteRows" "[I" ∈ zG := zG_of (zt1 (List.mem_of_getElem? (i := 134) rfl)) rfl
theorem zw90 : Cond.laysFinal "SmallCrown$World" "SmallCrown$World" "noteCells" "[I" ∈ zG := zG_of (zt1 (List.mem_of_getElem? (i := 136) rfl)) rfl
theorem zw91 : Cond.superclass RX10 "java/lang/Object" ∈ zG := zG_of (zt1 (List.mem_of_getElem? (i := 138) rfl)) rfl
theorem zw92 : Cond.classLink RX11 29 RX4 ∈ zG := zG_of (zt1 (List.mem_of_getElem? (i := 140) rfl)) rfl
theorem zw93 : Cond.instantiable RX4 5 ∈ zG := zG_of (zt1 (List.mem_of_getElem? (i := 141) rfl)) rfl
theorem zw94 : Cond.instanceMethod yX4_init ∈ zG := zG_of (zt1 (List.mem_of_getElem? (i := 143) rfl)) rfl
theorem zw95 : Cond.code yX4_init cX4_init 1 none ∈ zG := zG_of (zt1 (List.mem_of_getElem? (i := 144) rfl)) rfl
theorem zw96 : Cond.methodLink RX4 3 objectInit ∈ zG := zG_of (zt1 (List.mem_of_getElem? (i := 145) rfl)) rfl
theorem zw97 : Cond.fieldLink RX4 9 RX4 "text" "[I" ∈ zG := zG_of (zt1 (List.mem_of_getElem? (i := 146) rfl)) rfl
theorem zw98 : Cond.fieldLink RX4 15 RX4 "length" "I" ∈ zG := zG_of (zt1 (List.mem_of_getElem? (i := 147) rfl)) rfl
theorem zw99 : Cond.fieldLink RX4 19 RX4 "sort" "I" ∈ zG := zG_of (zt1 (List.mem_of_getElem? (i := 149) rfl)) rfl
theorem zw100 : Cond.fieldLink RX4 22 RX4 "start" "I" ∈ zG := zG_of (zt1 (List.mem_of_getElem? (i := 150) rfl)) rfl
theorem zw101 : Cond.fieldLink RX4 25 RX4 "end" "I" ∈ zG := zG_of (zt1 (List.mem_of_getElem? (i := 152) rfl)) rfl
theorem zw102 : Cond.laysFinal "SmallCrown$Reader" "SmallCrown$Reader" "text" "[I" ∈ zG := zG_of (zt1 (List.mem_of_getElem? (i := 153) rfl)) rfl
theorem zw103 : Cond.lays "SmallCrown$Reader" "SmallCrown$Reader" "length" "I" ∈ zG := zG_of (zt1 (List.mem_of_getElem? (i := 155) rfl)) rfl
theorem zw104 : Cond.lays "SmallCrown$Reader" "SmallCrown$Reader" "sort" "I" ∈ zG := zG_of (zt1 (List.mem_of_getElem? (i := 157) rfl)) rfl
theorem zw105 : Cond.lays "SmallCrown$Reader" "SmallCrown$Reader" "start" "I" ∈ zG := zG_of (zt1 (List.mem_of_getElem? (i := 159) rfl)) rfl
theorem zw106 : Cond.lays "SmallCrown$Reader" "SmallCrown$Reader" "end" "I" ∈ zG := zG_of (zt1 (List.mem_of_getElem? (i := 161) rfl)) rfl
theorem zw107 : Cond.superclass RX4 "java/lang/Object" ∈ zG := zG_of (zt1 (List.mem_of_getElem? (i := 163) rfl)) rfl
theorem zw108 : Cond.classLink RX11 36 RX8 ∈ zG := zG_of (zt1 (List.mem_of_getElem? (i := 164) rfl)) rfl
theorem zw109 : Cond.classLink RX11 43 RX9 ∈ zG := zG_of (zt1 (List.mem_of_getElem? (i := 166) rfl)) rfl
theorem zw110 : Cond.instantiable RX9 3 ∈ zG := zG_of (zt1 (List.mem_of_getElem? (i := 167) rfl)) rfl
theorem zw111 : Cond.instanceMethod yX9_init ∈ zG := zG_of (zt1 (List.mem_of_getElem? (i := 169) rfl)) rfl
theorem zw112 : Cond.code yX9_init cX9_init 1 none ∈ zG := zG_of (zt1 (List.mem_of_getElem? (i := 170) rfl)) rfl
theorem zw113 : Cond.methodLink RX9 3 objectInit ∈ zG := zG_of (zt1 (List.mem_of_getElem? (i := 171) rfl)) rfl
theorem zw114 : Cond.fieldLink RX9 11 RX9 "costs" "[I" ∈ zG := zG_of (zt1 (List.mem_of_getElem? (i := 172) rfl)) rfl
theorem zw115 : Cond.fieldLink RX9 15 RX9 "chances" "[J" ∈ zG := zG_of (zt1 (List.mem_of_getElem? (i := 173) rfl)) rfl
theorem zw116 : Cond.fieldLink RX9 19 RX9 "nextChances" "[J" ∈ zG := zG_of (zt1 (List.mem_of_getElem? (i := 174) rfl)) rfl
theorem zw117 : Cond.laysFinal "SmallCrown$Ways" "SmallCrown$Ways" "costs" "[I" ∈ zG := zG_of (zt1 (List.mem_of_getElem? (i := 175) rfl)) rfl
theorem zw118 : Cond.laysFinal "SmallCrown$Ways" "SmallCrown$Ways" "chances" "[J" ∈ zG := zG_of (zt1 (List.mem_of_getElem? (i := 177) rfl)) rfl
theorem zw119 : Cond.laysFinal "SmallCrown$Ways" "SmallCrown$Ways" "nextChances" "[J" ∈ zG := zG_of (zt1 (List.mem_of_getElem? (i := 179) rfl)) rfl
theorem zw120 : Cond.superclass RX9 "java/lang/Object" ∈ zG := zG_of (zt1 (List.mem_of_getElem? (i := 181) rfl)) rfl
theorem zw121 : Cond.arrayClass .long ∈ zG := zG_of (zt1 (List.mem_of_getElem? (i := 182) rfl)) rfl
theorem zw122 : Cond.instantiable RX3 0 ∈ zG := zG_of (zt1 (List.mem_of_getElem? (i := 183) rfl)) rfl
theorem zw123 : Cond.instanceMethod yX3_init ∈ zG := zG_of (zt1 (List.mem_of_getElem? (i := 185) rfl)) rfl
theorem zw124 : Cond.code yX3_init cX3_init 1 none ∈ zG := zG_of (zt1 (List.mem_of_getElem? (i := 186) rfl)) rfl
theorem zw125 : Cond.methodLink RX3 1 objectInit ∈ zG := zG_of (zt1 (List.mem_of_getElem? (i := 187) rfl)) rfl
theorem zw126 : Cond.superclass RX3 "java/lang/Object" ∈ zG := zG_of (zt1 (List.mem_of_getElem? (i := 188) rfl)) rfl
theorem zw127 : Cond.classLink RX11 72 RX7 ∈ zG := zG_of (zt1 (List.mem_of_getElem? (i := 189) rfl)) rfl
theorem zw128 : Cond.instantiable RX7 0 ∈ zG := zG_of (zt1 (List.mem_of_getElem? (i := 190) rfl)) rfl
theorem zw129 : Cond.instanceMethod yX7_init ∈ zG := zG_of (zt1 (List.mem_of_getElem? (i := 192) rfl)) rfl
theorem zw130 : Cond.code yX7_init cX7_init 1 none ∈ zG := zG_of (zt1 (List.mem_of_getElem? (i := 193) rfl)) rfl
theorem zw131 : Cond.superclass RX7 RX3 ∈ zG := zG_of (zt1 (List.mem_of_getElem? (i := 195) rfl)) rfl
theorem zw132 : Cond.classLink RX11 75 RX6 ∈ zG := zG_of (zt1 (List.mem_of_getElem? (i := 196) rfl)) rfl
theorem zw133 : Cond.instantiable RX6 0 ∈ zG := zG_of (zt1 (List.mem_of_getElem? (i := 197) rfl)) rfl
theorem zw134 : Cond.instanceMethod yX6_init ∈ zG := zG_of (zt1 (List.mem_of_getElem? (i := 199) rfl)) rfl
theorem zw135 : Cond.code yX6_init cX6_init 1 none ∈ zG := zG_of (zt1 (List.mem_of_getElem? (i := 200) rfl)) rfl
theorem zw136 : Cond.superclass RX6 RX3 ∈ zG := zG_of (zt1 (List.mem_of_getElem? (i := 202) rfl)) rfl
theorem zw137 : Cond.classLink RX11 78 RX0 ∈ zG := zG_of (zt1 (List.mem_of_getElem? (i := 203) rfl)) rfl
theorem zw138 : Cond.instantiable RX0 0 ∈ zG := zG_of (zt1 (List.mem_of_getElem? (i := 204) rfl)) rfl
theorem zw139 : Cond.instanceMethod yX0_init ∈ zG := zG_of (zt1 (List.mem_of_getElem? (i := 206) rfl)) rfl
theorem zw140 : Cond.code yX0_init cX0_init 1 none ∈ zG := zG_of (zt1 (List.mem_of_getElem? (i := 207) rfl)) rfl
theorem zw141 : Cond.superclass RX0 RX7 ∈ zG := zG_of (zt1 (List.mem_of_getElem? (i := 209) rfl)) rfl
theorem zw142 : Cond.classLink RX11 81 RX2 ∈ zG := zG_of (zt1 (List.mem_of_getElem? (i := 210) rfl)) rfl
theorem zw143 : Cond.instantiable RX2 0 ∈ zG := zG_of (zt1 (List.mem_of_getElem? (i := 211) rfl)) rfl
theorem zw144 : Cond.instanceMethod yX2_init ∈ zG := zG_of (zt1 (List.mem_of_getElem? (i := 213) rfl)) rfl
theorem zw145 : Cond.code yX2_init cX2_init 1 none ∈ zG := zG_of (zt1 (List.mem_of_getElem? (i := 214) rfl)) rfl
theorem zw146 : Cond.superclass RX2 RX7 ∈ zG := zG_of (zt1 (List.mem_of_getElem? (i := 216) rfl)) rfl
theorem zw147 : Cond.classLink RX11 84 RX1 ∈ zG := zG_of (zt1 (List.mem_of_getElem? (i := 217) rfl)) rfl
theorem zw148 : Cond.instantiable RX1 0 ∈ zG := zG_of (zt1 (List.mem_of_getElem? (i := 218) rfl)) rfl
theorem zw149 : Cond.instanceMethod yX1_init ∈ zG := zG_of (zt1 (List.mem_of_getElem? (i := 220) rfl)) rfl
theorem zw150 : Cond.code yX1_init cX1_init 1 none ∈ zG := zG_of (zt1 (List.mem_of_getElem? (i := 221) rfl)) rfl
theorem zw151 : Cond.superclass RX1 RX6 ∈ zG := zG_of (zt1 (List.mem_of_getElem? (i := 223) rfl)) rfl
theorem zw152 : Cond.fieldLink RX11 11 RX11 "kinds" "[LSmallCrown$Plain;" ∈ zG := zG_of (zt1 (List.mem_of_getElem? (i := 224) rfl)) rfl
theorem zw153 : Cond.fieldLink RX11 18 RX11 "world" "LSmallCrown$World;" ∈ zG := zG_of (zt1 (List.mem_of_getElem? (i := 225) rfl)) rfl
theorem zw154 : Cond.fieldLink RX11 22 RX11 "draft" "LSmallCrown$World;" ∈ zG := zG_of (zt1 (List.mem_of_getElem? (i := 226) rfl)) rfl
theorem zw155 : Cond.fieldLink RX11 25 RX11 "images" "[LSmallCrown$World;" ∈ zG := zG_of (zt1 (List.mem_of_getElem? (i := 227) rfl)) rfl
theorem zw156 : Cond.fieldLink RX11 32 RX11 "reader" "LSmallCrown$Reader;" ∈ zG := zG_of (zt1 (List.mem_of_getElem? (i := 228) rfl)) rfl
theorem zw157 : Cond.fieldLink RX11 39 RX11 "trial" "LSmallCrown$Walk;" ∈ zG := zG_of (zt1 (List.mem_of_getElem? (i := 229) rfl)) rfl
theorem zw158 : Cond.fieldLink RX11 46 RX11 "ways" "LSmallCrown$Ways;" ∈ zG := zG_of (zt1 (List.mem_of_getElem? (i := 230) rfl)) rfl
theorem zw159 : Cond.fieldLink RX11 50 RX11 "ends" "[I" ∈ zG := zG_of (zt1 (List.mem_of_getElem? (i := 231) rfl)) rfl
theorem zw160 : Cond.fieldLink RX11 54 RX11 "above" "J" ∈ zG := zG_of (zt1 (List.mem_of_getElem? (i := 232) rfl)) rfl
theorem zw161 : Cond.fieldLink RX11 58 RX11 "below" "J" ∈ zG := zG_of (zt1 (List.mem_of_getElem? (i := 233) rfl)) rfl
theorem zw162 : Cond.fieldLink RX11 61 RX11 "refusedBad" "I" ∈ zG := zG_of (zt1 (List.mem_of_getElem? (i := 234) rfl)) rfl
theorem zw163 : Cond.fieldLink RX11 65 RX11 "refusedNo" "I" ∈ zG := zG_of (zt1 (List.mem_of_getElem? (i := 235) rfl)) rfl
theorem zw164 : Cond.fieldLink RX11 68 RX11 "refusedFull" "I" ∈ zG := zG_of (zt1 (List.mem_of_getElem? (i := 236) rfl)) rfl
theorem zw165 : Cond.laysFinal "SmallCrown" "SmallCrown" "kinds" "[LSmallCrown$Plain;" ∈ zG := zG_of (zt1 (List.mem_of_getElem? (i := 237) rfl)) rfl
theorem zw166 : Cond.laysFinal "SmallCrown" "SmallCrown" "world" "LSmallCrown$World;" ∈ zG := zG_of (zt1 (List.mem_of_getElem? (i := 239) rfl)) rfl
theorem zw167 : Cond.laysFinal "SmallCrown" "SmallCrown" "draft" "LSmallCrown$World;" ∈ zG := zG_of (zt2 (List.mem_of_getElem? (i := 1) rfl)) rfl
theorem zw168 : Cond.laysFinal "SmallCrown" "SmallCrown" "images" "[LSmallCrown$World;" ∈ zG := zG_of (zt2 (List.mem_of_getElem? (i := 3) rfl)) rfl
theorem zw169 : Cond.laysFinal "SmallCrown" "SmallCrown" "reader" "LSmallCrown$Reader;" ∈ zG := zG_of (zt2 (List.mem_of_getElem? (i := 5) rfl)) rfl
theorem zw170 : Cond.laysFinal "SmallCrown" "SmallCrown" "trial" "LSmallCrown$Walk;" ∈ zG := zG_of (zt2 (List.mem_of_getElem? (i := 7) rfl)) rfl
theorem zw171 : Cond.laysFinal "SmallCrown" "SmallCrown" "ways" "LSmallCrown$Ways;" ∈ zG := zG_of (zt2 (List.mem_of_getElem? (i := 9) rfl)) rfl
theorem zw172 : Cond.laysFinal "SmallCrown" "SmallCrown" "ends" "[I" ∈ zG := zG_of (zt2 (List.mem_of_getElem? (i := 11) rfl)) rfl
theorem zw173 : Cond.lays "SmallCrown" "SmallCrown" "above" "J" ∈ zG := zG_of (zt2 (List.mem_of_getElem? (i := 13) rfl)) rfl
theorem zw174 : Cond.lays "SmallCrown" "SmallCrown" "below" "J" ∈ zG := zG_of (zt2 (List.mem_of_getElem? (i := 15) rfl)) rfl
theorem zw175 : Cond.lays "SmallCrown" "SmallCrown" "refusedBad" "I" ∈ zG := zG_of (zt2 (List.mem_of_getElem? (i := 17) rfl)) rfl
theorem zw176 : Cond.lays "SmallCrown" "SmallCrown" "refusedNo" "I" ∈ zG := zG_of (zt2 (List.mem_of_getElem? (i := 19) rfl)) rfl
theorem zw177 : Cond.lays "SmallCrown" "SmallCrown" "refusedFull" "I" ∈ zG := zG_of (zt2 (List.mem_of_getElem? (i := 21) rfl)) rfl
theorem zw178 : Cond.superclass RX11 "java/lang/Object" ∈ zG := zG_of (zt2 (List.mem_of_getElem? (i := 23) rfl)) rfl
theorem zw179 : Cond.methodLink RL 13 yX11_road ∈ zG := zG_of (zt2 (List.mem_of_getElem? (i := 24) rfl)) rfl
theorem zw180 : Cond.instanceMethod yX11_road ∈ zG := zG_of (zt2 (List.mem_of_getElem? (i := 25) rfl)) rfl
theorem zw181 : Cond.selects RX11 yX11_road yX11_road ∈ zG := zG_of (zt2 (List.mem_of_getElem? (i := 26) rfl)) rfl
theorem zw182 : Cond.code yX11_road cX11_road 4 (some .int) ∈ zG := zG_of (zt2 (List.mem_of_getElem? (i := 27) rfl)) rfl
theorem zw183 : Cond.methodLink RX11 87 yX11_within ∈ zG := zG_of (zt2 (List.mem_of_getElem? (i := 28) rfl)) rfl
theorem zw184 : Cond.static yX11_within ∈ zG := zG_of (zt2 (List.mem_of_getElem? (i := 29) rfl)) rfl
theorem zw185 : Cond.code yX11_within cX11_within 3 (some .boolean) ∈ zG := zG_of (zt2 (List.mem_of_getElem? (i := 30) rfl)) rfl
theorem zw186 : Cond.methodLink RX11 91 yX11_bad ∈ zG := zG_of (zt2 (List.mem_of_getElem? (i := 31) rfl)) rfl
theorem zw187 : Cond.instanceMethod yX11_bad ∈ zG := zG_of (zt2 (List.mem_of_getElem? (i := 33) rfl)) rfl
theorem zw188 : Cond.code yX11_bad cX11_bad 2 (some .int) ∈ zG := zG_of (zt2 (List.mem_of_getElem? (i := 34) rfl)) rfl
theorem zw189 : Cond.instanceMethod yX10_beginAnew ∈ zG := zG_of (zt2 (List.mem_of_getElem? (i := 37) rfl)) rfl
theorem zw190 : Cond.code yX10_beginAnew cX10_beginAnew 3 none ∈ zG := zG_of (zt2 (List.mem_of_getElem? (i := 38) rfl)) rfl
theorem zw191 : Cond.instanceMethod yX5_beginAnew ∈ zG := zG_of (zt2 (List.mem_of_getElem? (i := 41) rfl)) rfl
theorem zw192 : Cond.code yX5_beginAnew cX5_beginAnew 4 none ∈ zG := zG_of (zt2 (List.mem_of_getElem? (i := 42) rfl)) rfl
theorem zw193 : Cond.instanceMethod yX8_begin ∈ zG := zG_of (zt2 (List.mem_of_getElem? (i := 45) rfl)) rfl
theorem zw194 : Cond.code yX8_begin cX8_begin 4 none ∈ zG := zG_of (zt2 (List.mem_of_getElem? (i := 46) rfl)) rfl
theorem zw195 : Cond.methodLink RL 18 yX11_cobble ∈ zG := zG_of (zt2 (List.mem_of_getElem? (i := 47) rfl)) rfl
theorem zw196 : Cond.instanceMethod yX11_cobble ∈ zG := zG_of (zt2 (List.mem_of_getElem? (i := 48) rfl)) rfl
theorem zw197 : Cond.selects RX11 yX11_cobble yX11_cobble ∈ zG := zG_of (zt2 (List.mem_of_getElem? (i := 49) rfl)) rfl
theorem zw198 : Cond.code yX11_cobble cX11_cobble 4 (some .int) ∈ zG := zG_of (zt2 (List.mem_of_getElem? (i := 50) rfl)) rfl
theorem zw199 : Cond.methodLink RX11 102 yX11_isCell ∈ zG := zG_of (zt2 (List.mem_of_getElem? (i := 51) rfl)) rfl
theorem zw200 : Cond.instanceMethod yX11_isCell ∈ zG := zG_of (zt2 (List.mem_of_getElem? (i := 53) rfl)) rfl
theorem zw201 : Cond.code yX11_isCell cX11_isCell 2 (some .boolean) ∈ zG := zG_of (zt2 (List.mem_of_getElem? (i := 54) rfl)) rfl
theorem zw202 : Cond.instanceMethod yX5_cobbleOf ∈ zG := zG_of (zt2 (List.mem_of_getElem? (i := 57) rfl)) rfl
theorem zw203 : Cond.code yX5_cobbleOf cX5_cobbleOf 2 (some .int) ∈ zG := zG_of (zt2 (List.mem_of_getElem? (i := 58) rfl)) rfl
theorem zw204 : Cond.instanceMethod yX5_layCobble ∈ zG := zG_of (zt2 (List.mem_of_getElem? (i := 62) rfl)) rfl
theorem zw205 : Cond.code yX5_layCobble cX5_layCobble 3 none ∈ zG := zG_of (zt2 (List.mem_of_getElem? (i := 63) rfl)) rfl
theorem zw206 : Cond.methodLink RL 22 yX11_wind ∈ zG := zG_of (zt2 (List.mem_of_getElem? (i := 64) rfl)) rfl
theorem zw207 : Cond.instanceMethod yX11_wind ∈ zG := zG_of (zt2 (List.mem_of_getElem? (i := 65) rfl)) rfl
theorem zw208 : Cond.selects RX11 yX11_wind yX11_wind ∈ zG := zG_of (zt2 (List.mem_of_getElem? (i := 66) rfl)) rfl
theorem zw209 : Cond.code yX11_wind cX11_wind 4 (some .int) ∈ zG := zG_of (zt2 (List.mem_of_getElem? (i := 67) rfl)) rfl
theorem zw210 : Cond.instanceMethod yX5_windIn ∈ zG := zG_of (zt2 (List.mem_of_getElem? (i := 70) rfl)) rfl
theorem zw211 : Cond.code yX5_windIn cX5_windIn 2 (some .int) ∈ zG := zG_of (zt2 (List.mem_of_getElem? (i := 71) rfl)) rfl
theorem zw212 : Cond.methodLink RX5 35 yJ9_floorMod_7cf53 ∈ zG := zG_of (zt2 (List.mem_of_getElem? (i := 72) rfl)) rfl
theorem zw213 : Cond.static yJ9_floorMod_7cf53 ∈ zG := zG_of (zt2 (List.mem_of_getElem? (i := 73) rfl)) rfl
theorem zw214 : Cond.code yJ9_floorMod_7cf53 cJ9_floorMod_7cf53 3 (some .int) ∈ zG := zG_of (zt2 (List.mem_of_getElem? (i := 74) rfl)) rfl
theorem zw215 : Cond.instanceMethod yX5_setWind ∈ zG := zG_of (zt2 (List.mem_of_getElem? (i := 77) rfl)) rfl
theorem zw216 : Cond.code yX5_setWind cX5_setWind 3 none ∈ zG := zG_of (zt2 (List.mem_of_getElem? (i := 78) rfl)) rfl
theorem zw217 : Cond.methodLink RL 26 yX11_head ∈ zG := zG_of (zt2 (List.mem_of_getElem? (i := 79) rfl)) rfl
theorem zw218 : Cond.instanceMethod yX11_head ∈ zG := zG_of (zt2 (List.mem_of_getElem? (i := 80) rfl)) rfl
theorem zw219 : Cond.selects RX11 yX11_head yX11_head ∈ zG := zG_of (zt2 (List.mem_of_getElem? (i := 81) rfl)) rfl
theorem zw220 : Cond.code yX11_head cX11_head 3 (some .int) ∈ zG := zG_of (zt2 (List.mem_of_getElem? (i := 82) rfl)) rfl
theorem zw221 : Cond.methodLink RX11 124 yX11_full ∈ zG := zG_of (zt2 (List.mem_of_getElem? (i := 83) rfl)) rfl
theorem zw222 : Cond.instanceMethod yX11_full ∈ zG := zG_of (zt2 (List.mem_of_getElem? (i := 85) rfl)) rfl
theorem zw223 : Cond.code yX11_full cX11_full 1 (some .int) ∈ zG := zG_of (zt2 (List.mem_of_getElem? (i := 86) rfl)) rfl
theorem zw224 : Cond.instanceMethod yX10_addHead ∈ zG := zG_of (zt2 (List.mem_of_getElem? (i := 89) rfl)) rfl
theorem zw225 : Cond.code yX10_addHead cX10_addHead 3 none ∈ zG := zG_of (zt2 (List.mem_of_getElem? (i := 90) rfl)) rfl
theorem zw226 : Cond.methodLink RL 30 yX11_type ∈ zG := zG_of (zt2 (List.mem_of_getElem? (i := 92) rfl)) rfl
theorem zw227 : Cond.instanceMethod yX11_type ∈ zG := zG_of (zt2 (List.mem_of_getElem? (i := 93) rfl)) rfl
theorem zw228 : Cond.selects RX11 yX11_type yX11_type ∈ zG := zG_of (zt2 (List.mem_of_getElem? (i := 94) rfl)) rfl
theorem zw229 : Cond.code yX11_type cX11_type 2 (some .int) ∈ zG := zG_of (zt2 (List.mem_of_getElem? (i := 95) rfl)) rfl
theorem zw230 : Cond.instanceMethod yX4_add ∈ zG := zG_of (zt2 (List.mem_of_getElem? (i := 98) rfl)) rfl
theorem zw231 : Cond.code yX4_add cX4_add 2 none ∈ zG := zG_of (zt2 (List.mem_of_getElem? (i := 99) rfl)) rfl
theorem zw232 : Cond.methodLink RL 35 yX11_clear ∈ zG := zG_of (zt2 (List.mem_of_getElem? (i := 101) rfl)) rfl
theorem zw233 : Cond.instanceMethod yX11_clear ∈ zG := zG_of (zt2 (List.mem_of_getElem? (i := 102) rfl)) rfl
theorem zw234 : Cond.selects RX11 yX11_clear yX11_clear ∈ zG := zG_of (zt2 (List.mem_of_getElem? (i := 103) rfl)) rfl
theorem zw235 : Cond.code yX11_clear cX11_clear 2 (some .int) ∈ zG := zG_of (zt2 (List.mem_of_getElem? (i := 104) rfl)) rfl
theorem zw236 : Cond.methodLink RL 40 yX11_read ∈ zG := zG_of (zt2 (List.mem_of_getElem? (i := 105) rfl)) rfl
theorem zw237 : Cond.instanceMethod yX11_read ∈ zG := zG_of (zt2 (List.mem_of_getElem? (i := 106) rfl)) rfl
theorem zw238 : Cond.selects RX11 yX11_read yX11_read ∈ zG := zG_of (zt2 (List.mem_of_getElem? (i := 107) rfl)) rfl
theorem zw239 : Cond.code yX11_read cX11_read 2 (some .int) ∈ zG := zG_of (zt2 (List.mem_of_getElem? (i := 108) rfl)) rfl
theorem zw240 : Cond.instanceMethod yX4_tell ∈ zG := zG_of (zt2 (List.mem_of_getElem? (i := 111) rfl)) rfl
theorem zw241 : Cond.code yX4_tell cX4_tell 4 (some .int) ∈ zG := zG_of (zt2 (List.mem_of_getElem? (i := 112) rfl)) rfl
theorem zw242 : Cond.methodLink RX4 32 yX4_nextToken ∈ zG := zG_of (zt2 (List.mem_of_getElem? (i := 113) rfl)) rfl
theorem zw243 : Cond.instanceMethod yX4_nextToken ∈ zG := zG_of (zt2 (List.mem_of_getElem? (i := 115) rfl)) rfl
theorem zw244 : Cond.code yX4_nextToken cX4_nextToken 1 none ∈ zG := zG_of (zt2 (List.mem_of_getElem? (i := 116) rfl)) rfl
theorem zw245 : Cond.methodLink RX4 102 yX4_byteAt ∈ zG := zG_of (zt2 (List.mem_of_getElem? (i := 117) rfl)) rfl
theorem zw246 : Cond.instanceMethod yX4_byteAt ∈ zG := zG_of (zt2 (List.mem_of_getElem? (i := 119) rfl)) rfl
theorem zw247 : Cond.code yX4_byteAt cX4_byteAt 2 (some .int) ∈ zG := zG_of (zt2 (List.mem_of_getElem? (i := 120) rfl)) rfl
theorem zw248 : Cond.methodLink RX4 115 yX4_sortOf ∈ zG := zG_of (zt2 (List.mem_of_getElem? (i := 121) rfl)) rfl
theorem zw249 : Cond.static yX4_sortOf ∈ zG := zG_of (zt2 (List.mem_of_getElem? (i := 122) rfl)) rfl
theorem zw250 : Cond.code yX4_sortOf cX4_sortOf 1 (some .int) ∈ zG := zG_of (zt2 (List.mem_of_getElem? (i := 123) rfl)) rfl
theorem zw251 : Cond.methodLink RX4 118 Lib.Math.min.name ∈ zG := zG_of (zt2 (List.mem_of_getElem? (i := 124) rfl)) rfl
theorem zw252 : Cond.static Lib.Math.min.name ∈ zG := zG_of (zt2 (List.mem_of_getElem? (i := 125) rfl)) rfl
theorem zw253 : Cond.code Lib.Math.min.name Lib.Math.min.code 2 (some .int) ∈ zG := zG_of (zt2 (List.mem_of_getElem? (i := 126) rfl)) rfl
theorem zw254 : Cond.methodLink RX4 35 yX4_tellRoad ∈ zG := zG_of (zt2 (List.mem_of_getElem? (i := 127) rfl)) rfl
theorem zw255 : Cond.instanceMethod yX4_tellRoad ∈ zG := zG_of (zt2 (List.mem_of_getElem? (i := 129) rfl)) rfl
theorem zw256 : Cond.code yX4_tellRoad cX4_tellRoad 4 (some .boolean) ∈ zG := zG_of (zt2 (List.mem_of_getElem? (i := 130) rfl)) rfl
theorem zw257 : Cond.methodLink RX4 44 yX4_isWord ∈ zG := zG_of (zt2 (List.mem_of_getElem? (i := 132) rfl)) rfl
theorem zw258 : Cond.instanceMethod yX4_isWord ∈ zG := zG_of (zt2 (List.mem_of_getElem? (i := 134) rfl)) rfl
theorem zw259 : Cond.code yX4_isWord cX4_isWord 3 (some .boolean) ∈ zG := zG_of (zt2 (List.mem_of_getElem? (i := 135) rfl)) rfl
theorem zw260 : Cond.methodLink RX4 106 yJ0_length_8abf5 ∈ zG := zG_of (zt2 (List.mem_of_getElem? (i := 136) rfl)) rfl
theorem zw261 : Cond.instanceMethod yJ0_length_8abf5 ∈ zG := zG_of (zt2 (List.mem_of_getElem? (i := 137) rfl)) rfl
theorem zw262 : Cond.selects RJ0 yJ0_length_8abf5 yJ0_length_8abf5 ∈ zG := zG_of (zt2 (List.mem_of_getElem? (i := 138) rfl)) rfl
theorem zw263 : Cond.code yJ0_length_8abf5 cJ0_length_8abf5 1 (some .int) ∈ zG := zG_of (zt2 (List.mem_of_getElem? (i := 139) rfl)) rfl
theorem zw264 : Cond.methodLink RJ0 335 yJ0_coder_7d493 ∈ zG := zG_of (zt2 (List.mem_of_getElem? (i := 140) rfl)) rfl
theorem zw265 : Cond.instanceMethod yJ0_coder_7d493 ∈ zG := zG_of (zt2 (List.mem_of_getElem? (i := 141) rfl)) rfl
theorem zw266 : Cond.selects RJ0 yJ0_coder_7d493 yJ0_coder_7d493 ∈ zG := zG_of (zt2 (List.mem_of_getElem? (i := 142) rfl)) rfl
theorem zw267 : Cond.code yJ0_coder_7d493 cJ0_coder_7d493 1 (some .byte) ∈ zG := zG_of (zt2 (List.mem_of_getElem? (i := 143) rfl)) rfl
theorem zw268 : Cond.fieldLink RJ0 38 RJ0 "COMPACT_STRINGS" "Z" ∈ zG := zG_of (zt2 (List.mem_of_getElem? (i := 144) rfl)) rfl
theorem zw269 : Cond.methodLink RX4 111 yJ0_charAt_5068e ∈ zG := zG_of (zt2 (List.mem_of_getElem? (i := 146) rfl)) rfl
theorem zw270 : Cond.instanceMethod yJ0_charAt_5068e ∈ zG := zG_of (zt2 (List.mem_of_getElem? (i := 147) rfl)) rfl
theorem zw271 : Cond.selects RJ0 yJ0_charAt_5068e yJ0_charAt_5068e ∈ zG := zG_of (zt2 (List.mem_of_getElem? (i := 148) rfl)) rfl
theorem zw272 : Cond.code yJ0_charAt_5068e cJ0_charAt_5068e 2 (some .char) ∈ zG := zG_of (zt2 (List.mem_of_getElem? (i := 149) rfl)) rfl
theorem zw273 : Cond.methodLink RJ0 492 yJ0_isLatin1_aae02 ∈ zG := zG_of (zt2 (List.mem_of_getElem? (i := 150) rfl)) rfl
theorem zw274 : Cond.instanceMethod yJ0_isLatin1_aae02 ∈ zG := zG_of (zt2 (List.mem_of_getElem? (i := 151) rfl)) rfl
theorem zw275 : Cond.selects RJ0 yJ0_isLatin1_aae02 yJ0_isLatin1_aae02 ∈ zG := zG_of (zt2 (List.mem_of_getElem? (i := 152) rfl)) rfl
theorem zw276 : Cond.code yJ0_isLatin1_aae02 cJ0_isLatin1_aae02 1 (some .boolean) ∈ zG := zG_of (zt2 (List.mem_of_getElem? (i := 153) rfl)) rfl
theorem zw277 : Cond.methodLink RJ0 495 yJ1_charAt_3b067 ∈ zG := zG_of (zt2 (List.mem_of_getElem? (i := 154) rfl)) rfl
theorem zw278 : Cond.static yJ1_charAt_3b067 ∈ zG := zG_of (zt2 (List.mem_of_getElem? (i := 155) rfl)) rfl
theorem zw279 : Cond.code yJ1_charAt_3b067 cJ1_charAt_3b067 2 (some .char) ∈ zG := zG_of (zt2 (List.mem_of_getElem? (i := 156) rfl)) rfl
theorem zw280 : Cond.methodLink RJ1 9 yJ0_checkIndex_df160 ∈ zG := zG_of (zt2 (List.mem_of_getElem? (i := 157) rfl)) rfl
theorem zw281 : Cond.static yJ0_checkIndex_df160 ∈ zG := zG_of (zt2 (List.mem_of_getElem? (i := 158) rfl)) rfl
theorem zw282 : Cond.code yJ0_checkIndex_df160 cJ0_checkIndex_df160 2 none ∈ zG := zG_of (zt2 (List.mem_of_getElem? (i := 159) rfl)) rfl
theorem zw283 : Cond.fieldLink RJ0 1053 RJ3 "SIOOBE_FORMATTER" "Ljava/util/function/BiFunction;" ∈ zG := zG_of (zt2 (List.mem_of_getElem? (i := 160) rfl)) rfl
theorem zw284 : Cond.methodLink RJ0 1059 yJ3_checkIndex_8e157 ∈ zG := zG_of (zt2 (List.mem_of_getElem? (i := 162) rfl)) rfl
theorem zw285 : Cond.static yJ3_checkIndex_8e157 ∈ zG := zG_of (zt2 (List.mem_of_getElem? (i := 163) rfl)) rfl
theorem zw286 : Cond.code yJ3_checkIndex_8e157 cJ3_checkIndex_8e157 3 (some .int) ∈ zG := zG_of (zt2 (List.mem_of_getElem? (i := 164) rfl)) rfl
theorem zw287 : Cond.methodLink RJ0 498 yJ2_charAt_3b067 ∈ zG := zG_of (zt2 (List.mem_of_getElem? (i := 165) rfl)) rfl
theorem zw288 : Cond.static yJ2_charAt_3b067 ∈ zG := zG_of (zt2 (List.mem_of_getElem? (i := 166) rfl)) rfl
theorem zw289 : Cond.code yJ2_charAt_3b067 cJ2_charAt_3b067 2 (some .char) ∈ zG := zG_of (zt2 (List.mem_of_getElem? (i := 167) rfl)) rfl
theorem zw290 : Cond.methodLink RJ2 67 yJ2_checkIndex_2214a ∈ zG := zG_of (zt2 (List.mem_of_getElem? (i := 168) rfl)) rfl
theorem zw291 : Cond.static yJ2_checkIndex_2214a ∈ zG := zG_of (zt2 (List.mem_of_getElem? (i := 169) rfl)) rfl
theorem zw292 : Cond.code yJ2_checkIndex_2214a cJ2_checkIndex_2214a 2 none ∈ zG := zG_of (zt2 (List.mem_of_getElem? (i := 170) rfl)) rfl
theorem zw293 : Cond.methodLink RJ2 48 yJ2_length_9d52b ∈ zG := zG_of (zt2 (List.mem_of_getElem? (i := 171) rfl)) rfl
theorem zw294 : Cond.static yJ2_length_9d52b ∈ zG := zG_of (zt2 (List.mem_of_getElem? (i := 172) rfl)) rfl
theorem zw295 : Cond.code yJ2_length_9d52b cJ2_length_9d52b 1 (some .int) ∈ zG := zG_of (zt2 (List.mem_of_getElem? (i := 173) rfl)) rfl
theorem zw296 : Cond.methodLink RJ2 414 yJ0_checkIndex_df160 ∈ zG := zG_of (zt2 (List.mem_of_getElem? (i := 174) rfl)) rfl
theorem zw297 : Cond.methodLink RJ2 71 yJ2_getChar_3b067 ∈ zG := zG_of (zt2 (List.mem_of_getElem? (i := 175) rfl)) rfl
theorem zw298 : Cond.static yJ2_getChar_3b067 ∈ zG := zG_of (zt2 (List.mem_of_getElem? (i := 176) rfl)) rfl
theorem zw299 : Cond.code yJ2_getChar_3b067 cJ2_getChar_3b067 2 (some .char) ∈ zG := zG_of (zt2 (List.mem_of_getElem? (i := 177) rfl)) rfl
theorem zw300 : Cond.fieldLink RJ2 44 RJ2 "$assertionsDisabled" "Z" ∈ zG := zG_of (zt2 (List.mem_of_getElem? (i := 178) rfl)) rfl
theorem zw301 : Cond.fieldLink RJ2 59 RJ2 "HI_BYTE_SHIFT" "I" ∈ zG := zG_of (zt2 (List.mem_of_getElem? (i := 180) rfl)) rfl
theorem zw302 : Cond.fieldLink RJ2 63 RJ2 "LO_BYTE_SHIFT" "I" ∈ zG := zG_of (zt2 (List.mem_of_getElem? (i := 182) rfl)) rfl
theorem zw303 : Cond.methodLink RX4 48 yX4_nextNumber ∈ zG := zG_of (zt2 (List.mem_of_getElem? (i := 184) rfl)) rfl
theorem zw304 : Cond.instanceMethod yX4_nextNumber ∈ zG := zG_of (zt2 (List.mem_of_getElem? (i := 186) rfl)) rfl
theorem zw305 : Cond.code yX4_nextNumber cX4_nextNumber 5 (some .int) ∈ zG := zG_of (zt2 (List.mem_of_getElem? (i := 187) rfl)) rfl
theorem zw306 : Cond.methodLink RX4 52 yX4_nextIsEnd ∈ zG := zG_of (zt2 (List.mem_of_getElem? (i := 188) rfl)) rfl
theorem zw307 : Cond.instanceMethod yX4_nextIsEnd ∈ zG := zG_of (zt2 (List.mem_of_getElem? (i := 190) rfl)) rfl
theorem zw308 : Cond.code yX4_nextIsEnd cX4_nextIsEnd 1 (some .boolean) ∈ zG := zG_of (zt2 (List.mem_of_getElem? (i := 191) rfl)) rfl
theorem zw309 : Cond.methodLink RX4 39 yX4_tellItem ∈ zG := zG_of (zt2 (List.mem_of_getElem? (i := 193) rfl)) rfl
theorem zw310 : Cond.instanceMethod yX4_tellItem ∈ zG := zG_of (zt2 (List.mem_of_getElem? (i := 195) rfl)) rfl
theorem zw311 : Cond.code yX4_tellItem cX4_tellItem 2 (some .boolean) ∈ zG := zG_of (zt2 (List.mem_of_getElem? (i := 196) rfl)) rfl
theorem zw312 : Cond.methodLink RX4 64 yX4_tellCobble ∈ zG := zG_of (zt2 (List.mem_of_getElem? (i := 198) rfl)) rfl
theorem zw313 : Cond.instanceMethod yX4_tellCobble ∈ zG := zG_of (zt2 (List.mem_of_getElem? (i := 200) rfl)) rfl
theorem zw314 : Cond.code yX4_tellCobble cX4_tellCobble 5 (some .boolean) ∈ zG := zG_of (zt2 (List.mem_of_getElem? (i := 201) rfl)) rfl
theorem zw315 : Cond.methodLink RX4 72 yX4_tellWind ∈ zG := zG_of (zt2 (List.mem_of_getElem? (i := 205) rfl)) rfl
theorem zw316 : Cond.instanceMethod yX4_tellWind ∈ zG := zG_of (zt2 (List.mem_of_getElem? (i := 207) rfl)) rfl
theorem zw317 : Cond.code yX4_tellWind cX4_tellWind 5 (some .boolean) ∈ zG := zG_of (zt2 (List.mem_of_getElem? (i := 208) rfl)) rfl
theorem zw318 : Cond.methodLink RX4 79 yX4_tellHead ∈ zG := zG_of (zt2 (List.mem_of_getElem? (i := 212) rfl)) rfl
theorem zw319 : Cond.instanceMethod yX4_tellHead ∈ zG := zG_of (zt2 (List.mem_of_getElem? (i := 214) rfl)) rfl
theorem zw320 : Cond.code yX4_tellHead cX4_tellHead 5 (some .boolean) ∈ zG := zG_of (zt2 (List.mem_of_getElem? (i := 215) rfl)) rfl
theorem zw321 : Cond.instanceMethod yX10_copyFrom ∈ zG := zG_of (zt2 (List.mem_of_getElem? (i := 220) rfl)) rfl
theorem zw322 : Cond.code yX10_copyFrom cX10_copyFrom 2 none ∈ zG := zG_of (zt2 (List.mem_of_getElem? (i := 221) rfl)) rfl
theorem zw323 : Cond.instanceMethod yX5_copyFrom ∈ zG := zG_of (zt2 (List.mem_of_getElem? (i := 224) rfl)) rfl
theorem zw324 : Cond.code yX5_copyFrom cX5_copyFrom 2 none ∈ zG := zG_of (zt2 (List.mem_of_getElem? (i := 225) rfl)) rfl
theorem zw325 : Cond.methodLink RX5 25 arraycopyName ∈ zG := zG_of (zt2 (List.mem_of_getElem? (i := 226) rfl)) rfl
theorem zw326 : Cond.static arraycopyName ∈ zG := zG_of (zt2 (List.mem_of_getElem? (i := 227) rfl)) rfl
theorem zw327 : Cond.native arraycopyName ∈ zG := zG_of (zt2 (List.mem_of_getElem? (i := 228) rfl)) rfl
theorem zw328 : Cond.instanceMethod yX8_copyFrom ∈ zG := zG_of (zt2 (List.mem_of_getElem? (i := 231) rfl)) rfl
theorem zw329 : Cond.code yX8_copyFrom cX8_copyFrom 2 none ∈ zG := zG_of (zt2 (List.mem_of_getElem? (i := 232) rfl)) rfl
theorem zw330 : Cond.methodLink RX8 37 arraycopyName ∈ zG := zG_of (zt2 (List.mem_of_getElem? (i := 233) rfl)) rfl
theorem zw331 : Cond.methodLink RX10 66 arraycopyName ∈ zG := zG_of (zt2 (List.mem_of_getElem? (i := 234) rfl)) rfl
theorem zw332 : Cond.arrayClass .byte ∈ zG := zG_of (zt2 (List.mem_of_getElem? (i := 235) rfl)) rfl
theorem zw333 : Cond.methodLink RL 44 yX11_walk ∈ zG := zG_of (zt2 (List.mem_of_getElem? (i := 236) rfl)) rfl
theorem zw334 : Cond.instanceMethod yX11_walk ∈ zG := zG_of (zt2 (List.mem_of_getElem? (i := 237) rfl)) rfl
theorem zw335 : Cond.selects RX11 yX11_walk yX11_walk ∈ zG := zG_of (zt2 (List.mem_of_getElem? (i := 238) rfl)) rfl
theorem zw336 : Cond.code yX11_walk cX11_walk 2 (some .int) ∈ zG := zG_of (zt2 (List.mem_of_getElem? (i := 239) rfl)) rfl
theorem zw337 : Cond.methodLink RX11 149 yX11_isHead ∈ zG := zG_of (zt3 (List.mem_of_getElem? (i := 0) rfl)) rfl
theorem zw338 : Cond.instanceMethod yX11_isHead ∈ zG := zG_of (zt3 (List.mem_of_getElem? (i := 2) rfl)) rfl
theorem zw339 : Cond.code yX11_isHead cX11_isHead 2 (some .boolean) ∈ zG := zG_of (zt3 (List.mem_of_getElem? (i := 3) rfl)) rfl
theorem zw340 : Cond.instanceMethod yX10_setOf ∈ zG := zG_of (zt3 (List.mem_of_getElem? (i := 6) rfl)) rfl
theorem zw341 : Cond.code yX10_setOf cX10_setOf 2 (some .int) ∈ zG := zG_of (zt3 (List.mem_of_getElem? (i := 7) rfl)) rfl
theorem zw342 : Cond.instanceMethod yX8_isFallen ∈ zG := zG_of (zt3 (List.mem_of_getElem? (i := 11) rfl)) rfl
theorem zw343 : Cond.code yX8_isFallen cX8_isFallen 2 (some .boolean) ∈ zG := zG_of (zt3 (List.mem_of_getElem? (i := 12) rfl)) rfl
theorem zw344 : Cond.instanceMethod yX5_fells ∈ zG := zG_of (zt3 (List.mem_of_getElem? (i := 15) rfl)) rfl
theorem zw345 : Cond.code yX5_fells cX5_fells 2 (some .boolean) ∈ zG := zG_of (zt3 (List.mem_of_getElem? (i := 16) rfl)) rfl
theorem zw346 : Cond.methodLink RX11 166 yX11_bit ∈ zG := zG_of (zt3 (List.mem_of_getElem? (i := 17) rfl)) rfl
theorem zw347 : Cond.static yX11_bit ∈ zG := zG_of (zt3 (List.mem_of_getElem? (i := 18) rfl)) rfl
theorem zw348 : Cond.code yX11_bit cX11_bit 1 (some .int) ∈ zG := zG_of (zt3 (List.mem_of_getElem? (i := 19) rfl)) rfl
theorem zw349 : Cond.methodLink RL 48 yX11_step ∈ zG := zG_of (zt3 (List.mem_of_getElem? (i := 20) rfl)) rfl
theorem zw350 : Cond.instanceMethod yX11_step ∈ zG := zG_of (zt3 (List.mem_of_getElem? (i := 21) rfl)) rfl
theorem zw351 : Cond.selects RX11 yX11_step yX11_step ∈ zG := zG_of (zt3 (List.mem_of_getElem? (i := 22) rfl)) rfl
theorem zw352 : Cond.code yX11_step cX11_step 3 (some .int) ∈ zG := zG_of (zt3 (List.mem_of_getElem? (i := 23) rfl)) rfl
theorem zw353 : Cond.instanceMethod yX8_isOver ∈ zG := zG_of (zt3 (List.mem_of_getElem? (i := 26) rfl)) rfl
theorem zw354 : Cond.code yX8_isOver cX8_isOver 2 (some .boolean) ∈ zG := zG_of (zt3 (List.mem_of_getElem? (i := 27) rfl)) rfl
theorem zw355 : Cond.methodLink RX8 52 yX8_isFallen ∈ zG := zG_of (zt3 (List.mem_of_getElem? (i := 28) rfl)) rfl
theorem zw356 : Cond.methodLink RX11 176 yX11_no ∈ zG := zG_of (zt3 (List.mem_of_getElem? (i := 29) rfl)) rfl
theorem zw357 : Cond.instanceMethod yX11_no ∈ zG := zG_of (zt3 (List.mem_of_getElem? (i := 31) rfl)) rfl
theorem zw358 : Cond.code yX11_no cX11_no 2 (some .int) ∈ zG := zG_of (zt3 (List.mem_of_getElem? (i := 32) rfl)) rfl
theorem zw359 : Cond.instanceMethod yX8_keep ∈ zG := zG_of (zt3 (List.mem_of_getElem? (i := 35) rfl)) rfl
theorem zw360 : Cond.code yX8_keep cX8_keep 1 none ∈ zG := zG_of (zt3 (List.mem_of_getElem? (i := 36) rfl)) rfl
theorem zw361 : Cond.methodLink RX8 73 yX8_dropOldest ∈ zG := zG_of (zt3 (List.mem_of_getElem? (i := 37) rfl)) rfl
theorem zw362 : Cond.instanceMethod yX8_dropOldest ∈ zG := zG_of (zt3 (List.mem_of_getElem? (i := 39) rfl)) rfl
theorem zw363 : Cond.code yX8_dropOldest cX8_dropOldest 2 none ∈ zG := zG_of (zt3 (List.mem_of_getElem? (i := 40) rfl)) rfl
theorem zw364 : Cond.instanceMethod yX10_kindOf ∈ zG := zG_of (zt3 (List.mem_of_getElem? (i := 44) rfl)) rfl
theorem zw365 : Cond.code yX10_kindOf cX10_kindOf 2 (some .int) ∈ zG := zG_of (zt3 (List.mem_of_getElem? (i := 45) rfl)) rfl
theorem zw366 : Cond.methodLink RX11 185 yX11_kind ∈ zG := zG_of (zt3 (List.mem_of_getElem? (i := 46) rfl)) rfl
theorem zw367 : Cond.instanceMethod yX11_kind ∈ zG := zG_of (zt3 (List.mem_of_getElem? (i := 48) rfl)) rfl
theorem zw368 : Cond.code yX11_kind cX11_kind 2 (some (.object "SmallCrown$Plain")) ∈ zG := zG_of (zt3 (List.mem_of_getElem? (i := 49) rfl)) rfl
theorem zw369 : Cond.instanceMethod yX8_go ∈ zG := zG_of (zt3 (List.mem_of_getElem? (i := 52) rfl)) rfl
theorem zw370 : Cond.code yX8_go cX8_go 5 none ∈ zG := zG_of (zt3 (List.mem_of_getElem? (i := 53) rfl)) rfl
theorem zw371 : Cond.instanceMethod yX5_cellBehind ∈ zG := zG_of (zt3 (List.mem_of_getElem? (i := 56) rfl)) rfl
theorem zw372 : Cond.code yX5_cellBehind cX5_cellBehind 3 (some .int) ∈ zG := zG_of (zt3 (List.mem_of_getElem? (i := 57) rfl)) rfl
theorem zw373 : Cond.methodLink RX5 41 Lib.Math.min.name ∈ zG := zG_of (zt3 (List.mem_of_getElem? (i := 58) rfl)) rfl
theorem zw374 : Cond.methodLink RX8 67 yX3_leanBehind ∈ zG := zG_of (zt3 (List.mem_of_getElem? (i := 61) rfl)) rfl
theorem zw375 : Cond.instanceMethod yX3_leanBehind ∈ zG := zG_of (zt3 (List.mem_of_getElem? (i := 62) rfl)) rfl
theorem zw376 : Cond.selects RX3 yX3_leanBehind yX3_leanBehind ∈ zG := zG_of (zt3 (List.mem_of_getElem? (i := 63) rfl)) rfl
theorem zw377 : Cond.sameMethod "SmallCrown$Plain" "SmallCrown$Plain" "leanBehind" "(IIII)I" ∈ zG := zG_of (zt3 (List.mem_of_getElem? (i := 64) rfl)) rfl
theorem zw378 : Cond.selects RX0 yX3_leanBehind yX0_leanBehind ∈ zG := zG_of (zt3 (List.mem_of_getElem? (i := 65) rfl)) rfl
theorem zw379 : Cond.instanceMethod yX0_leanBehind ∈ zG := zG_of (zt3 (List.mem_of_getElem? (i := 66) rfl)) rfl
theorem zw380 : Cond.code yX0_leanBehind cX0_leanBehind 5 (some .int) ∈ zG := zG_of (zt3 (List.mem_of_getElem? (i := 67) rfl)) rfl
theorem zw381 : Cond.methodLink RX0 7 yX7_leanBehind ∈ zG := zG_of (zt3 (List.mem_of_getElem? (i := 68) rfl)) rfl
theorem zw382 : Cond.instanceMethod yX7_leanBehind ∈ zG := zG_of (zt3 (List.mem_of_getElem? (i := 69) rfl)) rfl
theorem zw383 : Cond.code yX7_leanBehind cX7_leanBehind 6 (some .int) ∈ zG := zG_of (zt3 (List.mem_of_getElem? (i := 70) rfl)) rfl
theorem zw384 : Cond.methodLink RX7 7 yX3_leanBehind ∈ zG := zG_of (zt3 (List.mem_of_getElem? (i := 71) rfl)) rfl
theorem zw385 : Cond.selects RX1 yX3_leanBehind yX1_leanBehind ∈ zG := zG_of (zt3 (List.mem_of_getElem? (i := 72) rfl)) rfl
theorem zw386 : Cond.instanceMethod yX1_leanBehind ∈ zG := zG_of (zt3 (List.mem_of_getElem? (i := 73) rfl)) rfl
theorem zw387 : Cond.code yX1_leanBehind cX1_leanBehind 5 (some .int) ∈ zG := zG_of (zt3 (List.mem_of_getElem? (i := 74) rfl)) rfl
theorem zw388 : Cond.methodLink RX1 7 yX6_leanBehind ∈ zG := zG_of (zt3 (List.mem_of_getElem? (i := 75) rfl)) rfl
theorem zw389 : Cond.instanceMethod yX6_leanBehind ∈ zG := zG_of (zt3 (List.mem_of_getElem? (i := 76) rfl)) rfl
theorem zw390 : Cond.code yX6_leanBehind cX6_leanBehind 6 (some .int) ∈ zG := zG_of (zt3 (List.mem_of_getElem? (i := 77) rfl)) rfl
theorem zw391 : Cond.methodLink RX6 7 yX3_leanBehind ∈ zG := zG_of (zt3 (List.mem_of_getElem? (i := 78) rfl)) rfl
theorem zw392 : Cond.selects RX2 yX3_leanBehind yX2_leanBehind ∈ zG := zG_of (zt3 (List.mem_of_getElem? (i := 79) rfl)) rfl
theorem zw393 : Cond.instanceMethod yX2_leanBehind ∈ zG := zG_of (zt3 (List.mem_of_getElem? (i := 80) rfl)) rfl
theorem zw394 : Cond.code yX2_leanBehind cX2_leanBehind 6 (some .int) ∈ zG := zG_of (zt3 (List.mem_of_getElem? (i := 81) rfl)) rfl
theorem zw395 : Cond.methodLink RX2 7 yX7_leanBehind ∈ zG := zG_of (zt3 (List.mem_of_getElem? (i := 82) rfl)) rfl
theorem zw396 : Cond.selects RX6 yX3_leanBehind yX6_leanBehind ∈ zG := zG_of (zt3 (List.mem_of_getElem? (i := 83) rfl)) rfl
theorem zw397 : Cond.selects RX7 yX3_leanBehind yX7_leanBehind ∈ zG := zG_of (zt3 (List.mem_of_getElem? (i := 84) rfl)) rfl
theorem zw398 : Cond.code yX3_leanBehind cX3_leanBehind 5 (some .int) ∈ zG := zG_of (zt3 (List.mem_of_getElem? (i := 85) rfl)) rfl
theorem zw399 : Cond.methodLink RL 52 yX11_hand ∈ zG := zG_of (zt3 (List.mem_of_getElem? (i := 86) rfl)) rfl
theorem zw400 : Cond.instanceMethod yX11_hand ∈ zG := zG_of (zt3 (List.mem_of_getElem? (i := 87) rfl)) rfl
theorem zw401 : Cond.selects RX11 yX11_hand yX11_hand ∈ zG := zG_of (zt3 (List.mem_of_getElem? (i := 88) rfl)) rfl
theorem zw402 : Cond.code yX11_hand cX11_hand 3 (some .int) ∈ zG := zG_of (zt3 (List.mem_of_getElem? (i := 89) rfl)) rfl
theorem zw403 : Cond.instanceMethod yX8_isThrough ∈ zG := zG_of (zt3 (List.mem_of_getElem? (i := 92) rfl)) rfl
theorem zw404 : Cond.code yX8_isThrough cX8_isThrough 2 (some .boolean) ∈ zG := zG_of (zt3 (List.mem_of_getElem? (i := 93) rfl)) rfl
theorem zw405 : Cond.methodLink RL 56 yX11_undo ∈ zG := zG_of (zt3 (List.mem_of_getElem? (i := 94) rfl)) rfl
theorem zw406 : Cond.instanceMethod yX11_undo ∈ zG := zG_of (zt3 (List.mem_of_getElem? (i := 95) rfl)) rfl
theorem zw407 : Cond.selects RX11 yX11_undo yX11_undo ∈ zG := zG_of (zt3 (List.mem_of_getElem? (i := 96) rfl)) rfl
theorem zw408 : Cond.code yX11_undo cX11_undo 1 (some .int) ∈ zG := zG_of (zt3 (List.mem_of_getElem? (i := 97) rfl)) rfl
theorem zw409 : Cond.instanceMethod yX8_takeBack ∈ zG := zG_of (zt3 (List.mem_of_getElem? (i := 100) rfl)) rfl
theorem zw410 : Cond.code yX8_takeBack cX8_takeBack 1 none ∈ zG := zG_of (zt3 (List.mem_of_getElem? (i := 101) rfl)) rfl
theorem zw411 : Cond.methodLink RL 60 yX11_of ∈ zG := zG_of (zt3 (List.mem_of_getElem? (i := 102) rfl)) rfl
theorem zw412 : Cond.instanceMethod yX11_of ∈ zG := zG_of (zt3 (List.mem_of_getElem? (i := 103) rfl)) rfl
theorem zw413 : Cond.selects RX11 yX11_of yX11_of ∈ zG := zG_of (zt3 (List.mem_of_getElem? (i := 104) rfl)) rfl
theorem zw414 : Cond.code yX11_of cX11_of 3 (some .int) ∈ zG := zG_of (zt3 (List.mem_of_getElem? (i := 105) rfl)) rfl
theorem zw415 : Cond.methodLink RL 64 yX11_now ∈ zG := zG_of (zt3 (List.mem_of_getElem? (i := 106) rfl)) rfl
theorem zw416 : Cond.instanceMethod yX11_now ∈ zG := zG_of (zt3 (List.mem_of_getElem? (i := 107) rfl)) rfl
theorem zw417 : Cond.selects RX11 yX11_now yX11_now ∈ zG := zG_of (zt3 (List.mem_of_getElem? (i := 108) rfl)) rfl
theorem zw418 : Cond.code yX11_now cX11_now 3 (some .int) ∈ zG := zG_of (zt3 (List.mem_of_getElem? (i := 109) rfl)) rfl
theorem zw419 : Cond.methodLink RL 68 yX11_paces ∈ zG := zG_of (zt3 (List.mem_of_getElem? (i := 110) rfl)) rfl
theorem zw420 : Cond.instanceMethod yX11_paces ∈ zG := zG_of (zt3 (List.mem_of_getElem? (i := 111) rfl)) rfl
theorem zw421 : Cond.selects RX11 yX11_paces yX11_paces ∈ zG := zG_of (zt3 (List.mem_of_getElem? (i := 112) rfl)) rfl
theorem zw422 : Cond.code yX11_paces cX11_paces 5 (some .int) ∈ zG := zG_of (zt3 (List.mem_of_getElem? (i := 113) rfl)) rfl
theorem zw423 : Cond.methodLink RX11 211 yX11_isStep ∈ zG := zG_of (zt3 (List.mem_of_getElem? (i := 114) rfl)) rfl
theorem zw424 : Cond.static yX11_isStep ∈ zG := zG_of (zt3 (List.mem_of_getElem? (i := 115) rfl)) rfl
theorem zw425 : Cond.code yX11_isStep cX11_isStep 1 (some .boolean) ∈ zG := zG_of (zt3 (List.mem_of_getElem? (i := 116) rfl)) rfl
theorem zw426 : Cond.methodLink RX11 214 yX11_isRow ∈ zG := zG_of (zt3 (List.mem_of_getElem? (i := 117) rfl)) rfl
theorem zw427 : Cond.static yX11_isRow ∈ zG := zG_of (zt3 (List.mem_of_getElem? (i := 118) rfl)) rfl
theorem zw428 : Cond.code yX11_isRow cX11_isRow 3 (some .boolean) ∈ zG := zG_of (zt3 (List.mem_of_getElem? (i := 119) rfl)) rfl
theorem zw429 : Cond.fieldLink RX11 312 RX11 "TENS" "[I" ∈ zG := zG_of (zt3 (List.mem_of_getElem? (i := 120) rfl)) rfl
theorem zw430 : Cond.methodLink RX11 217 yX11_tryRow ∈ zG := zG_of (zt3 (List.mem_of_getElem? (i := 122) rfl)) rfl
theorem zw431 : Cond.instanceMethod yX11_tryRow ∈ zG := zG_of (zt3 (List.mem_of_getElem? (i := 124) rfl)) rfl
theorem zw432 : Cond.code yX11_tryRow cX11_tryRow 10 none ∈ zG := zG_of (zt3 (List.mem_of_getElem? (i := 125) rfl)) rfl
theorem zw433 : Cond.methodLink RX11 253 yX11_figuresOf ∈ zG := zG_of (zt3 (List.mem_of_getElem? (i := 126) rfl)) rfl
theorem zw434 : Cond.static yX11_figuresOf ∈ zG := zG_of (zt3 (List.mem_of_getElem? (i := 127) rfl)) rfl
theorem zw435 : Cond.code yX11_figuresOf cX11_figuresOf 3 (some .int) ∈ zG := zG_of (zt3 (List.mem_of_getElem? (i := 128) rfl)) rfl
theorem zw436 : Cond.methodLink RX11 256 yX11_paceOf ∈ zG := zG_of (zt3 (List.mem_of_getElem? (i := 129) rfl)) rfl
theorem zw437 : Cond.static yX11_paceOf ∈ zG := zG_of (zt3 (List.mem_of_getElem? (i := 130) rfl)) rfl
theorem zw438 : Cond.code yX11_paceOf cX11_paceOf 2 (some .int) ∈ zG := zG_of (zt3 (List.mem_of_getElem? (i := 131) rfl)) rfl
theorem zw439 : Cond.methodLink RL 73 yX11_soonest ∈ zG := zG_of (zt3 (List.mem_of_getElem? (i := 132) rfl)) rfl
theorem zw440 : Cond.instanceMethod yX11_soonest ∈ zG := zG_of (zt3 (List.mem_of_getElem? (i := 133) rfl)) rfl
theorem zw441 : Cond.selects RX11 yX11_soonest yX11_soonest ∈ zG := zG_of (zt3 (List.mem_of_getElem? (i := 134) rfl)) rfl
theorem zw442 : Cond.code yX11_soonest cX11_soonest 6 (some .int) ∈ zG := zG_of (zt3 (List.mem_of_getElem? (i := 135) rfl)) rfl
theorem zw443 : Cond.instanceMethod yX9_fillSure ∈ zG := zG_of (zt3 (List.mem_of_getElem? (i := 138) rfl)) rfl
theorem zw444 : Cond.code yX9_fillSure cX9_fillSure 9 none ∈ zG := zG_of (zt3 (List.mem_of_getElem? (i := 139) rfl)) rfl
theorem zw445 : Cond.constant RX9 28 (16777216) ∈ zG := zG_of (zt3 (List.mem_of_getElem? (i := 140) rfl)) rfl
theorem zw446 : Cond.methodLink RX9 50 yX9_worst ∈ zG := zG_of (zt3 (List.mem_of_getElem? (i := 141) rfl)) rfl
theorem zw447 : Cond.instanceMethod yX9_worst ∈ zG := zG_of (zt3 (List.mem_of_getElem? (i := 143) rfl)) rfl
theorem zw448 : Cond.code yX9_worst cX9_worst 11 (some .int) ∈ zG := zG_of (zt3 (List.mem_of_getElem? (i := 144) rfl)) rfl
theorem zw449 : Cond.methodLink RX9 71 yX3_leanBehind ∈ zG := zG_of (zt3 (List.mem_of_getElem? (i := 148) rfl)) rfl
theorem zw450 : Cond.methodLink RX9 77 yX9_costFrom ∈ zG := zG_of (zt3 (List.mem_of_getElem? (i := 149) rfl)) rfl
theorem zw451 : Cond.instanceMethod yX9_costFrom ∈ zG := zG_of (zt3 (List.mem_of_getElem? (i := 151) rfl)) rfl
theorem zw452 : Cond.code yX9_costFrom cX9_costFrom 6 (some .int) ∈ zG := zG_of (zt3 (List.mem_of_getElem? (i := 152) rfl)) rfl
theorem zw453 : Cond.methodLink RX9 33 yX9_placeOf ∈ zG := zG_of (zt3 (List.mem_of_getElem? (i := 154) rfl)) rfl
theorem zw454 : Cond.static yX9_placeOf ∈ zG := zG_of (zt3 (List.mem_of_getElem? (i := 155) rfl)) rfl
theorem zw455 : Cond.code yX9_placeOf cX9_placeOf 3 (some .int) ∈ zG := zG_of (zt3 (List.mem_of_getElem? (i := 156) rfl)) rfl
theorem zw456 : Cond.methodLink RX9 41 yJ9_floorMod_7cf53 ∈ zG := zG_of (zt3 (List.mem_of_getElem? (i := 157) rfl)) rfl
theorem zw457 : Cond.methodLink RX9 81 Lib.Math.max.name ∈ zG := zG_of (zt3 (List.mem_of_getElem? (i := 159) rfl)) rfl
theorem zw458 : Cond.static Lib.Math.max.name ∈ zG := zG_of (zt3 (List.mem_of_getElem? (i := 160) rfl)) rfl
theorem zw459 : Cond.code Lib.Math.max.name Lib.Math.max.code 2 (some .int) ∈ zG := zG_of (zt3 (List.mem_of_getElem? (i := 161) rfl)) rfl
theorem zw460 : Cond.methodLink RX9 54 Lib.Math.min.name ∈ zG := zG_of (zt3 (List.mem_of_getElem? (i := 162) rfl)) rfl
theorem zw461 : Cond.methodLink RX9 57 yX9_put ∈ zG := zG_of (zt3 (List.mem_of_getElem? (i := 163) rfl)) rfl
theorem zw462 : Cond.instanceMethod yX9_put ∈ zG := zG_of (zt3 (List.mem_of_getElem? (i := 165) rfl)) rfl
theorem zw463 : Cond.code yX9_put cX9_put 6 none ∈ zG := zG_of (zt3 (List.mem_of_getElem? (i := 166) rfl)) rfl
theorem zw464 : Cond.constant RX11 229 (16777216) ∈ zG := zG_of (zt3 (List.mem_of_getElem? (i := 168) rfl)) rfl
theorem zw465 : Cond.methodLink RX11 230 yX11_firstPace ∈ zG := zG_of (zt3 (List.mem_of_getElem? (i := 169) rfl)) rfl
theorem zw466 : Cond.instanceMethod yX11_firstPace ∈ zG := zG_of (zt3 (List.mem_of_getElem? (i := 171) rfl)) rfl
theorem zw467 : Cond.code yX11_firstPace cX11_firstPace 7 (some .int) ∈ zG := zG_of (zt3 (List.mem_of_getElem? (i := 172) rfl)) rfl
theorem zw468 : Cond.instanceMethod yX9_leastBestPace ∈ zG := zG_of (zt3 (List.mem_of_getElem? (i := 175) rfl)) rfl
theorem zw469 : Cond.code yX9_leastBestPace cX9_leastBestPace 8 (some .int) ∈ zG := zG_of (zt3 (List.mem_of_getElem? (i := 176) rfl)) rfl
theorem zw470 : Cond.methodLink RL 78 yX11_hour ∈ zG := zG_of (zt3 (List.mem_of_getElem? (i := 177) rfl)) rfl
theorem zw471 : Cond.instanceMethod yX11_hour ∈ zG := zG_of (zt3 (List.mem_of_getElem? (i := 178) rfl)) rfl
theorem zw472 : Cond.selects RX11 yX11_hour yX11_hour ∈ zG := zG_of (zt3 (List.mem_of_getElem? (i := 179) rfl)) rfl
theorem zw473 : Cond.code yX11_hour cX11_hour 6 (some .int) ∈ zG := zG_of (zt3 (List.mem_of_getElem? (i := 180) rfl)) rfl
theorem zw474 : Cond.methodLink RL 82 yX11_sure ∈ zG := zG_of (zt3 (List.mem_of_getElem? (i := 181) rfl)) rfl
theorem zw475 : Cond.instanceMethod yX11_sure ∈ zG := zG_of (zt3 (List.mem_of_getElem? (i := 182) rfl)) rfl
theorem zw476 : Cond.selects RX11 yX11_sure yX11_sure ∈ zG := zG_of (zt3 (List.mem_of_getElem? (i := 183) rfl)) rfl
theorem zw477 : Cond.code yX11_sure cX11_sure 5 (some .int) ∈ zG := zG_of (zt3 (List.mem_of_getElem? (i := 184) rfl)) rfl
theorem zw478 : Cond.methodLink RL 86 yX11_flat ∈ zG := zG_of (zt3 (List.mem_of_getElem? (i := 185) rfl)) rfl
theorem zw479 : Cond.instanceMethod yX11_flat ∈ zG := zG_of (zt3 (List.mem_of_getElem? (i := 186) rfl)) rfl
theorem zw480 : Cond.selects RX11 yX11_flat yX11_flat ∈ zG := zG_of (zt3 (List.mem_of_getElem? (i := 187) rfl)) rfl
theorem zw481 : Cond.code yX11_flat cX11_flat 4 (some .int) ∈ zG := zG_of (zt3 (List.mem_of_getElem? (i := 188) rfl)) rfl
theorem zw482 : Cond.instanceMethod yX9_fillFlat ∈ zG := zG_of (zt3 (List.mem_of_getElem? (i := 191) rfl)) rfl
theorem zw483 : Cond.code yX9_fillFlat cX9_fillFlat 8 none ∈ zG := zG_of (zt3 (List.mem_of_getElem? (i := 192) rfl)) rfl
theorem zw484 : Cond.methodLink RX9 84 yX9_fewestFlat ∈ zG := zG_of (zt3 (List.mem_of_getElem? (i := 193) rfl)) rfl
theorem zw485 : Cond.instanceMethod yX9_fewestFlat ∈ zG := zG_of (zt3 (List.mem_of_getElem? (i := 195) rfl)) rfl
theorem zw486 : Cond.code yX9_fewestFlat cX9_fewestFlat 12 (some .int) ∈ zG := zG_of (zt3 (List.mem_of_getElem? (i := 196) rfl)) rfl
theorem zw487 : Cond.constant RX9 88 (65536) ∈ zG := zG_of (zt3 (List.mem_of_getElem? (i := 197) rfl)) rfl
theorem zw488 : Cond.constant RX11 238 (65536) ∈ zG := zG_of (zt3 (List.mem_of_getElem? (i := 198) rfl)) rfl
theorem zw489 : Cond.methodLink RL 90 yX11_note ∈ zG := zG_of (zt3 (List.mem_of_getElem? (i := 199) rfl)) rfl
theorem zw490 : Cond.instanceMethod yX11_note ∈ zG := zG_of (zt3 (List.mem_of_getElem? (i := 200) rfl)) rfl
theorem zw491 : Cond.selects RX11 yX11_note yX11_note ∈ zG := zG_of (zt3 (List.mem_of_getElem? (i := 201) rfl)) rfl
theorem zw492 : Cond.code yX11_note cX11_note 5 (some .int) ∈ zG := zG_of (zt3 (List.mem_of_getElem? (i := 202) rfl)) rfl
theorem zw493 : Cond.instanceMethod yX10_addNote ∈ zG := zG_of (zt3 (List.mem_of_getElem? (i := 205) rfl)) rfl
theorem zw494 : Cond.code yX10_addNote cX10_addNote 5 none ∈ zG := zG_of (zt3 (List.mem_of_getElem? (i := 206) rfl)) rfl
theorem zw495 : Cond.methodLink RL 94 yX11_forget ∈ zG := zG_of (zt3 (List.mem_of_getElem? (i := 207) rfl)) rfl
theorem zw496 : Cond.instanceMethod yX11_forget ∈ zG := zG_of (zt3 (List.mem_of_getElem? (i := 208) rfl)) rfl
theorem zw497 : Cond.selects RX11 yX11_forget yX11_forget ∈ zG := zG_of (zt3 (List.mem_of_getElem? (i := 209) rfl)) rfl
theorem zw498 : Cond.code yX11_forget cX11_forget 2 (some .int) ∈ zG := zG_of (zt3 (List.mem_of_getElem? (i := 210) rfl)) rfl
theorem zw499 : Cond.methodLink RL 98 yX11_is ∈ zG := zG_of (zt3 (List.mem_of_getElem? (i := 211) rfl)) rfl
theorem zw500 : Cond.instanceMethod yX11_is ∈ zG := zG_of (zt3 (List.mem_of_getElem? (i := 212) rfl)) rfl
theorem zw501 : Cond.selects RX11 yX11_is yX11_is ∈ zG := zG_of (zt3 (List.mem_of_getElem? (i := 213) rfl)) rfl
theorem zw502 : Cond.code yX11_is cX11_is 2 (some .int) ∈ zG := zG_of (zt3 (List.mem_of_getElem? (i := 214) rfl)) rfl
theorem zw503 : Cond.methodLink RX11 246 yX11_kindsThatFit ∈ zG := zG_of (zt3 (List.mem_of_getElem? (i := 215) rfl)) rfl
theorem zw504 : Cond.instanceMethod yX11_kindsThatFit ∈ zG := zG_of (zt3 (List.mem_of_getElem? (i := 217) rfl)) rfl
theorem zw505 : Cond.code yX11_kindsThatFit cX11_kindsThatFit 5 (some .int) ∈ zG := zG_of (zt3 (List.mem_of_getElem? (i := 218) rfl)) rfl
theorem zw506 : Cond.instanceMethod yX8_fellIn ∈ zG := zG_of (zt3 (List.mem_of_getElem? (i := 221) rfl)) rfl
theorem zw507 : Cond.code yX8_fellIn cX8_fellIn 2 (some .int) ∈ zG := zG_of (zt3 (List.mem_of_getElem? (i := 222) rfl)) rfl
theorem zw508 : Cond.methodLink RL 102 yX11_bowl ∈ zG := zG_of (zt3 (List.mem_of_getElem? (i := 223) rfl)) rfl
theorem zw509 : Cond.instanceMethod yX11_bowl ∈ zG := zG_of (zt3 (List.mem_of_getElem? (i := 224) rfl)) rfl
theorem zw510 : Cond.selects RX11 yX11_bowl yX11_bowl ∈ zG := zG_of (zt3 (List.mem_of_getElem? (i := 225) rfl)) rfl
theorem zw511 : Cond.code yX11_bowl cX11_bowl 7 (some .int) ∈ zG := zG_of (zt3 (List.mem_of_getElem? (i := 226) rfl)) rfl
theorem zw512 : Cond.methodLink RX11 249 yX11_mostThatEndAlike ∈ zG := zG_of (zt3 (List.mem_of_getElem? (i := 227) rfl)) rfl
theorem zw513 : Cond.instanceMethod yX11_mostThatEndAlike ∈ zG := zG_of (zt3 (List.mem_of_getElem? (i := 229) rfl)) rfl
theorem zw514 : Cond.code yX11_mostThatEndAlike cX11_mostThatEndAlike 7 (some .int) ∈ zG := zG_of (zt3 (List.mem_of_getElem? (i := 230) rfl)) rfl
theorem zw515 : Cond.methodLink RX11 331 yX11_endOfPace ∈ zG := zG_of (zt3 (List.mem_of_getElem? (i := 231) rfl)) rfl
theorem zw516 : Cond.instanceMethod yX11_endOfPace ∈ zG := zG_of (zt3 (List.mem_of_getElem? (i := 233) rfl)) rfl
theorem zw517 : Cond.code yX11_endOfPace cX11_endOfPace 5 (some .int) ∈ zG := zG_of (zt3 (List.mem_of_getElem? (i := 234) rfl)) rfl
theorem zw518 : Cond.methodLink RX11 334 Lib.Math.max.name ∈ zG := zG_of (zt3 (List.mem_of_getElem? (i := 235) rfl)) rfl
theorem zw519 : Cond.methodLink RL 106 yX11_bowed ∈ zG := zG_of (zt3 (List.mem_of_getElem? (i := 236) rfl)) rfl
theorem zw520 : Cond.instanceMethod yX11_bowed ∈ zG := zG_of (zt3 (List.mem_of_getElem? (i := 237) rfl)) rfl
theorem zw521 : Cond.selects RX11 yX11_bowed yX11_bowed ∈ zG := zG_of (zt3 (List.mem_of_getElem? (i := 238) rfl)) rfl
theorem zw522 : Cond.code yX11_bowed cX11_bowed 11 (some .int) ∈ zG := zG_of (zt3 (List.mem_of_getElem? (i := 239) rfl)) rfl
theorem zw523 : Cond.methodLink RL 111 yX11_pigeons ∈ zG := zG_of (zt4 (List.mem_of_getElem? (i := 1) rfl)) rfl
theorem zw524 : Cond.instanceMethod yX11_pigeons ∈ zG := zG_of (zt4 (List.mem_of_getElem? (i := 2) rfl)) rfl
theorem zw525 : Cond.selects RX11 yX11_pigeons yX11_pigeons ∈ zG := zG_of (zt4 (List.mem_of_getElem? (i := 3) rfl)) rfl
theorem zw526 : Cond.code yX11_pigeons cX11_pigeons 7 (some .int) ∈ zG := zG_of (zt4 (List.mem_of_getElem? (i := 4) rfl)) rfl
theorem zw527 : Cond.instanceMethod yX9_through ∈ zG := zG_of (zt4 (List.mem_of_getElem? (i := 7) rfl)) rfl
theorem zw528 : Cond.code yX9_through cX9_through 12 (some .long) ∈ zG := zG_of (zt4 (List.mem_of_getElem? (i := 8) rfl)) rfl
theorem zw529 : Cond.methodLink RX9 89 yX9_addChance ∈ zG := zG_of (zt4 (List.mem_of_getElem? (i := 9) rfl)) rfl
theorem zw530 : Cond.instanceMethod yX9_addChance ∈ zG := zG_of (zt4 (List.mem_of_getElem? (i := 11) rfl)) rfl
theorem zw531 : Cond.code yX9_addChance cX9_addChance 6 none ∈ zG := zG_of (zt4 (List.mem_of_getElem? (i := 12) rfl)) rfl
theorem zw532 : Cond.methodLink RX9 93 yX9_turnChances ∈ zG := zG_of (zt4 (List.mem_of_getElem? (i := 13) rfl)) rfl
theorem zw533 : Cond.instanceMethod yX9_turnChances ∈ zG := zG_of (zt4 (List.mem_of_getElem? (i := 15) rfl)) rfl
theorem zw534 : Cond.code yX9_turnChances cX9_turnChances 2 none ∈ zG := zG_of (zt4 (List.mem_of_getElem? (i := 16) rfl)) rfl
theorem zw535 : Cond.methodLink RX9 96 yX9_chanceOf ∈ zG := zG_of (zt4 (List.mem_of_getElem? (i := 17) rfl)) rfl
theorem zw536 : Cond.instanceMethod yX9_chanceOf ∈ zG := zG_of (zt4 (List.mem_of_getElem? (i := 19) rfl)) rfl
theorem zw537 : Cond.code yX9_chanceOf cX9_chanceOf 3 (some .long) ∈ zG := zG_of (zt4 (List.mem_of_getElem? (i := 20) rfl)) rfl
theorem zw538 : Cond.constantLong RX11 272 (10) ∈ zG := zG_of (zt4 (List.mem_of_getElem? (i := 21) rfl)) rfl
theorem zw539 : Cond.methodLink RX11 274 yX11_commonDivisor ∈ zG := zG_of (zt4 (List.mem_of_getElem? (i := 22) rfl)) rfl
theorem zw540 : Cond.static yX11_commonDivisor ∈ zG := zG_of (zt4 (List.mem_of_getElem? (i := 23) rfl)) rfl
theorem zw541 : Cond.code yX11_commonDivisor cX11_commonDivisor 11 (some .long) ∈ zG := zG_of (zt4 (List.mem_of_getElem? (i := 24) rfl)) rfl
theorem zw542 : Cond.methodLink RL 115 yX11_crowned ∈ zG := zG_of (zt4 (List.mem_of_getElem? (i := 25) rfl)) rfl
theorem zw543 : Cond.instanceMethod yX11_crowned ∈ zG := zG_of (zt4 (List.mem_of_getElem? (i := 26) rfl)) rfl
theorem zw544 : Cond.selects RX11 yX11_crowned yX11_crowned ∈ zG := zG_of (zt4 (List.mem_of_getElem? (i := 27) rfl)) rfl
theorem zw545 : Cond.code yX11_crowned cX11_crowned 10 (some .int) ∈ zG := zG_of (zt4 (List.mem_of_getElem? (i := 28) rfl)) rfl
theorem zw546 : Cond.constant RX11 278 (999999) ∈ zG := zG_of (zt4 (List.mem_of_getElem? (i := 29) rfl)) rfl
theorem zw547 : Cond.constantLong RX11 279 (1103515245) ∈ zG := zG_of (zt4 (List.mem_of_getElem? (i := 30) rfl)) rfl
theorem zw548 : Cond.constantLong RX11 281 (12345) ∈ zG := zG_of (zt4 (List.mem_of_getElem? (i := 31) rfl)) rfl
theorem zw549 : Cond.constantLong RX11 283 (2147483648) ∈ zG := zG_of (zt4 (List.mem_of_getElem? (i := 32) rfl)) rfl
theorem zw550 : Cond.constantLong RX11 285 (65536) ∈ zG := zG_of (zt4 (List.mem_of_getElem? (i := 33) rfl)) rfl
theorem zw551 : Cond.constantLong RX11 287 (3) ∈ zG := zG_of (zt4 (List.mem_of_getElem? (i := 34) rfl)) rfl
theorem zw552 : Cond.methodLink RL 119 yX11_part ∈ zG := zG_of (zt4 (List.mem_of_getElem? (i := 35) rfl)) rfl
theorem zw553 : Cond.instanceMethod yX11_part ∈ zG := zG_of (zt4 (List.mem_of_getElem? (i := 36) rfl)) rfl
theorem zw554 : Cond.selects RX11 yX11_part yX11_part ∈ zG := zG_of (zt4 (List.mem_of_getElem? (i := 37) rfl)) rfl
theorem zw555 : Cond.code yX11_part cX11_part 2 (some .long) ∈ zG := zG_of (zt4 (List.mem_of_getElem? (i := 38) rfl)) rfl
theorem zw556 : Cond.methodLink RL 124 yX11_image ∈ zG := zG_of (zt4 (List.mem_of_getElem? (i := 39) rfl)) rfl
theorem zw557 : Cond.instanceMethod yX11_image ∈ zG := zG_of (zt4 (List.mem_of_getElem? (i := 40) rfl)) rfl
theorem zw558 : Cond.selects RX11 yX11_image yX11_image ∈ zG := zG_of (zt4 (List.mem_of_getElem? (i := 41) rfl)) rfl
theorem zw559 : Cond.code yX11_image cX11_image 3 (some .int) ∈ zG := zG_of (zt4 (List.mem_of_getElem? (i := 42) rfl)) rfl
theorem zw560 : Cond.methodLink RL 128 yX11_from ∈ zG := zG_of (zt4 (List.mem_of_getElem? (i := 43) rfl)) rfl
theorem zw561 : Cond.instanceMethod yX11_from ∈ zG := zG_of (zt4 (List.mem_of_getElem? (i := 44) rfl)) rfl
theorem zw562 : Cond.selects RX11 yX11_from yX11_from ∈ zG := zG_of (zt4 (List.mem_of_getElem? (i := 45) rfl)) rfl
theorem zw563 : Cond.code yX11_from cX11_from 3 (some .int) ∈ zG := zG_of (zt4 (List.mem_of_getElem? (i := 46) rfl)) rfl
theorem zw564 : Cond.methodLink RL 132 yX11_status ∈ zG := zG_of (zt4 (List.mem_of_getElem? (i := 47) rfl)) rfl
theorem zw565 : Cond.instanceMethod yX11_status ∈ zG := zG_of (zt4 (List.mem_of_getElem? (i := 48) rfl)) rfl
theorem zw566 : Cond.selects RX11 yX11_status yX11_status ∈ zG := zG_of (zt4 (List.mem_of_getElem? (i := 49) rfl)) rfl
theorem zw567 : Cond.code yX11_status cX11_status 2 (some .int) ∈ zG := zG_of (zt4 (List.mem_of_getElem? (i := 50) rfl)) rfl
theorem zw568 : Cond.methodLink RL 136 yX11_count ∈ zG := zG_of (zt4 (List.mem_of_getElem? (i := 51) rfl)) rfl
theorem zw569 : Cond.instanceMethod yX11_count ∈ zG := zG_of (zt4 (List.mem_of_getElem? (i := 52) rfl)) rfl
theorem zw570 : Cond.selects RX11 yX11_count yX11_count ∈ zG := zG_of (zt4 (List.mem_of_getElem? (i := 53) rfl)) rfl
theorem zw571 : Cond.code yX11_count cX11_count 2 (some .int) ∈ zG := zG_of (zt4 (List.mem_of_getElem? (i := 54) rfl)) rfl
theorem zw572 : Cond.methodLink RL 140 yX11_digest ∈ zG := zG_of (zt4 (List.mem_of_getElem? (i := 55) rfl)) rfl
theorem zw573 : Cond.instanceMethod yX11_digest ∈ zG := zG_of (zt4 (List.mem_of_getElem? (i := 56) rfl)) rfl
theorem zw574 : Cond.selects RX11 yX11_digest yX11_digest ∈ zG := zG_of (zt4 (List.mem_of_getElem? (i := 57) rfl)) rfl
theorem zw575 : Cond.code yX11_digest cX11_digest 4 (some .long) ∈ zG := zG_of (zt4 (List.mem_of_getElem? (i := 58) rfl)) rfl
theorem zw576 : Cond.constantLong RX11 292 (1087) ∈ zG := zG_of (zt4 (List.mem_of_getElem? (i := 59) rfl)) rfl
theorem zw577 : Cond.constantLong RX11 294 (31) ∈ zG := zG_of (zt4 (List.mem_of_getElem? (i := 60) rfl)) rfl
theorem zw578 : Cond.methodLink RX11 296 yX11_count ∈ zG := zG_of (zt4 (List.mem_of_getElem? (i := 61) rfl)) rfl
theorem zw579 : Cond.instanceMethod yX5_addTo ∈ zG := zG_of (zt4 (List.mem_of_getElem? (i := 64) rfl)) rfl
theorem zw580 : Cond.code yX5_addTo cX5_addTo 6 (some .long) ∈ zG := zG_of (zt4 (List.mem_of_getElem? (i := 65) rfl)) rfl
theorem zw581 : Cond.constantLong RX5 44 (31) ∈ zG := zG_of (zt4 (List.mem_of_getElem? (i := 66) rfl)) rfl
theorem zw582 : Cond.instanceMethod yX10_addHeadsTo ∈ zG := zG_of (zt4 (List.mem_of_getElem? (i := 69) rfl)) rfl
theorem zw583 : Cond.code yX10_addHeadsTo cX10_addHeadsTo 6 (some .long) ∈ zG := zG_of (zt4 (List.mem_of_getElem? (i := 70) rfl)) rfl
theorem zw584 : Cond.constantLong RX10 76 (31) ∈ zG := zG_of (zt4 (List.mem_of_getElem? (i := 71) rfl)) rfl
theorem zw585 : Cond.methodLink RX11 306 yX11_now ∈ zG := zG_of (zt4 (List.mem_of_getElem? (i := 72) rfl)) rfl
theorem zw586 : Cond.instanceMethod yX10_addNotesTo ∈ zG := zG_of (zt4 (List.mem_of_getElem? (i := 75) rfl)) rfl
theorem zw587 : Cond.code yX10_addNotesTo cX10_addNotesTo 6 (some .long) ∈ zG := zG_of (zt4 (List.mem_of_getElem? (i := 76) rfl)) rfl
theorem zw588 : Cond.classLink RL 10 RX12 ∈ zG := zG_of (zt4 (List.mem_of_getElem? (i := 77) rfl)) rfl
theorem zw589 : Cond.instantiable RX12 22 ∈ zG := zG_of (zt4 (List.mem_of_getElem? (i := 78) rfl)) rfl
theorem zw590 : Cond.methodLink RL 12 yX12_init ∈ zG := zG_of (zt4 (List.mem_of_getElem? (i := 79) rfl)) rfl
theorem zw591 : Cond.instanceMethod yX12_init ∈ zG := zG_of (zt4 (List.mem_of_getElem? (i := 80) rfl)) rfl
theorem zw592 : Cond.code yX12_init cX12_init 1 none ∈ zG := zG_of (zt4 (List.mem_of_getElem? (i := 81) rfl)) rfl
theorem zw593 : Cond.methodLink RX12 1 objectInit ∈ zG := zG_of (zt4 (List.mem_of_getElem? (i := 82) rfl)) rfl
theorem zw594 : Cond.methodLink RX12 52 yX12_begin ∈ zG := zG_of (zt4 (List.mem_of_getElem? (i := 83) rfl)) rfl
theorem zw595 : Cond.static yX12_begin ∈ zG := zG_of (zt4 (List.mem_of_getElem? (i := 84) rfl)) rfl
theorem zw596 : Cond.code yX12_begin cX12_begin 4 none ∈ zG := zG_of (zt4 (List.mem_of_getElem? (i := 85) rfl)) rfl
theorem zw597 : Cond.fieldLink RX12 7 RX12 "now" "[I" ∈ zG := zG_of (zt4 (List.mem_of_getElem? (i := 86) rfl)) rfl
theorem zw598 : Cond.fieldLink RX12 13 RX12 "kept" "[I" ∈ zG := zG_of (zt4 (List.mem_of_getElem? (i := 87) rfl)) rfl
theorem zw599 : Cond.fieldLink RX12 16 RX12 "isKept" "[Z" ∈ zG := zG_of (zt4 (List.mem_of_getElem? (i := 88) rfl)) rfl
theorem zw600 : Cond.fieldLink RX12 20 RX12 "refused" "[I" ∈ zG := zG_of (zt4 (List.mem_of_getElem? (i := 89) rfl)) rfl
theorem zw601 : Cond.fieldLink RX12 211 RX12 "above" "J" ∈ zG := zG_of (zt4 (List.mem_of_getElem? (i := 90) rfl)) rfl
theorem zw602 : Cond.fieldLink RX12 23 RX12 "below" "J" ∈ zG := zG_of (zt4 (List.mem_of_getElem? (i := 91) rfl)) rfl
theorem zw603 : Cond.fieldLink RX12 27 RX12 "stones" "[I" ∈ zG := zG_of (zt4 (List.mem_of_getElem? (i := 92) rfl)) rfl
theorem zw604 : Cond.fieldLink RX12 151 RX12 "at" "I" ∈ zG := zG_of (zt4 (List.mem_of_getElem? (i := 93) rfl)) rfl
theorem zw605 : Cond.fieldLink RX12 147 RX12 "leaning" "I" ∈ zG := zG_of (zt4 (List.mem_of_getElem? (i := 94) rfl)) rfl
theorem zw606 : Cond.fieldLink RX12 154 RX12 "steps" "I" ∈ zG := zG_of (zt4 (List.mem_of_getElem? (i := 95) rfl)) rfl
theorem zw607 : Cond.fieldLink RX12 30 RX12 "latest" "[I" ∈ zG := zG_of (zt4 (List.mem_of_getElem? (i := 96) rfl)) rfl
theorem zw608 : Cond.fieldLink RX12 33 RX12 "ends" "[I" ∈ zG := zG_of (zt4 (List.mem_of_getElem? (i := 97) rfl)) rfl
theorem zw609 : Cond.fieldLink RX12 36 RX12 "cases" "[J" ∈ zG := zG_of (zt4 (List.mem_of_getElem? (i := 98) rfl)) rfl
theorem zw610 : Cond.fieldLink RX12 40 RX12 "casesThen" "[J" ∈ zG := zG_of (zt4 (List.mem_of_getElem? (i := 99) rfl)) rfl
theorem zw611 : Cond.fieldLink RX12 43 RX12 "bytes" "[I" ∈ zG := zG_of (zt4 (List.mem_of_getElem? (i := 100) rfl)) rfl
theorem zw612 : Cond.fieldLink RX12 238 RX12 "bytesLong" "I" ∈ zG := zG_of (zt4 (List.mem_of_getElem? (i := 101) rfl)) rfl
theorem zw613 : Cond.fieldLink RX12 249 RX12 "tokenAt" "I" ∈ zG := zG_of (zt4 (List.mem_of_getElem? (i := 102) rfl)) rfl
theorem zw614 : Cond.fieldLink RX12 252 RX12 "tokenLong" "I" ∈ zG := zG_of (zt4 (List.mem_of_getElem? (i := 103) rfl)) rfl
theorem zw615 : Cond.fieldLink RX12 255 RX12 "token" "I" ∈ zG := zG_of (zt4 (List.mem_of_getElem? (i := 104) rfl)) rfl
theorem zw616 : Cond.fieldLink RX12 258 RX12 "value" "I" ∈ zG := zG_of (zt4 (List.mem_of_getElem? (i := 105) rfl)) rfl
theorem zw617 : Cond.fieldLink RX12 46 RX12 "anew" "[I" ∈ zG := zG_of (zt4 (List.mem_of_getElem? (i := 106) rfl)) rfl
theorem zw618 : Cond.fieldLink RX12 49 RX12 "values" "[I" ∈ zG := zG_of (zt4 (List.mem_of_getElem? (i := 107) rfl)) rfl
theorem zw619 : Cond.laysFinal "SmallCrownModel" "SmallCrownModel" "now" "[I" ∈ zG := zG_of (zt4 (List.mem_of_getElem? (i := 108) rfl)) rfl
theorem zw620 : Cond.laysFinal "SmallCrownModel" "SmallCrownModel" "kept" "[I" ∈ zG := zG_of (zt4 (List.mem_of_getElem? (i := 110) rfl)) rfl
theorem zw621 : Cond.laysFinal "SmallCrownModel" "SmallCrownModel" "isKept" "[Z" ∈ zG := zG_of (zt4 (List.mem_of_getElem? (i := 112) rfl)) rfl
theorem zw622 : Cond.laysFinal "SmallCrownModel" "SmallCrownModel" "refused" "[I" ∈ zG := zG_of (zt4 (List.mem_of_getElem? (i := 114) rfl)) rfl
theorem zw623 : Cond.lays "SmallCrownModel" "SmallCrownModel" "above" "J" ∈ zG := zG_of (zt4 (List.mem_of_getElem? (i := 116) rfl)) rfl
theorem zw624 : Cond.lays "SmallCrownModel" "SmallCrownModel" "below" "J" ∈ zG := zG_of (zt4 (List.mem_of_getElem? (i := 118) rfl)) rfl
theorem zw625 : Cond.laysFinal "SmallCrownModel" "SmallCrownModel" "stones" "[I" ∈ zG := zG_of (zt4 (List.mem_of_getElem? (i := 120) rfl)) rfl
theorem zw626 : Cond.lays "SmallCrownModel" "SmallCrownModel" "at" "I" ∈ zG := zG_of (zt4 (List.mem_of_getElem? (i := 122) rfl)) rfl
theorem zw627 : Cond.lays "SmallCrownModel" "SmallCrownModel" "leaning" "I" ∈ zG := zG_of (zt4 (List.mem_of_getElem? (i := 124) rfl)) rfl
theorem zw628 : Cond.lays "SmallCrownModel" "SmallCrownModel" "steps" "I" ∈ zG := zG_of (zt4 (List.mem_of_getElem? (i := 126) rfl)) rfl
theorem zw629 : Cond.laysFinal "SmallCrownModel" "SmallCrownModel" "latest" "[I" ∈ zG := zG_of (zt4 (List.mem_of_getElem? (i := 128) rfl)) rfl
theorem zw630 : Cond.laysFinal "SmallCrownModel" "SmallCrownModel" "ends" "[I" ∈ zG := zG_of (zt4 (List.mem_of_getElem? (i := 130) rfl)) rfl
theorem zw631 : Cond.laysFinal "SmallCrownModel" "SmallCrownModel" "cases" "[J" ∈ zG := zG_of (zt4 (List.mem_of_getElem? (i := 132) rfl)) rfl
theorem zw632 : Cond.laysFinal "SmallCrownModel" "SmallCrownModel" "casesThen" "[J" ∈ zG := zG_of (zt4 (List.mem_of_getElem? (i := 134) rfl)) rfl
theorem zw633 : Cond.laysFinal "SmallCrownModel" "SmallCrownModel" "bytes" "[I" ∈ zG := zG_of (zt4 (List.mem_of_getElem? (i := 136) rfl)) rfl
theorem zw634 : Cond.lays "SmallCrownModel" "SmallCrownModel" "bytesLong" "I" ∈ zG := zG_of (zt4 (List.mem_of_getElem? (i := 138) rfl)) rfl
theorem zw635 : Cond.lays "SmallCrownModel" "SmallCrownModel" "tokenAt" "I" ∈ zG := zG_of (zt4 (List.mem_of_getElem? (i := 140) rfl)) rfl
theorem zw636 : Cond.lays "SmallCrownModel" "SmallCrownModel" "tokenLong" "I" ∈ zG := zG_of (zt4 (List.mem_of_getElem? (i := 142) rfl)) rfl
theorem zw637 : Cond.lays "SmallCrownModel" "SmallCrownModel" "token" "I" ∈ zG := zG_of (zt4 (List.mem_of_getElem? (i := 144) rfl)) rfl
theorem zw638 : Cond.lays "SmallCrownModel" "SmallCrownModel" "value" "I" ∈ zG := zG_of (zt4 (List.mem_of_getElem? (i := 146) rfl)) rfl
theorem zw639 : Cond.laysFinal "SmallCrownModel" "SmallCrownModel" "anew" "[I" ∈ zG := zG_of (zt4 (List.mem_of_getElem? (i := 148) rfl)) rfl
theorem zw640 : Cond.laysFinal "SmallCrownModel" "SmallCrownModel" "values" "[I" ∈ zG := zG_of (zt4 (List.mem_of_getElem? (i := 150) rfl)) rfl
theorem zw641 : Cond.superclass RX12 "java/lang/Object" ∈ zG := zG_of (zt4 (List.mem_of_getElem? (i := 152) rfl)) rfl
theorem zw642 : Cond.arrayClass .boolean ∈ zG := zG_of (zt4 (List.mem_of_getElem? (i := 153) rfl)) rfl
theorem zw643 : Cond.methodLink RL 17 yX12_road ∈ zG := zG_of (zt4 (List.mem_of_getElem? (i := 154) rfl)) rfl
theorem zw644 : Cond.instanceMethod yX12_road ∈ zG := zG_of (zt4 (List.mem_of_getElem? (i := 155) rfl)) rfl
theorem zw645 : Cond.selects RX12 yX12_road yX12_road ∈ zG := zG_of (zt4 (List.mem_of_getElem? (i := 156) rfl)) rfl
theorem zw646 : Cond.code yX12_road cX12_road 4 (some .int) ∈ zG := zG_of (zt4 (List.mem_of_getElem? (i := 157) rfl)) rfl
theorem zw647 : Cond.methodLink RX12 72 yX12_isRoad ∈ zG := zG_of (zt4 (List.mem_of_getElem? (i := 158) rfl)) rfl
theorem zw648 : Cond.static yX12_isRoad ∈ zG := zG_of (zt4 (List.mem_of_getElem? (i := 159) rfl)) rfl
theorem zw649 : Cond.code yX12_isRoad cX12_isRoad 2 (some .boolean) ∈ zG := zG_of (zt4 (List.mem_of_getElem? (i := 160) rfl)) rfl
theorem zw650 : Cond.constantLong RX12 68 (15) ∈ zG := zG_of (zt4 (List.mem_of_getElem? (i := 161) rfl)) rfl
theorem zw651 : Cond.methodLink RX12 56 yX12_in ∈ zG := zG_of (zt4 (List.mem_of_getElem? (i := 162) rfl)) rfl
theorem zw652 : Cond.static yX12_in ∈ zG := zG_of (zt4 (List.mem_of_getElem? (i := 163) rfl)) rfl
theorem zw653 : Cond.code yX12_in cX12_in 6 (some .boolean) ∈ zG := zG_of (zt4 (List.mem_of_getElem? (i := 164) rfl)) rfl
theorem zw654 : Cond.constantLong RX12 70 (12) ∈ zG := zG_of (zt4 (List.mem_of_getElem? (i := 165) rfl)) rfl
theorem zw655 : Cond.methodLink RX12 76 yX12_bad ∈ zG := zG_of (zt4 (List.mem_of_getElem? (i := 166) rfl)) rfl
theorem zw656 : Cond.instanceMethod yX12_bad ∈ zG := zG_of (zt4 (List.mem_of_getElem? (i := 168) rfl)) rfl
theorem zw657 : Cond.code yX12_bad cX12_bad 2 (some .int) ∈ zG := zG_of (zt4 (List.mem_of_getElem? (i := 169) rfl)) rfl
theorem zw658 : Cond.methodLink RL 21 yX12_cobble ∈ zG := zG_of (zt4 (List.mem_of_getElem? (i := 170) rfl)) rfl
theorem zw659 : Cond.instanceMethod yX12_cobble ∈ zG := zG_of (zt4 (List.mem_of_getElem? (i := 171) rfl)) rfl
theorem zw660 : Cond.selects RX12 yX12_cobble yX12_cobble ∈ zG := zG_of (zt4 (List.mem_of_getElem? (i := 172) rfl)) rfl
theorem zw661 : Cond.code yX12_cobble cX12_cobble 4 (some .int) ∈ zG := zG_of (zt4 (List.mem_of_getElem? (i := 173) rfl)) rfl
theorem zw662 : Cond.methodLink RX12 80 yX12_isCell ∈ zG := zG_of (zt4 (List.mem_of_getElem? (i := 174) rfl)) rfl
theorem zw663 : Cond.instanceMethod yX12_isCell ∈ zG := zG_of (zt4 (List.mem_of_getElem? (i := 176) rfl)) rfl
theorem zw664 : Cond.code yX12_isCell cX12_isCell 2 (some .boolean) ∈ zG := zG_of (zt4 (List.mem_of_getElem? (i := 177) rfl)) rfl
theorem zw665 : Cond.methodLink RX12 60 yX12_fountain ∈ zG := zG_of (zt4 (List.mem_of_getElem? (i := 178) rfl)) rfl
theorem zw666 : Cond.instanceMethod yX12_fountain ∈ zG := zG_of (zt4 (List.mem_of_getElem? (i := 180) rfl)) rfl
theorem zw667 : Cond.code yX12_fountain cX12_fountain 1 (some .int) ∈ zG := zG_of (zt4 (List.mem_of_getElem? (i := 181) rfl)) rfl
theorem zw668 : Cond.constantLong RX12 84 (-4) ∈ zG := zG_of (zt4 (List.mem_of_getElem? (i := 182) rfl)) rfl
theorem zw669 : Cond.constantLong RX12 86 (4) ∈ zG := zG_of (zt4 (List.mem_of_getElem? (i := 183) rfl)) rfl
theorem zw670 : Cond.methodLink RL 25 yX12_wind ∈ zG := zG_of (zt4 (List.mem_of_getElem? (i := 184) rfl)) rfl
theorem zw671 : Cond.instanceMethod yX12_wind ∈ zG := zG_of (zt4 (List.mem_of_getElem? (i := 185) rfl)) rfl
theorem zw672 : Cond.selects RX12 yX12_wind yX12_wind ∈ zG := zG_of (zt4 (List.mem_of_getElem? (i := 186) rfl)) rfl
theorem zw673 : Cond.code yX12_wind cX12_wind 4 (some .int) ∈ zG := zG_of (zt4 (List.mem_of_getElem? (i := 187) rfl)) rfl
theorem zw674 : Cond.constantLong RX12 64 (5) ∈ zG := zG_of (zt4 (List.mem_of_getElem? (i := 188) rfl)) rfl
theorem zw675 : Cond.constantLong RX12 88 (-3) ∈ zG := zG_of (zt4 (List.mem_of_getElem? (i := 189) rfl)) rfl
theorem zw676 : Cond.constantLong RX12 66 (3) ∈ zG := zG_of (zt4 (List.mem_of_getElem? (i := 190) rfl)) rfl
theorem zw677 : Cond.methodLink RL 29 yX12_head ∈ zG := zG_of (zt4 (List.mem_of_getElem? (i := 191) rfl)) rfl
theorem zw678 : Cond.instanceMethod yX12_head ∈ zG := zG_of (zt4 (List.mem_of_getElem? (i := 192) rfl)) rfl
theorem zw679 : Cond.selects RX12 yX12_head yX12_head ∈ zG := zG_of (zt4 (List.mem_of_getElem? (i := 193) rfl)) rfl
theorem zw680 : Cond.code yX12_head cX12_head 3 (some .int) ∈ zG := zG_of (zt4 (List.mem_of_getElem? (i := 194) rfl)) rfl
theorem zw681 : Cond.constantLong RX12 90 (-12) ∈ zG := zG_of (zt4 (List.mem_of_getElem? (i := 195) rfl)) rfl
theorem zw682 : Cond.methodLink RX12 92 yX12_full ∈ zG := zG_of (zt4 (List.mem_of_getElem? (i := 196) rfl)) rfl
theorem zw683 : Cond.instanceMethod yX12_full ∈ zG := zG_of (zt4 (List.mem_of_getElem? (i := 198) rfl)) rfl
theorem zw684 : Cond.code yX12_full cX12_full 1 (some .int) ∈ zG := zG_of (zt4 (List.mem_of_getElem? (i := 199) rfl)) rfl
theorem zw685 : Cond.methodLink RX12 95 yX12_layHead ∈ zG := zG_of (zt4 (List.mem_of_getElem? (i := 200) rfl)) rfl
theorem zw686 : Cond.static yX12_layHead ∈ zG := zG_of (zt4 (List.mem_of_getElem? (i := 201) rfl)) rfl
theorem zw687 : Cond.code yX12_layHead cX12_layHead 3 none ∈ zG := zG_of (zt4 (List.mem_of_getElem? (i := 202) rfl)) rfl
theorem zw688 : Cond.methodLink RL 63 yX12_of ∈ zG := zG_of (zt4 (List.mem_of_getElem? (i := 203) rfl)) rfl
theorem zw689 : Cond.instanceMethod yX12_of ∈ zG := zG_of (zt4 (List.mem_of_getElem? (i := 204) rfl)) rfl
theorem zw690 : Cond.selects RX12 yX12_of yX12_of ∈ zG := zG_of (zt4 (List.mem_of_getElem? (i := 205) rfl)) rfl
theorem zw691 : Cond.code yX12_of cX12_of 3 (some .int) ∈ zG := zG_of (zt4 (List.mem_of_getElem? (i := 206) rfl)) rfl
theorem zw692 : Cond.methodLink RX12 98 yX12_isHead ∈ zG := zG_of (zt4 (List.mem_of_getElem? (i := 207) rfl)) rfl
theorem zw693 : Cond.instanceMethod yX12_isHead ∈ zG := zG_of (zt4 (List.mem_of_getElem? (i := 209) rfl)) rfl
theorem zw694 : Cond.code yX12_isHead cX12_isHead 2 (some .boolean) ∈ zG := zG_of (zt4 (List.mem_of_getElem? (i := 210) rfl)) rfl
theorem zw695 : Cond.methodLink RX12 101 yX12_kindOf ∈ zG := zG_of (zt4 (List.mem_of_getElem? (i := 211) rfl)) rfl
theorem zw696 : Cond.instanceMethod yX12_kindOf ∈ zG := zG_of (zt4 (List.mem_of_getElem? (i := 213) rfl)) rfl
theorem zw697 : Cond.code yX12_kindOf cX12_kindOf 2 (some .int) ∈ zG := zG_of (zt4 (List.mem_of_getElem? (i := 214) rfl)) rfl
theorem zw698 : Cond.methodLink RX12 104 yX12_setOf ∈ zG := zG_of (zt4 (List.mem_of_getElem? (i := 215) rfl)) rfl
theorem zw699 : Cond.instanceMethod yX12_setOf ∈ zG := zG_of (zt4 (List.mem_of_getElem? (i := 217) rfl)) rfl
theorem zw700 : Cond.code yX12_setOf cX12_setOf 2 (some .int) ∈ zG := zG_of (zt4 (List.mem_of_getElem? (i := 218) rfl)) rfl
theorem zw701 : Cond.methodLink RL 47 yX12_walk ∈ zG := zG_of (zt4 (List.mem_of_getElem? (i := 219) rfl)) rfl
theorem zw702 : Cond.instanceMethod yX12_walk ∈ zG := zG_of (zt4 (List.mem_of_getElem? (i := 220) rfl)) rfl
theorem zw703 : Cond.selects RX12 yX12_walk yX12_walk ∈ zG := zG_of (zt4 (List.mem_of_getElem? (i := 221) rfl)) rfl
theorem zw704 : Cond.code yX12_walk cX12_walk 2 (some .int) ∈ zG := zG_of (zt4 (List.mem_of_getElem? (i := 222) rfl)) rfl
theorem zw705 : Cond.methodLink RX12 118 yX12_falls ∈ zG := zG_of (zt4 (List.mem_of_getElem? (i := 223) rfl)) rfl
theorem zw706 : Cond.instanceMethod yX12_falls ∈ zG := zG_of (zt4 (List.mem_of_getElem? (i := 225) rfl)) rfl
theorem zw707 : Cond.code yX12_falls cX12_falls 2 (some .boolean) ∈ zG := zG_of (zt4 (List.mem_of_getElem? (i := 226) rfl)) rfl
theorem zw708 : Cond.methodLink RL 51 yX12_step ∈ zG := zG_of (zt4 (List.mem_of_getElem? (i := 227) rfl)) rfl
theorem zw709 : Cond.instanceMethod yX12_step ∈ zG := zG_of (zt4 (List.mem_of_getElem? (i := 228) rfl)) rfl
theorem zw710 : Cond.selects RX12 yX12_step yX12_step ∈ zG := zG_of (zt4 (List.mem_of_getElem? (i := 229) rfl)) rfl
theorem zw711 : Cond.code yX12_step cX12_step 3 (some .int) ∈ zG := zG_of (zt4 (List.mem_of_getElem? (i := 230) rfl)) rfl
theorem zw712 : Cond.methodLink RX12 121 yX12_isPace ∈ zG := zG_of (zt4 (List.mem_of_getElem? (i := 231) rfl)) rfl
theorem zw713 : Cond.static yX12_isPace ∈ zG := zG_of (zt4 (List.mem_of_getElem? (i := 232) rfl)) rfl
theorem zw714 : Cond.code yX12_isPace cX12_isPace 1 (some .boolean) ∈ zG := zG_of (zt4 (List.mem_of_getElem? (i := 233) rfl)) rfl
theorem zw715 : Cond.methodLink RX12 124 yX12_isWalk ∈ zG := zG_of (zt4 (List.mem_of_getElem? (i := 234) rfl)) rfl
theorem zw716 : Cond.instanceMethod yX12_isWalk ∈ zG := zG_of (zt4 (List.mem_of_getElem? (i := 236) rfl)) rfl
theorem zw717 : Cond.code yX12_isWalk cX12_isWalk 1 (some .boolean) ∈ zG := zG_of (zt4 (List.mem_of_getElem? (i := 237) rfl)) rfl
theorem zw718 : Cond.methodLink RX12 128 yX12_isThere ∈ zG := zG_of (zt4 (List.mem_of_getElem? (i := 238) rfl)) rfl
theorem zw719 : Cond.instanceMethod yX12_isThere ∈ zG := zG_of (zt5 (List.mem_of_getElem? (i := 0) rfl)) rfl
theorem zw720 : Cond.code yX12_isThere cX12_isThere 1 (some .boolean) ∈ zG := zG_of (zt5 (List.mem_of_getElem? (i := 1) rfl)) rfl
theorem zw721 : Cond.methodLink RX12 131 yX12_no ∈ zG := zG_of (zt5 (List.mem_of_getElem? (i := 2) rfl)) rfl
theorem zw722 : Cond.instanceMethod yX12_no ∈ zG := zG_of (zt5 (List.mem_of_getElem? (i := 4) rfl)) rfl
theorem zw723 : Cond.code yX12_no cX12_no 2 (some .int) ∈ zG := zG_of (zt5 (List.mem_of_getElem? (i := 5) rfl)) rfl
theorem zw724 : Cond.methodLink RX12 134 yX12_keep ∈ zG := zG_of (zt5 (List.mem_of_getElem? (i := 6) rfl)) rfl
theorem zw725 : Cond.instanceMethod yX12_keep ∈ zG := zG_of (zt5 (List.mem_of_getElem? (i := 8) rfl)) rfl
theorem zw726 : Cond.code yX12_keep cX12_keep 2 none ∈ zG := zG_of (zt5 (List.mem_of_getElem? (i := 9) rfl)) rfl
theorem zw727 : Cond.methodLink RX12 137 yX12_layStones ∈ zG := zG_of (zt5 (List.mem_of_getElem? (i := 10) rfl)) rfl
theorem zw728 : Cond.instanceMethod yX12_layStones ∈ zG := zG_of (zt5 (List.mem_of_getElem? (i := 12) rfl)) rfl
theorem zw729 : Cond.code yX12_layStones cX12_layStones 2 none ∈ zG := zG_of (zt5 (List.mem_of_getElem? (i := 13) rfl)) rfl
theorem zw730 : Cond.methodLink RX12 140 yX12_leanBehind ∈ zG := zG_of (zt5 (List.mem_of_getElem? (i := 14) rfl)) rfl
theorem zw731 : Cond.instanceMethod yX12_leanBehind ∈ zG := zG_of (zt5 (List.mem_of_getElem? (i := 16) rfl)) rfl
theorem zw732 : Cond.code yX12_leanBehind cX12_leanBehind 6 (some .int) ∈ zG := zG_of (zt5 (List.mem_of_getElem? (i := 17) rfl)) rfl
theorem zw733 : Cond.methodLink RX12 110 yX12_cellBy ∈ zG := zG_of (zt5 (List.mem_of_getElem? (i := 18) rfl)) rfl
theorem zw734 : Cond.instanceMethod yX12_cellBy ∈ zG := zG_of (zt5 (List.mem_of_getElem? (i := 20) rfl)) rfl
theorem zw735 : Cond.code yX12_cellBy cX12_cellBy 3 (some .int) ∈ zG := zG_of (zt5 (List.mem_of_getElem? (i := 21) rfl)) rfl
theorem zw736 : Cond.methodLink RX12 114 yX12_leanBy ∈ zG := zG_of (zt5 (List.mem_of_getElem? (i := 22) rfl)) rfl
theorem zw737 : Cond.static yX12_leanBy ∈ zG := zG_of (zt5 (List.mem_of_getElem? (i := 23) rfl)) rfl
theorem zw738 : Cond.code yX12_leanBy cX12_leanBy 7 (some .int) ∈ zG := zG_of (zt5 (List.mem_of_getElem? (i := 24) rfl)) rfl
theorem zw739 : Cond.methodLink RX12 107 yX12_stiff ∈ zG := zG_of (zt5 (List.mem_of_getElem? (i := 25) rfl)) rfl
theorem zw740 : Cond.static yX12_stiff ∈ zG := zG_of (zt5 (List.mem_of_getElem? (i := 26) rfl)) rfl
theorem zw741 : Cond.code yX12_stiff cX12_stiff 1 (some .int) ∈ zG := zG_of (zt5 (List.mem_of_getElem? (i := 27) rfl)) rfl
theorem zw742 : Cond.methodLink RL 55 yX12_hand ∈ zG := zG_of (zt5 (List.mem_of_getElem? (i := 28) rfl)) rfl
theorem zw743 : Cond.instanceMethod yX12_hand ∈ zG := zG_of (zt5 (List.mem_of_getElem? (i := 29) rfl)) rfl
theorem zw744 : Cond.selects RX12 yX12_hand yX12_hand ∈ zG := zG_of (zt5 (List.mem_of_getElem? (i := 30) rfl)) rfl
theorem zw745 : Cond.code yX12_hand cX12_hand 2 (some .int) ∈ zG := zG_of (zt5 (List.mem_of_getElem? (i := 31) rfl)) rfl
theorem zw746 : Cond.methodLink RL 59 yX12_undo ∈ zG := zG_of (zt5 (List.mem_of_getElem? (i := 32) rfl)) rfl
theorem zw747 : Cond.instanceMethod yX12_undo ∈ zG := zG_of (zt5 (List.mem_of_getElem? (i := 33) rfl)) rfl
theorem zw748 : Cond.selects RX12 yX12_undo yX12_undo ∈ zG := zG_of (zt5 (List.mem_of_getElem? (i := 34) rfl)) rfl
theorem zw749 : Cond.code yX12_undo cX12_undo 2 (some .int) ∈ zG := zG_of (zt5 (List.mem_of_getElem? (i := 35) rfl)) rfl
theorem zw750 : Cond.methodLink RL 67 yX12_now ∈ zG := zG_of (zt5 (List.mem_of_getElem? (i := 36) rfl)) rfl
theorem zw751 : Cond.instanceMethod yX12_now ∈ zG := zG_of (zt5 (List.mem_of_getElem? (i := 37) rfl)) rfl
theorem zw752 : Cond.selects RX12 yX12_now yX12_now ∈ zG := zG_of (zt5 (List.mem_of_getElem? (i := 38) rfl)) rfl
theorem zw753 : Cond.code yX12_now cX12_now 2 (some .int) ∈ zG := zG_of (zt5 (List.mem_of_getElem? (i := 39) rfl)) rfl
theorem zw754 : Cond.methodLink RL 72 yX12_paces ∈ zG := zG_of (zt5 (List.mem_of_getElem? (i := 40) rfl)) rfl
theorem zw755 : Cond.instanceMethod yX12_paces ∈ zG := zG_of (zt5 (List.mem_of_getElem? (i := 41) rfl)) rfl
theorem zw756 : Cond.selects RX12 yX12_paces yX12_paces ∈ zG := zG_of (zt5 (List.mem_of_getElem? (i := 42) rfl)) rfl
theorem zw757 : Cond.code yX12_paces cX12_paces 5 (some .int) ∈ zG := zG_of (zt5 (List.mem_of_getElem? (i := 43) rfl)) rfl
theorem zw758 : Cond.methodLink RX12 171 yX12_isStep ∈ zG := zG_of (zt5 (List.mem_of_getElem? (i := 44) rfl)) rfl
theorem zw759 : Cond.static yX12_isStep ∈ zG := zG_of (zt5 (List.mem_of_getElem? (i := 45) rfl)) rfl
theorem zw760 : Cond.code yX12_isStep cX12_isStep 1 (some .boolean) ∈ zG := zG_of (zt5 (List.mem_of_getElem? (i := 46) rfl)) rfl
theorem zw761 : Cond.methodLink RX12 174 yX12_isRow ∈ zG := zG_of (zt5 (List.mem_of_getElem? (i := 47) rfl)) rfl
theorem zw762 : Cond.static yX12_isRow ∈ zG := zG_of (zt5 (List.mem_of_getElem? (i := 48) rfl)) rfl
theorem zw763 : Cond.code yX12_isRow cX12_isRow 3 (some .boolean) ∈ zG := zG_of (zt5 (List.mem_of_getElem? (i := 49) rfl)) rfl
theorem zw764 : Cond.constant RX12 143 (333333333) ∈ zG := zG_of (zt5 (List.mem_of_getElem? (i := 50) rfl)) rfl
theorem zw765 : Cond.methodLink RX12 177 yX12_goRow ∈ zG := zG_of (zt5 (List.mem_of_getElem? (i := 51) rfl)) rfl
theorem zw766 : Cond.instanceMethod yX12_goRow ∈ zG := zG_of (zt5 (List.mem_of_getElem? (i := 53) rfl)) rfl
theorem zw767 : Cond.code yX12_goRow cX12_goRow 8 none ∈ zG := zG_of (zt5 (List.mem_of_getElem? (i := 54) rfl)) rfl
theorem zw768 : Cond.methodLink RX12 157 yX12_beginAt ∈ zG := zG_of (zt5 (List.mem_of_getElem? (i := 55) rfl)) rfl
theorem zw769 : Cond.instanceMethod yX12_beginAt ∈ zG := zG_of (zt5 (List.mem_of_getElem? (i := 57) rfl)) rfl
theorem zw770 : Cond.code yX12_beginAt cX12_beginAt 2 none ∈ zG := zG_of (zt5 (List.mem_of_getElem? (i := 58) rfl)) rfl
theorem zw771 : Cond.methodLink RX12 144 yX12_manyOf ∈ zG := zG_of (zt5 (List.mem_of_getElem? (i := 59) rfl)) rfl
theorem zw772 : Cond.static yX12_manyOf ∈ zG := zG_of (zt5 (List.mem_of_getElem? (i := 60) rfl)) rfl
theorem zw773 : Cond.code yX12_manyOf cX12_manyOf 3 (some .int) ∈ zG := zG_of (zt5 (List.mem_of_getElem? (i := 61) rfl)) rfl
theorem zw774 : Cond.methodLink RX12 161 yX12_isOver ∈ zG := zG_of (zt5 (List.mem_of_getElem? (i := 62) rfl)) rfl
theorem zw775 : Cond.instanceMethod yX12_isOver ∈ zG := zG_of (zt5 (List.mem_of_getElem? (i := 64) rfl)) rfl
theorem zw776 : Cond.code yX12_isOver cX12_isOver 1 (some .boolean) ∈ zG := zG_of (zt5 (List.mem_of_getElem? (i := 65) rfl)) rfl
theorem zw777 : Cond.methodLink RX12 164 yX12_paceOf ∈ zG := zG_of (zt5 (List.mem_of_getElem? (i := 66) rfl)) rfl
theorem zw778 : Cond.static yX12_paceOf ∈ zG := zG_of (zt5 (List.mem_of_getElem? (i := 67) rfl)) rfl
theorem zw779 : Cond.code yX12_paceOf cX12_paceOf 4 (some .int) ∈ zG := zG_of (zt5 (List.mem_of_getElem? (i := 68) rfl)) rfl
theorem zw780 : Cond.methodLink RX12 167 yX12_goStep ∈ zG := zG_of (zt5 (List.mem_of_getElem? (i := 69) rfl)) rfl
theorem zw781 : Cond.instanceMethod yX12_goStep ∈ zG := zG_of (zt5 (List.mem_of_getElem? (i := 71) rfl)) rfl
theorem zw782 : Cond.code yX12_goStep cX12_goStep 5 none ∈ zG := zG_of (zt5 (List.mem_of_getElem? (i := 72) rfl)) rfl
theorem zw783 : Cond.methodLink RL 77 yX12_soonest ∈ zG := zG_of (zt5 (List.mem_of_getElem? (i := 73) rfl)) rfl
theorem zw784 : Cond.instanceMethod yX12_soonest ∈ zG := zG_of (zt5 (List.mem_of_getElem? (i := 74) rfl)) rfl
theorem zw785 : Cond.selects RX12 yX12_soonest yX12_soonest ∈ zG := zG_of (zt5 (List.mem_of_getElem? (i := 75) rfl)) rfl
theorem zw786 : Cond.code yX12_soonest cX12_soonest 6 (some .int) ∈ zG := zG_of (zt5 (List.mem_of_getElem? (i := 76) rfl)) rfl
theorem zw787 : Cond.methodLink RX12 190 yX12_layLatest ∈ zG := zG_of (zt5 (List.mem_of_getElem? (i := 77) rfl)) rfl
theorem zw788 : Cond.instanceMethod yX12_layLatest ∈ zG := zG_of (zt5 (List.mem_of_getElem? (i := 79) rfl)) rfl
theorem zw789 : Cond.code yX12_layLatest cX12_layLatest 9 none ∈ zG := zG_of (zt5 (List.mem_of_getElem? (i := 80) rfl)) rfl
theorem zw790 : Cond.constant RX12 181 (1000000) ∈ zG := zG_of (zt5 (List.mem_of_getElem? (i := 81) rfl)) rfl
theorem zw791 : Cond.methodLink RX12 186 yX12_byPace ∈ zG := zG_of (zt5 (List.mem_of_getElem? (i := 82) rfl)) rfl
theorem zw792 : Cond.instanceMethod yX12_byPace ∈ zG := zG_of (zt5 (List.mem_of_getElem? (i := 84) rfl)) rfl
theorem zw793 : Cond.code yX12_byPace cX12_byPace 13 (some .int) ∈ zG := zG_of (zt5 (List.mem_of_getElem? (i := 85) rfl)) rfl
theorem zw794 : Cond.methodLink RX12 182 yX12_latestAt ∈ zG := zG_of (zt5 (List.mem_of_getElem? (i := 86) rfl)) rfl
theorem zw795 : Cond.instanceMethod yX12_latestAt ∈ zG := zG_of (zt5 (List.mem_of_getElem? (i := 88) rfl)) rfl
theorem zw796 : Cond.code yX12_latestAt cX12_latestAt 4 (some .int) ∈ zG := zG_of (zt5 (List.mem_of_getElem? (i := 89) rfl)) rfl
theorem zw797 : Cond.methodLink RX12 194 yX12_throughIn ∈ zG := zG_of (zt5 (List.mem_of_getElem? (i := 90) rfl)) rfl
theorem zw798 : Cond.instanceMethod yX12_throughIn ∈ zG := zG_of (zt5 (List.mem_of_getElem? (i := 92) rfl)) rfl
theorem zw799 : Cond.code yX12_throughIn cX12_throughIn 3 (some .int) ∈ zG := zG_of (zt5 (List.mem_of_getElem? (i := 93) rfl)) rfl
theorem zw800 : Cond.methodLink RL 81 yX12_hour ∈ zG := zG_of (zt5 (List.mem_of_getElem? (i := 94) rfl)) rfl
theorem zw801 : Cond.instanceMethod yX12_hour ∈ zG := zG_of (zt5 (List.mem_of_getElem? (i := 95) rfl)) rfl
theorem zw802 : Cond.selects RX12 yX12_hour yX12_hour ∈ zG := zG_of (zt5 (List.mem_of_getElem? (i := 96) rfl)) rfl
theorem zw803 : Cond.code yX12_hour cX12_hour 6 (some .int) ∈ zG := zG_of (zt5 (List.mem_of_getElem? (i := 97) rfl)) rfl
theorem zw804 : Cond.methodLink RL 85 yX12_sure ∈ zG := zG_of (zt5 (List.mem_of_getElem? (i := 98) rfl)) rfl
theorem zw805 : Cond.instanceMethod yX12_sure ∈ zG := zG_of (zt5 (List.mem_of_getElem? (i := 99) rfl)) rfl
theorem zw806 : Cond.selects RX12 yX12_sure yX12_sure ∈ zG := zG_of (zt5 (List.mem_of_getElem? (i := 100) rfl)) rfl
theorem zw807 : Cond.code yX12_sure cX12_sure 5 (some .int) ∈ zG := zG_of (zt5 (List.mem_of_getElem? (i := 101) rfl)) rfl
theorem zw808 : Cond.methodLink RL 89 yX12_flat ∈ zG := zG_of (zt5 (List.mem_of_getElem? (i := 102) rfl)) rfl
theorem zw809 : Cond.instanceMethod yX12_flat ∈ zG := zG_of (zt5 (List.mem_of_getElem? (i := 103) rfl)) rfl
theorem zw810 : Cond.selects RX12 yX12_flat yX12_flat ∈ zG := zG_of (zt5 (List.mem_of_getElem? (i := 104) rfl)) rfl
theorem zw811 : Cond.code yX12_flat cX12_flat 7 (some .int) ∈ zG := zG_of (zt5 (List.mem_of_getElem? (i := 105) rfl)) rfl
theorem zw812 : Cond.methodLink RX12 197 yX12_bits ∈ zG := zG_of (zt5 (List.mem_of_getElem? (i := 106) rfl)) rfl
theorem zw813 : Cond.static yX12_bits ∈ zG := zG_of (zt5 (List.mem_of_getElem? (i := 107) rfl)) rfl
theorem zw814 : Cond.code yX12_bits cX12_bits 3 (some .int) ∈ zG := zG_of (zt5 (List.mem_of_getElem? (i := 108) rfl)) rfl
theorem zw815 : Cond.methodLink RL 93 yX12_note ∈ zG := zG_of (zt5 (List.mem_of_getElem? (i := 109) rfl)) rfl
theorem zw816 : Cond.instanceMethod yX12_note ∈ zG := zG_of (zt5 (List.mem_of_getElem? (i := 110) rfl)) rfl
theorem zw817 : Cond.selects RX12 yX12_note yX12_note ∈ zG := zG_of (zt5 (List.mem_of_getElem? (i := 111) rfl)) rfl
theorem zw818 : Cond.code yX12_note cX12_note 6 (some .int) ∈ zG := zG_of (zt5 (List.mem_of_getElem? (i := 112) rfl)) rfl
theorem zw819 : Cond.constantLong RX12 200 (-1) ∈ zG := zG_of (zt5 (List.mem_of_getElem? (i := 113) rfl)) rfl
theorem zw820 : Cond.methodLink RL 97 yX12_forget ∈ zG := zG_of (zt5 (List.mem_of_getElem? (i := 114) rfl)) rfl
theorem zw821 : Cond.instanceMethod yX12_forget ∈ zG := zG_of (zt5 (List.mem_of_getElem? (i := 115) rfl)) rfl
theorem zw822 : Cond.selects RX12 yX12_forget yX12_forget ∈ zG := zG_of (zt5 (List.mem_of_getElem? (i := 116) rfl)) rfl
theorem zw823 : Cond.code yX12_forget cX12_forget 2 (some .int) ∈ zG := zG_of (zt5 (List.mem_of_getElem? (i := 117) rfl)) rfl
theorem zw824 : Cond.methodLink RL 101 yX12_is ∈ zG := zG_of (zt5 (List.mem_of_getElem? (i := 118) rfl)) rfl
theorem zw825 : Cond.instanceMethod yX12_is ∈ zG := zG_of (zt5 (List.mem_of_getElem? (i := 119) rfl)) rfl
theorem zw826 : Cond.selects RX12 yX12_is yX12_is ∈ zG := zG_of (zt5 (List.mem_of_getElem? (i := 120) rfl)) rfl
theorem zw827 : Cond.code yX12_is cX12_is 2 (some .int) ∈ zG := zG_of (zt5 (List.mem_of_getElem? (i := 121) rfl)) rfl
theorem zw828 : Cond.methodLink RX12 208 yX12_kindsOf ∈ zG := zG_of (zt5 (List.mem_of_getElem? (i := 122) rfl)) rfl
theorem zw829 : Cond.instanceMethod yX12_kindsOf ∈ zG := zG_of (zt5 (List.mem_of_getElem? (i := 124) rfl)) rfl
theorem zw830 : Cond.code yX12_kindsOf cX12_kindsOf 4 (some .int) ∈ zG := zG_of (zt5 (List.mem_of_getElem? (i := 125) rfl)) rfl
theorem zw831 : Cond.methodLink RX12 205 yX12_canBe ∈ zG := zG_of (zt5 (List.mem_of_getElem? (i := 126) rfl)) rfl
theorem zw832 : Cond.instanceMethod yX12_canBe ∈ zG := zG_of (zt5 (List.mem_of_getElem? (i := 128) rfl)) rfl
theorem zw833 : Cond.code yX12_canBe cX12_canBe 6 (some .boolean) ∈ zG := zG_of (zt5 (List.mem_of_getElem? (i := 129) rfl)) rfl
theorem zw834 : Cond.methodLink RX12 202 yX12_fellIn ∈ zG := zG_of (zt5 (List.mem_of_getElem? (i := 130) rfl)) rfl
theorem zw835 : Cond.instanceMethod yX12_fellIn ∈ zG := zG_of (zt5 (List.mem_of_getElem? (i := 132) rfl)) rfl
theorem zw836 : Cond.code yX12_fellIn cX12_fellIn 1 (some .int) ∈ zG := zG_of (zt5 (List.mem_of_getElem? (i := 133) rfl)) rfl
theorem zw837 : Cond.methodLink RL 105 yX12_bowl ∈ zG := zG_of (zt5 (List.mem_of_getElem? (i := 134) rfl)) rfl
theorem zw838 : Cond.instanceMethod yX12_bowl ∈ zG := zG_of (zt5 (List.mem_of_getElem? (i := 135) rfl)) rfl
theorem zw839 : Cond.selects RX12 yX12_bowl yX12_bowl ∈ zG := zG_of (zt5 (List.mem_of_getElem? (i := 136) rfl)) rfl
theorem zw840 : Cond.code yX12_bowl cX12_bowl 8 (some .int) ∈ zG := zG_of (zt5 (List.mem_of_getElem? (i := 137) rfl)) rfl
theorem zw841 : Cond.methodLink RL 110 yX12_bowed ∈ zG := zG_of (zt5 (List.mem_of_getElem? (i := 138) rfl)) rfl
theorem zw842 : Cond.instanceMethod yX12_bowed ∈ zG := zG_of (zt5 (List.mem_of_getElem? (i := 139) rfl)) rfl
theorem zw843 : Cond.selects RX12 yX12_bowed yX12_bowed ∈ zG := zG_of (zt5 (List.mem_of_getElem? (i := 140) rfl)) rfl
theorem zw844 : Cond.code yX12_bowed cX12_bowed 11 (some .int) ∈ zG := zG_of (zt5 (List.mem_of_getElem? (i := 141) rfl)) rfl
theorem zw845 : Cond.methodLink RL 114 yX12_pigeons ∈ zG := zG_of (zt5 (List.mem_of_getElem? (i := 142) rfl)) rfl
theorem zw846 : Cond.instanceMethod yX12_pigeons ∈ zG := zG_of (zt5 (List.mem_of_getElem? (i := 143) rfl)) rfl
theorem zw847 : Cond.selects RX12 yX12_pigeons yX12_pigeons ∈ zG := zG_of (zt5 (List.mem_of_getElem? (i := 144) rfl)) rfl
theorem zw848 : Cond.code yX12_pigeons cX12_pigeons 10 (some .int) ∈ zG := zG_of (zt5 (List.mem_of_getElem? (i := 145) rfl)) rfl
theorem zw849 : Cond.constantLong RX12 214 (10) ∈ zG := zG_of (zt5 (List.mem_of_getElem? (i := 146) rfl)) rfl
theorem zw850 : Cond.methodLink RX12 216 yX12_goCases ∈ zG := zG_of (zt5 (List.mem_of_getElem? (i := 147) rfl)) rfl
theorem zw851 : Cond.instanceMethod yX12_goCases ∈ zG := zG_of (zt5 (List.mem_of_getElem? (i := 149) rfl)) rfl
theorem zw852 : Cond.code yX12_goCases cX12_goCases 8 none ∈ zG := zG_of (zt5 (List.mem_of_getElem? (i := 150) rfl)) rfl
theorem zw853 : Cond.methodLink RX12 220 yX12_fraction ∈ zG := zG_of (zt5 (List.mem_of_getElem? (i := 151) rfl)) rfl
theorem zw854 : Cond.instanceMethod yX12_fraction ∈ zG := zG_of (zt5 (List.mem_of_getElem? (i := 153) rfl)) rfl
theorem zw855 : Cond.code yX12_fraction cX12_fraction 11 none ∈ zG := zG_of (zt5 (List.mem_of_getElem? (i := 154) rfl)) rfl
theorem zw856 : Cond.methodLink RL 118 yX12_crowned ∈ zG := zG_of (zt5 (List.mem_of_getElem? (i := 155) rfl)) rfl
theorem zw857 : Cond.instanceMethod yX12_crowned ∈ zG := zG_of (zt5 (List.mem_of_getElem? (i := 156) rfl)) rfl
theorem zw858 : Cond.selects RX12 yX12_crowned yX12_crowned ∈ zG := zG_of (zt5 (List.mem_of_getElem? (i := 157) rfl)) rfl
theorem zw859 : Cond.code yX12_crowned cX12_crowned 8 (some .int) ∈ zG := zG_of (zt5 (List.mem_of_getElem? (i := 158) rfl)) rfl
theorem zw860 : Cond.constantLong RX12 224 (999999) ∈ zG := zG_of (zt5 (List.mem_of_getElem? (i := 159) rfl)) rfl
theorem zw861 : Cond.constantLong RX12 226 (60) ∈ zG := zG_of (zt5 (List.mem_of_getElem? (i := 160) rfl)) rfl
theorem zw862 : Cond.constantLong RX12 228 (1103515245) ∈ zG := zG_of (zt5 (List.mem_of_getElem? (i := 161) rfl)) rfl
theorem zw863 : Cond.constantLong RX12 230 (12345) ∈ zG := zG_of (zt5 (List.mem_of_getElem? (i := 162) rfl)) rfl
theorem zw864 : Cond.constantLong RX12 232 (2147483648) ∈ zG := zG_of (zt5 (List.mem_of_getElem? (i := 163) rfl)) rfl
theorem zw865 : Cond.constantLong RX12 234 (65536) ∈ zG := zG_of (zt5 (List.mem_of_getElem? (i := 164) rfl)) rfl
theorem zw866 : Cond.methodLink RL 34 yX12_type ∈ zG := zG_of (zt5 (List.mem_of_getElem? (i := 165) rfl)) rfl
theorem zw867 : Cond.instanceMethod yX12_type ∈ zG := zG_of (zt5 (List.mem_of_getElem? (i := 166) rfl)) rfl
theorem zw868 : Cond.selects RX12 yX12_type yX12_type ∈ zG := zG_of (zt5 (List.mem_of_getElem? (i := 167) rfl)) rfl
theorem zw869 : Cond.code yX12_type cX12_type 2 (some .int) ∈ zG := zG_of (zt5 (List.mem_of_getElem? (i := 168) rfl)) rfl
theorem zw870 : Cond.constantLong RX12 236 (127) ∈ zG := zG_of (zt5 (List.mem_of_getElem? (i := 169) rfl)) rfl
theorem zw871 : Cond.methodLink RL 39 yX12_clear ∈ zG := zG_of (zt5 (List.mem_of_getElem? (i := 170) rfl)) rfl
theorem zw872 : Cond.instanceMethod yX12_clear ∈ zG := zG_of (zt5 (List.mem_of_getElem? (i := 171) rfl)) rfl
theorem zw873 : Cond.selects RX12 yX12_clear yX12_clear ∈ zG := zG_of (zt5 (List.mem_of_getElem? (i := 172) rfl)) rfl
theorem zw874 : Cond.code yX12_clear cX12_clear 2 (some .int) ∈ zG := zG_of (zt5 (List.mem_of_getElem? (i := 173) rfl)) rfl
theorem zw875 : Cond.methodLink RL 43 yX12_read ∈ zG := zG_of (zt5 (List.mem_of_getElem? (i := 174) rfl)) rfl
theorem zw876 : Cond.instanceMethod yX12_read ∈ zG := zG_of (zt5 (List.mem_of_getElem? (i := 175) rfl)) rfl
theorem zw877 : Cond.selects RX12 yX12_read yX12_read ∈ zG := zG_of (zt5 (List.mem_of_getElem? (i := 176) rfl)) rfl
theorem zw878 : Cond.code yX12_read cX12_read 3 (some .int) ∈ zG := zG_of (zt5 (List.mem_of_getElem? (i := 177) rfl)) rfl
theorem zw879 : Cond.methodLink RX12 267 yX12_lookAt ∈ zG := zG_of (zt5 (List.mem_of_getElem? (i := 178) rfl)) rfl
theorem zw880 : Cond.instanceMethod yX12_lookAt ∈ zG := zG_of (zt5 (List.mem_of_getElem? (i := 180) rfl)) rfl
theorem zw881 : Cond.code yX12_lookAt cX12_lookAt 5 none ∈ zG := zG_of (zt5 (List.mem_of_getElem? (i := 181) rfl)) rfl
theorem zw882 : Cond.methodLink RX12 261 yX12_isSmall ∈ zG := zG_of (zt5 (List.mem_of_getElem? (i := 182) rfl)) rfl
theorem zw883 : Cond.static yX12_isSmall ∈ zG := zG_of (zt5 (List.mem_of_getElem? (i := 183) rfl)) rfl
theorem zw884 : Cond.code yX12_isSmall cX12_isSmall 1 (some .boolean) ∈ zG := zG_of (zt5 (List.mem_of_getElem? (i := 184) rfl)) rfl
theorem zw885 : Cond.constantLong RX12 241 (97) ∈ zG := zG_of (zt5 (List.mem_of_getElem? (i := 185) rfl)) rfl
theorem zw886 : Cond.constantLong RX12 243 (122) ∈ zG := zG_of (zt5 (List.mem_of_getElem? (i := 186) rfl)) rfl
theorem zw887 : Cond.methodLink RX12 264 yX12_isFigure ∈ zG := zG_of (zt5 (List.mem_of_getElem? (i := 187) rfl)) rfl
theorem zw888 : Cond.static yX12_isFigure ∈ zG := zG_of (zt5 (List.mem_of_getElem? (i := 188) rfl)) rfl
theorem zw889 : Cond.code yX12_isFigure cX12_isFigure 1 (some .boolean) ∈ zG := zG_of (zt5 (List.mem_of_getElem? (i := 189) rfl)) rfl
theorem zw890 : Cond.constantLong RX12 245 (48) ∈ zG := zG_of (zt5 (List.mem_of_getElem? (i := 190) rfl)) rfl
theorem zw891 : Cond.constantLong RX12 247 (57) ∈ zG := zG_of (zt5 (List.mem_of_getElem? (i := 191) rfl)) rfl
theorem zw892 : Cond.methodLink RX12 293 yX12_takesRoad ∈ zG := zG_of (zt5 (List.mem_of_getElem? (i := 192) rfl)) rfl
theorem zw893 : Cond.instanceMethod yX12_takesRoad ∈ zG := zG_of (zt5 (List.mem_of_getElem? (i := 194) rfl)) rfl
theorem zw894 : Cond.code yX12_takesRoad cX12_takesRoad 1 (some .boolean) ∈ zG := zG_of (zt5 (List.mem_of_getElem? (i := 195) rfl)) rfl
theorem zw895 : Cond.methodLink RX12 277 yX12_isWord ∈ zG := zG_of (zt5 (List.mem_of_getElem? (i := 196) rfl)) rfl
theorem zw896 : Cond.instanceMethod yX12_isWord ∈ zG := zG_of (zt5 (List.mem_of_getElem? (i := 198) rfl)) rfl
theorem zw897 : Cond.code yX12_isWord cX12_isWord 10 (some .boolean) ∈ zG := zG_of (zt5 (List.mem_of_getElem? (i := 199) rfl)) rfl
theorem zw898 : Cond.methodLink RX12 270 yX12_goBehind ∈ zG := zG_of (zt5 (List.mem_of_getElem? (i := 200) rfl)) rfl
theorem zw899 : Cond.instanceMethod yX12_goBehind ∈ zG := zG_of (zt5 (List.mem_of_getElem? (i := 202) rfl)) rfl
theorem zw900 : Cond.code yX12_goBehind cX12_goBehind 1 none ∈ zG := zG_of (zt5 (List.mem_of_getElem? (i := 203) rfl)) rfl
theorem zw901 : Cond.methodLink RX12 273 yX12_takes ∈ zG := zG_of (zt5 (List.mem_of_getElem? (i := 204) rfl)) rfl
theorem zw902 : Cond.instanceMethod yX12_takes ∈ zG := zG_of (zt5 (List.mem_of_getElem? (i := 206) rfl)) rfl
theorem zw903 : Cond.code yX12_takes cX12_takes 4 (some .boolean) ∈ zG := zG_of (zt5 (List.mem_of_getElem? (i := 207) rfl)) rfl
theorem zw904 : Cond.methodLink RX12 296 yX12_takesItem ∈ zG := zG_of (zt5 (List.mem_of_getElem? (i := 208) rfl)) rfl
theorem zw905 : Cond.instanceMethod yX12_takesItem ∈ zG := zG_of (zt5 (List.mem_of_getElem? (i := 210) rfl)) rfl
theorem zw906 : Cond.code yX12_takesItem cX12_takesItem 1 (some .boolean) ∈ zG := zG_of (zt5 (List.mem_of_getElem? (i := 211) rfl)) rfl
theorem zw907 : Cond.methodLink RX12 284 yX12_takesCobble ∈ zG := zG_of (zt5 (List.mem_of_getElem? (i := 212) rfl)) rfl
theorem zw908 : Cond.instanceMethod yX12_takesCobble ∈ zG := zG_of (zt5 (List.mem_of_getElem? (i := 214) rfl)) rfl
theorem zw909 : Cond.code yX12_takesCobble cX12_takesCobble 2 (some .boolean) ∈ zG := zG_of (zt5 (List.mem_of_getElem? (i := 215) rfl)) rfl
theorem zw910 : Cond.methodLink RX12 281 yX12_takesTwo ∈ zG := zG_of (zt5 (List.mem_of_getElem? (i := 216) rfl)) rfl
theorem zw911 : Cond.instanceMethod yX12_takesTwo ∈ zG := zG_of (zt5 (List.mem_of_getElem? (i := 218) rfl)) rfl
theorem zw912 : Cond.code yX12_takesTwo cX12_takesTwo 4 (some .boolean) ∈ zG := zG_of (zt5 (List.mem_of_getElem? (i := 219) rfl)) rfl
theorem zw913 : Cond.methodLink RX12 287 yX12_takesWind ∈ zG := zG_of (zt5 (List.mem_of_getElem? (i := 220) rfl)) rfl
theorem zw914 : Cond.instanceMethod yX12_takesWind ∈ zG := zG_of (zt5 (List.mem_of_getElem? (i := 222) rfl)) rfl
theorem zw915 : Cond.code yX12_takesWind cX12_takesWind 2 (some .boolean) ∈ zG := zG_of (zt5 (List.mem_of_getElem? (i := 223) rfl)) rfl
theorem zw916 : Cond.methodLink RX12 290 yX12_takesHead ∈ zG := zG_of (zt5 (List.mem_of_getElem? (i := 224) rfl)) rfl
theorem zw917 : Cond.instanceMethod yX12_takesHead ∈ zG := zG_of (zt5 (List.mem_of_getElem? (i := 226) rfl)) rfl
theorem zw918 : Cond.code yX12_takesHead cX12_takesHead 2 (some .boolean) ∈ zG := zG_of (zt5 (List.mem_of_getElem? (i := 227) rfl)) rfl
theorem zw919 : Cond.methodLink RL 123 yX12_part ∈ zG := zG_of (zt5 (List.mem_of_getElem? (i := 228) rfl)) rfl
theorem zw920 : Cond.instanceMethod yX12_part ∈ zG := zG_of (zt5 (List.mem_of_getElem? (i := 229) rfl)) rfl
theorem zw921 : Cond.selects RX12 yX12_part yX12_part ∈ zG := zG_of (zt5 (List.mem_of_getElem? (i := 230) rfl)) rfl
theorem zw922 : Cond.code yX12_part cX12_part 2 (some .long) ∈ zG := zG_of (zt5 (List.mem_of_getElem? (i := 231) rfl)) rfl
theorem zw923 : Cond.methodLink RL 127 yX12_image ∈ zG := zG_of (zt5 (List.mem_of_getElem? (i := 232) rfl)) rfl
theorem zw924 : Cond.instanceMethod yX12_image ∈ zG := zG_of (zt5 (List.mem_of_getElem? (i := 233) rfl)) rfl
theorem zw925 : Cond.selects RX12 yX12_image yX12_image ∈ zG := zG_of (zt5 (List.mem_of_getElem? (i := 234) rfl)) rfl
theorem zw926 : Cond.code yX12_image cX12_image 3 (some .int) ∈ zG := zG_of (zt5 (List.mem_of_getElem? (i := 235) rfl)) rfl
theorem zw927 : Cond.methodLink RL 131 yX12_from ∈ zG := zG_of (zt5 (List.mem_of_getElem? (i := 236) rfl)) rfl
theorem zw928 : Cond.instanceMethod yX12_from ∈ zG := zG_of (zt5 (List.mem_of_getElem? (i := 237) rfl)) rfl
theorem zw929 : Cond.selects RX12 yX12_from yX12_from ∈ zG := zG_of (zt5 (List.mem_of_getElem? (i := 238) rfl)) rfl
theorem zw930 : Cond.code yX12_from cX12_from 3 (some .int) ∈ zG := zG_of (zt5 (List.mem_of_getElem? (i := 239) rfl)) rfl
theorem zw931 : Cond.methodLink RL 135 yX12_status ∈ zG := zG_of (zt6 (List.mem_of_getElem? (i := 0) rfl)) rfl
theorem zw932 : Cond.instanceMethod yX12_status ∈ zG := zG_of (zt6 (List.mem_of_getElem? (i := 1) rfl)) rfl
theorem zw933 : Cond.selects RX12 yX12_status yX12_status ∈ zG := zG_of (zt6 (List.mem_of_getElem? (i := 2) rfl)) rfl
theorem zw934 : Cond.code yX12_status cX12_status 2 (some .int) ∈ zG := zG_of (zt6 (List.mem_of_getElem? (i := 3) rfl)) rfl
theorem zw935 : Cond.constantLong RX12 299 (2) ∈ zG := zG_of (zt6 (List.mem_of_getElem? (i := 4) rfl)) rfl
theorem zw936 : Cond.methodLink RL 139 yX12_count ∈ zG := zG_of (zt6 (List.mem_of_getElem? (i := 5) rfl)) rfl
theorem zw937 : Cond.instanceMethod yX12_count ∈ zG := zG_of (zt6 (List.mem_of_getElem? (i := 6) rfl)) rfl
theorem zw938 : Cond.selects RX12 yX12_count yX12_count ∈ zG := zG_of (zt6 (List.mem_of_getElem? (i := 7) rfl)) rfl
theorem zw939 : Cond.code yX12_count cX12_count 2 (some .int) ∈ zG := zG_of (zt6 (List.mem_of_getElem? (i := 8) rfl)) rfl
theorem zw940 : Cond.methodLink RX12 301 yX12_counted ∈ zG := zG_of (zt6 (List.mem_of_getElem? (i := 9) rfl)) rfl
theorem zw941 : Cond.instanceMethod yX12_counted ∈ zG := zG_of (zt6 (List.mem_of_getElem? (i := 11) rfl)) rfl
theorem zw942 : Cond.code yX12_counted cX12_counted 2 (some .int) ∈ zG := zG_of (zt6 (List.mem_of_getElem? (i := 12) rfl)) rfl
theorem zw943 : Cond.methodLink RL 144 yX12_digest ∈ zG := zG_of (zt6 (List.mem_of_getElem? (i := 13) rfl)) rfl
theorem zw944 : Cond.instanceMethod yX12_digest ∈ zG := zG_of (zt6 (List.mem_of_getElem? (i := 14) rfl)) rfl
theorem zw945 : Cond.selects RX12 yX12_digest yX12_digest ∈ zG := zG_of (zt6 (List.mem_of_getElem? (i := 15) rfl)) rfl
theorem zw946 : Cond.code yX12_digest cX12_digest 4 (some .long) ∈ zG := zG_of (zt6 (List.mem_of_getElem? (i := 16) rfl)) rfl
theorem zw947 : Cond.constantLong RX12 306 (1087) ∈ zG := zG_of (zt6 (List.mem_of_getElem? (i := 17) rfl)) rfl
theorem zw948 : Cond.constantLong RX12 304 (31) ∈ zG := zG_of (zt6 (List.mem_of_getElem? (i := 18) rfl)) rfl
theorem zw949 : Cond.methodLink RX12 308 yX12_sums ∈ zG := zG_of (zt6 (List.mem_of_getElem? (i := 19) rfl)) rfl
theorem zw950 : Cond.instanceMethod yX12_sums ∈ zG := zG_of (zt6 (List.mem_of_getElem? (i := 21) rfl)) rfl
theorem zw951 : Cond.code yX12_sums cX12_sums 8 (some .long) ∈ zG := zG_of (zt6 (List.mem_of_getElem? (i := 22) rfl)) rfl
theorem zw952 : Cond.sameMethod "SmallCrown$Stiff" "SmallCrown$Stiff" "leanBehind" "(IIII)I" ∈ zG := zG_of (zt6 (List.mem_of_getElem? (i := 23) rfl)) rfl
theorem zw953 : Cond.sameMethod "SmallCrown$ShortStep" "SmallCrown$ShortStep" "leanBehind" "(IIII)I" ∈ zG := zG_of (zt6 (List.mem_of_getElem? (i := 24) rfl)) rfl
theorem zw954 : Cond.fieldLink RJ0 9 RJ0 "value" "[B" ∈ zG := zG_of (zt6 (List.mem_of_getElem? (i := 30) rfl)) rfl
theorem zw955 : Cond.fieldLink RJ0 15 RJ0 "coder" "B" ∈ zG := zG_of (zt6 (List.mem_of_getElem? (i := 31) rfl)) rfl
theorem zw956 : Cond.selects RX11 yX11_bad yX11_bad ∈ zG := zG_of (zp (q := (yX11_bad, 13)) (zp1 (List.mem_of_getElem? (i := 0) rfl))) rfl
theorem zw957 : Cond.selects RX10 yX10_beginAnew yX10_beginAnew ∈ zG := zG_of (zp (q := (yX10_beginAnew, 10)) (zp1 (List.mem_of_getElem? (i := 1) rfl))) rfl
theorem zw958 : Cond.selects RX5 yX5_beginAnew yX5_beginAnew ∈ zG := zG_of (zp (q := (yX5_beginAnew, 4)) (zp1 (List.mem_of_getElem? (i := 2) rfl))) rfl
theorem zw959 : Cond.selects RX8 yX8_begin yX8_begin ∈ zG := zG_of (zp (q := (yX8_begin, 8)) (zp1 (List.mem_of_getElem? (i := 3) rfl))) rfl
theorem zw960 : Cond.selects RX11 yX11_isCell yX11_isCell ∈ zG := zG_of (zp (q := (yX11_isCell, 13)) (zp1 (List.mem_of_getElem? (i := 4) rfl))) rfl
theorem zw961 : Cond.selects RX5 yX5_cobbleOf yX5_cobbleOf ∈ zG := zG_of (zp (q := (yX5_cobbleOf, 4)) (zp1 (List.mem_of_getElem? (i := 5) rfl))) rfl
theorem zw962 : Cond.selects RX5 yX5_layCobble yX5_layCobble ∈ zG := zG_of (zp (q := (yX5_layCobble, 4)) (zp1 (List.mem_of_getElem? (i := 6) rfl))) rfl
theorem zw963 : Cond.selects RX5 yX5_windIn yX5_windIn ∈ zG := zG_of (zp (q := (yX5_windIn, 4)) (zp1 (List.mem_of_getElem? (i := 7) rfl))) rfl
theorem zw964 : Cond.selects RX5 yX5_setWind yX5_setWind ∈ zG := zG_of (zp (q := (yX5_setWind, 4)) (zp1 (List.mem_of_getElem? (i := 8) rfl))) rfl
theorem zw965 : Cond.selects RX11 yX11_full yX11_full ∈ zG := zG_of (zp (q := (yX11_full, 13)) (zp1 (List.mem_of_getElem? (i := 9) rfl))) rfl
theorem zw966 : Cond.selects RX10 yX10_addHead yX10_addHead ∈ zG := zG_of (zp (q := (yX10_addHead, 10)) (zp1 (List.mem_of_getElem? (i := 10) rfl))) rfl
theorem zw967 : Cond.selects RX4 yX4_add yX4_add ∈ zG := zG_of (zp (q := (yX4_add, 5)) (zp1 (List.mem_of_getElem? (i := 11) rfl))) rfl
theorem zw968 : Cond.selects RX4 yX4_tell yX4_tell ∈ zG := zG_of (zp (q := (yX4_tell, 5)) (zp1 (List.mem_of_getElem? (i := 12) rfl))) rfl
theorem zw969 : Cond.selects RX4 yX4_nextToken yX4_nextToken ∈ zG := zG_of (zp (q := (yX4_nextToken, 5)) (zp1 (List.mem_of_getElem? (i := 13) rfl))) rfl
theorem zw970 : Cond.selects RX4 yX4_byteAt yX4_byteAt ∈ zG := zG_of (zp (q := (yX4_byteAt, 5)) (zp1 (List.mem_of_getElem? (i := 14) rfl))) rfl
theorem zw971 : Cond.selects RX4 yX4_tellRoad yX4_tellRoad ∈ zG := zG_of (zp (q := (yX4_tellRoad, 5)) (zp1 (List.mem_of_getElem? (i := 15) rfl))) rfl
theorem zw972 : Cond.selects RX4 yX4_isWord yX4_isWord ∈ zG := zG_of (zp (q := (yX4_isWord, 5)) (zp2 (List.mem_of_getElem? (i := 0) rfl))) rfl
theorem zw973 : Cond.selects RX4 yX4_nextNumber yX4_nextNumber ∈ zG := zG_of (zp (q := (yX4_nextNumber, 5)) (zp2 (List.mem_of_getElem? (i := 1) rfl))) rfl
theorem zw974 : Cond.selects RX4 yX4_nextIsEnd yX4_nextIsEnd ∈ zG := zG_of (zp (q := (yX4_nextIsEnd, 5)) (zp2 (List.mem_of_getElem? (i := 2) rfl))) rfl
theorem zw975 : Cond.selects RX4 yX4_tellItem yX4_tellItem ∈ zG := zG_of (zp (q := (yX4_tellItem, 5)) (zp2 (List.mem_of_getElem? (i := 3) rfl))) rfl
theorem zw976 : Cond.selects RX4 yX4_tellCobble yX4_tellCobble ∈ zG := zG_of (zp (q := (yX4_tellCobble, 5)) (zp2 (List.mem_of_getElem? (i := 4) rfl))) rfl
theorem zw977 : Cond.selects RX4 yX4_tellWind yX4_tellWind ∈ zG := zG_of (zp (q := (yX4_tellWind, 5)) (zp2 (List.mem_of_getElem? (i := 5) rfl))) rfl
theorem zw978 : Cond.selects RX4 yX4_tellHead yX4_tellHead ∈ zG := zG_of (zp (q := (yX4_tellHead, 5)) (zp2 (List.mem_of_getElem? (i := 6) rfl))) rfl
theorem zw979 : Cond.selects RX10 yX10_copyFrom yX10_copyFrom ∈ zG := zG_of (zp (q := (yX10_copyFrom, 10)) (zp2 (List.mem_of_getElem? (i := 7) rfl))) rfl
theorem zw980 : Cond.selects RX5 yX5_copyFrom yX5_copyFrom ∈ zG := zG_of (zp (q := (yX5_copyFrom, 4)) (zp2 (List.mem_of_getElem? (i := 8) rfl))) rfl
theorem zw981 : Cond.selects RX8 yX8_copyFrom yX8_copyFrom ∈ zG := zG_of (zp (q := (yX8_copyFrom, 8)) (zp2 (List.mem_of_getElem? (i := 9) rfl))) rfl
theorem zw982 : Cond.selects RX11 yX11_isHead yX11_isHead ∈ zG := zG_of (zp (q := (yX11_isHead, 13)) (zp2 (List.mem_of_getElem? (i := 10) rfl))) rfl
theorem zw983 : Cond.selects RX10 yX10_setOf yX10_setOf ∈ zG := zG_of (zp (q := (yX10_setOf, 10)) (zp2 (List.mem_of_getElem? (i := 11) rfl))) rfl
theorem zw984 : Cond.selects RX8 yX8_isFallen yX8_isFallen ∈ zG := zG_of (zp (q := (yX8_isFallen, 8)) (zp2 (List.mem_of_getElem? (i := 12) rfl))) rfl
theorem zw985 : Cond.selects RX5 yX5_fells yX5_fells ∈ zG := zG_of (zp (q := (yX5_fells, 4)) (zp2 (List.mem_of_getElem? (i := 13) rfl))) rfl
theorem zw986 : Cond.selects RX8 yX8_isOver yX8_isOver ∈ zG := zG_of (zp (q := (yX8_isOver, 8)) (zp2 (List.mem_of_getElem? (i := 14) rfl))) rfl
theorem zw987 : Cond.selects RX11 yX11_no yX11_no ∈ zG := zG_of (zp (q := (yX11_no, 13)) (zp2 (List.mem_of_getElem? (i := 15) rfl))) rfl
theorem zw988 : Cond.selects RX8 yX8_keep yX8_keep ∈ zG := zG_of (zp (q := (yX8_keep, 8)) (zp3 (List.mem_of_getElem? (i := 0) rfl))) rfl
theorem zw989 : Cond.selects RX8 yX8_dropOldest yX8_dropOldest ∈ zG := zG_of (zp (q := (yX8_dropOldest, 8)) (zp3 (List.mem_of_getElem? (i := 1) rfl))) rfl
theorem zw990 : Cond.selects RX10 yX10_kindOf yX10_kindOf ∈ zG := zG_of (zp (q := (yX10_kindOf, 10)) (zp3 (List.mem_of_getElem? (i := 2) rfl))) rfl
theorem zw991 : Cond.selects RX11 yX11_kind yX11_kind ∈ zG := zG_of (zp (q := (yX11_kind, 13)) (zp3 (List.mem_of_getElem? (i := 3) rfl))) rfl
theorem zw992 : Cond.selects RX8 yX8_go yX8_go ∈ zG := zG_of (zp (q := (yX8_go, 8)) (zp3 (List.mem_of_getElem? (i := 4) rfl))) rfl
theorem zw993 : Cond.selects RX5 yX5_cellBehind yX5_cellBehind ∈ zG := zG_of (zp (q := (yX5_cellBehind, 4)) (zp3 (List.mem_of_getElem? (i := 5) rfl))) rfl
theorem zw994 : Cond.selects RX8 yX8_isThrough yX8_isThrough ∈ zG := zG_of (zp (q := (yX8_isThrough, 8)) (zp3 (List.mem_of_getElem? (i := 6) rfl))) rfl
theorem zw995 : Cond.selects RX8 yX8_takeBack yX8_takeBack ∈ zG := zG_of (zp (q := (yX8_takeBack, 8)) (zp3 (List.mem_of_getElem? (i := 7) rfl))) rfl
theorem zw996 : Cond.selects RX11 yX11_tryRow yX11_tryRow ∈ zG := zG_of (zp (q := (yX11_tryRow, 13)) (zp3 (List.mem_of_getElem? (i := 8) rfl))) rfl
theorem zw997 : Cond.selects RX9 yX9_fillSure yX9_fillSure ∈ zG := zG_of (zp (q := (yX9_fillSure, 3)) (zp3 (List.mem_of_getElem? (i := 9) rfl))) rfl
theorem zw998 : Cond.selects RX9 yX9_worst yX9_worst ∈ zG := zG_of (zp (q := (yX9_worst, 3)) (zp3 (List.mem_of_getElem? (i := 10) rfl))) rfl
theorem zw999 : Cond.selects RX9 yX9_costFrom yX9_costFrom ∈ zG := zG_of (zp (q := (yX9_costFrom, 3)) (zp3 (List.mem_of_getElem? (i := 11) rfl))) rfl
theorem zw1000 : Cond.selects RX9 yX9_put yX9_put ∈ zG := zG_of (zp (q := (yX9_put, 3)) (zp3 (List.mem_of_getElem? (i := 12) rfl))) rfl
theorem zw1001 : Cond.selects RX11 yX11_firstPace yX11_firstPace ∈ zG := zG_of (zp (q := (yX11_firstPace, 13)) (zp3 (List.mem_of_getElem? (i := 13) rfl))) rfl
theorem zw1002 : Cond.selects RX9 yX9_leastBestPace yX9_leastBestPace ∈ zG := zG_of (zp (q := (yX9_leastBestPace, 3)) (zp3 (List.mem_of_getElem? (i := 14) rfl))) rfl
theorem zw1003 : Cond.selects RX9 yX9_fillFlat yX9_fillFlat ∈ zG := zG_of (zp (q := (yX9_fillFlat, 3)) (zp3 (List.mem_of_getElem? (i := 15) rfl))) rfl
theorem zw1004 : Cond.selects RX9 yX9_fewestFlat yX9_fewestFlat ∈ zG := zG_of (zp (q := (yX9_fewestFlat, 3)) (zp4 (List.mem_of_getElem? (i := 0) rfl))) rfl
theorem zw1005 : Cond.selects RX10 yX10_addNote yX10_addNote ∈ zG := zG_of (zp (q := (yX10_addNote, 10)) (zp4 (List.mem_of_getElem? (i := 1) rfl))) rfl
theorem zw1006 : Cond.selects RX11 yX11_kindsThatFit yX11_kindsThatFit ∈ zG := zG_of (zp (q := (yX11_kindsThatFit, 13)) (zp4 (List.mem_of_getElem? (i := 2) rfl))) rfl
theorem zw1007 : Cond.selects RX8 yX8_fellIn yX8_fellIn ∈ zG := zG_of (zp (q := (yX8_fellIn, 8)) (zp4 (List.mem_of_getElem? (i := 3) rfl))) rfl
theorem zw1008 : Cond.selects RX11 yX11_mostThatEndAlike yX11_mostThatEndAlike ∈ zG := zG_of (zp (q := (yX11_mostThatEndAlike, 13)) (zp4 (List.mem_of_getElem? (i := 4) rfl))) rfl
theorem zw1009 : Cond.selects RX11 yX11_endOfPace yX11_endOfPace ∈ zG := zG_of (zp (q := (yX11_endOfPace, 13)) (zp4 (List.mem_of_getElem? (i := 5) rfl))) rfl
theorem zw1010 : Cond.selects RX9 yX9_through yX9_through ∈ zG := zG_of (zp (q := (yX9_through, 3)) (zp4 (List.mem_of_getElem? (i := 6) rfl))) rfl
theorem zw1011 : Cond.selects RX9 yX9_addChance yX9_addChance ∈ zG := zG_of (zp (q := (yX9_addChance, 3)) (zp4 (List.mem_of_getElem? (i := 7) rfl))) rfl
theorem zw1012 : Cond.selects RX9 yX9_turnChances yX9_turnChances ∈ zG := zG_of (zp (q := (yX9_turnChances, 3)) (zp4 (List.mem_of_getElem? (i := 8) rfl))) rfl
theorem zw1013 : Cond.selects RX9 yX9_chanceOf yX9_chanceOf ∈ zG := zG_of (zp (q := (yX9_chanceOf, 3)) (zp4 (List.mem_of_getElem? (i := 9) rfl))) rfl
theorem zw1014 : Cond.selects RX5 yX5_addTo yX5_addTo ∈ zG := zG_of (zp (q := (yX5_addTo, 4)) (zp4 (List.mem_of_getElem? (i := 10) rfl))) rfl
theorem zw1015 : Cond.selects RX10 yX10_addHeadsTo yX10_addHeadsTo ∈ zG := zG_of (zp (q := (yX10_addHeadsTo, 10)) (zp4 (List.mem_of_getElem? (i := 11) rfl))) rfl
theorem zw1016 : Cond.selects RX10 yX10_addNotesTo yX10_addNotesTo ∈ zG := zG_of (zp (q := (yX10_addNotesTo, 10)) (zp4 (List.mem_of_getElem? (i := 12) rfl))) rfl
theorem zw1017 : Cond.selects RX12 yX12_bad yX12_bad ∈ zG := zG_of (zp (q := (yX12_bad, 22)) (zp4 (List.mem_of_getElem? (i := 13) rfl))) rfl
theorem zw1018 : Cond.selects RX12 yX12_isCell yX12_isCell ∈ zG := zG_of (zp (q := (yX12_isCell, 22)) (zp4 (List.mem_of_getElem? (i := 14) rfl))) rfl
theorem zw1019 : Cond.selects RX12 yX12_fountain yX12_fountain ∈ zG := zG_of (zp (q := (yX12_fountain, 22)) (zp4 (List.mem_of_getElem? (i := 15) rfl))) rfl
theorem zw1020 : Cond.selects RX12 yX12_full yX12_full ∈ zG := zG_of (zp (q := (yX12_full, 22)) (zp5 (List.mem_of_getElem? (i := 0) rfl))) rfl
theorem zw1021 : Cond.selects RX12 yX12_isHead yX12_isHead ∈ zG := zG_of (zp (q := (yX12_isHead, 22)) (zp5 (List.mem_of_getElem? (i := 1) rfl))) rfl
theorem zw1022 : Cond.selects RX12 yX12_kindOf yX12_kindOf ∈ zG := zG_of (zp (q := (yX12_kindOf, 22)) (zp5 (List.mem_of_getElem? (i := 2) rfl))) rfl
theorem zw1023 : Cond.selects RX12 yX12_setOf yX12_setOf ∈ zG := zG_of (zp (q := (yX12_setOf, 22)) (zp5 (List.mem_of_getElem? (i := 3) rfl))) rfl
theorem zw1024 : Cond.selects RX12 yX12_falls yX12_falls ∈ zG := zG_of (zp (q := (yX12_falls, 22)) (zp5 (List.mem_of_getElem? (i := 4) rfl))) rfl
theorem zw1025 : Cond.selects RX12 yX12_isWalk yX12_isWalk ∈ zG := zG_of (zp (q := (yX12_isWalk, 22)) (zp5 (List.mem_of_getElem? (i := 5) rfl))) rfl
theorem zw1026 : Cond.selects RX12 yX12_isThere yX12_isThere ∈ zG := zG_of (zp (q := (yX12_isThere, 22)) (zp5 (List.mem_of_getElem? (i := 6) rfl))) rfl
theorem zw1027 : Cond.selects RX12 yX12_no yX12_no ∈ zG := zG_of (zp (q := (yX12_no, 22)) (zp5 (List.mem_of_getElem? (i := 7) rfl))) rfl
theorem zw1028 : Cond.selects RX12 yX12_keep yX12_keep ∈ zG := zG_of (zp (q := (yX12_keep, 22)) (zp5 (List.mem_of_getElem? (i := 8) rfl))) rfl
theorem zw1029 : Cond.selects RX12 yX12_layStones yX12_layStones ∈ zG := zG_of (zp (q := (yX12_layStones, 22)) (zp5 (List.mem_of_getElem? (i := 9) rfl))) rfl
theorem zw1030 : Cond.selects RX12 yX12_leanBehind yX12_leanBehind ∈ zG := zG_of (zp (q := (yX12_leanBehind, 22)) (zp5 (List.mem_of_getElem? (i := 10) rfl))) rfl
theorem zw1031 : Cond.selects RX12 yX12_cellBy yX12_cellBy ∈ zG := zG_of (zp (q := (yX12_cellBy, 22)) (zp5 (List.mem_of_getElem? (i := 11) rfl))) rfl
theorem zw1032 : Cond.selects RX12 yX12_goRow yX12_goRow ∈ zG := zG_of (zp (q := (yX12_goRow, 22)) (zp5 (List.mem_of_getElem? (i := 12) rfl))) rfl
theorem zw1033 : Cond.selects RX12 yX12_beginAt yX12_beginAt ∈ zG := zG_of (zp (q := (yX12_beginAt, 22)) (zp5 (List.mem_of_getElem? (i := 13) rfl))) rfl
theorem zw1034 : Cond.selects RX12 yX12_isOver yX12_isOver ∈ zG := zG_of (zp (q := (yX12_isOver, 22)) (zp5 (List.mem_of_getElem? (i := 14) rfl))) rfl
theorem zw1035 : Cond.selects RX12 yX12_goStep yX12_goStep ∈ zG := zG_of (zp (q := (yX12_goStep, 22)) (zp5 (List.mem_of_getElem? (i := 15) rfl))) rfl
theorem zw1036 : Cond.selects RX12 yX12_layLatest yX12_layLatest ∈ zG := zG_of (zp (q := (yX12_layLatest, 22)) (zp6 (List.mem_of_getElem? (i := 0) rfl))) rfl
theorem zw1037 : Cond.selects RX12 yX12_byPace yX12_byPace ∈ zG := zG_of (zp (q := (yX12_byPace, 22)) (zp6 (List.mem_of_getElem? (i := 1) rfl))) rfl
theorem zw1038 : Cond.selects RX12 yX12_latestAt yX12_latestAt ∈ zG := zG_of (zp (q := (yX12_latestAt, 22)) (zp6 (List.mem_of_getElem? (i := 2) rfl))) rfl
theorem zw1039 : Cond.selects RX12 yX12_throughIn yX12_throughIn ∈ zG := zG_of (zp (q := (yX12_throughIn, 22)) (zp6 (List.mem_of_getElem? (i := 3) rfl))) rfl
theorem zw1040 : Cond.selects RX12 yX12_kindsOf yX12_kindsOf ∈ zG := zG_of (zp (q := (yX12_kindsOf, 22)) (zp6 (List.mem_of_getElem? (i := 4) rfl))) rfl
theorem zw1041 : Cond.selects RX12 yX12_canBe yX12_canBe ∈ zG := zG_of (zp (q := (yX12_canBe, 22)) (zp6 (List.mem_of_getElem? (i := 5) rfl))) rfl
theorem zw1042 : Cond.selects RX12 yX12_fellIn yX12_fellIn ∈ zG := zG_of (zp (q := (yX12_fellIn, 22)) (zp6 (List.mem_of_getElem? (i := 6) rfl))) rfl
theorem zw1043 : Cond.selects RX12 yX12_goCases yX12_goCases ∈ zG := zG_of (zp (q := (yX12_goCases, 22)) (zp6 (List.mem_of_getElem? (i := 7) rfl))) rfl
theorem zw1044 : Cond.selects RX12 yX12_fraction yX12_fraction ∈ zG := zG_of (zp (q := (yX12_fraction, 22)) (zp6 (List.mem_of_getElem? (i := 8) rfl))) rfl
theorem zw1045 : Cond.selects RX12 yX12_lookAt yX12_lookAt ∈ zG := zG_of (zp (q := (yX12_lookAt, 22)) (zp6 (List.mem_of_getElem? (i := 9) rfl))) rfl
theorem zw1046 : Cond.selects RX12 yX12_takesRoad yX12_takesRoad ∈ zG := zG_of (zp (q := (yX12_takesRoad, 22)) (zp6 (List.mem_of_getElem? (i := 10) rfl))) rfl
theorem zw1047 : Cond.selects RX12 yX12_isWord yX12_isWord ∈ zG := zG_of (zp (q := (yX12_isWord, 22)) (zp6 (List.mem_of_getElem? (i := 11) rfl))) rfl
theorem zw1048 : Cond.selects RX12 yX12_goBehind yX12_goBehind ∈ zG := zG_of (zp (q := (yX12_goBehind, 22)) (zp6 (List.mem_of_getElem? (i := 12) rfl))) rfl
theorem zw1049 : Cond.selects RX12 yX12_takes yX12_takes ∈ zG := zG_of (zp (q := (yX12_takes, 22)) (zp6 (List.mem_of_getElem? (i := 13) rfl))) rfl
theorem zw1050 : Cond.selects RX12 yX12_takesItem yX12_takesItem ∈ zG := zG_of (zp (q := (yX12_takesItem, 22)) (zp6 (List.mem_of_getElem? (i := 14) rfl))) rfl
theorem zw1051 : Cond.selects RX12 yX12_takesCobble yX12_takesCobble ∈ zG := zG_of (zp (q := (yX12_takesCobble, 22)) (zp6 (List.mem_of_getElem? (i := 15) rfl))) rfl
theorem zw1052 : Cond.selects RX12 yX12_takesTwo yX12_takesTwo ∈ zG := zG_of (zp (q := (yX12_takesTwo, 22)) (zp7 (List.mem_of_getElem? (i := 0) rfl))) rfl
theorem zw1053 : Cond.selects RX12 yX12_takesWind yX12_takesWind ∈ zG := zG_of (zp (q := (yX12_takesWind, 22)) (zp7 (List.mem_of_getElem? (i := 1) rfl))) rfl
theorem zw1054 : Cond.selects RX12 yX12_takesHead yX12_takesHead ∈ zG := zG_of (zp (q := (yX12_takesHead, 22)) (zp7 (List.mem_of_getElem? (i := 2) rfl))) rfl
theorem zw1055 : Cond.selects RX12 yX12_counted yX12_counted ∈ zG := zG_of (zp (q := (yX12_counted, 22)) (zp7 (List.mem_of_getElem? (i := 3) rfl))) rfl
theorem zw1056 : Cond.selects RX12 yX12_sums yX12_sums ∈ zG := zG_of (zp (q := (yX12_sums, 22)) (zp7 (List.mem_of_getElem? (i := 4) rfl))) rfl
/-- links to a nest mate's methods and fields: class, place, what, host -/
def znM : List (String × Nat × MethodName × String) := [(RX11, 17, yX10_init, "SmallCrown"), (RX10, 11, yX5_init, "SmallCrown"), (RX10, 20, yX8_init, "SmallCrown"), (RX11, 31, yX4_init, "SmallCrown"), (RX11, 38, yX8_init, "SmallCrown"), (RX11, 45, yX9_init, "SmallCrown"), (RX11, 71, yX3_init, "SmallCrown"), (RX11, 74, yX7_init, "SmallCrown"), (RX7, 1, yX3_init, "SmallCrown"), (RX11, 77, yX6_init, "SmallCrown"), (RX6, 1, yX3_init, "SmallCrown"), (RX11, 80, yX0_init, "SmallCrown"), (RX0, 1, yX7_init, "SmallCrown"), (RX11, 83, yX2_init, "SmallCrown"), (RX2, 1, yX7_init, "SmallCrown"), (RX11, 86, yX1_init, "SmallCrown"), (RX1, 1, yX6_init, "SmallCrown"), (RX11, 98, yX10_beginAnew, "SmallCrown"), (RX10, 51, yX5_beginAnew, "SmallCrown"), (RX10, 55, yX8_begin, "SmallCrown"), (RX11, 110, yX5_cobbleOf, "SmallCrown"), (RX5, 31, yX11_within, "SmallCrown"), (RX11, 115, yX5_layCobble, "SmallCrown"), (RX11, 118, yX5_windIn, "SmallCrown"), (RX11, 121, yX5_setWind, "SmallCrown"), (RX11, 128, yX10_addHead, "SmallCrown"), (RX10, 72, yX11_within, "SmallCrown"), (RX11, 134, yX4_add, "SmallCrown"), (RX4, 28, yX11_within, "SmallCrown"), (RX11, 138, yX4_tell, "SmallCrown"), (RX4, 56, yX10_beginAnew, "SmallCrown"), (RX4, 90, yX5_layCobble, "SmallCrown"), (RX4, 93, yX5_setWind, "SmallCrown"), (RX4, 99, yX10_addHead, "SmallCrown"), (RX11, 145, yX10_copyFrom, "SmallCrown"), (RX10, 59, yX5_copyFrom, "SmallCrown"), (RX10, 63, yX8_copyFrom, "SmallCrown"), (RX11, 155, yX10_setOf, "SmallCrown"), (RX11, 158, yX8_begin, "SmallCrown"), (RX11, 162, yX8_isFallen, "SmallCrown"), (RX8, 43, yX5_fells, "SmallCrown"), (RX11, 173, yX8_isOver, "SmallCrown"), (RX11, 179, yX8_keep, "SmallCrown"), (RX8, 76, yX11_within, "SmallCrown"), (RX11, 182, yX10_kindOf, "SmallCrown"), (RX11, 189, yX8_go, "SmallCrown"), (RX8, 56, yX5_cellBehind, "SmallCrown"), (RX8, 60, yX5_cobbleOf, "SmallCrown"), (RX8, 64, yX5_windIn, "SmallCrown"), (RX11, 196, yX8_isThrough, "SmallCrown"), (RX11, 205, yX8_takeBack, "SmallCrown"), (RX11, 221, yX9_fillSure, "SmallCrown"), (RX9, 61, yX5_cellBehind, "SmallCrown"), (RX9, 64, yX5_cobbleOf, "SmallCrown"), (RX9, 68, yX5_windIn, "SmallCrown"), (RX9, 22, yX5_fells, "SmallCrown"), (RX9, 37, yX11_within, "SmallCrown"), (RX11, 225, yX9_costFrom, "SmallCrown"), (RX11, 315, yX9_leastBestPace, "SmallCrown"), (RX11, 234, yX9_fillFlat, "SmallCrown"), (RX11, 242, yX10_addNote, "SmallCrown"), (RX11, 263, yX8_fellIn, "SmallCrown"), (RX11, 260, yX5_cellBehind, "SmallCrown"), (RX11, 267, yX9_through, "SmallCrown"), (RX11, 299, yX5_addTo, "SmallCrown"), (RX11, 303, yX10_addHeadsTo, "SmallCrown"), (RX11, 309, yX10_addNotesTo, "SmallCrown")]
def znF : List (String × Nat × String × String × String × String) := [(RX9, 29, RX5, "length", "I", "SmallCrown"), (RX8, 49, RX5, "length", "I", "SmallCrown"), (RX4, 87, RX5, "length", "I", "SmallCrown"), (RX11, 271, RX5, "length", "I", "SmallCrown"), (RX9, 47, RX5, "hold", "I", "SmallCrown"), (RX11, 289, RX5, "hold", "I", "SmallCrown"), (RX11, 170, RX8, "head", "I", "SmallCrown"), (RX11, 193, RX8, "cell", "I", "SmallCrown"), (RX11, 208, RX8, "step", "I", "SmallCrown"), (RX11, 199, RX8, "lean", "I", "SmallCrown"), (RX11, 202, RX8, "kept", "I", "SmallCrown"), (RX11, 106, RX10, "road", "LSmallCrown$Road;", "SmallCrown"), (RX4, 84, RX10, "road", "LSmallCrown$Road;", "SmallCrown"), (RX11, 152, RX10, "walk", "LSmallCrown$Walk;", "SmallCrown"), (RX11, 95, RX10, "heads", "I", "SmallCrown"), (RX4, 96, RX10, "heads", "I", "SmallCrown"), (RX11, 239, RX10, "notes", "I", "SmallCrown"), (RX11, 319, RX10, "noteHeads", "[I", "SmallCrown"), (RX11, 322, RX10, "noteSteps", "[I", "SmallCrown"), (RX11, 325, RX10, "noteRows", "[I", "SmallCrown"), (RX11, 328, RX10, "noteCells", "[I", "SmallCrown"), (RX11, 131, RX4, "length", "I", "SmallCrown"), (RX11, 142, RX4, "start", "I", "SmallCrown")]
def znC : List (String × String) := [(RX7, RX3), (RX6, RX3), (RX0, RX3), (RX2, RX3), (RX1, RX3)]
theorem znM_in : ∀ t ∈ znM, Cond.methodLinkNest t.1 t.2.1 t.2.2.1 t.2.2.2 ∈ lw_tbl := List.forall_mem_cons.mpr ⟨zt1 (List.mem_of_getElem? (i := 32) rfl), List.forall_mem_cons.mpr ⟨zt1 (List.mem_of_getElem? (i := 38) rfl), List.forall_mem_cons.mpr ⟨zt1 (List.mem_of_getElem? (i := 64) rfl), List.forall_mem_cons.mpr ⟨zt1 (List.mem_of_getElem? (i := 142) rfl), List.forall_mem_cons.mpr ⟨zt1 (List.mem_of_getElem? (i := 165) rfl), List.forall_mem_cons.mpr ⟨zt1 (List.mem_of_getElem? (i := 168) rfl), List.forall_mem_cons.mpr ⟨zt1 (List.mem_of_getElem? (i := 184) rfl), List.forall_mem_cons.mpr ⟨zt1 (List.mem_of_getElem? (i := 191) rfl), List.forall_mem_cons.mpr ⟨zt1 (List.mem_of_getElem? (i := 194) rfl), List.forall_mem_cons.mpr ⟨zt1 (List.mem_of_getElem? (i := 198) rfl), List.forall_mem_cons.mpr ⟨zt1 (List.mem_of_getElem? (i := 201) rfl), List.forall_mem_cons.mpr ⟨zt1 (List.mem_of_getElem? (i := 205) rfl), List.forall_mem_cons.mpr ⟨zt1 (List.mem_of_getElem? (i := 208) rfl), List.forall_mem_cons.mpr ⟨zt1 (List.mem_of_getElem? (i := 212) rfl), List.forall_mem_cons.mpr ⟨zt1 (List.mem_of_getElem? (i := 215) rfl), List.forall_mem_cons.mpr ⟨zt1 (List.mem_of_getElem? (i := 219) rfl), List.forall_mem_cons.mpr ⟨zt1 (List.mem_of_getElem? (i := 222) rfl), List.forall_mem_cons.mpr ⟨zt2 (List.mem_of_getElem? (i := 35) rfl), List.forall_mem_cons.mpr ⟨zt2 (List.mem_of_getElem? (i := 39) rfl), List.forall_mem_cons.mpr ⟨zt2 (List.mem_of_getElem? (i := 43) rfl), List.forall_mem_cons.mpr ⟨zt2 (List.mem_of_getElem? (i := 55) rfl), List.forall_mem_cons.mpr ⟨zt2 (List.mem_of_getElem? (i := 59) rfl), List.forall_mem_cons.mpr ⟨zt2 (List.mem_of_getElem? (i := 60) rfl), List.forall_mem_cons.mpr ⟨zt2 (List.mem_of_getElem? (i := 68) rfl), List.forall_mem_cons.mpr ⟨zt2 (List.mem_of_getElem? (i := 75) rfl), List.forall_mem_cons.mpr ⟨zt2 (List.mem_of_getElem? (i := 87) rfl), List.forall_mem_cons.mpr ⟨zt2 (List.mem_of_getElem? (i := 91) rfl), List.forall_mem_cons.mpr ⟨zt2 (List.mem_of_getElem? (i := 96) rfl), List.forall_mem_cons.mpr ⟨zt2 (List.mem_of_getElem? (i := 100) rfl), List.forall_mem_cons.mpr ⟨zt2 (List.mem_of_getElem? (i := 109) rfl), List.forall_mem_cons.mpr ⟨zt2 (List.mem_of_getElem? (i := 192) rfl), List.forall_mem_cons.mpr ⟨zt2 (List.mem_of_getElem? (i := 202) rfl), List.forall_mem_cons.mpr ⟨zt2 (List.mem_of_getElem? (i := 209) rfl), List.forall_mem_cons.mpr ⟨zt2 (List.mem_of_getElem? (i := 216) rfl), List.forall_mem_cons.mpr ⟨zt2 (List.mem_of_getElem? (i := 218) rfl), List.forall_mem_cons.mpr ⟨zt2 (List.mem_of_getElem? (i := 222) rfl), List.forall_mem_cons.mpr ⟨zt2 (List.mem_of_getElem? (i := 229) rfl), List.forall_mem_cons.mpr ⟨zt3 (List.mem_of_getElem? (i := 4) rfl), List.forall_mem_cons.mpr ⟨zt3 (List.mem_of_getElem? (i := 8) rfl), List.forall_mem_cons.mpr ⟨zt3 (List.mem_of_getElem? (i := 9) rfl), List.forall_mem_cons.mpr ⟨zt3 (List.mem_of_getElem? (i := 13) rfl), List.forall_mem_cons.mpr ⟨zt3 (List.mem_of_getElem? (i := 24) rfl), List.forall_mem_cons.mpr ⟨zt3 (List.mem_of_getElem? (i := 33) rfl), List.forall_mem_cons.mpr ⟨zt3 (List.mem_of_getElem? (i := 41) rfl), List.forall_mem_cons.mpr ⟨zt3 (List.mem_of_getElem? (i := 42) rfl), List.forall_mem_cons.mpr ⟨zt3 (List.mem_of_getElem? (i := 50) rfl), List.forall_mem_cons.mpr ⟨zt3 (List.mem_of_getElem? (i := 54) rfl), List.forall_mem_cons.mpr ⟨zt3 (List.mem_of_getElem? (i := 59) rfl), List.forall_mem_cons.mpr ⟨zt3 (List.mem_of_getElem? (i := 60) rfl), List.forall_mem_cons.mpr ⟨zt3 (List.mem_of_getElem? (i := 90) rfl), List.forall_mem_cons.mpr ⟨zt3 (List.mem_of_getElem? (i := 98) rfl), List.forall_mem_cons.mpr ⟨zt3 (List.mem_of_getElem? (i := 136) rfl), List.forall_mem_cons.mpr ⟨zt3 (List.mem_of_getElem? (i := 145) rfl), List.forall_mem_cons.mpr ⟨zt3 (List.mem_of_getElem? (i := 146) rfl), List.forall_mem_cons.mpr ⟨zt3 (List.mem_of_getElem? (i := 147) rfl), List.forall_mem_cons.mpr ⟨zt3 (List.mem_of_getElem? (i := 153) rfl), List.forall_mem_cons.mpr ⟨zt3 (List.mem_of_getElem? (i := 158) rfl), List.forall_mem_cons.mpr ⟨zt3 (List.mem_of_getElem? (i := 167) rfl), List.forall_mem_cons.mpr ⟨zt3 (List.mem_of_getElem? (i := 173) rfl), List.forall_mem_cons.mpr ⟨zt3 (List.mem_of_getElem? (i := 189) rfl), List.forall_mem_cons.mpr ⟨zt3 (List.mem_of_getElem? (i := 203) rfl), List.forall_mem_cons.mpr ⟨zt3 (List.mem_of_getElem? (i := 219) rfl), List.forall_mem_cons.mpr ⟨zt4 (List.mem_of_getElem? (i := 0) rfl), List.forall_mem_cons.mpr ⟨zt4 (List.mem_of_getElem? (i := 5) rfl), List.forall_mem_cons.mpr ⟨zt4 (List.mem_of_getElem? (i := 62) rfl), List.forall_mem_cons.mpr ⟨zt4 (List.mem_of_getElem? (i := 67) rfl), List.forall_mem_cons.mpr ⟨zt4 (List.mem_of_getElem? (i := 73) rfl), fun _ h => absurd h List.not_mem_nil⟩⟩⟩⟩⟩⟩⟩⟩⟩⟩⟩⟩⟩⟩⟩⟩⟩⟩⟩⟩⟩⟩⟩⟩⟩⟩⟩⟩⟩⟩⟩⟩⟩⟩⟩⟩⟩⟩⟩⟩⟩⟩⟩⟩⟩⟩⟩⟩⟩⟩⟩⟩⟩⟩⟩⟩⟩⟩⟩⟩⟩⟩⟩⟩⟩⟩⟩
theorem znF_in : ∀ t ∈ znF, Cond.fieldLinkNest t.1 t.2.1 t.2.2.1 t.2.2.2.1 t.2.2.2.2.1 t.2.2.2.2.2 ∈ lw_tbl := List.forall_mem_cons.mpr ⟨zt1 (List.mem_of_getElem? (i := 43) rfl), List.forall_mem_cons.mpr ⟨zt1 (List.mem_of_getElem? (i := 44) rfl), List.forall_mem_cons.mpr ⟨zt1 (List.mem_of_getElem? (i := 45) rfl), List.forall_mem_cons.mpr ⟨zt1 (List.mem_of_getElem? (i := 46) rfl), List.forall_mem_cons.mpr ⟨zt1 (List.mem_of_getElem? (i := 48) rfl), List.forall_mem_cons.mpr ⟨zt1 (List.mem_of_getElem? (i := 49) rfl), List.forall_mem_cons.mpr ⟨zt1 (List.mem_of_getElem? (i := 69) rfl), List.forall_mem_cons.mpr ⟨zt1 (List.mem_of_getElem? (i := 71) rfl), List.forall_mem_cons.mpr ⟨zt1 (List.mem_of_getElem? (i := 73) rfl), List.forall_mem_cons.mpr ⟨zt1 (List.mem_of_getElem? (i := 75) rfl), List.forall_mem_cons.mpr ⟨zt1 (List.mem_of_getElem? (i := 77) rfl), List.forall_mem_cons.mpr ⟨zt1 (List.mem_of_getElem? (i := 99) rfl), List.forall_mem_cons.mpr ⟨zt1 (List.mem_of_getElem? (i := 100) rfl), List.forall_mem_cons.mpr ⟨zt1 (List.mem_of_getElem? (i := 102) rfl), List.forall_mem_cons.mpr ⟨zt1 (List.mem_of_getElem? (i := 104) rfl), List.forall_mem_cons.mpr ⟨zt1 (List.mem_of_getElem? (i := 105) rfl), List.forall_mem_cons.mpr ⟨zt1 (List.mem_of_getElem? (i := 109) rfl), List.forall_mem_cons.mpr ⟨zt1 (List.mem_of_getElem? (i := 111) rfl), List.forall_mem_cons.mpr ⟨zt1 (List.mem_of_getElem? (i := 113) rfl), List.forall_mem_cons.mpr ⟨zt1 (List.mem_of_getElem? (i := 115) rfl), List.forall_mem_cons.mpr ⟨zt1 (List.mem_of_getElem? (i := 117) rfl), List.forall_mem_cons.mpr ⟨zt1 (List.mem_of_getElem? (i := 148) rfl), List.forall_mem_cons.mpr ⟨zt1 (List.mem_of_getElem? (i := 151) rfl), fun _ h => absurd h List.not_mem_nil⟩⟩⟩⟩⟩⟩⟩⟩⟩⟩⟩⟩⟩⟩⟩⟩⟩⟩⟩⟩⟩⟩⟩
theorem znC_in : ∀ t ∈ znC, Cond.castable t.1 t.2 ∈ lw_tbl := List.forall_mem_cons.mpr ⟨zt6 (List.mem_of_getElem? (i := 25) rfl), List.forall_mem_cons.mpr ⟨zt6 (List.mem_of_getElem? (i := 26) rfl), List.forall_mem_cons.mpr ⟨zt6 (List.mem_of_getElem? (i := 27) rfl), List.forall_mem_cons.mpr ⟨zt6 (List.mem_of_getElem? (i := 28) rfl), List.forall_mem_cons.mpr ⟨zt6 (List.mem_of_getElem? (i := 29) rfl), fun _ h => absurd h List.not_mem_nil⟩⟩⟩⟩⟩
theorem zao0 : Cond.arrayOver (.object "SmallCrown$Plain") ∈ lw_tbl := zt1 (List.mem_of_getElem? (i := 29) rfl)
theorem zao1 : Cond.arrayOver (.object "SmallCrown$World") ∈ lw_tbl := zt1 (List.mem_of_getElem? (i := 139) rfl)
theorem zls0 : Cond.laysStatic "java/lang/String" "COMPACT_STRINGS" "Z" ∈ lw_tbl := zt2 (List.mem_of_getElem? (i := 145) rfl)
theorem zls1 : Cond.laysStatic "jdk/internal/util/Preconditions" "SIOOBE_FORMATTER" "Ljava/util/function/BiFunction;" ∈ lw_tbl := zt2 (List.mem_of_getElem? (i := 161) rfl)
theorem zls2 : Cond.laysStatic "java/lang/StringUTF16" "$assertionsDisabled" "Z" ∈ lw_tbl := zt2 (List.mem_of_getElem? (i := 179) rfl)
theorem zls3 : Cond.laysStatic "java/lang/StringUTF16" "HI_BYTE_SHIFT" "I" ∈ lw_tbl := zt2 (List.mem_of_getElem? (i := 181) rfl)
theorem zls4 : Cond.laysStatic "java/lang/StringUTF16" "LO_BYTE_SHIFT" "I" ∈ lw_tbl := zt2 (List.mem_of_getElem? (i := 183) rfl)
theorem zls5 : Cond.laysStatic "SmallCrown" "TENS" "[I" ∈ lw_tbl := zt3 (List.mem_of_getElem? (i := 121) rfl)
theorem zsr0 : Cond.stringRef RX4 42 "road" ∈ lw_tbl := zt2 (List.mem_of_getElem? (i := 131) rfl)
theorem zsr1 : Cond.stringRef RX4 62 "cobble" ∈ lw_tbl := zt2 (List.mem_of_getElem? (i := 197) rfl)
theorem zsr2 : Cond.stringRef RX4 68 "hole" ∈ lw_tbl := zt2 (List.mem_of_getElem? (i := 203) rfl)
theorem zsr3 : Cond.stringRef RX4 70 "wind" ∈ lw_tbl := zt2 (List.mem_of_getElem? (i := 204) rfl)
theorem zsr4 : Cond.stringRef RX4 75 "lull" ∈ lw_tbl := zt2 (List.mem_of_getElem? (i := 210) rfl)
theorem zsr5 : Cond.stringRef RX4 77 "head" ∈ lw_tbl := zt2 (List.mem_of_getElem? (i := 211) rfl)
theorem zsr6 : Cond.stringRef RX4 82 "bent" ∈ lw_tbl := zt2 (List.mem_of_getElem? (i := 217) rfl)
theorem zin0 : ∀ w ∈ u_ws RX0 TX0 0, w ∈ zG := fun _ h => absurd h List.not_mem_nil
theorem zin1 : ∀ w ∈ u_ws RX1 TX1 0, w ∈ zG := fun _ h => absurd h List.not_mem_nil
theorem zin2 : ∀ w ∈ u_ws RX2 TX2 0, w ∈ zG := fun _ h => absurd h List.not_mem_nil
theorem zin3 : ∀ w ∈ u_ws RX3 TX3 0, w ∈ zG := fun _ h => absurd h List.not_mem_nil
theorem zin4 : ∀ w ∈ u_ws RX4 TX4 5, w ∈ zG := List.forall_mem_cons.mpr ⟨zw102, List.forall_mem_cons.mpr ⟨zw103, List.forall_mem_cons.mpr ⟨zw104, List.forall_mem_cons.mpr ⟨zw105, List.forall_mem_cons.mpr ⟨zw106, fun _ h => absurd h List.not_mem_nil⟩⟩⟩⟩⟩
theorem zin5 : ∀ w ∈ u_ws RX5 TX5 4, w ∈ zG := List.forall_mem_cons.mpr ⟨zw43, List.forall_mem_cons.mpr ⟨zw44, List.forall_mem_cons.mpr ⟨zw45, List.forall_mem_cons.mpr ⟨zw46, fun _ h => absurd h List.not_mem_nil⟩⟩⟩⟩
theorem zin6 : ∀ w ∈ u_ws RX6 TX6 0, w ∈ zG := fun _ h => absurd h List.not_mem_nil
theorem zin7 : ∀ w ∈ u_ws RX7 TX7 0, w ∈ zG := fun _ h => absurd h List.not_mem_nil
theorem zin8 : ∀ w ∈ u_ws RX8 TX8 8, w ∈ zG := List.forall_mem_cons.mpr ⟨zw62, List.forall_mem_cons.mpr ⟨zw63, List.forall_mem_cons.mpr ⟨zw64, List.forall_mem_cons.mpr ⟨zw65, List.forall_mem_cons.mpr ⟨zw66, List.forall_mem_cons.mpr ⟨zw67, List.forall_mem_cons.mpr ⟨zw68, List.forall_mem_cons.mpr ⟨zw69, fun _ h => absurd h List.not_mem_nil⟩⟩⟩⟩⟩⟩⟩⟩
theorem zin9 : ∀ w ∈ u_ws RX9 TX9 3, w ∈ zG := List.forall_mem_cons.mpr ⟨zw117, List.forall_mem_cons.mpr ⟨zw118, List.forall_mem_cons.mpr ⟨zw119, fun _ h => absurd h List.not_mem_nil⟩⟩⟩
theorem zin10 : ∀ w ∈ u_ws RX10 TX10 10, w ∈ zG := List.forall_mem_cons.mpr ⟨zw81, List.forall_mem_cons.mpr ⟨zw82, List.forall_mem_cons.mpr ⟨zw83, List.forall_mem_cons.mpr ⟨zw84, List.forall_mem_cons.mpr ⟨zw85, List.forall_mem_cons.mpr ⟨zw86, List.forall_mem_cons.mpr ⟨zw87, List.forall_mem_cons.mpr ⟨zw88, List.forall_mem_cons.mpr ⟨zw89, List.forall_mem_cons.mpr ⟨zw90, fun _ h => absurd h List.not_mem_nil⟩⟩⟩⟩⟩⟩⟩⟩⟩⟩
theorem zin11 : ∀ w ∈ u_ws RX11 TX11 13, w ∈ zG := List.forall_mem_cons.mpr ⟨zw165, List.forall_mem_cons.mpr ⟨zw166, List.forall_mem_cons.mpr ⟨zw167, List.forall_mem_cons.mpr ⟨zw168, List.forall_mem_cons.mpr ⟨zw169, List.forall_mem_cons.mpr ⟨zw170, List.forall_mem_cons.mpr ⟨zw171, List.forall_mem_cons.mpr ⟨zw172, List.forall_mem_cons.mpr ⟨zw173, List.forall_mem_cons.mpr ⟨zw174, List.forall_mem_cons.mpr ⟨zw175, List.forall_mem_cons.mpr ⟨zw176, List.forall_mem_cons.mpr ⟨zw177, fun _ h => absurd h List.not_mem_nil⟩⟩⟩⟩⟩⟩⟩⟩⟩⟩⟩⟩⟩
theorem zin12 : ∀ w ∈ u_ws RX12 TX12 22, w ∈ zG := List.forall_mem_cons.mpr ⟨zw619, List.forall_mem_cons.mpr ⟨zw620, List.forall_mem_cons.mpr ⟨zw621, List.forall_mem_cons.mpr ⟨zw622, List.forall_mem_cons.mpr ⟨zw623, List.forall_mem_cons.mpr ⟨zw624, List.forall_mem_cons.mpr ⟨zw625, List.forall_mem_cons.mpr ⟨zw626, List.forall_mem_cons.mpr ⟨zw627, List.forall_mem_cons.mpr ⟨zw628, List.forall_mem_cons.mpr ⟨zw629, List.forall_mem_cons.mpr ⟨zw630, List.forall_mem_cons.mpr ⟨zw631, List.forall_mem_cons.mpr ⟨zw632, List.forall_mem_cons.mpr ⟨zw633, List.forall_mem_cons.mpr ⟨zw634, List.forall_mem_cons.mpr ⟨zw635, List.forall_mem_cons.mpr ⟨zw636, List.forall_mem_cons.mpr ⟨zw637, List.forall_mem_cons.mpr ⟨zw638, List.forall_mem_cons.mpr ⟨zw639, List.forall_mem_cons.mpr ⟨zw640, fun _ h => absurd h List.not_mem_nil⟩⟩⟩⟩⟩⟩⟩⟩⟩⟩⟩⟩⟩⟩⟩⟩⟩⟩⟩⟩⟩⟩
