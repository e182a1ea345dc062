def lwl0 : List Cond := [.codeWith yL_append cL_append 4 (some .int) [(0, 9, 12, 13), (0, 9, 15, 15)], .classLink RL 13 "java/lang/IllegalArgumentException", .classLink RL 15 "java/lang/IllegalStateException", .methodLink RL 7 yX4_append, .instanceMethod yX4_append, .selects RX4 yX4_append yX4_append, .codeWith yL_fill cL_fill 5 (some .int) [(0, 10, 13, 13), (0, 10, 17, 15)], .methodLink RL 17 yX4_fill, .instanceMethod yX4_fill, .selects RX4 yX4_fill yX4_fill, .methodLink RL 21 yX4_insert, .instanceMethod yX4_insert, .selects RX4 yX4_insert yX4_insert, .codeWith yL_insert cL_insert 3 (some .int) [(0, 8, 11, 15)], .classLink RL 28 "java/lang/IndexOutOfBoundsException", .methodLink RL 25 yX4_update, .instanceMethod yX4_update, .selects RX4 yX4_update yX4_update, .codeWith yL_update cL_update 4 (some .int) [(0, 9, 12, 28), (0, 9, 15, 15)], .methodLink RL 30 yX4_delete, .instanceMethod yX4_delete, .selects RX4 yX4_delete yX4_delete, .codeWith yL_delete cL_delete 4 (some .int) [(0, 9, 12, 28)], .methodLink RL 33 yX4_compact, .instanceMethod yX4_compact, .selects RX4 yX4_compact yX4_compact, .codeWith yL_compact cL_compact 4 (some .int) [(0, 9, 12, 28)], .methodLink RL 36 yX4_length, .instanceMethod yX4_length, .selects RX4 yX4_length yX4_length, .codeWith yL_length cL_length 4 (some .int) [(0, 9, 12, 28)], .methodLink RL 39 yX4_byteOf, .instanceMethod yX4_byteOf, .selects RX4 yX4_byteOf yX4_byteOf, .codeWith yL_byteOf cL_byteOf 5 (some .int) [(0, 10, 13, 28)], .methodLink RL 42 yX4_placeOf, .instanceMethod yX4_placeOf, .selects RX4 yX4_placeOf yX4_placeOf, .codeWith yL_placeOf cL_placeOf 4 (some .int) [(0, 9, 12, 28)], .codeWith yL_pageByte cL_pageByte 5 (some .int) [(0, 10, 13, 28)], .methodLink RL 45 yX4_pageByte, .instanceMethod yX4_pageByte, .selects RX4 yX4_pageByte yX4_pageByte, .methodLink RL 48 yX4_free, .instanceMethod yX4_free, .selects RX4 yX4_free yX4_free, .codeWith yL_free cL_free 4 (some .int) [(0, 9, 12, 28)], .methodLink RL 51 yX4_gap, .instanceMethod yX4_gap, .selects RX4 yX4_gap yX4_gap, .codeWith yL_gap cL_gap 4 (some .int) [(0, 9, 12, 28)], .methodLink RL 54 yX4_ifInserted, .instanceMethod yX4_ifInserted, .selects RX4 yX4_ifInserted yX4_ifInserted, .codeWith yL_ifInserted cL_ifInserted 4 (some .int) [(0, 9, 12, 13)], .methodLink RL 57 yX4_ifUpdated, .instanceMethod yX4_ifUpdated, .selects RX4 yX4_ifUpdated yX4_ifUpdated, .codeWith yL_ifUpdated cL_ifUpdated 5 (some .int) [(0, 10, 13, 28), (0, 10, 17, 13)], .methodLink RL 60 yX4_greatestAtHome]
def lwl1 : List Cond := [.instanceMethod yX4_greatestAtHome, .selects RX4 yX4_greatestAtHome yX4_greatestAtHome, .codeWith yL_greatestAtHome cL_greatestAtHome 4 (some .int) [(0, 9, 12, 28)], .methodLink RL 63 yX4_capacity, .instanceMethod yX4_capacity, .selects RX4 yX4_capacity yX4_capacity, .codeWith yL_capacity cL_capacity 4 (some .int) [(0, 9, 12, 13)], .methodLink RL 66 yX4_run, .instanceMethod yX4_run, .selects RX4 yX4_run yX4_run, .codeWith yL_run cL_run 3 (some .int) [(0, 8, 11, 13)], .methodLink RL 69 yX4_undo, .instanceMethod yX4_undo, .selects RX4 yX4_undo yX4_undo, .codeWith yL_undo cL_undo 3 (some .int) [(0, 8, 11, 15)], .classLink RL 8 RX4, .instantiable RX4 8, .classLink RL 73 RX5, .instantiable RX5 12, .arrayClass .long, .methodLink RL 72 yX4_init, .instanceMethod yX4_init, .methodLink RL 75 yX5_init, .instanceMethod yX5_init, .methodLink RL 76 yL_append, .static yL_append, .initialized RL, .methodLink RL 81 yX5_append, .instanceMethod yX5_append, .selects RX5 yX5_append yX5_append, .methodLink RL 82 yX5_thrown, .instanceMethod yX5_thrown, .selects RX5 yX5_thrown yX5_thrown, .methodLink RL 85 yL_fill, .static yL_fill, .methodLink RL 88 yX5_fill, .instanceMethod yX5_fill, .selects RX5 yX5_fill yX5_fill, .methodLink RL 89 yX4_clearBuffer, .instanceMethod yX4_clearBuffer, .selects RX4 yX4_clearBuffer yX4_clearBuffer, .methodLink RL 92 yX5_clearBuffer, .instanceMethod yX5_clearBuffer, .selects RX5 yX5_clearBuffer yX5_clearBuffer, .methodLink RL 93 yL_insert, .static yL_insert, .methodLink RL 96 yX5_insert, .instanceMethod yX5_insert, .selects RX5 yX5_insert yX5_insert, .methodLink RL 97 yL_update, .static yL_update, .methodLink RL 99 yX5_update, .instanceMethod yX5_update, .selects RX5 yX5_update yX5_update, .methodLink RL 100 yL_delete, .static yL_delete, .methodLink RL 102 yX5_delete, .instanceMethod yX5_delete, .selects RX5 yX5_delete yX5_delete, .methodLink RL 103 yX4_bringHome]
def lwl2 : List Cond := [.instanceMethod yX4_bringHome, .selects RX4 yX4_bringHome yX4_bringHome, .methodLink RL 106 yX5_bringHome, .instanceMethod yX5_bringHome, .selects RX5 yX5_bringHome yX5_bringHome, .methodLink RL 107 yL_compact, .static yL_compact, .methodLink RL 109 yX5_compact, .instanceMethod yX5_compact, .selects RX5 yX5_compact yX5_compact, .methodLink RL 110 yX4_rows, .methodLink RL 113 yX5_rows, .instanceMethod yX5_rows, .selects RX5 yX5_rows yX5_rows, .methodLink RL 114 yX4_isRow, .methodLink RL 118 yX5_isRow, .instanceMethod yX5_isRow, .selects RX5 yX5_isRow yX5_isRow, .methodLink RL 119 yL_length, .static yL_length, .methodLink RL 121 yX5_length, .instanceMethod yX5_length, .selects RX5 yX5_length yX5_length, .methodLink RL 122 yL_byteOf, .static yL_byteOf, .methodLink RL 124 yX5_byteOf, .instanceMethod yX5_byteOf, .selects RX5 yX5_byteOf yX5_byteOf, .methodLink RL 125 yL_placeOf, .static yL_placeOf, .methodLink RL 127 yX5_placeOf, .instanceMethod yX5_placeOf, .selects RX5 yX5_placeOf yX5_placeOf, .methodLink RL 128 yX4_next, .instanceMethod yX4_next, .selects RX4 yX4_next yX4_next, .methodLink RL 131 yX5_next, .instanceMethod yX5_next, .selects RX5 yX5_next yX5_next, .methodLink RL 132 yX4_rowAt, .methodLink RL 135 yX5_rowAt, .instanceMethod yX5_rowAt, .selects RX5 yX5_rowAt yX5_rowAt, .methodLink RL 136 yX4_pages, .instanceMethod yX4_pages, .selects RX4 yX4_pages yX4_pages, .methodLink RL 139 yX5_pages, .instanceMethod yX5_pages, .selects RX5 yX5_pages yX5_pages, .methodLink RL 140 yL_pageByte, .static yL_pageByte, .methodLink RL 142 yX5_pageByte, .instanceMethod yX5_pageByte, .selects RX5 yX5_pageByte yX5_pageByte, .methodLink RL 143 yL_free, .static yL_free, .methodLink RL 145 yX5_free, .instanceMethod yX5_free, .selects RX5 yX5_free yX5_free, .methodLink RL 146 yL_gap]
def lwl3 : List Cond := [.static yL_gap, .methodLink RL 148 yX5_gap, .instanceMethod yX5_gap, .selects RX5 yX5_gap yX5_gap, .methodLink RL 149 yX4_kind, .methodLink RL 152 yX5_kind, .instanceMethod yX5_kind, .selects RX5 yX5_kind yX5_kind, .methodLink RL 153 yX4_notes, .methodLink RL 156 yX5_notes, .instanceMethod yX5_notes, .selects RX5 yX5_notes yX5_notes, .methodLink RL 157 yX4_moves, .instanceMethod yX4_moves, .selects RX4 yX4_moves yX4_moves, .methodLink RL 160 yX5_moves, .instanceMethod yX5_moves, .selects RX5 yX5_moves yX5_moves, .methodLink RL 161 yX4_returns, .instanceMethod yX4_returns, .selects RX4 yX4_returns yX4_returns, .methodLink RL 164 yX5_returns, .instanceMethod yX5_returns, .selects RX5 yX5_returns yX5_returns, .methodLink RL 165 yX4_compactions, .instanceMethod yX4_compactions, .selects RX4 yX4_compactions yX4_compactions, .methodLink RL 168 yX5_compactions, .instanceMethod yX5_compactions, .selects RX5 yX5_compactions yX5_compactions, .methodLink RL 169 yX4_fillFactor, .methodLink RL 173 yX5_fillFactor, .instanceMethod yX5_fillFactor, .selects RX5 yX5_fillFactor yX5_fillFactor, .methodLink RL 174 yL_ifInserted, .static yL_ifInserted, .methodLink RL 176 yX5_ifInserted, .instanceMethod yX5_ifInserted, .selects RX5 yX5_ifInserted yX5_ifInserted, .methodLink RL 177 yL_ifUpdated, .static yL_ifUpdated, .methodLink RL 179 yX5_ifUpdated, .instanceMethod yX5_ifUpdated, .selects RX5 yX5_ifUpdated yX5_ifUpdated, .methodLink RL 180 yL_greatestAtHome, .static yL_greatestAtHome, .methodLink RL 182 yX5_greatestAtHome, .instanceMethod yX5_greatestAtHome, .selects RX5 yX5_greatestAtHome yX5_greatestAtHome, .methodLink RL 183 yL_capacity, .static yL_capacity, .methodLink RL 185 yX5_capacity, .instanceMethod yX5_capacity, .selects RX5 yX5_capacity yX5_capacity, .methodLink RL 186 yX4_firstError, .methodLink RL 189 yX5_firstError, .instanceMethod yX5_firstError, .selects RX5 yX5_firstError yX5_firstError, .methodLink RL 190 yL_run, .static yL_run]
def lwl4 : List Cond := [.methodLink RL 192 yX5_run, .instanceMethod yX5_run, .selects RX5 yX5_run yX5_run, .methodLink RL 193 yL_undo, .static yL_undo, .methodLink RL 195 yX5_undo, .instanceMethod yX5_undo, .selects RX5 yX5_undo yX5_undo, .methodLink RL 196 yX4_savedStates, .instanceMethod yX4_savedStates, .selects RX4 yX4_savedStates yX4_savedStates, .methodLink RL 199 yX5_savedStates, .instanceMethod yX5_savedStates, .selects RX5 yX5_savedStates yX5_savedStates, .methodLink RL 200 yX4_digest, .instanceMethod yX4_digest, .selects RX4 yX4_digest yX4_digest, .methodLink RL 204 yX5_digest, .instanceMethod yX5_digest, .selects RX5 yX5_digest yX5_digest]
def bwL : List Cond := lwl0 ++ (lwl1 ++ (lwl2 ++ (lwl3 ++ (lwl4 ++ (bw)))))
theorem bil_lwl0 : ∀ w ∈ lwl0, w ∈ bwL := fun _ h => (List.mem_append_left _ h)
theorem bil_lwl1 : ∀ w ∈ lwl1, w ∈ bwL := fun _ h => (List.mem_append_right _ (List.mem_append_left _ h))
theorem bil_lwl2 : ∀ w ∈ lwl2, w ∈ bwL := fun _ h => (List.mem_append_right _ (List.mem_append_right _ (List.mem_append_left _ h)))
theorem bil_lwl3 : ∀ w ∈ lwl3, w ∈ bwL := fun _ h => (List.mem_append_right _ (List.mem_append_right _ (List.mem_append_right _ (List.mem_append_left _ h))))
theorem bil_lwl4 : ∀ w ∈ lwl4, w ∈ bwL := fun _ h => (List.mem_append_right _ (List.mem_append_right _ (List.mem_append_right _ (List.mem_append_right _ (List.mem_append_left _ h)))))
theorem bil_bw : ∀ w ∈ bw, w ∈ bwL := fun _ h => (List.mem_append_right _ (List.mem_append_right _ (List.mem_append_right _ (List.mem_append_right _ (List.mem_append_right _ h)))))
theorem bwL_of {w : Cond} (h : w ∈ bw) : w ∈ bwL := bil_bw w h
theorem ql_0 : (Cond.codeWith yL_append cL_append 4 (some .int) [(0, 9, 12, 13), (0, 9, 15, 15)] : Cond) ∈ bwL := bil_lwl0 _ (List.mem_of_getElem? (i := 0) rfl)
theorem ql_1 : (Cond.classLink RL 13 "java/lang/IllegalArgumentException" : Cond) ∈ bwL := bil_lwl0 _ (List.mem_of_getElem? (i := 1) rfl)
theorem ql_2 : (Cond.classLink RL 15 "java/lang/IllegalStateException" : Cond) ∈ bwL := bil_lwl0 _ (List.mem_of_getElem? (i := 2) rfl)
theorem ql_3 : (Cond.methodLink RL 7 yX4_append : Cond) ∈ bwL := bil_lwl0 _ (List.mem_of_getElem? (i := 3) rfl)
theorem ql_4 : (Cond.instanceMethod yX4_append : Cond) ∈ bwL := bil_lwl0 _ (List.mem_of_getElem? (i := 4) rfl)
theorem ql_5 : (Cond.selects RX4 yX4_append yX4_append : Cond) ∈ bwL := bil_lwl0 _ (List.mem_of_getElem? (i := 5) rfl)
theorem ql_6 : (Cond.codeWith yL_fill cL_fill 5 (some .int) [(0, 10, 13, 13), (0, 10, 17, 15)] : Cond) ∈ bwL := bil_lwl0 _ (List.mem_of_getElem? (i := 6) rfl)
theorem ql_7 : (Cond.methodLink RL 17 yX4_fill : Cond) ∈ bwL := bil_lwl0 _ (List.mem_of_getElem? (i := 7) rfl)
theorem ql_8 : (Cond.instanceMethod yX4_fill : Cond) ∈ bwL := bil_lwl0 _ (List.mem_of_getElem? (i := 8) rfl)
theorem ql_9 : (Cond.selects RX4 yX4_fill yX4_fill : Cond) ∈ bwL := bil_lwl0 _ (List.mem_of_getElem? (i := 9) rfl)
theorem ql_10 : (Cond.methodLink RL 21 yX4_insert : Cond) ∈ bwL := bil_lwl0 _ (List.mem_of_getElem? (i := 10) rfl)
theorem ql_11 : (Cond.instanceMethod yX4_insert : Cond) ∈ bwL := bil_lwl0 _ (List.mem_of_getElem? (i := 11) rfl)
theorem ql_12 : (Cond.selects RX4 yX4_insert yX4_insert : Cond) ∈ bwL := bil_lwl0 _ (List.mem_of_getElem? (i := 12) rfl)
theorem ql_13 : (Cond.codeWith yL_insert cL_insert 3 (some .int) [(0, 8, 11, 15)] : Cond) ∈ bwL := bil_lwl0 _ (List.mem_of_getElem? (i := 13) rfl)
theorem ql_14 : (Cond.classLink RL 28 "java/lang/IndexOutOfBoundsException" : Cond) ∈ bwL := bil_lwl0 _ (List.mem_of_getElem? (i := 14) rfl)
theorem ql_15 : (Cond.methodLink RL 25 yX4_update : Cond) ∈ bwL := bil_lwl0 _ (List.mem_of_getElem? (i := 15) rfl)
theorem ql_16 : (Cond.instanceMethod yX4_update : Cond) ∈ bwL := bil_lwl0 _ (List.mem_of_getElem? (i := 16) rfl)
theorem ql_17 : (Cond.selects RX4 yX4_update yX4_update : Cond) ∈ bwL := bil_lwl0 _ (List.mem_of_getElem? (i := 17) rfl)
theorem ql_18 : (Cond.codeWith yL_update cL_update 4 (some .int) [(0, 9, 12, 28), (0, 9, 15, 15)] : Cond) ∈ bwL := bil_lwl0 _ (List.mem_of_getElem? (i := 18) rfl)
theorem ql_19 : (Cond.methodLink RL 30 yX4_delete : Cond) ∈ bwL := bil_lwl0 _ (List.mem_of_getElem? (i := 19) rfl)
theorem ql_20 : (Cond.instanceMethod yX4_delete : Cond) ∈ bwL := bil_lwl0 _ (List.mem_of_getElem? (i := 20) rfl)
theorem ql_21 : (Cond.selects RX4 yX4_delete yX4_delete : Cond) ∈ bwL := bil_lwl0 _ (List.mem_of_getElem? (i := 21) rfl)
theorem ql_22 : (Cond.codeWith yL_delete cL_delete 4 (some .int) [(0, 9, 12, 28)] : Cond) ∈ bwL := bil_lwl0 _ (List.mem_of_getElem? (i := 22) rfl)
theorem ql_23 : (Cond.methodLink RL 33 yX4_compact : Cond) ∈ bwL := bil_lwl0 _ (List.mem_of_getElem? (i := 23) rfl)
theorem ql_24 : (Cond.instanceMethod yX4_compact : Cond) ∈ bwL := bil_lwl0 _ (List.mem_of_getElem? (i := 24) rfl)
theorem ql_25 : (Cond.selects RX4 yX4_compact yX4_compact : Cond) ∈ bwL := bil_lwl0 _ (List.mem_of_getElem? (i := 25) rfl)
theorem ql_26 : (Cond.codeWith yL_compact cL_compact 4 (some .int) [(0, 9, 12, 28)] : Cond) ∈ bwL := bil_lwl0 _ (List.mem_of_getElem? (i := 26) rfl)
theorem ql_27 : (Cond.methodLink RL 36 yX4_length : Cond) ∈ bwL := bil_lwl0 _ (List.mem_of_getElem? (i := 27) rfl)
theorem ql_28 : (Cond.instanceMethod yX4_length : Cond) ∈ bwL := bil_lwl0 _ (List.mem_of_getElem? (i := 28) rfl)
theorem ql_29 : (Cond.selects RX4 yX4_length yX4_length : Cond) ∈ bwL := bil_lwl0 _ (List.mem_of_getElem? (i := 29) rfl)
theorem ql_30 : (Cond.codeWith yL_length cL_length 4 (some .int) [(0, 9, 12, 28)] : Cond) ∈ bwL := bil_lwl0 _ (List.mem_of_getElem? (i := 30) rfl)
theorem ql_31 : (Cond.methodLink RL 39 yX4_byteOf : Cond) ∈ bwL := bil_lwl0 _ (List.mem_of_getElem? (i := 31) rfl)
theorem ql_32 : (Cond.instanceMethod yX4_byteOf : Cond) ∈ bwL := bil_lwl0 _ (List.mem_of_getElem? (i := 32) rfl)
theorem ql_33 : (Cond.selects RX4 yX4_byteOf yX4_byteOf : Cond) ∈ bwL := bil_lwl0 _ (List.mem_of_getElem? (i := 33) rfl)
theorem ql_34 : (Cond.codeWith yL_byteOf cL_byteOf 5 (some .int) [(0, 10, 13, 28)] : Cond) ∈ bwL := bil_lwl0 _ (List.mem_of_getElem? (i := 34) rfl)
theorem ql_35 : (Cond.methodLink RL 42 yX4_placeOf : Cond) ∈ bwL := bil_lwl0 _ (List.mem_of_getElem? (i := 35) rfl)
theorem ql_36 : (Cond.instanceMethod yX4_placeOf : Cond) ∈ bwL := bil_lwl0 _ (List.mem_of_getElem? (i := 36) rfl)
theorem ql_37 : (Cond.selects RX4 yX4_placeOf yX4_placeOf : Cond) ∈ bwL := bil_lwl0 _ (List.mem_of_getElem? (i := 37) rfl)
theorem ql_38 : (Cond.codeWith yL_placeOf cL_placeOf 4 (some .int) [(0, 9, 12, 28)] : Cond) ∈ bwL := bil_lwl0 _ (List.mem_of_getElem? (i := 38) rfl)
theorem ql_39 : (Cond.codeWith yL_pageByte cL_pageByte 5 (some .int) [(0, 10, 13, 28)] : Cond) ∈ bwL := bil_lwl0 _ (List.mem_of_getElem? (i := 39) rfl)
theorem ql_40 : (Cond.methodLink RL 45 yX4_pageByte : Cond) ∈ bwL := bil_lwl0 _ (List.mem_of_getElem? (i := 40) rfl)
theorem ql_41 : (Cond.instanceMethod yX4_pageByte : Cond) ∈ bwL := bil_lwl0 _ (List.mem_of_getElem? (i := 41) rfl)
theorem ql_42 : (Cond.selects RX4 yX4_pageByte yX4_pageByte : Cond) ∈ bwL := bil_lwl0 _ (List.mem_of_getElem? (i := 42) rfl)
theorem ql_43 : (Cond.methodLink RL 48 yX4_free : Cond) ∈ bwL := bil_lwl0 _ (List.mem_of_getElem? (i := 43) rfl)
theorem ql_44 : (Cond.instanceMethod yX4_free : Cond) ∈ bwL := bil_lwl0 _ (List.mem_of_getElem? (i := 44) rfl)
theorem ql_45 : (Cond.selects RX4 yX4_free yX4_free : Cond) ∈ bwL := bil_lwl0 _ (List.mem_of_getElem? (i := 45) rfl)
theorem ql_46 : (Cond.codeWith yL_free cL_free 4 (some .int) [(0, 9, 12, 28)] : Cond) ∈ bwL := bil_lwl0 _ (List.mem_of_getElem? (i := 46) rfl)
theorem ql_47 : (Cond.methodLink RL 51 yX4_gap : Cond) ∈ bwL := bil_lwl0 _ (List.mem_of_getElem? (i := 47) rfl)
theorem ql_48 : (Cond.instanceMethod yX4_gap : Cond) ∈ bwL := bil_lwl0 _ (List.mem_of_getElem? (i := 48) rfl)
theorem ql_49 : (Cond.selects RX4 yX4_gap yX4_gap : Cond) ∈ bwL := bil_lwl0 _ (List.mem_of_getElem? (i := 49) rfl)
theorem ql_50 : (Cond.codeWith yL_gap cL_gap 4 (some .int) [(0, 9, 12, 28)] : Cond) ∈ bwL := bil_lwl0 _ (List.mem_of_getElem? (i := 50) rfl)
theorem ql_51 : (Cond.methodLink RL 54 yX4_ifInserted : Cond) ∈ bwL := bil_lwl0 _ (List.mem_of_getElem? (i := 51) rfl)
theorem ql_52 : (Cond.instanceMethod yX4_ifInserted : Cond) ∈ bwL := bil_lwl0 _ (List.mem_of_getElem? (i := 52) rfl)
theorem ql_53 : (Cond.selects RX4 yX4_ifInserted yX4_ifInserted : Cond) ∈ bwL := bil_lwl0 _ (List.mem_of_getElem? (i := 53) rfl)
theorem ql_54 : (Cond.codeWith yL_ifInserted cL_ifInserted 4 (some .int) [(0, 9, 12, 13)] : Cond) ∈ bwL := bil_lwl0 _ (List.mem_of_getElem? (i := 54) rfl)
theorem ql_55 : (Cond.methodLink RL 57 yX4_ifUpdated : Cond) ∈ bwL := bil_lwl0 _ (List.mem_of_getElem? (i := 55) rfl)
theorem ql_56 : (Cond.instanceMethod yX4_ifUpdated : Cond) ∈ bwL := bil_lwl0 _ (List.mem_of_getElem? (i := 56) rfl)
theorem ql_57 : (Cond.selects RX4 yX4_ifUpdated yX4_ifUpdated : Cond) ∈ bwL := bil_lwl0 _ (List.mem_of_getElem? (i := 57) rfl)
theorem ql_58 : (Cond.codeWith yL_ifUpdated cL_ifUpdated 5 (some .int) [(0, 10, 13, 28), (0, 10, 17, 13)] : Cond) ∈ bwL := bil_lwl0 _ (List.mem_of_getElem? (i := 58) rfl)
theorem ql_59 : (Cond.methodLink RL 60 yX4_greatestAtHome : Cond) ∈ bwL := bil_lwl0 _ (List.mem_of_getElem? (i := 59) rfl)
theorem ql_60 : (Cond.instanceMethod yX4_greatestAtHome : Cond) ∈ bwL := bil_lwl1 _ (List.mem_of_getElem? (i := 0) rfl)
theorem ql_61 : (Cond.selects RX4 yX4_greatestAtHome yX4_greatestAtHome : Cond) ∈ bwL := bil_lwl1 _ (List.mem_of_getElem? (i := 1) rfl)
theorem ql_62 : (Cond.codeWith yL_greatestAtHome cL_greatestAtHome 4 (some .int) [(0, 9, 12, 28)] : Cond) ∈ bwL := bil_lwl1 _ (List.mem_of_getElem? (i := 2) rfl)
theorem ql_63 : (Cond.methodLink RL 63 yX4_capacity : Cond) ∈ bwL := bil_lwl1 _ (List.mem_of_getElem? (i := 3) rfl)
theorem ql_64 : (Cond.instanceMethod yX4_capacity : Cond) ∈ bwL := bil_lwl1 _ (List.mem_of_getElem? (i := 4) rfl)
theorem ql_65 : (Cond.selects RX4 yX4_capacity yX4_capacity : Cond) ∈ bwL := bil_lwl1 _ (List.mem_of_getElem? (i := 5) rfl)
theorem ql_66 : (Cond.codeWith yL_capacity cL_capacity 4 (some .int) [(0, 9, 12, 13)] : Cond) ∈ bwL := bil_lwl1 _ (List.mem_of_getElem? (i := 6) rfl)
theorem ql_67 : (Cond.methodLink RL 66 yX4_run : Cond) ∈ bwL := bil_lwl1 _ (List.mem_of_getElem? (i := 7) rfl)
theorem ql_68 : (Cond.instanceMethod yX4_run : Cond) ∈ bwL := bil_lwl1 _ (List.mem_of_getElem? (i := 8) rfl)
theorem ql_69 : (Cond.selects RX4 yX4_run yX4_run : Cond) ∈ bwL := bil_lwl1 _ (List.mem_of_getElem? (i := 9) rfl)
theorem ql_70 : (Cond.codeWith yL_run cL_run 3 (some .int) [(0, 8, 11, 13)] : Cond) ∈ bwL := bil_lwl1 _ (List.mem_of_getElem? (i := 10) rfl)
theorem ql_71 : (Cond.methodLink RL 69 yX4_undo : Cond) ∈ bwL := bil_lwl1 _ (List.mem_of_getElem? (i := 11) rfl)
theorem ql_72 : (Cond.instanceMethod yX4_undo : Cond) ∈ bwL := bil_lwl1 _ (List.mem_of_getElem? (i := 12) rfl)
theorem ql_73 : (Cond.selects RX4 yX4_undo yX4_undo : Cond) ∈ bwL := bil_lwl1 _ (List.mem_of_getElem? (i := 13) rfl)
theorem ql_74 : (Cond.codeWith yL_undo cL_undo 3 (some .int) [(0, 8, 11, 15)] : Cond) ∈ bwL := bil_lwl1 _ (List.mem_of_getElem? (i := 14) rfl)
theorem ql_75 : (Cond.classLink RL 8 RX4 : Cond) ∈ bwL := bil_lwl1 _ (List.mem_of_getElem? (i := 15) rfl)
theorem ql_76 : (Cond.instantiable RX4 8 : Cond) ∈ bwL := bil_lwl1 _ (List.mem_of_getElem? (i := 16) rfl)
theorem ql_77 : (Cond.classLink RL 73 RX5 : Cond) ∈ bwL := bil_lwl1 _ (List.mem_of_getElem? (i := 17) rfl)
theorem ql_78 : (Cond.instantiable RX5 12 : Cond) ∈ bwL := bil_lwl1 _ (List.mem_of_getElem? (i := 18) rfl)
theorem ql_79 : (Cond.arrayClass .long : Cond) ∈ bwL := bil_lwl1 _ (List.mem_of_getElem? (i := 19) rfl)
theorem ql_80 : (Cond.methodLink RL 72 yX4_init : Cond) ∈ bwL := bil_lwl1 _ (List.mem_of_getElem? (i := 20) rfl)
theorem ql_81 : (Cond.instanceMethod yX4_init : Cond) ∈ bwL := bil_lwl1 _ (List.mem_of_getElem? (i := 21) rfl)
theorem ql_82 : (Cond.methodLink RL 75 yX5_init : Cond) ∈ bwL := bil_lwl1 _ (List.mem_of_getElem? (i := 22) rfl)
theorem ql_83 : (Cond.instanceMethod yX5_init : Cond) ∈ bwL := bil_lwl1 _ (List.mem_of_getElem? (i := 23) rfl)
theorem ql_84 : (Cond.methodLink RL 76 yL_append : Cond) ∈ bwL := bil_lwl1 _ (List.mem_of_getElem? (i := 24) rfl)
theorem ql_85 : (Cond.static yL_append : Cond) ∈ bwL := bil_lwl1 _ (List.mem_of_getElem? (i := 25) rfl)
theorem ql_86 : (Cond.initialized RL : Cond) ∈ bwL := bil_lwl1 _ (List.mem_of_getElem? (i := 26) rfl)
theorem ql_87 : (Cond.methodLink RL 81 yX5_append : Cond) ∈ bwL := bil_lwl1 _ (List.mem_of_getElem? (i := 27) rfl)
theorem ql_88 : (Cond.instanceMethod yX5_append : Cond) ∈ bwL := bil_lwl1 _ (List.mem_of_getElem? (i := 28) rfl)
theorem ql_89 : (Cond.selects RX5 yX5_append yX5_append : Cond) ∈ bwL := bil_lwl1 _ (List.mem_of_getElem? (i := 29) rfl)
theorem ql_90 : (Cond.methodLink RL 82 yX5_thrown : Cond) ∈ bwL := bil_lwl1 _ (List.mem_of_getElem? (i := 30) rfl)
theorem ql_91 : (Cond.instanceMethod yX5_thrown : Cond) ∈ bwL := bil_lwl1 _ (List.mem_of_getElem? (i := 31) rfl)
theorem ql_92 : (Cond.selects RX5 yX5_thrown yX5_thrown : Cond) ∈ bwL := bil_lwl1 _ (List.mem_of_getElem? (i := 32) rfl)
theorem ql_93 : (Cond.methodLink RL 85 yL_fill : Cond) ∈ bwL := bil_lwl1 _ (List.mem_of_getElem? (i := 33) rfl)
theorem ql_94 : (Cond.static yL_fill : Cond) ∈ bwL := bil_lwl1 _ (List.mem_of_getElem? (i := 34) rfl)
theorem ql_95 : (Cond.methodLink RL 88 yX5_fill : Cond) ∈ bwL := bil_lwl1 _ (List.mem_of_getElem? (i := 35) rfl)
theorem ql_96 : (Cond.instanceMethod yX5_fill : Cond) ∈ bwL := bil_lwl1 _ (List.mem_of_getElem? (i := 36) rfl)
theorem ql_97 : (Cond.selects RX5 yX5_fill yX5_fill : Cond) ∈ bwL := bil_lwl1 _ (List.mem_of_getElem? (i := 37) rfl)
theorem ql_98 : (Cond.methodLink RL 89 yX4_clearBuffer : Cond) ∈ bwL := bil_lwl1 _ (List.mem_of_getElem? (i := 38) rfl)
theorem ql_99 : (Cond.instanceMethod yX4_clearBuffer : Cond) ∈ bwL := bil_lwl1 _ (List.mem_of_getElem? (i := 39) rfl)
theorem ql_100 : (Cond.selects RX4 yX4_clearBuffer yX4_clearBuffer : Cond) ∈ bwL := bil_lwl1 _ (List.mem_of_getElem? (i := 40) rfl)
theorem ql_101 : (Cond.methodLink RL 92 yX5_clearBuffer : Cond) ∈ bwL := bil_lwl1 _ (List.mem_of_getElem? (i := 41) rfl)
theorem ql_102 : (Cond.instanceMethod yX5_clearBuffer : Cond) ∈ bwL := bil_lwl1 _ (List.mem_of_getElem? (i := 42) rfl)
theorem ql_103 : (Cond.selects RX5 yX5_clearBuffer yX5_clearBuffer : Cond) ∈ bwL := bil_lwl1 _ (List.mem_of_getElem? (i := 43) rfl)
theorem ql_104 : (Cond.methodLink RL 93 yL_insert : Cond) ∈ bwL := bil_lwl1 _ (List.mem_of_getElem? (i := 44) rfl)
theorem ql_105 : (Cond.static yL_insert : Cond) ∈ bwL := bil_lwl1 _ (List.mem_of_getElem? (i := 45) rfl)
theorem ql_106 : (Cond.methodLink RL 96 yX5_insert : Cond) ∈ bwL := bil_lwl1 _ (List.mem_of_getElem? (i := 46) rfl)
theorem ql_107 : (Cond.instanceMethod yX5_insert : Cond) ∈ bwL := bil_lwl1 _ (List.mem_of_getElem? (i := 47) rfl)
theorem ql_108 : (Cond.selects RX5 yX5_insert yX5_insert : Cond) ∈ bwL := bil_lwl1 _ (List.mem_of_getElem? (i := 48) rfl)
theorem ql_109 : (Cond.methodLink RL 97 yL_update : Cond) ∈ bwL := bil_lwl1 _ (List.mem_of_getElem? (i := 49) rfl)
theorem ql_110 : (Cond.static yL_update : Cond) ∈ bwL := bil_lwl1 _ (List.mem_of_getElem? (i := 50) rfl)
theorem ql_111 : (Cond.methodLink RL 99 yX5_update : Cond) ∈ bwL := bil_lwl1 _ (List.mem_of_getElem? (i := 51) rfl)
theorem ql_112 : (Cond.instanceMethod yX5_update : Cond) ∈ bwL := bil_lwl1 _ (List.mem_of_getElem? (i := 52) rfl)
theorem ql_113 : (Cond.selects RX5 yX5_update yX5_update : Cond) ∈ bwL := bil_lwl1 _ (List.mem_of_getElem? (i := 53) rfl)
theorem ql_114 : (Cond.methodLink RL 100 yL_delete : Cond) ∈ bwL := bil_lwl1 _ (List.mem_of_getElem? (i := 54) rfl)
theorem ql_115 : (Cond.static yL_delete : Cond) ∈ bwL := bil_lwl1 _ (List.mem_of_getElem? (i := 55) rfl)
theorem ql_116 : (Cond.methodLink RL 102 yX5_delete : Cond) ∈ bwL := bil_lwl1 _ (List.mem_of_getElem? (i := 56) rfl)
theorem ql_117 : (Cond.instanceMethod yX5_delete : Cond) ∈ bwL := bil_lwl1 _ (List.mem_of_getElem? (i := 57) rfl)
theorem ql_118 : (Cond.selects RX5 yX5_delete yX5_delete : Cond) ∈ bwL := bil_lwl1 _ (List.mem_of_getElem? (i := 58) rfl)
theorem ql_119 : (Cond.methodLink RL 103 yX4_bringHome : Cond) ∈ bwL := bil_lwl1 _ (List.mem_of_getElem? (i := 59) rfl)
theorem ql_120 : (Cond.instanceMethod yX4_bringHome : Cond) ∈ bwL := bil_lwl2 _ (List.mem_of_getElem? (i := 0) rfl)
theorem ql_121 : (Cond.selects RX4 yX4_bringHome yX4_bringHome : Cond) ∈ bwL := bil_lwl2 _ (List.mem_of_getElem? (i := 1) rfl)
theorem ql_122 : (Cond.methodLink RL 106 yX5_bringHome : Cond) ∈ bwL := bil_lwl2 _ (List.mem_of_getElem? (i := 2) rfl)
theorem ql_123 : (Cond.instanceMethod yX5_bringHome : Cond) ∈ bwL := bil_lwl2 _ (List.mem_of_getElem? (i := 3) rfl)
theorem ql_124 : (Cond.selects RX5 yX5_bringHome yX5_bringHome : Cond) ∈ bwL := bil_lwl2 _ (List.mem_of_getElem? (i := 4) rfl)
theorem ql_125 : (Cond.methodLink RL 107 yL_compact : Cond) ∈ bwL := bil_lwl2 _ (List.mem_of_getElem? (i := 5) rfl)
theorem ql_126 : (Cond.static yL_compact : Cond) ∈ bwL := bil_lwl2 _ (List.mem_of_getElem? (i := 6) rfl)
theorem ql_127 : (Cond.methodLink RL 109 yX5_compact : Cond) ∈ bwL := bil_lwl2 _ (List.mem_of_getElem? (i := 7) rfl)
theorem ql_128 : (Cond.instanceMethod yX5_compact : Cond) ∈ bwL := bil_lwl2 _ (List.mem_of_getElem? (i := 8) rfl)
theorem ql_129 : (Cond.selects RX5 yX5_compact yX5_compact : Cond) ∈ bwL := bil_lwl2 _ (List.mem_of_getElem? (i := 9) rfl)
theorem ql_130 : (Cond.methodLink RL 110 yX4_rows : Cond) ∈ bwL := bil_lwl2 _ (List.mem_of_getElem? (i := 10) rfl)
theorem ql_131 : (Cond.methodLink RL 113 yX5_rows : Cond) ∈ bwL := bil_lwl2 _ (List.mem_of_getElem? (i := 11) rfl)
theorem ql_132 : (Cond.instanceMethod yX5_rows : Cond) ∈ bwL := bil_lwl2 _ (List.mem_of_getElem? (i := 12) rfl)
theorem ql_133 : (Cond.selects RX5 yX5_rows yX5_rows : Cond) ∈ bwL := bil_lwl2 _ (List.mem_of_getElem? (i := 13) rfl)
theorem ql_134 : (Cond.methodLink RL 114 yX4_isRow : Cond) ∈ bwL := bil_lwl2 _ (List.mem_of_getElem? (i := 14) rfl)
theorem ql_135 : (Cond.methodLink RL 118 yX5_isRow : Cond) ∈ bwL := bil_lwl2 _ (List.mem_of_getElem? (i := 15) rfl)
theorem ql_136 : (Cond.instanceMethod yX5_isRow : Cond) ∈ bwL := bil_lwl2 _ (List.mem_of_getElem? (i := 16) rfl)
theorem ql_137 : (Cond.selects RX5 yX5_isRow yX5_isRow : Cond) ∈ bwL := bil_lwl2 _ (List.mem_of_getElem? (i := 17) rfl)
theorem ql_138 : (Cond.methodLink RL 119 yL_length : Cond) ∈ bwL := bil_lwl2 _ (List.mem_of_getElem? (i := 18) rfl)
theorem ql_139 : (Cond.static yL_length : Cond) ∈ bwL := bil_lwl2 _ (List.mem_of_getElem? (i := 19) rfl)
theorem ql_140 : (Cond.methodLink RL 121 yX5_length : Cond) ∈ bwL := bil_lwl2 _ (List.mem_of_getElem? (i := 20) rfl)
theorem ql_141 : (Cond.instanceMethod yX5_length : Cond) ∈ bwL := bil_lwl2 _ (List.mem_of_getElem? (i := 21) rfl)
theorem ql_142 : (Cond.selects RX5 yX5_length yX5_length : Cond) ∈ bwL := bil_lwl2 _ (List.mem_of_getElem? (i := 22) rfl)
theorem ql_143 : (Cond.methodLink RL 122 yL_byteOf : Cond) ∈ bwL := bil_lwl2 _ (List.mem_of_getElem? (i := 23) rfl)
theorem ql_144 : (Cond.static yL_byteOf : Cond) ∈ bwL := bil_lwl2 _ (List.mem_of_getElem? (i := 24) rfl)
theorem ql_145 : (Cond.methodLink RL 124 yX5_byteOf : Cond) ∈ bwL := bil_lwl2 _ (List.mem_of_getElem? (i := 25) rfl)
theorem ql_146 : (Cond.instanceMethod yX5_byteOf : Cond) ∈ bwL := bil_lwl2 _ (List.mem_of_getElem? (i := 26) rfl)
theorem ql_147 : (Cond.selects RX5 yX5_byteOf yX5_byteOf : Cond) ∈ bwL := bil_lwl2 _ (List.mem_of_getElem? (i := 27) rfl)
theorem ql_148 : (Cond.methodLink RL 125 yL_placeOf : Cond) ∈ bwL := bil_lwl2 _ (List.mem_of_getElem? (i := 28) rfl)
theorem ql_149 : (Cond.static yL_placeOf : Cond) ∈ bwL := bil_lwl2 _ (List.mem_of_getElem? (i := 29) rfl)
theorem ql_150 : (Cond.methodLink RL 127 yX5_placeOf : Cond) ∈ bwL := bil_lwl2 _ (List.mem_of_getElem? (i := 30) rfl)
theorem ql_151 : (Cond.instanceMethod yX5_placeOf : Cond) ∈ bwL := bil_lwl2 _ (List.mem_of_getElem? (i := 31) rfl)
theorem ql_152 : (Cond.selects RX5 yX5_placeOf yX5_placeOf : Cond) ∈ bwL := bil_lwl2 _ (List.mem_of_getElem? (i := 32) rfl)
theorem ql_153 : (Cond.methodLink RL 128 yX4_next : Cond) ∈ bwL := bil_lwl2 _ (List.mem_of_getElem? (i := 33) rfl)
theorem ql_154 : (Cond.instanceMethod yX4_next : Cond) ∈ bwL := bil_lwl2 _ (List.mem_of_getElem? (i := 34) rfl)
theorem ql_155 : (Cond.selects RX4 yX4_next yX4_next : Cond) ∈ bwL := bil_lwl2 _ (List.mem_of_getElem? (i := 35) rfl)
theorem ql_156 : (Cond.methodLink RL 131 yX5_next : Cond) ∈ bwL := bil_lwl2 _ (List.mem_of_getElem? (i := 36) rfl)
theorem ql_157 : (Cond.instanceMethod yX5_next : Cond) ∈ bwL := bil_lwl2 _ (List.mem_of_getElem? (i := 37) rfl)
theorem ql_158 : (Cond.selects RX5 yX5_next yX5_next : Cond) ∈ bwL := bil_lwl2 _ (List.mem_of_getElem? (i := 38) rfl)
theorem ql_159 : (Cond.methodLink RL 132 yX4_rowAt : Cond) ∈ bwL := bil_lwl2 _ (List.mem_of_getElem? (i := 39) rfl)
theorem ql_160 : (Cond.methodLink RL 135 yX5_rowAt : Cond) ∈ bwL := bil_lwl2 _ (List.mem_of_getElem? (i := 40) rfl)
theorem ql_161 : (Cond.instanceMethod yX5_rowAt : Cond) ∈ bwL := bil_lwl2 _ (List.mem_of_getElem? (i := 41) rfl)
theorem ql_162 : (Cond.selects RX5 yX5_rowAt yX5_rowAt : Cond) ∈ bwL := bil_lwl2 _ (List.mem_of_getElem? (i := 42) rfl)
theorem ql_163 : (Cond.methodLink RL 136 yX4_pages : Cond) ∈ bwL := bil_lwl2 _ (List.mem_of_getElem? (i := 43) rfl)
theorem ql_164 : (Cond.instanceMethod yX4_pages : Cond) ∈ bwL := bil_lwl2 _ (List.mem_of_getElem? (i := 44) rfl)
theorem ql_165 : (Cond.selects RX4 yX4_pages yX4_pages : Cond) ∈ bwL := bil_lwl2 _ (List.mem_of_getElem? (i := 45) rfl)
theorem ql_166 : (Cond.methodLink RL 139 yX5_pages : Cond) ∈ bwL := bil_lwl2 _ (List.mem_of_getElem? (i := 46) rfl)
theorem ql_167 : (Cond.instanceMethod yX5_pages : Cond) ∈ bwL := bil_lwl2 _ (List.mem_of_getElem? (i := 47) rfl)
theorem ql_168 : (Cond.selects RX5 yX5_pages yX5_pages : Cond) ∈ bwL := bil_lwl2 _ (List.mem_of_getElem? (i := 48) rfl)
theorem ql_169 : (Cond.methodLink RL 140 yL_pageByte : Cond) ∈ bwL := bil_lwl2 _ (List.mem_of_getElem? (i := 49) rfl)
theorem ql_170 : (Cond.static yL_pageByte : Cond) ∈ bwL := bil_lwl2 _ (List.mem_of_getElem? (i := 50) rfl)
theorem ql_171 : (Cond.methodLink RL 142 yX5_pageByte : Cond) ∈ bwL := bil_lwl2 _ (List.mem_of_getElem? (i := 51) rfl)
theorem ql_172 : (Cond.instanceMethod yX5_pageByte : Cond) ∈ bwL := bil_lwl2 _ (List.mem_of_getElem? (i := 52) rfl)
theorem ql_173 : (Cond.selects RX5 yX5_pageByte yX5_pageByte : Cond) ∈ bwL := bil_lwl2 _ (List.mem_of_getElem? (i := 53) rfl)
theorem ql_174 : (Cond.methodLink RL 143 yL_free : Cond) ∈ bwL := bil_lwl2 _ (List.mem_of_getElem? (i := 54) rfl)
theorem ql_175 : (Cond.static yL_free : Cond) ∈ bwL := bil_lwl2 _ (List.mem_of_getElem? (i := 55) rfl)
theorem ql_176 : (Cond.methodLink RL 145 yX5_free : Cond) ∈ bwL := bil_lwl2 _ (List.mem_of_getElem? (i := 56) rfl)
theorem ql_177 : (Cond.instanceMethod yX5_free : Cond) ∈ bwL := bil_lwl2 _ (List.mem_of_getElem? (i := 57) rfl)
theorem ql_178 : (Cond.selects RX5 yX5_free yX5_free : Cond) ∈ bwL := bil_lwl2 _ (List.mem_of_getElem? (i := 58) rfl)
theorem ql_179 : (Cond.methodLink RL 146 yL_gap : Cond) ∈ bwL := bil_lwl2 _ (List.mem_of_getElem? (i := 59) rfl)
theorem ql_180 : (Cond.static yL_gap : Cond) ∈ bwL := bil_lwl3 _ (List.mem_of_getElem? (i := 0) rfl)
theorem ql_181 : (Cond.methodLink RL 148 yX5_gap : Cond) ∈ bwL := bil_lwl3 _ (List.mem_of_getElem? (i := 1) rfl)
theorem ql_182 : (Cond.instanceMethod yX5_gap : Cond) ∈ bwL := bil_lwl3 _ (List.mem_of_getElem? (i := 2) rfl)
theorem ql_183 : (Cond.selects RX5 yX5_gap yX5_gap : Cond) ∈ bwL := bil_lwl3 _ (List.mem_of_getElem? (i := 3) rfl)
theorem ql_184 : (Cond.methodLink RL 149 yX4_kind : Cond) ∈ bwL := bil_lwl3 _ (List.mem_of_getElem? (i := 4) rfl)
theorem ql_185 : (Cond.methodLink RL 152 yX5_kind : Cond) ∈ bwL := bil_lwl3 _ (List.mem_of_getElem? (i := 5) rfl)
theorem ql_186 : (Cond.instanceMethod yX5_kind : Cond) ∈ bwL := bil_lwl3 _ (List.mem_of_getElem? (i := 6) rfl)
theorem ql_187 : (Cond.selects RX5 yX5_kind yX5_kind : Cond) ∈ bwL := bil_lwl3 _ (List.mem_of_getElem? (i := 7) rfl)
theorem ql_188 : (Cond.methodLink RL 153 yX4_notes : Cond) ∈ bwL := bil_lwl3 _ (List.mem_of_getElem? (i := 8) rfl)
theorem ql_189 : (Cond.methodLink RL 156 yX5_notes : Cond) ∈ bwL := bil_lwl3 _ (List.mem_of_getElem? (i := 9) rfl)
theorem ql_190 : (Cond.instanceMethod yX5_notes : Cond) ∈ bwL := bil_lwl3 _ (List.mem_of_getElem? (i := 10) rfl)
theorem ql_191 : (Cond.selects RX5 yX5_notes yX5_notes : Cond) ∈ bwL := bil_lwl3 _ (List.mem_of_getElem? (i := 11) rfl)
theorem ql_192 : (Cond.methodLink RL 157 yX4_moves : Cond) ∈ bwL := bil_lwl3 _ (List.mem_of_getElem? (i := 12) rfl)
theorem ql_193 : (Cond.instanceMethod yX4_moves : Cond) ∈ bwL := bil_lwl3 _ (List.mem_of_getElem? (i := 13) rfl)
theorem ql_194 : (Cond.selects RX4 yX4_moves yX4_moves : Cond) ∈ bwL := bil_lwl3 _ (List.mem_of_getElem? (i := 14) rfl)
theorem ql_195 : (Cond.methodLink RL 160 yX5_moves : Cond) ∈ bwL := bil_lwl3 _ (List.mem_of_getElem? (i := 15) rfl)
theorem ql_196 : (Cond.instanceMethod yX5_moves : Cond) ∈ bwL := bil_lwl3 _ (List.mem_of_getElem? (i := 16) rfl)
theorem ql_197 : (Cond.selects RX5 yX5_moves yX5_moves : Cond) ∈ bwL := bil_lwl3 _ (List.mem_of_getElem? (i := 17) rfl)
theorem ql_198 : (Cond.methodLink RL 161 yX4_returns : Cond) ∈ bwL := bil_lwl3 _ (List.mem_of_getElem? (i := 18) rfl)
theorem ql_199 : (Cond.instanceMethod yX4_returns : Cond) ∈ bwL := bil_lwl3 _ (List.mem_of_getElem? (i := 19) rfl)
theorem ql_200 : (Cond.selects RX4 yX4_returns yX4_returns : Cond) ∈ bwL := bil_lwl3 _ (List.mem_of_getElem? (i := 20) rfl)
theorem ql_201 : (Cond.methodLink RL 164 yX5_returns : Cond) ∈ bwL := bil_lwl3 _ (List.mem_of_getElem? (i := 21) rfl)
theorem ql_202 : (Cond.instanceMethod yX5_returns : Cond) ∈ bwL := bil_lwl3 _ (List.mem_of_getElem? (i := 22) rfl)
theorem ql_203 : (Cond.selects RX5 yX5_returns yX5_returns : Cond) ∈ bwL := bil_lwl3 _ (List.mem_of_getElem? (i := 23) rfl)
theorem ql_204 : (Cond.methodLink RL 165 yX4_compactions : Cond) ∈ bwL := bil_lwl3 _ (List.mem_of_getElem? (i := 24) rfl)
theorem ql_205 : (Cond.instanceMethod yX4_compactions : Cond) ∈ bwL := bil_lwl3 _ (List.mem_of_getElem? (i := 25) rfl)
theorem ql_206 : (Cond.selects RX4 yX4_compactions yX4_compactions : Cond) ∈ bwL := bil_lwl3 _ (List.mem_of_getElem? (i := 26) rfl)
theorem ql_207 : (Cond.methodLink RL 168 yX5_compactions : Cond) ∈ bwL := bil_lwl3 _ (List.mem_of_getElem? (i := 27) rfl)
theorem ql_208 : (Cond.instanceMethod yX5_compactions : Cond) ∈ bwL := bil_lwl3 _ (List.mem_of_getElem? (i := 28) rfl)
theorem ql_209 : (Cond.selects RX5 yX5_compactions yX5_compactions : Cond) ∈ bwL := bil_lwl3 _ (List.mem_of_getElem? (i := 29) rfl)
theorem ql_210 : (Cond.methodLink RL 169 yX4_fillFactor : Cond) ∈ bwL := bil_lwl3 _ (List.mem_of_getElem? (i := 30) rfl)
theorem ql_211 : (Cond.methodLink RL 173 yX5_fillFactor : Cond) ∈ bwL := bil_lwl3 _ (List.mem_of_getElem? (i := 31) rfl)
theorem ql_212 : (Cond.instanceMethod yX5_fillFactor : Cond) ∈ bwL := bil_lwl3 _ (List.mem_of_getElem? (i := 32) rfl)
theorem ql_213 : (Cond.selects RX5 yX5_fillFactor yX5_fillFactor : Cond) ∈ bwL := bil_lwl3 _ (List.mem_of_getElem? (i := 33) rfl)
theorem ql_214 : (Cond.methodLink RL 174 yL_ifInserted : Cond) ∈ bwL := bil_lwl3 _ (List.mem_of_getElem? (i := 34) rfl)
theorem ql_215 : (Cond.static yL_ifInserted : Cond) ∈ bwL := bil_lwl3 _ (List.mem_of_getElem? (i := 35) rfl)
theorem ql_216 : (Cond.methodLink RL 176 yX5_ifInserted : Cond) ∈ bwL := bil_lwl3 _ (List.mem_of_getElem? (i := 36) rfl)
theorem ql_217 : (Cond.instanceMethod yX5_ifInserted : Cond) ∈ bwL := bil_lwl3 _ (List.mem_of_getElem? (i := 37) rfl)
theorem ql_218 : (Cond.selects RX5 yX5_ifInserted yX5_ifInserted : Cond) ∈ bwL := bil_lwl3 _ (List.mem_of_getElem? (i := 38) rfl)
theorem ql_219 : (Cond.methodLink RL 177 yL_ifUpdated : Cond) ∈ bwL := bil_lwl3 _ (List.mem_of_getElem? (i := 39) rfl)
theorem ql_220 : (Cond.static yL_ifUpdated : Cond) ∈ bwL := bil_lwl3 _ (List.mem_of_getElem? (i := 40) rfl)
theorem ql_221 : (Cond.methodLink RL 179 yX5_ifUpdated : Cond) ∈ bwL := bil_lwl3 _ (List.mem_of_getElem? (i := 41) rfl)
theorem ql_222 : (Cond.instanceMethod yX5_ifUpdated : Cond) ∈ bwL := bil_lwl3 _ (List.mem_of_getElem? (i := 42) rfl)
theorem ql_223 : (Cond.selects RX5 yX5_ifUpdated yX5_ifUpdated : Cond) ∈ bwL := bil_lwl3 _ (List.mem_of_getElem? (i := 43) rfl)
theorem ql_224 : (Cond.methodLink RL 180 yL_greatestAtHome : Cond) ∈ bwL := bil_lwl3 _ (List.mem_of_getElem? (i := 44) rfl)
theorem ql_225 : (Cond.static yL_greatestAtHome : Cond) ∈ bwL := bil_lwl3 _ (List.mem_of_getElem? (i := 45) rfl)
theorem ql_226 : (Cond.methodLink RL 182 yX5_greatestAtHome : Cond) ∈ bwL := bil_lwl3 _ (List.mem_of_getElem? (i := 46) rfl)
theorem ql_227 : (Cond.instanceMethod yX5_greatestAtHome : Cond) ∈ bwL := bil_lwl3 _ (List.mem_of_getElem? (i := 47) rfl)
theorem ql_228 : (Cond.selects RX5 yX5_greatestAtHome yX5_greatestAtHome : Cond) ∈ bwL := bil_lwl3 _ (List.mem_of_getElem? (i := 48) rfl)
theorem ql_229 : (Cond.methodLink RL 183 yL_capacity : Cond) ∈ bwL := bil_lwl3 _ (List.mem_of_getElem? (i := 49) rfl)
theorem ql_230 : (Cond.static yL_capacity : Cond) ∈ bwL := bil_lwl3 _ (List.mem_of_getElem? (i := 50) rfl)
theorem ql_231 : (Cond.methodLink RL 185 yX5_capacity : Cond) ∈ bwL := bil_lwl3 _ (List.mem_of_getElem? (i := 51) rfl)
theorem ql_232 : (Cond.instanceMethod yX5_capacity : Cond) ∈ bwL := bil_lwl3 _ (List.mem_of_getElem? (i := 52) rfl)
theorem ql_233 : (Cond.selects RX5 yX5_capacity yX5_capacity : Cond) ∈ bwL := bil_lwl3 _ (List.mem_of_getElem? (i := 53) rfl)
theorem ql_234 : (Cond.methodLink RL 186 yX4_firstError : Cond) ∈ bwL := bil_lwl3 _ (List.mem_of_getElem? (i := 54) rfl)
theorem ql_235 : (Cond.methodLink RL 189 yX5_firstError : Cond) ∈ bwL := bil_lwl3 _ (List.mem_of_getElem? (i := 55) rfl)
theorem ql_236 : (Cond.instanceMethod yX5_firstError : Cond) ∈ bwL := bil_lwl3 _ (List.mem_of_getElem? (i := 56) rfl)
theorem ql_237 : (Cond.selects RX5 yX5_firstError yX5_firstError : Cond) ∈ bwL := bil_lwl3 _ (List.mem_of_getElem? (i := 57) rfl)
theorem ql_238 : (Cond.methodLink RL 190 yL_run : Cond) ∈ bwL := bil_lwl3 _ (List.mem_of_getElem? (i := 58) rfl)
theorem ql_239 : (Cond.static yL_run : Cond) ∈ bwL := bil_lwl3 _ (List.mem_of_getElem? (i := 59) rfl)
theorem ql_240 : (Cond.methodLink RL 192 yX5_run : Cond) ∈ bwL := bil_lwl4 _ (List.mem_of_getElem? (i := 0) rfl)
theorem ql_241 : (Cond.instanceMethod yX5_run : Cond) ∈ bwL := bil_lwl4 _ (List.mem_of_getElem? (i := 1) rfl)
theorem ql_242 : (Cond.selects RX5 yX5_run yX5_run : Cond) ∈ bwL := bil_lwl4 _ (List.mem_of_getElem? (i := 2) rfl)
theorem ql_243 : (Cond.methodLink RL 193 yL_undo : Cond) ∈ bwL := bil_lwl4 _ (List.mem_of_getElem? (i := 3) rfl)
theorem ql_244 : (Cond.static yL_undo : Cond) ∈ bwL := bil_lwl4 _ (List.mem_of_getElem? (i := 4) rfl)
theorem ql_245 : (Cond.methodLink RL 195 yX5_undo : Cond) ∈ bwL := bil_lwl4 _ (List.mem_of_getElem? (i := 5) rfl)
theorem ql_246 : (Cond.instanceMethod yX5_undo : Cond) ∈ bwL := bil_lwl4 _ (List.mem_of_getElem? (i := 6) rfl)
theorem ql_247 : (Cond.selects RX5 yX5_undo yX5_undo : Cond) ∈ bwL := bil_lwl4 _ (List.mem_of_getElem? (i := 7) rfl)
theorem ql_248 : (Cond.methodLink RL 196 yX4_savedStates : Cond) ∈ bwL := bil_lwl4 _ (List.mem_of_getElem? (i := 8) rfl)
theorem ql_249 : (Cond.instanceMethod yX4_savedStates : Cond) ∈ bwL := bil_lwl4 _ (List.mem_of_getElem? (i := 9) rfl)
theorem ql_250 : (Cond.selects RX4 yX4_savedStates yX4_savedStates : Cond) ∈ bwL := bil_lwl4 _ (List.mem_of_getElem? (i := 10) rfl)
theorem ql_251 : (Cond.methodLink RL 199 yX5_savedStates : Cond) ∈ bwL := bil_lwl4 _ (List.mem_of_getElem? (i := 11) rfl)
theorem ql_252 : (Cond.instanceMethod yX5_savedStates : Cond) ∈ bwL := bil_lwl4 _ (List.mem_of_getElem? (i := 12) rfl)
theorem ql_253 : (Cond.selects RX5 yX5_savedStates yX5_savedStates : Cond) ∈ bwL := bil_lwl4 _ (List.mem_of_getElem? (i := 13) rfl)
theorem ql_254 : (Cond.methodLink RL 200 yX4_digest : Cond) ∈ bwL := bil_lwl4 _ (List.mem_of_getElem? (i := 14) rfl)
theorem ql_255 : (Cond.instanceMethod yX4_digest : Cond) ∈ bwL := bil_lwl4 _ (List.mem_of_getElem? (i := 15) rfl)
theorem ql_256 : (Cond.selects RX4 yX4_digest yX4_digest : Cond) ∈ bwL := bil_lwl4 _ (List.mem_of_getElem? (i := 16) rfl)
theorem ql_257 : (Cond.methodLink RL 204 yX5_digest : Cond) ∈ bwL := bil_lwl4 _ (List.mem_of_getElem? (i := 17) rfl)
theorem ql_258 : (Cond.instanceMethod yX5_digest : Cond) ∈ bwL := bil_lwl4 _ (List.mem_of_getElem? (i := 18) rfl)
theorem ql_259 : (Cond.selects RX5 yX5_digest yX5_digest : Cond) ∈ bwL := bil_lwl4 _ (List.mem_of_getElem? (i := 19) rfl)
theorem bgl_0 : (lwl0).all goodWord = true := by decide +kernel
theorem bgl_1 : (lwl1).all goodWord = true := by decide +kernel
theorem bgl_2 : (lwl2).all goodWord = true := by decide +kernel
theorem bgl_3 : (lwl3).all goodWord = true := by decide +kernel
theorem bgl_4 : (lwl4).all goodWord = true := by decide +kernel
theorem bwLGood : bwL.all goodWord = true := by
  simp only [bwL, List.all_append, Bool.and_eq_true]
  exact ⟨bgl_0, ⟨bgl_1, ⟨bgl_2, ⟨bgl_3, ⟨bgl_4, bwGood⟩⟩⟩⟩⟩
theorem gdVL {own C : String} {idx : Nat} {y : MethodName} {c2 : Cond} (h1 : Cond.methodLink own idx y ∈ bwL) (h2 : Cond.instanceMethod y ∈ bwL) (h3 : Cond.selects C y y ∈ bwL) (h4 : Cond.initialized C ∈ bwL) (h5 : c2 ∈ bwL) : GoodIn bwL (wsV own idx C y (c2 :: bw)) := by
  intro w hw
  have hm : w ∈ bwL := by
    simp only [wsV, List.cons_append, List.nil_append, List.mem_cons] at hw
    rcases hw with rfl | rfl | rfl | rfl | rfl | hw
    · exact h1
    · exact h2
    · exact h3
    · exact h4
    · exact h5
    · exact bwL_of hw
  exact ⟨hm, good_of_word (List.all_eq_true.mp bwLGood w hm)⟩
theorem gdWL {own : String} {idx : Nat} {y : MethodName} {c2 : Cond} (h1 : Cond.methodLink own idx y ∈ bwL) (h2 : Cond.static y ∈ bwL) (h3 : Cond.initialized y.cls ∈ bwL) (h5 : c2 ∈ bwL) : GoodIn bwL (va_wsS own idx y (c2 :: bwL)) := by
  intro w hw
  have hm : w ∈ bwL := by
    simp only [va_wsS, List.cons_append, List.nil_append, List.mem_cons] at hw
    rcases hw with rfl | rfl | rfl | rfl | hw
    · exact h1
    · exact h2
    · exact h3
    · exact h5
    · exact hw
  exact ⟨hm, good_of_word (List.all_eq_true.mp bwLGood w hm)⟩
theorem gdCL {c2 : Cond} (h5 : c2 ∈ bwL) : GoodIn bwL (c2 :: bw) := by
  intro w hw
  have hm : w ∈ bwL := by
    rcases List.mem_cons.mp hw with rfl | hw
    · exact h5
    · exact bwL_of hw
  exact ⟨hm, good_of_word (List.all_eq_true.mp bwLGood w hm)⟩
abbrev OutR : Type := Nat → Int64
abbrev tysL (cI cS cL : ClassId) : List (ClassId × FieldType) := [(cI, .int), (cS, .object RX3), (cL, .long)]
def wO (cI cS cL : ClassId) (sv : Nat) (gx : Nat → Nat) (og : Nat) (u : THS × OutR) : va_W := wHS cI cS sv gx u.1 ++ [(og, .inl (cL, 1, .inr (.inl u.2)))]
def wW (cI cS cL : ClassId) (sv : Nat) (gx gm : Nat → Nat) (og : Nat) (u : THS × TM × OutR) : va_W := wHS cI cS sv gx u.1 ++ (wM cI gm u.2.1 ++ [(og, .inl (cL, 1, .inr (.inl u.2.2)))])
def NC (U : State) : Prop := va_Nc (exN 2) (exN 1) U ∧ va_Nc (exN 2) (exN 3) U ∧ va_Nc (exN 1) (exN 3) U
theorem NC.moved {u U : State} (hvm : u.vm.Alike U.vm) (h : NC u) : NC U := ⟨va_Nc.moved hvm h.1, va_Nc.moved hvm h.2.1, va_Nc.moved hvm h.2.2⟩
def PreL (G : va_G) (tys : List (ClassId × FieldType)) (ws : va_W) (sz B0 : Nat) : State → Prop := fun U => PreX G tys ws sz B0 U ∧ NC U
theorem fbL {G : va_G} {tys : List (ClassId × FieldType)} {ws : va_W} {sz B0 : Nat} {As : List Value} : FrameBlind (va_Pc As (PreL G tys ws sz B0)) := by
  intro a U g mk q
  obtain ⟨q0, qX, qN⟩ := q
  exact ⟨q0, (fbX a U g mk ⟨q0, qX⟩).2, NC.moved (u := U) (U := U.calling g mk a) (Vm.Alike.refl U.vm) qN⟩
theorem psL {s : State} {H : Heap} {G : va_G} {tys : List (ClassId × FieldType)} {wc : va_W} {As : List Value} {A : Nat → Prop} {B0 : Nat} {locs : List Loc} (hK : va_K G vwCl tys s) (hN : NW s) (hC : NC s) (hP : va_P G vwCl wc H) (hD : va_D A wc) (hS : va_S A s.heap H locs) (hAB : ∀ q, A q → B0 ≤ q) (hB : B0 ≤ s.heap.size) (hX : XT B0 s s.heap) : PreS s H (va_Pc As (PreL G tys wc H.size B0)) As :=
  ⟨fbL, fun U hU hW => ⟨rfl, ((psX (As := As) hK hN hP hD hS hAB hB hX).2 U hU hW).2, NC.moved hW.alike hC⟩⟩
section GO7
variable {p : Program} {l : Launch} {e : Env} {R : Room} {s : State} {m : MethodId} {args : Array Value} {below : List Frame} {meth : Method} {c : Code} {H : Heap} {locs : List Loc} {cells slots mc ms : Nat} {Q : State → Prop}
variable {cc : ByteArray} {pc nL : Nat} {ls : Array Slot} {rest : List Value} {G : va_G} {tys : List (ClassId × FieldType)} {ws : va_W} {A : Nat → Prop} {H0 : Heap} {a : Nat} {own : String} {α β : Type} {w : α → va_W} {w1 : β → va_W} {bwx : List Cond}
theorem xcatchI {q : Nat × β} {wc : va_W} {aa : Array Value} {st0 : List Value} (hr : vx_Run p l e R s m args below meth c H locs cells slots mc ms (F0 m pc ls st0) rest (va_Qi (fun r u => (Sum.inl q : (Nat × β) ⊕ (Int32 × β)) = .inr (r, u)) (PoM G tys (va_A wc H.size) w1) (va_A wc H.size) aa) (XCw G (va_A wc H.size) w1 (Sum.inl q : (Nat × β) ⊕ (Int32 × β))) (va_A wc H.size)) (hS : va_S A H0 H locs) (hP : va_P G vwCl ws H) (hD : va_D A ws) (hA : ∀ q, H0.size ≤ q → A q)
    (isC isR : List Nat) (hC : isC.map (fun i => ws[i]?) = wc.map some) (hR : isR.map (fun i => ws[i]?) = (isR.filterMap (fun i => ws[i]?)).map some) (hn : va_nd isR = true) (hdis : ∀ i ∈ isR, i ∉ isC) (perm : List Nat) (hpn : va_nd perm = true) (ws1 : va_W) (hpm : perm.map (fun i => (isR.filterMap (fun i => ws[i]?) ++ w1 q.2)[i]?) = ws1.map some)
    {name E : String} (hE : exN q.1 = E) (hown : s.vm.findClass own = some m.cls) (pre : List ExceptionTableEntry) (x : ExceptionTableEntry) (suf : List ExceptionTableEntry) (hsplit : c.exceptionTable.toList = pre ++ x :: suf)
    (hpass : ∀ z ∈ pre, covers z pc = false ∨ (z.catchType ≠ 0 ∧ ∃ nm : String, (Cond.classLink own z.catchType nm).before args s = true ∧ va_Nc E nm s)) (hx : covers x pc = true) (h0 : x.catchType ≠ 0)
    (hlink : (Cond.classLink own x.catchType name).before args s = true) (hcast : (Cond.castable E name).before args s = true)
    (kk : ∀ (q9 : Nat) (H1 : Heap) (locs1 : List Loc), va_P G vwCl ws1 H1 → va_D A ws1 → va_S A H0 H1 locs1 → W p l e R s m args below meth c H1 locs1 (cells + mc) (slots + ms) Q (F0 m x.handlerPc ls [.ref q9])) : W p l e R s m args below meth c H locs cells slots Q (F0 m pc ls st0) := by
  have hF := va_free (wc := wc) hD hS hA isC hC
  refine vx_calli hr hS (fun q _ h => hF q h) hF (fun q _ h => hF q h) ?_ ?_
  · intro E9 ce q9 u t H1 locs1 ht hvm hw hB hz hk hS1 h9 hv9 hc9
    cases hw
    obtain ⟨rfl, hP1, hD1⟩ := hB
    rw [ht] at hP1
    obtain ⟨hP2, hD2⟩ := va_join hP hD isC isR hC hR hn hdis hk hF hP1 hD1
    subst hE
    exact vx_catch hown pre x suf hsplit hpass hx h0 hlink hcast h9 hv9 hc9 (kk q9 H1 locs1 (hP2.sub perm (fm_of hpm)) (hD2.sub perm hpn hpm) hS1)
  · intro r u t H1 locs1 ht hvm hw
    cases hw
theorem retMk {v : Int32} {u : α} {z : Int32 × α} (hQ : Q = MQ below (va_Qi (fun r u' => (r, u') = z) (PoM G tys A w) A) args s mc ms A) (S : CallFix p m c cc nL s args bwx own) (hr : meth.sig.returnType = some .int) (hlocks : meth.locks = false) (hK : va_K G vwCl tys s) (hN : NW s) (hP : va_P G vwCl (w u) H) (hD : va_D A (w u)) (hS : va_S A s.heap H locs) (h : some (v, u) = some z) (hc : cells ≤ mc) (hs : slots ≤ ms) (hdg : decode cc pc = .ok (.ireturn, 1)) : W p l e R s m args below meth c H locs cells slots Q (F0 m pc ls [.int v]) := by
  rw [hQ]
  refine W.widen hc hs ?_
  exact W.iret S.1 S.2.1 hr (fun t ht hW => ⟨⟨v, u, rfl, Option.some.inj h, by rw [ht]; exact hP, va_K.moved hW.alike hK, NW.moved hW hN, hD⟩, hS.F ht⟩) hS.2.2 hdg hlocks
end GO7
theorem enterW {l : Launch} {y : MethodName} {cc : ByteArray} {maxL mc ms : Nat} {ret : Option FieldType} {hh : List (Nat × Nat × Nat × Nat)} {rm : Room} {G : va_G} {tys : List (ClassId × FieldType)} {ws : va_W} {As : List Value} {sz B0 : Nat} {own : String} {Qc : Array Value → State → Outcome → State → Prop} (hy : plainName y.cls = true) (hown : y.cls = own) (hlen : (lg_sl As).length ≤ maxL)
    (body : ∀ (p : Program) (e : Env) (s : State) (m : MethodId) (args : Array Value) (below : List Frame) (meth : Method) (c : Code) (A : Nat → Prop) (Q : State → Prop), va_A ws sz = A → Q = MQ below Qc args s mc ms A → CallFix p m c cc maxL s args bwL own → meth.sig.returnType = ret → meth.locks = false → c.exceptionTable.toList = tableOf hh → va_P G vwCl ws s.heap → va_K G vwCl tys s → NW s → NC s → va_D A ws → (∀ q, s.heap.size ≤ q → A q) → va_S A s.heap s.heap [] → XT B0 s s.heap → (∀ q, A q → B0 ≤ q) → B0 ≤ s.heap.size → ∀ ls : Array Slot, lv_has ls maxL (lv_args 0 As) → W p l e rm s m args below meth c s.heap [] 0 0 Q (F0 m 0 ls [])) :
    Met l y (.codeWith y cc maxL ret hh :: bwL) rm (va_Pc As (PreL G tys ws sz B0)) Qc mc ms (va_A ws sz) := by
  refine va_MetW (cc := cc) (maxL := maxL) (ret := ret) (hh := hh) hy rfl ?_
  intro p e s m args below meth c s₁ B hml hv
  obtain ⟨rfl, ⟨hsz, hP, hK, hN, hD0, hB, hX⟩, hC⟩ := hv
  have hts := atoms_spec (ws := .codeWith y cc maxL ret hh :: bwL) B.pre
  have htab := vx_table (x := y) B (hts _ List.mem_cons_self)
  have hfc : s.vm.findClass own = some m.cls := by rw [← hown]; exact findClass_of_methodNamed B.named
  have hl := lv_entry As hlen
  subst hsz
  rw [lg_entry_eq]
  refine body p e s m _ below meth c _ _ rfl rfl ⟨B.exec, B.bytes, hml, hfc, fun w hw => hts w (List.mem_cons_of_mem _ hw)⟩ B.returns B.notSynchronized htab hP hK hN hC ((va_D.weaken (B := fun _ => True) hD0 (fun _ _ _ _ => trivial)).self (sz := s.heap.size)) (fun q h => Or.inr h) va_S.rf hX ?_ hB _ hl
  intro q hq
  rcases hq with ⟨k, e2, hk⟩ | h
  · exact hD0.2 k _ hk
  · exact Nat.le_trans hB h
