theorem pg_p1 {q : MethodName × Nat} (n : Nat) (h : lw_privs_1[n]? = some q) : q ∈ lw_privs := List.mem_append_left _ (List.mem_of_getElem? (i := n) h)
theorem pg_p2 {q : MethodName × Nat} (n : Nat) (h : lw_privs_2[n]? = some q) : q ∈ lw_privs := List.mem_append_right _ (List.mem_append_left _ (List.mem_of_getElem? (i := n) h))
theorem pg_p3 {q : MethodName × Nat} (n : Nat) (h : lw_privs_3[n]? = some q) : q ∈ lw_privs := List.mem_append_right _ (List.mem_append_right _ (List.mem_append_left _ (List.mem_of_getElem? (i := n) h)))
theorem pg_p4 {q : MethodName × Nat} (n : Nat) (h : lw_privs_4[n]? = some q) : q ∈ lw_privs := List.mem_append_right _ (List.mem_append_right _ (List.mem_append_right _ (List.mem_append_left _ (List.mem_of_getElem? (i := n) h))))
theorem pg_p5 {q : MethodName × Nat} (n : Nat) (h : lw_privs_5[n]? = some q) : q ∈ lw_privs := List.mem_append_right _ (List.mem_append_right _ (List.mem_append_right _ (List.mem_append_right _ (List.mem_append_left _ (List.mem_of_getElem? (i := n) h)))))
theorem pg_p6 {q : MethodName × Nat} (n : Nat) (h : lw_privs_6[n]? = some q) : q ∈ lw_privs := List.mem_append_right _ (List.mem_append_right _ (List.mem_append_right _ (List.mem_append_right _ (List.mem_append_right _ (List.mem_append_left _ (List.mem_of_getElem? (i := n) h))))))
theorem pg_p7 {q : MethodName × Nat} (n : Nat) (h : lw_privs_7[n]? = some q) : q ∈ lw_privs := List.mem_append_right _ (List.mem_append_right _ (List.mem_append_right _ (List.mem_append_right _ (List.mem_append_right _ (List.mem_append_right _ (List.mem_append_left _ (List.mem_of_getElem? (i := n) h)))))))
theorem pg_p8 {q : MethodName × Nat} (n : Nat) (h : lw_privs_8[n]? = some q) : q ∈ lw_privs := List.mem_append_right _ (List.mem_append_right _ (List.mem_append_right _ (List.mem_append_right _ (List.mem_append_right _ (List.mem_append_right _ (List.mem_append_right _ (List.mem_of_getElem? (i := n) h)))))))
theorem okX0_millionths : pg_okV YX0_millionths := ⟨pg_g (pg_t5 55 rfl) rfl, pg_g (pg_t5 56 rfl) rfl, pg_g (pg_t1 7 rfl) rfl, pg_g (pg_t5 57 rfl) rfl, by decide, by decide, by decide⟩
theorem okX0_goOn : pg_okV YX0_goOn := ⟨pg_g (pg_t5 62 rfl) rfl, pg_g (pg_sel (q := (yX0_goOn, 2)) (pg_p3 3 rfl)) rfl, pg_g (pg_t1 7 rfl) rfl, pg_g (pg_t5 63 rfl) rfl, by decide, by decide, by decide⟩
theorem okX1_clear : pg_okV YX1_clear := ⟨pg_g (pg_t3 209 rfl) rfl, pg_g (pg_t3 210 rfl) rfl, pg_g (pg_t1 12 rfl) rfl, pg_g (pg_t3 211 rfl) rfl, by decide, by decide, by decide⟩
theorem okX1_add : pg_okV YX1_add := ⟨pg_g (pg_t3 239 rfl) rfl, pg_g (pg_t4 0 rfl) rfl, pg_g (pg_t1 12 rfl) rfl, pg_g (pg_t4 1 rfl) rfl, by decide, by decide, by decide⟩
theorem okX1_judge : pg_okV YX1_judge := ⟨pg_g (pg_t4 187 rfl) rfl, pg_g (pg_t4 188 rfl) rfl, pg_g (pg_t1 12 rfl) rfl, pg_g (pg_t4 189 rfl) rfl, by decide, by decide, by decide⟩
theorem okX1_canDo : pg_okV YX1_canDo := ⟨pg_g (pg_t4 194 rfl) rfl, pg_g (pg_sel (q := (yX1_canDo, 6)) (pg_p2 10 rfl)) rfl, pg_g (pg_t1 12 rfl) rfl, pg_g (pg_t4 195 rfl) rfl, by decide, by decide, by decide⟩
theorem okX2_clear : pg_okV YX2_clear := ⟨pg_g (pg_t3 213 rfl) rfl, pg_g (pg_t3 214 rfl) rfl, pg_g (pg_t1 4 rfl) rfl, pg_g (pg_t3 215 rfl) rfl, by decide, by decide, by decide⟩
theorem okX2_copyFrom : pg_okV YX2_copyFrom := ⟨pg_g (pg_t5 183 rfl) rfl, pg_g (pg_t5 184 rfl) rfl, pg_g (pg_t1 4 rfl) rfl, pg_g (pg_t5 185 rfl) rfl, by decide, by decide, by decide⟩
theorem okX2_add : pg_okV YX2_add := ⟨pg_g (pg_t5 107 rfl) rfl, pg_g (pg_t5 108 rfl) rfl, pg_g (pg_t1 4 rfl) rfl, pg_g (pg_t5 109 rfl) rfl, by decide, by decide, by decide⟩
theorem okX2_startBits : pg_okV YX2_startBits := ⟨pg_g (pg_t5 115 rfl) rfl, pg_g (pg_t5 116 rfl) rfl, pg_g (pg_t1 4 rfl) rfl, pg_g (pg_t5 117 rfl) rfl, by decide, by decide, by decide⟩
theorem okX2_allSo : pg_okV YX2_allSo := ⟨pg_g (pg_t5 120 rfl) rfl, pg_g (pg_sel (q := (yX2_allSo, 6)) (pg_p3 8 rfl)) rfl, pg_g (pg_t1 4 rfl) rfl, pg_g (pg_t5 121 rfl) rfl, by decide, by decide, by decide⟩
theorem okX2_bestHours : pg_okV YX2_bestHours := ⟨pg_g (pg_t5 129 rfl) rfl, pg_g (pg_t5 130 rfl) rfl, pg_g (pg_t1 4 rfl) rfl, pg_g (pg_t5 131 rfl) rfl, by decide, by decide, by decide⟩
theorem okX2_mostAlike : pg_okV YX2_mostAlike := ⟨pg_g (pg_t5 137 rfl) rfl, pg_g (pg_sel (q := (yX2_mostAlike, 6)) (pg_p3 9 rfl)) rfl, pg_g (pg_t1 4 rfl) rfl, pg_g (pg_t5 138 rfl) rfl, by decide, by decide, by decide⟩
theorem okX3_plan : pg_okV YX3_plan := ⟨pg_g (pg_t4 237 rfl) rfl, pg_g (pg_t4 238 rfl) rfl, pg_g (pg_t1 6 rfl) rfl, pg_g (pg_t4 239 rfl) rfl, by decide, by decide, by decide⟩
theorem okX3_chooseFor : pg_okV YX3_chooseFor := ⟨pg_g (pg_t5 2 rfl) rfl, pg_g (pg_sel (q := (yX3_chooseFor, 10)) (pg_p2 11 rfl)) rfl, pg_g (pg_t1 6 rfl) rfl, pg_g (pg_t5 3 rfl) rfl, by decide, by decide, by decide⟩
theorem okX3_mostPull : pg_okS YX3_mostPull := ⟨pg_g (pg_t5 7 rfl) rfl, pg_g (pg_t1 6 rfl) rfl, pg_g (pg_t5 8 rfl) rfl, by decide, by decide, by decide⟩
theorem okX3_holdSet : pg_okV YX3_holdSet := ⟨pg_g (pg_t5 20 rfl) rfl, pg_g (pg_sel (q := (yX3_holdSet, 10)) (pg_p2 12 rfl)) rfl, pg_g (pg_t1 6 rfl) rfl, pg_g (pg_t5 21 rfl) rfl, by decide, by decide, by decide⟩
theorem okX3_holdMore : pg_okV YX3_holdMore := ⟨pg_g (pg_t5 32 rfl) rfl, pg_g (pg_sel (q := (yX3_holdMore, 10)) (pg_p2 14 rfl)) rfl, pg_g (pg_t1 6 rfl) rfl, pg_g (pg_t5 33 rfl) rfl, by decide, by decide, by decide⟩
theorem okX3_holdsBy : pg_okV YX3_holdsBy := ⟨pg_g (pg_t5 28 rfl) rfl, pg_g (pg_sel (q := (yX3_holdsBy, 10)) (pg_p2 13 rfl)) rfl, pg_g (pg_t1 6 rfl) rfl, pg_g (pg_t5 29 rfl) rfl, by decide, by decide, by decide⟩
theorem okX3_layRow : pg_okV YX3_layRow := ⟨pg_g (pg_t5 36 rfl) rfl, pg_g (pg_sel (q := (yX3_layRow, 10)) (pg_p2 15 rfl)) rfl, pg_g (pg_t1 6 rfl) rfl, pg_g (pg_t5 37 rfl) rfl, by decide, by decide, by decide⟩
theorem okX3_firstChoice : pg_okV YX3_firstChoice := ⟨pg_g (pg_t5 40 rfl) rfl, pg_g (pg_sel (q := (yX3_firstChoice, 10)) (pg_p3 0 rfl)) rfl, pg_g (pg_t1 6 rfl) rfl, pg_g (pg_t5 41 rfl) rfl, by decide, by decide, by decide⟩
theorem okX3_canEnd : pg_okV YX3_canEnd := ⟨pg_g (pg_t5 44 rfl) rfl, pg_g (pg_sel (q := (yX3_canEnd, 10)) (pg_p3 1 rfl)) rfl, pg_g (pg_t1 6 rfl) rfl, pg_g (pg_t5 45 rfl) rfl, by decide, by decide, by decide⟩
theorem okX3_holdsWithout : pg_okV YX3_holdsWithout := ⟨pg_g (pg_t5 48 rfl) rfl, pg_g (pg_sel (q := (yX3_holdsWithout, 10)) (pg_p3 2 rfl)) rfl, pg_g (pg_t1 6 rfl) rfl, pg_g (pg_t5 49 rfl) rfl, by decide, by decide, by decide⟩
theorem okX4_plan : pg_okV YX4_plan := ⟨pg_g (pg_t5 75 rfl) rfl, pg_g (pg_t5 76 rfl) rfl, pg_g (pg_t1 8 rfl) rfl, pg_g (pg_t5 77 rfl) rfl, by decide, by decide, by decide⟩
theorem okX4_dryAt : pg_okS YX4_dryAt := ⟨pg_g (pg_t5 79 rfl) rfl, pg_g (pg_t1 8 rfl) rfl, pg_g (pg_t5 80 rfl) rfl, by decide, by decide, by decide⟩
theorem okX4_soonestOf : pg_okV YX4_soonestOf := ⟨pg_g (pg_t5 85 rfl) rfl, pg_g (pg_sel (q := (yX4_soonestOf, 6)) (pg_p3 4 rfl)) rfl, pg_g (pg_t1 8 rfl) rfl, pg_g (pg_t5 86 rfl) rfl, by decide, by decide, by decide⟩
theorem okX4_dryIfNext : pg_okV YX4_dryIfNext := ⟨pg_g (pg_t5 89 rfl) rfl, pg_g (pg_sel (q := (yX4_dryIfNext, 6)) (pg_p3 5 rfl)) rfl, pg_g (pg_t1 8 rfl) rfl, pg_g (pg_t5 90 rfl) rfl, by decide, by decide, by decide⟩
theorem okX4_layOrder : pg_okV YX4_layOrder := ⟨pg_g (pg_t5 96 rfl) rfl, pg_g (pg_sel (q := (yX4_layOrder, 6)) (pg_p3 6 rfl)) rfl, pg_g (pg_t1 8 rfl) rfl, pg_g (pg_t5 97 rfl) rfl, by decide, by decide, by decide⟩
theorem okX4_firstInTime : pg_okV YX4_firstInTime := ⟨pg_g (pg_t5 100 rfl) rfl, pg_g (pg_sel (q := (yX4_firstInTime, 6)) (pg_p3 7 rfl)) rfl, pg_g (pg_t1 8 rfl) rfl, pg_g (pg_t5 101 rfl) rfl, by decide, by decide, by decide⟩
theorem okX5_clear : pg_okV YX5_clear := ⟨pg_g (pg_t2 38 rfl) rfl, pg_g (pg_t2 39 rfl) rfl, pg_g (pg_t1 9 rfl) rfl, pg_g (pg_t2 40 rfl) rfl, by decide, by decide, by decide⟩
theorem okX5_has : pg_okV YX5_has := ⟨pg_g (pg_t4 7 rfl) rfl, pg_g (pg_t4 8 rfl) rfl, pg_g (pg_t1 9 rfl) rfl, pg_g (pg_t4 9 rfl) rfl, by decide, by decide, by decide⟩
theorem okX5_clothNamed : pg_okV YX5_clothNamed := ⟨pg_g (pg_t3 129 rfl) rfl, pg_g (pg_t3 130 rfl) rfl, pg_g (pg_t1 9 rfl) rfl, pg_g (pg_t3 131 rfl) rfl, by decide, by decide, by decide⟩
theorem okX5_clashTold : pg_okV YX5_clashTold := ⟨pg_g (pg_t3 157 rfl) rfl, pg_g (pg_t3 158 rfl) rfl, pg_g (pg_t1 9 rfl) rfl, pg_g (pg_t3 159 rfl) rfl, by decide, by decide, by decide⟩
theorem okX5_addClash : pg_okV YX5_addClash := ⟨pg_g (pg_t3 163 rfl) rfl, pg_g (pg_t3 164 rfl) rfl, pg_g (pg_t1 9 rfl) rfl, pg_g (pg_t3 165 rfl) rfl, by decide, by decide, by decide⟩
theorem okX5_clashesAmong : pg_okV YX5_clashesAmong := ⟨pg_g (pg_t4 223 rfl) rfl, pg_g (pg_t4 224 rfl) rfl, pg_g (pg_t1 9 rfl) rfl, pg_g (pg_t4 225 rfl) rfl, by decide, by decide, by decide⟩
theorem okX5_worthOf : pg_okV YX5_worthOf := ⟨pg_g (pg_t4 206 rfl) rfl, pg_g (pg_t4 207 rfl) rfl, pg_g (pg_t1 9 rfl) rfl, pg_g (pg_t4 208 rfl) rfl, by decide, by decide, by decide⟩
theorem okX5_pegsFor : pg_okV YX5_pegsFor := ⟨pg_g (pg_t4 21 rfl) rfl, pg_g (pg_t4 22 rfl) rfl, pg_g (pg_t1 9 rfl) rfl, pg_g (pg_t4 23 rfl) rfl, by decide, by decide, by decide⟩
theorem okX5_windAt : pg_okV YX5_windAt := ⟨pg_g (pg_t4 36 rfl) rfl, pg_g (pg_t4 37 rfl) rfl, pg_g (pg_t1 9 rfl) rfl, pg_g (pg_t4 38 rfl) rfl, by decide, by decide, by decide⟩
theorem okX5_pullOn : pg_okV YX5_pullOn := ⟨pg_g (pg_t4 43 rfl) rfl, pg_g (pg_t4 44 rfl) rfl, pg_g (pg_t1 9 rfl) rfl, pg_g (pg_t4 45 rfl) rfl, by decide, by decide, by decide⟩
theorem okX5_wetAfter : pg_okV YX5_wetAfter := ⟨pg_g (pg_t4 171 rfl) rfl, pg_g (pg_t4 172 rfl) rfl, pg_g (pg_t1 9 rfl) rfl, pg_g (pg_t4 173 rfl) rfl, by decide, by decide, by decide⟩
theorem okX5_massOf : pg_okV YX5_massOf := ⟨pg_g (pg_t4 48 rfl) rfl, pg_g (pg_sel (q := (yX5_massOf, 16)) (pg_p2 7 rfl)) rfl, pg_g (pg_t1 9 rfl) rfl, pg_g (pg_t4 49 rfl) rfl, by decide, by decide, by decide⟩
theorem okX6_clear : pg_okV YX6_clear := ⟨pg_g (pg_t3 217 rfl) rfl, pg_g (pg_t3 218 rfl) rfl, pg_g (pg_t1 5 rfl) rfl, pg_g (pg_t3 219 rfl) rfl, by decide, by decide, by decide⟩
theorem okX6_draft : pg_okV YX6_draft := ⟨pg_g (pg_t4 94 rfl) rfl, pg_g (pg_t4 95 rfl) rfl, pg_g (pg_t1 5 rfl) rfl, pg_g (pg_t4 96 rfl) rfl, by decide, by decide, by decide⟩
theorem okX6_keepDraft : pg_okV YX6_keepDraft := ⟨pg_g (pg_t4 113 rfl) rfl, pg_g (pg_t4 114 rfl) rfl, pg_g (pg_t1 5 rfl) rfl, pg_g (pg_t4 115 rfl) rfl, by decide, by decide, by decide⟩
theorem okX6_stepBack : pg_okV YX6_stepBack := ⟨pg_g (pg_t4 179 rfl) rfl, pg_g (pg_t4 180 rfl) rfl, pg_g (pg_t1 5 rfl) rfl, pg_g (pg_t4 181 rfl) rfl, by decide, by decide, by decide⟩
theorem okX6_lay : pg_okV YX6_lay := ⟨pg_g (pg_t5 188 rfl) rfl, pg_g (pg_t5 189 rfl) rfl, pg_g (pg_t1 5 rfl) rfl, pg_g (pg_t5 190 rfl) rfl, by decide, by decide, by decide⟩
theorem okX6_goBack : pg_okV YX6_goBack := ⟨pg_g (pg_t5 179 rfl) rfl, pg_g (pg_t5 180 rfl) rfl, pg_g (pg_t1 5 rfl) rfl, pg_g (pg_t5 181 rfl) rfl, by decide, by decide, by decide⟩
theorem okX7_addSigns : pg_okV YX7_addSigns := ⟨pg_g (pg_t2 206 rfl) rfl, pg_g (pg_t2 207 rfl) rfl, pg_g (pg_t1 2 rfl) rfl, pg_g (pg_t2 208 rfl) rfl, by decide, by decide, by decide⟩
theorem okX7_readLine : pg_okV YX7_readLine := ⟨pg_g (pg_t2 215 rfl) rfl, pg_g (pg_t2 216 rfl) rfl, pg_g (pg_t1 2 rfl) rfl, pg_g (pg_t2 217 rfl) rfl, by decide, by decide, by decide⟩
theorem okX7_readDay : pg_okV YX7_readDay := ⟨pg_g (pg_t3 226 rfl) rfl, pg_g (pg_t3 227 rfl) rfl, pg_g (pg_t1 2 rfl) rfl, pg_g (pg_t3 228 rfl) rfl, by decide, by decide, by decide⟩
theorem okX7_begin : pg_okV YX7_begin := ⟨pg_g (pg_t2 221 rfl) rfl, pg_g (pg_sel (q := (yX7_begin, 10)) (pg_p1 0 rfl)) rfl, pg_g (pg_t1 2 rfl) rfl, pg_g (pg_t2 222 rfl) rfl, by decide, by decide, by decide⟩
theorem okX7_readTold : pg_okV YX7_readTold := ⟨pg_g (pg_t3 114 rfl) rfl, pg_g (pg_sel (q := (yX7_readTold, 10)) (pg_p1 3 rfl)) rfl, pg_g (pg_t1 2 rfl) rfl, pg_g (pg_t3 115 rfl) rfl, by decide, by decide, by decide⟩
theorem okX7_readCloth : pg_okV YX7_readCloth := ⟨pg_g (pg_t3 118 rfl) rfl, pg_g (pg_sel (q := (yX7_readCloth, 10)) (pg_p1 4 rfl)) rfl, pg_g (pg_t1 2 rfl) rfl, pg_g (pg_t3 119 rfl) rfl, by decide, by decide, by decide⟩
theorem okX7_readMeasure : pg_okV YX7_readMeasure := ⟨pg_g (pg_t3 134 rfl) rfl, pg_g (pg_sel (q := (yX7_readMeasure, 10)) (pg_p1 7 rfl)) rfl, pg_g (pg_t1 2 rfl) rfl, pg_g (pg_t3 135 rfl) rfl, by decide, by decide, by decide⟩
theorem okX7_readClash : pg_okV YX7_readClash := ⟨pg_g (pg_t3 146 rfl) rfl, pg_g (pg_sel (q := (yX7_readClash, 10)) (pg_p1 10 rfl)) rfl, pg_g (pg_t1 2 rfl) rfl, pg_g (pg_t3 147 rfl) rfl, by decide, by decide, by decide⟩
theorem okX7_readOnce : pg_okV YX7_readOnce := ⟨pg_g (pg_t3 168 rfl) rfl, pg_g (pg_sel (q := (yX7_readOnce, 10)) (pg_p1 13 rfl)) rfl, pg_g (pg_t1 2 rfl) rfl, pg_g (pg_t3 169 rfl) rfl, by decide, by decide, by decide⟩
theorem okX7_readRow : pg_okV YX7_readRow := ⟨pg_g (pg_t3 172 rfl) rfl, pg_g (pg_sel (q := (yX7_readRow, 10)) (pg_p1 14 rfl)) rfl, pg_g (pg_t1 2 rfl) rfl, pg_g (pg_t3 173 rfl) rfl, by decide, by decide, by decide⟩
theorem okX7_readDone : pg_okV YX7_readDone := ⟨pg_g (pg_t3 232 rfl) rfl, pg_g (pg_sel (q := (yX7_readDone, 10)) (pg_p2 5 rfl)) rfl, pg_g (pg_t1 2 rfl) rfl, pg_g (pg_t3 233 rfl) rfl, by decide, by decide, by decide⟩
theorem okX7_readPegs : pg_okV YX7_readPegs := ⟨pg_g (pg_t3 236 rfl) rfl, pg_g (pg_sel (q := (yX7_readPegs, 10)) (pg_p2 6 rfl)) rfl, pg_g (pg_t1 2 rfl) rfl, pg_g (pg_t3 237 rfl) rfl, by decide, by decide, by decide⟩
theorem okX7_readTests : pg_okV YX7_readTests := ⟨pg_g (pg_t3 177 rfl) rfl, pg_g (pg_sel (q := (yX7_readTests, 10)) (pg_p1 15 rfl)) rfl, pg_g (pg_t1 2 rfl) rfl, pg_g (pg_t3 178 rfl) rfl, by decide, by decide, by decide⟩
theorem okX7_readTest : pg_okV YX7_readTest := ⟨pg_g (pg_t3 181 rfl) rfl, pg_g (pg_sel (q := (yX7_readTest, 10)) (pg_p2 0 rfl)) rfl, pg_g (pg_t1 2 rfl) rfl, pg_g (pg_t3 182 rfl) rfl, by decide, by decide, by decide⟩
theorem okX7_readSum : pg_okV YX7_readSum := ⟨pg_g (pg_t3 185 rfl) rfl, pg_g (pg_sel (q := (yX7_readSum, 10)) (pg_p2 1 rfl)) rfl, pg_g (pg_t1 2 rfl) rfl, pg_g (pg_t3 186 rfl) rfl, by decide, by decide, by decide⟩
theorem okX7_readProduct : pg_okV YX7_readProduct := ⟨pg_g (pg_t3 189 rfl) rfl, pg_g (pg_sel (q := (yX7_readProduct, 10)) (pg_p2 2 rfl)) rfl, pg_g (pg_t1 2 rfl) rfl, pg_g (pg_t3 190 rfl) rfl, by decide, by decide, by decide⟩
theorem okX7_readPart : pg_okV YX7_readPart := ⟨pg_g (pg_t3 193 rfl) rfl, pg_g (pg_sel (q := (yX7_readPart, 10)) (pg_p2 3 rfl)) rfl, pg_g (pg_t1 2 rfl) rfl, pg_g (pg_t3 194 rfl) rfl, by decide, by decide, by decide⟩
theorem okX7_readNumber : pg_okV YX7_readNumber := ⟨pg_g (pg_t3 138 rfl) rfl, pg_g (pg_sel (q := (yX7_readNumber, 10)) (pg_p1 8 rfl)) rfl, pg_g (pg_t1 2 rfl) rfl, pg_g (pg_t3 139 rfl) rfl, by decide, by decide, by decide⟩
theorem okX7_numberHere : pg_okV YX7_numberHere := ⟨pg_g (pg_t3 142 rfl) rfl, pg_g (pg_sel (q := (yX7_numberHere, 10)) (pg_p1 9 rfl)) rfl, pg_g (pg_t1 2 rfl) rfl, pg_g (pg_t3 143 rfl) rfl, by decide, by decide, by decide⟩
theorem okX7_readNamed : pg_okV YX7_readNamed := ⟨pg_g (pg_t3 150 rfl) rfl, pg_g (pg_sel (q := (yX7_readNamed, 10)) (pg_p1 11 rfl)) rfl, pg_g (pg_t1 2 rfl) rfl, pg_g (pg_t3 151 rfl) rfl, by decide, by decide, by decide⟩
theorem okX7_namedHere : pg_okV YX7_namedHere := ⟨pg_g (pg_t3 154 rfl) rfl, pg_g (pg_sel (q := (yX7_namedHere, 10)) (pg_p1 12 rfl)) rfl, pg_g (pg_t1 2 rfl) rfl, pg_g (pg_t3 155 rfl) rfl, by decide, by decide, by decide⟩
theorem okX7_isName : pg_okV YX7_isName := ⟨pg_g (pg_t3 126 rfl) rfl, pg_g (pg_sel (q := (yX7_isName, 10)) (pg_p1 6 rfl)) rfl, pg_g (pg_t1 2 rfl) rfl, pg_g (pg_t3 127 rfl) rfl, by decide, by decide, by decide⟩
theorem okX7_expectSign : pg_okV YX7_expectSign := ⟨pg_g (pg_t3 197 rfl) rfl, pg_g (pg_sel (q := (yX7_expectSign, 10)) (pg_p2 4 rfl)) rfl, pg_g (pg_t1 2 rfl) rfl, pg_g (pg_t3 198 rfl) rfl, by decide, by decide, by decide⟩
theorem okX7_fail : pg_okV YX7_fail := ⟨pg_g (pg_t3 122 rfl) rfl, pg_g (pg_sel (q := (yX7_fail, 10)) (pg_p1 5 rfl)) rfl, pg_g (pg_t1 2 rfl) rfl, pg_g (pg_t3 123 rfl) rfl, by decide, by decide, by decide⟩
theorem okX7_next : pg_okV YX7_next := ⟨pg_g (pg_t2 225 rfl) rfl, pg_g (pg_sel (q := (yX7_next, 10)) (pg_p1 1 rfl)) rfl, pg_g (pg_t1 2 rfl) rfl, pg_g (pg_t2 226 rfl) rfl, by decide, by decide, by decide⟩
theorem okX7_sortOf : pg_okV YX7_sortOf := ⟨pg_g (pg_t3 54 rfl) rfl, pg_g (pg_sel (q := (yX7_sortOf, 10)) (pg_p1 2 rfl)) rfl, pg_g (pg_t1 2 rfl) rfl, pg_g (pg_t3 55 rfl) rfl, by decide, by decide, by decide⟩
theorem okX7_knownWord : pg_okS YX7_knownWord := ⟨pg_g (pg_t3 1 rfl) rfl, pg_g (pg_t1 2 rfl) rfl, pg_g (pg_t3 2 rfl) rfl, by decide, by decide, by decide⟩
theorem okX7_isLetter : pg_okS YX7_isLetter := ⟨pg_g (pg_t2 228 rfl) rfl, pg_g (pg_t1 2 rfl) rfl, pg_g (pg_t2 229 rfl) rfl, by decide, by decide, by decide⟩
theorem okX7_isDigit : pg_okS YX7_isDigit := ⟨pg_g (pg_t2 232 rfl) rfl, pg_g (pg_t1 2 rfl) rfl, pg_g (pg_t2 233 rfl) rfl, by decide, by decide, by decide⟩
theorem okX8_clear : pg_okV YX8_clear := ⟨pg_g (pg_t2 45 rfl) rfl, pg_g (pg_t2 46 rfl) rfl, pg_g (pg_t1 10 rfl) rfl, pg_g (pg_t2 47 rfl) rfl, by decide, by decide, by decide⟩
theorem okX8_add : pg_okV YX8_add := ⟨pg_g (pg_t2 49 rfl) rfl, pg_g (pg_t2 50 rfl) rfl, pg_g (pg_t1 10 rfl) rfl, pg_g (pg_t2 51 rfl) rfl, by decide, by decide, by decide⟩
theorem okX8_value : pg_okV YX8_value := ⟨pg_g (pg_t4 51 rfl) rfl, pg_g (pg_t4 52 rfl) rfl, pg_g (pg_t1 10 rfl) rfl, pg_g (pg_t4 53 rfl) rfl, by decide, by decide, by decide⟩
theorem okX8_fact : pg_okS YX8_fact := ⟨pg_g (pg_t4 55 rfl) rfl, pg_g (pg_t1 10 rfl) rfl, pg_g (pg_t4 56 rfl) rfl, by decide, by decide, by decide⟩
theorem okX8_joined : pg_okS YX8_joined := ⟨pg_g (pg_t4 58 rfl) rfl, pg_g (pg_t1 10 rfl) rfl, pg_g (pg_t4 59 rfl) rfl, by decide, by decide, by decide⟩
theorem okX9_begin : pg_okV YX9_begin := ⟨pg_g (pg_t3 201 rfl) rfl, pg_g (pg_t3 202 rfl) rfl, pg_g (pg_t1 3 rfl) rfl, pg_g (pg_t3 203 rfl) rfl, by decide, by decide, by decide⟩
theorem okX9_copyFrom : pg_okV YX9_copyFrom := ⟨pg_g (pg_t4 98 rfl) rfl, pg_g (pg_t4 99 rfl) rfl, pg_g (pg_t1 3 rfl) rfl, pg_g (pg_t4 100 rfl) rfl, by decide, by decide, by decide⟩
theorem okX9_isLaw : pg_okV YX9_isLaw := ⟨pg_g (pg_t4 11 rfl) rfl, pg_g (pg_t4 12 rfl) rfl, pg_g (pg_t1 3 rfl) rfl, pg_g (pg_t4 13 rfl) rfl, by decide, by decide, by decide⟩
theorem okX9_isTurned : pg_okV YX9_isTurned := ⟨pg_g (pg_t4 25 rfl) rfl, pg_g (pg_t4 26 rfl) rfl, pg_g (pg_t1 3 rfl) rfl, pg_g (pg_t4 27 rfl) rfl, by decide, by decide, by decide⟩
theorem okX9_lawBits : pg_okV YX9_lawBits := ⟨pg_g (pg_t4 85 rfl) rfl, pg_g (pg_t4 86 rfl) rfl, pg_g (pg_t1 3 rfl) rfl, pg_g (pg_t4 87 rfl) rfl, by decide, by decide, by decide⟩
theorem okX9_turnedBits : pg_okV YX9_turnedBits := ⟨pg_g (pg_t5 196 rfl) rfl, pg_g (pg_t5 197 rfl) rfl, pg_g (pg_t1 3 rfl) rfl, pg_g (pg_t5 198 rfl) rfl, by decide, by decide, by decide⟩
theorem okX9_worthOfLaws : pg_okV YX9_worthOfLaws := ⟨pg_g (pg_t4 201 rfl) rfl, pg_g (pg_t4 202 rfl) rfl, pg_g (pg_t1 3 rfl) rfl, pg_g (pg_t4 203 rfl) rfl, by decide, by decide, by decide⟩
theorem okX9_roomOf : pg_okV YX9_roomOf := ⟨pg_g (pg_t4 29 rfl) rfl, pg_g (pg_t4 30 rfl) rfl, pg_g (pg_t1 3 rfl) rfl, pg_g (pg_t4 31 rfl) rfl, by decide, by decide, by decide⟩
theorem okX9_roomLeft : pg_okV YX9_roomLeft := ⟨pg_g (pg_t4 108 rfl) rfl, pg_g (pg_t4 109 rfl) rfl, pg_g (pg_t1 3 rfl) rfl, pg_g (pg_t4 110 rfl) rfl, by decide, by decide, by decide⟩
theorem okX9_heldBy : pg_okV YX9_heldBy := ⟨pg_g (pg_t4 65 rfl) rfl, pg_g (pg_t4 66 rfl) rfl, pg_g (pg_t1 3 rfl) rfl, pg_g (pg_t4 67 rfl) rfl, by decide, by decide, by decide⟩
theorem okX9_freePegs : pg_okV YX9_freePegs := ⟨pg_g (pg_t4 73 rfl) rfl, pg_g (pg_t4 74 rfl) rfl, pg_g (pg_t1 3 rfl) rfl, pg_g (pg_t4 75 rfl) rfl, by decide, by decide, by decide⟩
theorem okX9_unsplitPegs : pg_okV YX9_unsplitPegs := ⟨pg_g (pg_t4 77 rfl) rfl, pg_g (pg_t4 78 rfl) rfl, pg_g (pg_t1 3 rfl) rfl, pg_g (pg_t4 79 rfl) rfl, by decide, by decide, by decide⟩
theorem okX9_firstFree : pg_okV YX9_firstFree := ⟨pg_g (pg_t5 166 rfl) rfl, pg_g (pg_t5 167 rfl) rfl, pg_g (pg_t1 3 rfl) rfl, pg_g (pg_t5 168 rfl) rfl, by decide, by decide, by decide⟩
theorem okX9_gripsOf : pg_okV YX9_gripsOf := ⟨pg_g (pg_t4 157 rfl) rfl, pg_g (pg_t4 158 rfl) rfl, pg_g (pg_t1 3 rfl) rfl, pg_g (pg_t4 159 rfl) rfl, by decide, by decide, by decide⟩
theorem okX9_gripsLess : pg_okV YX9_gripsLess := ⟨pg_g (pg_t4 161 rfl) rfl, pg_g (pg_t4 162 rfl) rfl, pg_g (pg_t1 3 rfl) rfl, pg_g (pg_t4 163 rfl) rfl, by decide, by decide, by decide⟩
theorem okX9_hangUp : pg_okV YX9_hangUp := ⟨pg_g (pg_t4 102 rfl) rfl, pg_g (pg_t4 103 rfl) rfl, pg_g (pg_t1 3 rfl) rfl, pg_g (pg_t4 104 rfl) rfl, by decide, by decide, by decide⟩
theorem okX9_takeIn : pg_okV YX9_takeIn := ⟨pg_g (pg_t4 123 rfl) rfl, pg_g (pg_t4 124 rfl) rfl, pg_g (pg_t1 3 rfl) rfl, pg_g (pg_t4 125 rfl) rfl, by decide, by decide, by decide⟩
theorem okX9_washOut : pg_okV YX9_washOut := ⟨pg_g (pg_t4 131 rfl) rfl, pg_g (pg_t4 132 rfl) rfl, pg_g (pg_t1 3 rfl) rfl, pg_g (pg_t4 133 rfl) rfl, by decide, by decide, by decide⟩
theorem okX9_addPeg : pg_okV YX9_addPeg := ⟨pg_g (pg_t4 139 rfl) rfl, pg_g (pg_t4 140 rfl) rfl, pg_g (pg_t1 3 rfl) rfl, pg_g (pg_t4 141 rfl) rfl, by decide, by decide, by decide⟩
theorem okX9_passHour : pg_okV YX9_passHour := ⟨pg_g (pg_t4 147 rfl) rfl, pg_g (pg_t4 148 rfl) rfl, pg_g (pg_t1 3 rfl) rfl, pg_g (pg_t4 149 rfl) rfl, by decide, by decide, by decide⟩
theorem okX9_passAlone : pg_okV YX9_passAlone := ⟨pg_g (pg_t4 215 rfl) rfl, pg_g (pg_t4 216 rfl) rfl, pg_g (pg_t1 3 rfl) rfl, pg_g (pg_t4 217 rfl) rfl, by decide, by decide, by decide⟩
theorem okX9_fallsBy : pg_okV YX9_fallsBy := ⟨pg_g (pg_t4 153 rfl) rfl, pg_g (pg_sel (q := (yX9_fallsBy, 6)) (pg_p2 8 rfl)) rfl, pg_g (pg_t1 3 rfl) rfl, pg_g (pg_t4 154 rfl) rfl, by decide, by decide, by decide⟩
theorem okX9_weaken : pg_okV YX9_weaken := ⟨pg_g (pg_t4 167 rfl) rfl, pg_g (pg_sel (q := (yX9_weaken, 6)) (pg_p2 9 rfl)) rfl, pg_g (pg_t1 3 rfl) rfl, pg_g (pg_t4 168 rfl) rfl, by decide, by decide, by decide⟩
theorem okX9_roomBy : pg_okS YX9_roomBy := ⟨pg_g (pg_t4 33 rfl) rfl, pg_g (pg_t1 3 rfl) rfl, pg_g (pg_t4 34 rfl) rfl, by decide, by decide, by decide⟩
theorem okX10_feed : pg_okV YX10_feed := ⟨pg_g (pg_t2 202 rfl) rfl, pg_g (pg_t2 203 rfl) rfl, pg_g (pg_t1 1 rfl) rfl, pg_g (pg_t2 204 rfl) rfl, by decide, by decide, by decide⟩
theorem okX10_line : pg_okV YX10_line := ⟨pg_g (pg_t2 211 rfl) rfl, pg_g (pg_t2 212 rfl) rfl, pg_g (pg_t1 1 rfl) rfl, pg_g (pg_t2 213 rfl) rfl, by decide, by decide, by decide⟩
theorem okX10_day : pg_okV YX10_day := ⟨pg_g (pg_t3 222 rfl) rfl, pg_g (pg_t3 223 rfl) rfl, pg_g (pg_t1 1 rfl) rfl, pg_g (pg_t3 224 rfl) rfl, by decide, by decide, by decide⟩
theorem okX10_cloth : pg_okV YX10_cloth := ⟨pg_g (pg_t4 3 rfl) rfl, pg_g (pg_t4 4 rfl) rfl, pg_g (pg_t1 1 rfl) rfl, pg_g (pg_t4 5 rfl) rfl, by decide, by decide, by decide⟩
theorem okX10_peg : pg_okV YX10_peg := ⟨pg_g (pg_t4 61 rfl) rfl, pg_g (pg_t4 62 rfl) rfl, pg_g (pg_t1 1 rfl) rfl, pg_g (pg_t4 63 rfl) rfl, by decide, by decide, by decide⟩
theorem okX10_free : pg_okV YX10_free := ⟨pg_g (pg_t4 69 rfl) rfl, pg_g (pg_t4 70 rfl) rfl, pg_g (pg_t1 1 rfl) rfl, pg_g (pg_t4 71 rfl) rfl, by decide, by decide, by decide⟩
theorem okX10_laws : pg_okV YX10_laws := ⟨pg_g (pg_t4 81 rfl) rfl, pg_g (pg_t4 82 rfl) rfl, pg_g (pg_t1 1 rfl) rfl, pg_g (pg_t4 83 rfl) rfl, by decide, by decide, by decide⟩
theorem okX10_hang : pg_okV YX10_hang := ⟨pg_g (pg_t4 90 rfl) rfl, pg_g (pg_t4 91 rfl) rfl, pg_g (pg_t1 1 rfl) rfl, pg_g (pg_t4 92 rfl) rfl, by decide, by decide, by decide⟩
theorem okX10_take : pg_okV YX10_take := ⟨pg_g (pg_t4 119 rfl) rfl, pg_g (pg_t4 120 rfl) rfl, pg_g (pg_t1 1 rfl) rfl, pg_g (pg_t4 121 rfl) rfl, by decide, by decide, by decide⟩
theorem okX10_wash : pg_okV YX10_wash := ⟨pg_g (pg_t4 127 rfl) rfl, pg_g (pg_t4 128 rfl) rfl, pg_g (pg_t1 1 rfl) rfl, pg_g (pg_t4 129 rfl) rfl, by decide, by decide, by decide⟩
theorem okX10_buy : pg_okV YX10_buy := ⟨pg_g (pg_t4 135 rfl) rfl, pg_g (pg_t4 136 rfl) rfl, pg_g (pg_t1 1 rfl) rfl, pg_g (pg_t4 137 rfl) rfl, by decide, by decide, by decide⟩
theorem okX10_hour : pg_okV YX10_hour := ⟨pg_g (pg_t4 143 rfl) rfl, pg_g (pg_t4 144 rfl) rfl, pg_g (pg_t1 1 rfl) rfl, pg_g (pg_t4 145 rfl) rfl, by decide, by decide, by decide⟩
theorem okX10_undo : pg_okV YX10_undo := ⟨pg_g (pg_t4 175 rfl) rfl, pg_g (pg_t4 176 rfl) rfl, pg_g (pg_t1 1 rfl) rfl, pg_g (pg_t4 177 rfl) rfl, by decide, by decide, by decide⟩
theorem okX10_judged : pg_okV YX10_judged := ⟨pg_g (pg_t4 183 rfl) rfl, pg_g (pg_t4 184 rfl) rfl, pg_g (pg_t1 1 rfl) rfl, pg_g (pg_t4 185 rfl) rfl, by decide, by decide, by decide⟩
theorem okX10_holds : pg_okV YX10_holds := ⟨pg_g (pg_t4 210 rfl) rfl, pg_g (pg_t4 211 rfl) rfl, pg_g (pg_t1 1 rfl) rfl, pg_g (pg_t4 212 rfl) rfl, by decide, by decide, by decide⟩
theorem okX10_clashes : pg_okV YX10_clashes := ⟨pg_g (pg_t4 219 rfl) rfl, pg_g (pg_t4 220 rfl) rfl, pg_g (pg_t1 1 rfl) rfl, pg_g (pg_t4 221 rfl) rfl, by decide, by decide, by decide⟩
theorem okX10_mend : pg_okV YX10_mend := ⟨pg_g (pg_t4 228 rfl) rfl, pg_g (pg_t4 229 rfl) rfl, pg_g (pg_t1 1 rfl) rfl, pg_g (pg_t4 230 rfl) rfl, by decide, by decide, by decide⟩
theorem okX10_fill : pg_okV YX10_fill := ⟨pg_g (pg_t4 233 rfl) rfl, pg_g (pg_t4 234 rfl) rfl, pg_g (pg_t1 1 rfl) rfl, pg_g (pg_t4 235 rfl) rfl, by decide, by decide, by decide⟩
theorem okX10_odds : pg_okV YX10_odds := ⟨pg_g (pg_t5 51 rfl) rfl, pg_g (pg_t5 52 rfl) rfl, pg_g (pg_t1 1 rfl) rfl, pg_g (pg_t5 53 rfl) rfl, by decide, by decide, by decide⟩
theorem okX10_dry : pg_okV YX10_dry := ⟨pg_g (pg_t5 71 rfl) rfl, pg_g (pg_t5 72 rfl) rfl, pg_g (pg_t1 1 rfl) rfl, pg_g (pg_t5 73 rfl) rfl, by decide, by decide, by decide⟩
theorem okX10_feel : pg_okV YX10_feel := ⟨pg_g (pg_t5 103 rfl) rfl, pg_g (pg_t5 104 rfl) rfl, pg_g (pg_t1 1 rfl) rfl, pg_g (pg_t5 105 rfl) rfl, by decide, by decide, by decide⟩
theorem okX10_starts : pg_okV YX10_starts := ⟨pg_g (pg_t5 111 rfl) rfl, pg_g (pg_t5 112 rfl) rfl, pg_g (pg_t1 1 rfl) rfl, pg_g (pg_t5 113 rfl) rfl, by decide, by decide, by decide⟩
theorem okX10_ask : pg_okV YX10_ask := ⟨pg_g (pg_t5 125 rfl) rfl, pg_g (pg_t5 126 rfl) rfl, pg_g (pg_t1 1 rfl) rfl, pg_g (pg_t5 127 rfl) rfl, by decide, by decide, by decide⟩
theorem okX10_change : pg_okV YX10_change := ⟨pg_g (pg_t5 141 rfl) rfl, pg_g (pg_t5 142 rfl) rfl, pg_g (pg_t1 1 rfl) rfl, pg_g (pg_t5 143 rfl) rfl, by decide, by decide, by decide⟩
theorem okX10_rests : pg_okV YX10_rests := ⟨pg_g (pg_t5 205 rfl) rfl, pg_g (pg_t5 206 rfl) rfl, pg_g (pg_t1 1 rfl) rfl, pg_g (pg_t5 207 rfl) rfl, by decide, by decide, by decide⟩
theorem okX10_decades : pg_okV YX10_decades := ⟨pg_g (pg_t5 149 rfl) rfl, pg_g (pg_t5 150 rfl) rfl, pg_g (pg_t1 1 rfl) rfl, pg_g (pg_t5 151 rfl) rfl, by decide, by decide, by decide⟩
theorem okX10_mark : pg_okV YX10_mark := ⟨pg_g (pg_t5 175 rfl) rfl, pg_g (pg_t5 176 rfl) rfl, pg_g (pg_t1 1 rfl) rfl, pg_g (pg_t5 177 rfl) rfl, by decide, by decide, by decide⟩
theorem okX10_count : pg_okV YX10_count := ⟨pg_g (pg_t5 192 rfl) rfl, pg_g (pg_t5 193 rfl) rfl, pg_g (pg_t1 1 rfl) rfl, pg_g (pg_t5 194 rfl) rfl, by decide, by decide, by decide⟩
theorem okX10_worthBehind : pg_okV YX10_worthBehind := ⟨pg_g (pg_t5 146 rfl) rfl, pg_g (pg_sel (q := (yX10_worthBehind, 13)) (pg_p3 10 rfl)) rfl, pg_g (pg_t1 1 rfl) rfl, pg_g (pg_t5 147 rfl) rfl, by decide, by decide, by decide⟩
theorem okX10_handleByDraws : pg_okV YX10_handleByDraws := ⟨pg_g (pg_t5 154 rfl) rfl, pg_g (pg_sel (q := (yX10_handleByDraws, 13)) (pg_p3 11 rfl)) rfl, pg_g (pg_t1 1 rfl) rfl, pg_g (pg_t5 155 rfl) rfl, by decide, by decide, by decide⟩
theorem okX10_draw : pg_okV YX10_draw := ⟨pg_g (pg_t5 158 rfl) rfl, pg_g (pg_sel (q := (yX10_draw, 13)) (pg_p3 12 rfl)) rfl, pg_g (pg_t1 1 rfl) rfl, pg_g (pg_t5 159 rfl) rfl, by decide, by decide, by decide⟩
theorem okX10_isWorth : pg_okS YX10_isWorth := ⟨pg_g (pg_t5 209 rfl) rfl, pg_g (pg_t1 1 rfl) rfl, pg_g (pg_t5 210 rfl) rfl, by decide, by decide, by decide⟩
theorem okX10_isRest : pg_okS YX10_isRest := ⟨pg_g (pg_t6 37 rfl) rfl, pg_g (pg_t1 1 rfl) rfl, pg_g (pg_t6 38 rfl) rfl, by decide, by decide, by decide⟩
theorem okX10_loot : pg_okS YX10_loot := ⟨pg_g (pg_t6 40 rfl) rfl, pg_g (pg_t1 1 rfl) rfl, pg_g (pg_t6 41 rfl) rfl, by decide, by decide, by decide⟩
theorem okX11_thrown : pg_okV YX11_thrown := ⟨pg_g (pg_t6 44 rfl) rfl, pg_g (pg_t6 45 rfl) rfl, pg_g (pg_t1 13 rfl) rfl, pg_g (pg_t6 46 rfl) rfl, by decide, by decide, by decide⟩
theorem okX11_feed : pg_okV YX11_feed := ⟨pg_g (pg_t6 48 rfl) rfl, pg_g (pg_t6 49 rfl) rfl, pg_g (pg_t1 13 rfl) rfl, pg_g (pg_t6 50 rfl) rfl, by decide, by decide, by decide⟩
theorem okX11_lay : pg_okV YX11_lay := ⟨pg_g (pg_t6 53 rfl) rfl, pg_g (pg_sel (q := (yX11_lay, 38)) (pg_p3 14 rfl)) rfl, pg_g (pg_t1 13 rfl) rfl, pg_g (pg_t6 55 rfl) rfl, by decide, by decide, by decide⟩
theorem okX11_isLetter : pg_okS YX11_isLetter := ⟨pg_g (pg_t6 223 rfl) rfl, pg_g (pg_t1 13 rfl) rfl, pg_g (pg_t6 224 rfl) rfl, by decide, by decide, by decide⟩
theorem okX11_isDigit : pg_okS YX11_isDigit := ⟨pg_g (pg_t6 230 rfl) rfl, pg_g (pg_t1 13 rfl) rfl, pg_g (pg_t6 231 rfl) rfl, by decide, by decide, by decide⟩
theorem okX11_rank : pg_okS YX11_rank := ⟨pg_g (pg_t6 227 rfl) rfl, pg_g (pg_t1 13 rfl) rfl, pg_g (pg_t6 228 rfl) rfl, by decide, by decide, by decide⟩
theorem okX11_isSignOf : pg_okS YX11_isSignOf := ⟨pg_g (pg_t6 235 rfl) rfl, pg_g (pg_t1 13 rfl) rfl, pg_g (pg_t6 236 rfl) rfl, by decide, by decide, by decide⟩
theorem okX11_cutAll : pg_okV YX11_cutAll := ⟨pg_g (pg_t6 220 rfl) rfl, pg_g (pg_sel (q := (yX11_cutAll, 38)) (pg_p4 2 rfl)) rfl, pg_g (pg_t1 13 rfl) rfl, pg_g (pg_t6 221 rfl) rfl, by decide, by decide, by decide⟩
theorem okX11_wrong : pg_okV YX11_wrong := ⟨pg_g (pg_t7 7 rfl) rfl, pg_g (pg_sel (q := (yX11_wrong, 38)) (pg_p4 5 rfl)) rfl, pg_g (pg_t1 13 rfl) rfl, pg_g (pg_t7 8 rfl) rfl, by decide, by decide, by decide⟩
theorem okX11_isSign : pg_okV YX11_isSign := ⟨pg_g (pg_t7 83 rfl) rfl, pg_g (pg_sel (q := (yX11_isSign, 38)) (pg_p5 8 rfl)) rfl, pg_g (pg_t1 13 rfl) rfl, pg_g (pg_t7 84 rfl) rfl, by decide, by decide, by decide⟩
theorem okX11_isWord : pg_okV YX11_isWord := ⟨pg_g (pg_t6 239 rfl) rfl, pg_g (pg_sel (q := (yX11_isWord, 38)) (pg_p4 3 rfl)) rfl, pg_g (pg_t1 13 rfl) rfl, pg_g (pg_t7 0 rfl) rfl, by decide, by decide, by decide⟩
theorem okX11_takeSign : pg_okV YX11_takeSign := ⟨pg_g (pg_t7 95 rfl) rfl, pg_g (pg_sel (q := (yX11_takeSign, 38)) (pg_p5 11 rfl)) rfl, pg_g (pg_t1 13 rfl) rfl, pg_g (pg_t7 96 rfl) rfl, by decide, by decide, by decide⟩
theorem okX11_hasSign : pg_okV YX11_hasSign := ⟨pg_g (pg_t7 91 rfl) rfl, pg_g (pg_sel (q := (yX11_hasSign, 38)) (pg_p5 10 rfl)) rfl, pg_g (pg_t1 13 rfl) rfl, pg_g (pg_t7 92 rfl) rfl, by decide, by decide, by decide⟩
theorem okX11_hasWord : pg_okV YX11_hasWord := ⟨pg_g (pg_t7 35 rfl) rfl, pg_g (pg_sel (q := (yX11_hasWord, 38)) (pg_p4 12 rfl)) rfl, pg_g (pg_t1 13 rfl) rfl, pg_g (pg_t7 36 rfl) rfl, by decide, by decide, by decide⟩
theorem okX11_takeWord : pg_okV YX11_takeWord := ⟨pg_g (pg_t7 31 rfl) rfl, pg_g (pg_sel (q := (yX11_takeWord, 38)) (pg_p4 11 rfl)) rfl, pg_g (pg_t1 13 rfl) rfl, pg_g (pg_t7 32 rfl) rfl, by decide, by decide, by decide⟩
theorem okX11_within : pg_okS YX11_within := ⟨pg_g (pg_t7 118 rfl) rfl, pg_g (pg_t1 13 rfl) rfl, pg_g (pg_t7 119 rfl) rfl, by decide, by decide, by decide⟩
theorem okX11_standsAsAlways : pg_okV YX11_standsAsAlways := ⟨pg_g (pg_t6 89 rfl) rfl, pg_g (pg_sel (q := (yX11_standsAsAlways, 38)) (pg_p3 15 rfl)) rfl, pg_g (pg_t1 13 rfl) rfl, pg_g (pg_t6 90 rfl) rfl, by decide, by decide, by decide⟩
theorem okX11_takeNumber : pg_okV YX11_takeNumber := ⟨pg_g (pg_t7 39 rfl) rfl, pg_g (pg_sel (q := (yX11_takeNumber, 38)) (pg_p4 13 rfl)) rfl, pg_g (pg_t1 13 rfl) rfl, pg_g (pg_t7 40 rfl) rfl, by decide, by decide, by decide⟩
theorem okX11_takeAfter : pg_okV YX11_takeAfter := ⟨pg_g (pg_t7 27 rfl) rfl, pg_g (pg_sel (q := (yX11_takeAfter, 38)) (pg_p4 10 rfl)) rfl, pg_g (pg_t1 13 rfl) rfl, pg_g (pg_t7 28 rfl) rfl, by decide, by decide, by decide⟩
theorem okX11_wordHere : pg_okV YX11_wordHere := ⟨pg_g (pg_t7 15 rfl) rfl, pg_g (pg_sel (q := (yX11_wordHere, 38)) (pg_p4 7 rfl)) rfl, pg_g (pg_t1 13 rfl) rfl, pg_g (pg_t7 16 rfl) rfl, by decide, by decide, by decide⟩
theorem okX11_takeOne : pg_okV YX11_takeOne := ⟨pg_g (pg_t7 23 rfl) rfl, pg_g (pg_sel (q := (yX11_takeOne, 38)) (pg_p4 9 rfl)) rfl, pg_g (pg_t1 13 rfl) rfl, pg_g (pg_t7 24 rfl) rfl, by decide, by decide, by decide⟩
theorem okX11_isName : pg_okV YX11_isName := ⟨pg_g (pg_t7 11 rfl) rfl, pg_g (pg_sel (q := (yX11_isName, 38)) (pg_p4 6 rfl)) rfl, pg_g (pg_t1 13 rfl) rfl, pg_g (pg_t7 12 rfl) rfl, by decide, by decide, by decide⟩
theorem okX11_find : pg_okV YX11_find := ⟨pg_g (pg_t7 19 rfl) rfl, pg_g (pg_sel (q := (yX11_find, 38)) (pg_p4 8 rfl)) rfl, pg_g (pg_t1 13 rfl) rfl, pg_g (pg_t7 20 rfl) rfl, by decide, by decide, by decide⟩
theorem okX11_toldHere : pg_okV YX11_toldHere := ⟨pg_g (pg_t7 51 rfl) rfl, pg_g (pg_sel (q := (yX11_toldHere, 38)) (pg_p5 0 rfl)) rfl, pg_g (pg_t1 13 rfl) rfl, pg_g (pg_t7 52 rfl) rfl, by decide, by decide, by decide⟩
theorem okX11_takeTold : pg_okV YX11_takeTold := ⟨pg_g (pg_t7 47 rfl) rfl, pg_g (pg_sel (q := (yX11_takeTold, 38)) (pg_p4 15 rfl)) rfl, pg_g (pg_t1 13 rfl) rfl, pg_g (pg_t7 48 rfl) rfl, by decide, by decide, by decide⟩
theorem okX11_line : pg_okV YX11_line := ⟨pg_g (pg_t6 215 rfl) rfl, pg_g (pg_t6 216 rfl) rfl, pg_g (pg_t1 13 rfl) rfl, pg_g (pg_t6 217 rfl) rfl, by decide, by decide, by decide⟩
theorem okX11_readCloth : pg_okV YX11_readCloth := ⟨pg_g (pg_t7 3 rfl) rfl, pg_g (pg_sel (q := (yX11_readCloth, 38)) (pg_p4 4 rfl)) rfl, pg_g (pg_t1 13 rfl) rfl, pg_g (pg_t7 4 rfl) rfl, by decide, by decide, by decide⟩
theorem okX11_readClash : pg_okV YX11_readClash := ⟨pg_g (pg_t7 43 rfl) rfl, pg_g (pg_sel (q := (yX11_readClash, 38)) (pg_p4 14 rfl)) rfl, pg_g (pg_t1 13 rfl) rfl, pg_g (pg_t7 44 rfl) rfl, by decide, by decide, by decide⟩
theorem okX11_readOnce : pg_okV YX11_readOnce := ⟨pg_g (pg_t7 55 rfl) rfl, pg_g (pg_sel (q := (yX11_readOnce, 38)) (pg_p5 1 rfl)) rfl, pg_g (pg_t1 13 rfl) rfl, pg_g (pg_t7 56 rfl) rfl, by decide, by decide, by decide⟩
theorem okX11_readRow : pg_okV YX11_readRow := ⟨pg_g (pg_t7 59 rfl) rfl, pg_g (pg_sel (q := (yX11_readRow, 38)) (pg_p5 2 rfl)) rfl, pg_g (pg_t1 13 rfl) rfl, pg_g (pg_t7 60 rfl) rfl, by decide, by decide, by decide⟩
theorem okX11_day : pg_okV YX11_day := ⟨pg_g (pg_t7 98 rfl) rfl, pg_g (pg_t7 99 rfl) rfl, pg_g (pg_t1 13 rfl) rfl, pg_g (pg_t7 100 rfl) rfl, by decide, by decide, by decide⟩
theorem okX11_readPegs : pg_okV YX11_readPegs := ⟨pg_g (pg_t7 103 rfl) rfl, pg_g (pg_sel (q := (yX11_readPegs, 38)) (pg_p5 12 rfl)) rfl, pg_g (pg_t1 13 rfl) rfl, pg_g (pg_t7 104 rfl) rfl, by decide, by decide, by decide⟩
theorem okX11_emit : pg_okV YX11_emit := ⟨pg_g (pg_t7 87 rfl) rfl, pg_g (pg_sel (q := (yX11_emit, 38)) (pg_p5 9 rfl)) rfl, pg_g (pg_t1 13 rfl) rfl, pg_g (pg_t7 88 rfl) rfl, by decide, by decide, by decide⟩
theorem okX11_all : pg_okV YX11_all := ⟨pg_g (pg_t7 63 rfl) rfl, pg_g (pg_sel (q := (yX11_all, 38)) (pg_p5 3 rfl)) rfl, pg_g (pg_t1 13 rfl) rfl, pg_g (pg_t7 64 rfl) rfl, by decide, by decide, by decide⟩
theorem okX11_test : pg_okV YX11_test := ⟨pg_g (pg_t7 67 rfl) rfl, pg_g (pg_sel (q := (yX11_test, 38)) (pg_p5 4 rfl)) rfl, pg_g (pg_t1 13 rfl) rfl, pg_g (pg_t7 68 rfl) rfl, by decide, by decide, by decide⟩
theorem okX11_sums : pg_okV YX11_sums := ⟨pg_g (pg_t7 71 rfl) rfl, pg_g (pg_sel (q := (yX11_sums, 38)) (pg_p5 5 rfl)) rfl, pg_g (pg_t1 13 rfl) rfl, pg_g (pg_t7 72 rfl) rfl, by decide, by decide, by decide⟩
theorem okX11_products : pg_okV YX11_products := ⟨pg_g (pg_t7 75 rfl) rfl, pg_g (pg_sel (q := (yX11_products, 38)) (pg_p5 6 rfl)) rfl, pg_g (pg_t1 13 rfl) rfl, pg_g (pg_t7 76 rfl) rfl, by decide, by decide, by decide⟩
theorem okX11_takePart : pg_okV YX11_takePart := ⟨pg_g (pg_t7 79 rfl) rfl, pg_g (pg_sel (q := (yX11_takePart, 38)) (pg_p5 7 rfl)) rfl, pg_g (pg_t1 13 rfl) rfl, pg_g (pg_t7 80 rfl) rfl, by decide, by decide, by decide⟩
theorem okX11_worthAt : pg_okV YX11_worthAt := ⟨pg_g (pg_t7 161 rfl) rfl, pg_g (pg_sel (q := (yX11_worthAt, 38)) (pg_p6 8 rfl)) rfl, pg_g (pg_t1 13 rfl) rfl, pg_g (pg_t7 162 rfl) rfl, by decide, by decide, by decide⟩
theorem okX11_both : pg_okS YX11_both := ⟨pg_g (pg_t7 164 rfl) rfl, pg_g (pg_t1 13 rfl) rfl, pg_g (pg_t7 165 rfl) rfl, by decide, by decide, by decide⟩
theorem okX11_copies : pg_okV YX11_copies := ⟨pg_g (pg_t7 208 rfl) rfl, pg_g (pg_sel (q := (yX11_copies, 38)) (pg_p6 15 rfl)) rfl, pg_g (pg_t1 13 rfl) rfl, pg_g (pg_t7 209 rfl) rfl, by decide, by decide, by decide⟩
theorem okX11_starts : pg_okV YX11_starts := ⟨pg_g (pg_t6 97 rfl) rfl, pg_g (pg_sel (q := (yX11_starts, 38)) (pg_p4 1 rfl)) rfl, pg_g (pg_t1 13 rfl) rfl, pg_g (pg_t6 98 rfl) rfl, by decide, by decide, by decide⟩
theorem okX11_begins : pg_okV YX11_begins := ⟨pg_g (pg_t6 93 rfl) rfl, pg_g (pg_sel (q := (yX11_begins, 38)) (pg_p4 0 rfl)) rfl, pg_g (pg_t1 13 rfl) rfl, pg_g (pg_t6 94 rfl) rfl, by decide, by decide, by decide⟩
theorem okX11_keeps : pg_okV YX11_keeps := ⟨pg_g (pg_t7 204 rfl) rfl, pg_g (pg_sel (q := (yX11_keeps, 38)) (pg_p6 14 rfl)) rfl, pg_g (pg_t1 13 rfl) rfl, pg_g (pg_t7 205 rfl) rfl, by decide, by decide, by decide⟩
theorem okX11_cloths : pg_okV YX11_cloths := ⟨pg_g (pg_t7 115 rfl) rfl, pg_g (pg_sel (q := (yX11_cloths, 38)) (pg_p5 14 rfl)) rfl, pg_g (pg_t1 13 rfl) rfl, pg_g (pg_t7 116 rfl) rfl, by decide, by decide, by decide⟩
theorem okX11_clothOf : pg_okV YX11_clothOf := ⟨pg_g (pg_t7 122 rfl) rfl, pg_g (pg_sel (q := (yX11_clothOf, 38)) (pg_p5 15 rfl)) rfl, pg_g (pg_t1 13 rfl) rfl, pg_g (pg_t7 123 rfl) rfl, by decide, by decide, by decide⟩
theorem okX11_isCloth : pg_okV YX11_isCloth := ⟨pg_g (pg_t7 111 rfl) rfl, pg_g (pg_sel (q := (yX11_isCloth, 38)) (pg_p5 13 rfl)) rfl, pg_g (pg_t1 13 rfl) rfl, pg_g (pg_t7 112 rfl) rfl, by decide, by decide, by decide⟩
theorem okX11_bits : pg_okS YX11_bits := ⟨pg_g (pg_t7 129 rfl) rfl, pg_g (pg_t1 13 rfl) rfl, pg_g (pg_t7 130 rfl) rfl, by decide, by decide, by decide⟩
theorem okX11_needs : pg_okV YX11_needs := ⟨pg_g (pg_t7 133 rfl) rfl, pg_g (pg_sel (q := (yX11_needs, 38)) (pg_p6 1 rfl)) rfl, pg_g (pg_t1 13 rfl) rfl, pg_g (pg_t7 134 rfl) rfl, by decide, by decide, by decide⟩
theorem okX11_isHung : pg_okV YX11_isHung := ⟨pg_g (pg_t7 141 rfl) rfl, pg_g (pg_sel (q := (yX11_isHung, 38)) (pg_p6 3 rfl)) rfl, pg_g (pg_t1 13 rfl) rfl, pg_g (pg_t7 142 rfl) rfl, by decide, by decide, by decide⟩
theorem okX11_isLaw : pg_okV YX11_isLaw := ⟨pg_g (pg_t7 126 rfl) rfl, pg_g (pg_sel (q := (yX11_isLaw, 38)) (pg_p6 0 rfl)) rfl, pg_g (pg_t1 13 rfl) rfl, pg_g (pg_t7 127 rfl) rfl, by decide, by decide, by decide⟩
theorem okX11_isTurned : pg_okV YX11_isTurned := ⟨pg_g (pg_t7 137 rfl) rfl, pg_g (pg_sel (q := (yX11_isTurned, 38)) (pg_p6 2 rfl)) rfl, pg_g (pg_t1 13 rfl) rfl, pg_g (pg_t7 138 rfl) rfl, by decide, by decide, by decide⟩
theorem okX11_roomBy : pg_okV YX11_roomBy := ⟨pg_g (pg_t7 145 rfl) rfl, pg_g (pg_sel (q := (yX11_roomBy, 38)) (pg_p6 4 rfl)) rfl, pg_g (pg_t1 13 rfl) rfl, pg_g (pg_t7 146 rfl) rfl, by decide, by decide, by decide⟩
theorem okX11_roomLeft : pg_okV YX11_roomLeft := ⟨pg_g (pg_t7 200 rfl) rfl, pg_g (pg_sel (q := (yX11_roomLeft, 38)) (pg_p6 13 rfl)) rfl, pg_g (pg_t1 13 rfl) rfl, pg_g (pg_t7 201 rfl) rfl, by decide, by decide, by decide⟩
theorem okX11_windOf : pg_okV YX11_windOf := ⟨pg_g (pg_t7 149 rfl) rfl, pg_g (pg_sel (q := (yX11_windOf, 38)) (pg_p6 5 rfl)) rfl, pg_g (pg_t1 13 rfl) rfl, pg_g (pg_t7 150 rfl) rfl, by decide, by decide, by decide⟩
theorem okX11_laysFacts : pg_okV YX11_laysFacts := ⟨pg_g (pg_t7 157 rfl) rfl, pg_g (pg_sel (q := (yX11_laysFacts, 38)) (pg_p6 7 rfl)) rfl, pg_g (pg_t1 13 rfl) rfl, pg_g (pg_t7 158 rfl) rfl, by decide, by decide, by decide⟩
theorem okX11_pullOf : pg_okV YX11_pullOf := ⟨pg_g (pg_t7 153 rfl) rfl, pg_g (pg_sel (q := (yX11_pullOf, 38)) (pg_p6 6 rfl)) rfl, pg_g (pg_t1 13 rfl) rfl, pg_g (pg_t7 154 rfl) rfl, by decide, by decide, by decide⟩
theorem okX11_driedOf : pg_okV YX11_driedOf := ⟨pg_g (pg_t8 20 rfl) rfl, pg_g (pg_sel (q := (yX11_driedOf, 38)) (pg_p7 8 rfl)) rfl, pg_g (pg_t1 13 rfl) rfl, pg_g (pg_t8 21 rfl) rfl, by decide, by decide, by decide⟩
theorem okX11_gripsOf : pg_okV YX11_gripsOf := ⟨pg_g (pg_t8 4 rfl) rfl, pg_g (pg_sel (q := (yX11_gripsOf, 38)) (pg_p7 4 rfl)) rfl, pg_g (pg_t1 13 rfl) rfl, pg_g (pg_t8 5 rfl) rfl, by decide, by decide, by decide⟩
theorem okX11_falls : pg_okV YX11_falls := ⟨pg_g (pg_t8 16 rfl) rfl, pg_g (pg_sel (q := (yX11_falls, 38)) (pg_p7 7 rfl)) rfl, pg_g (pg_t1 13 rfl) rfl, pg_g (pg_t8 17 rfl) rfl, by decide, by decide, by decide⟩
theorem okX11_loosens : pg_okV YX11_loosens := ⟨pg_g (pg_t8 8 rfl) rfl, pg_g (pg_sel (q := (yX11_loosens, 38)) (pg_p7 5 rfl)) rfl, pg_g (pg_t1 13 rfl) rfl, pg_g (pg_t8 9 rfl) rfl, by decide, by decide, by decide⟩
theorem okX11_held : pg_okV YX11_held := ⟨pg_g (pg_t8 12 rfl) rfl, pg_g (pg_sel (q := (yX11_held, 38)) (pg_p7 6 rfl)) rfl, pg_g (pg_t1 13 rfl) rfl, pg_g (pg_t8 13 rfl) rfl, by decide, by decide, by decide⟩
theorem okX11_pulls : pg_okV YX11_pulls := ⟨pg_g (pg_t8 0 rfl) rfl, pg_g (pg_sel (q := (yX11_pulls, 38)) (pg_p7 3 rfl)) rfl, pg_g (pg_t1 13 rfl) rfl, pg_g (pg_t8 1 rfl) rfl, by decide, by decide, by decide⟩
theorem okX11_passes : pg_okV YX11_passes := ⟨pg_g (pg_t7 236 rfl) rfl, pg_g (pg_sel (q := (yX11_passes, 38)) (pg_p7 2 rfl)) rfl, pg_g (pg_t1 13 rfl) rfl, pg_g (pg_t7 237 rfl) rfl, by decide, by decide, by decide⟩
theorem okX11_lawsOf : pg_okV YX11_lawsOf := ⟨pg_g (pg_t7 180 rfl) rfl, pg_g (pg_sel (q := (yX11_lawsOf, 38)) (pg_p6 10 rfl)) rfl, pg_g (pg_t1 13 rfl) rfl, pg_g (pg_t7 181 rfl) rfl, by decide, by decide, by decide⟩
theorem okX11_worthOf : pg_okV YX11_worthOf := ⟨pg_g (pg_t8 36 rfl) rfl, pg_g (pg_sel (q := (yX11_worthOf, 38)) (pg_p7 10 rfl)) rfl, pg_g (pg_t1 13 rfl) rfl, pg_g (pg_t8 37 rfl) rfl, by decide, by decide, by decide⟩
theorem okX11_cloth : pg_okV YX11_cloth := ⟨pg_g (pg_t7 106 rfl) rfl, pg_g (pg_t7 107 rfl) rfl, pg_g (pg_t1 13 rfl) rfl, pg_g (pg_t7 108 rfl) rfl, by decide, by decide, by decide⟩
theorem okX11_heldBy : pg_okV YX11_heldBy := ⟨pg_g (pg_t7 172 rfl) rfl, pg_g (pg_sel (q := (yX11_heldBy, 38)) (pg_p6 9 rfl)) rfl, pg_g (pg_t1 13 rfl) rfl, pg_g (pg_t7 173 rfl) rfl, by decide, by decide, by decide⟩
theorem okX11_peg : pg_okV YX11_peg := ⟨pg_g (pg_t7 167 rfl) rfl, pg_g (pg_t7 168 rfl) rfl, pg_g (pg_t1 13 rfl) rfl, pg_g (pg_t7 169 rfl) rfl, by decide, by decide, by decide⟩
theorem okX11_laws : pg_okV YX11_laws := ⟨pg_g (pg_t7 175 rfl) rfl, pg_g (pg_t7 176 rfl) rfl, pg_g (pg_t1 13 rfl) rfl, pg_g (pg_t7 177 rfl) rfl, by decide, by decide, by decide⟩
theorem okX11_freePegs : pg_okV YX11_freePegs := ⟨pg_g (pg_t7 188 rfl) rfl, pg_g (pg_sel (q := (yX11_freePegs, 38)) (pg_p6 11 rfl)) rfl, pg_g (pg_t1 13 rfl) rfl, pg_g (pg_t7 189 rfl) rfl, by decide, by decide, by decide⟩
theorem okX11_free : pg_okV YX11_free := ⟨pg_g (pg_t7 183 rfl) rfl, pg_g (pg_t7 184 rfl) rfl, pg_g (pg_t1 13 rfl) rfl, pg_g (pg_t7 185 rfl) rfl, by decide, by decide, by decide⟩
theorem okX11_mayHang : pg_okV YX11_mayHang := ⟨pg_g (pg_t7 196 rfl) rfl, pg_g (pg_sel (q := (yX11_mayHang, 38)) (pg_p6 12 rfl)) rfl, pg_g (pg_t1 13 rfl) rfl, pg_g (pg_t7 197 rfl) rfl, by decide, by decide, by decide⟩
theorem okX11_hang : pg_okV YX11_hang := ⟨pg_g (pg_t7 191 rfl) rfl, pg_g (pg_t7 192 rfl) rfl, pg_g (pg_t1 13 rfl) rfl, pg_g (pg_t7 193 rfl) rfl, by decide, by decide, by decide⟩
theorem okX11_take : pg_okV YX11_take := ⟨pg_g (pg_t7 211 rfl) rfl, pg_g (pg_t7 212 rfl) rfl, pg_g (pg_t1 13 rfl) rfl, pg_g (pg_t7 213 rfl) rfl, by decide, by decide, by decide⟩
theorem okX11_washes : pg_okV YX11_washes := ⟨pg_g (pg_t7 220 rfl) rfl, pg_g (pg_sel (q := (yX11_washes, 38)) (pg_p7 0 rfl)) rfl, pg_g (pg_t1 13 rfl) rfl, pg_g (pg_t7 221 rfl) rfl, by decide, by decide, by decide⟩
theorem okX11_wash : pg_okV YX11_wash := ⟨pg_g (pg_t7 215 rfl) rfl, pg_g (pg_t7 216 rfl) rfl, pg_g (pg_t1 13 rfl) rfl, pg_g (pg_t7 217 rfl) rfl, by decide, by decide, by decide⟩
theorem okX11_buys : pg_okV YX11_buys := ⟨pg_g (pg_t7 228 rfl) rfl, pg_g (pg_sel (q := (yX11_buys, 38)) (pg_p7 1 rfl)) rfl, pg_g (pg_t1 13 rfl) rfl, pg_g (pg_t7 229 rfl) rfl, by decide, by decide, by decide⟩
theorem okX11_buy : pg_okV YX11_buy := ⟨pg_g (pg_t7 223 rfl) rfl, pg_g (pg_t7 224 rfl) rfl, pg_g (pg_t1 13 rfl) rfl, pg_g (pg_t7 225 rfl) rfl, by decide, by decide, by decide⟩
theorem okX11_hour : pg_okV YX11_hour := ⟨pg_g (pg_t7 231 rfl) rfl, pg_g (pg_t7 232 rfl) rfl, pg_g (pg_t1 13 rfl) rfl, pg_g (pg_t7 233 rfl) rfl, by decide, by decide, by decide⟩
theorem okX11_undo : pg_okV YX11_undo := ⟨pg_g (pg_t8 23 rfl) rfl, pg_g (pg_t8 24 rfl) rfl, pg_g (pg_t1 13 rfl) rfl, pg_g (pg_t8 25 rfl) rfl, by decide, by decide, by decide⟩
theorem okX11_does : pg_okV YX11_does := ⟨pg_g (pg_t8 32 rfl) rfl, pg_g (pg_sel (q := (yX11_does, 38)) (pg_p7 9 rfl)) rfl, pg_g (pg_t1 13 rfl) rfl, pg_g (pg_t8 33 rfl) rfl, by decide, by decide, by decide⟩
theorem okX11_judged : pg_okV YX11_judged := ⟨pg_g (pg_t8 27 rfl) rfl, pg_g (pg_t8 28 rfl) rfl, pg_g (pg_t1 13 rfl) rfl, pg_g (pg_t8 29 rfl) rfl, by decide, by decide, by decide⟩
theorem okX11_holds : pg_okV YX11_holds := ⟨pg_g (pg_t8 39 rfl) rfl, pg_g (pg_t8 40 rfl) rfl, pg_g (pg_t1 13 rfl) rfl, pg_g (pg_t8 41 rfl) rfl, by decide, by decide, by decide⟩
theorem okX11_clashesIn : pg_okV YX11_clashesIn := ⟨pg_g (pg_t8 48 rfl) rfl, pg_g (pg_sel (q := (yX11_clashesIn, 38)) (pg_p7 11 rfl)) rfl, pg_g (pg_t1 13 rfl) rfl, pg_g (pg_t8 49 rfl) rfl, by decide, by decide, by decide⟩
theorem okX11_clashes : pg_okV YX11_clashes := ⟨pg_g (pg_t8 43 rfl) rfl, pg_g (pg_t8 44 rfl) rfl, pg_g (pg_t1 13 rfl) rfl, pg_g (pg_t8 45 rfl) rfl, by decide, by decide, by decide⟩
theorem okX11_mend : pg_okV YX11_mend := ⟨pg_g (pg_t8 51 rfl) rfl, pg_g (pg_t8 52 rfl) rfl, pg_g (pg_t1 13 rfl) rfl, pg_g (pg_t8 53 rfl) rfl, by decide, by decide, by decide⟩
theorem okX11_findHardest : pg_okV YX11_findHardest := ⟨pg_g (pg_t8 60 rfl) rfl, pg_g (pg_sel (q := (yX11_findHardest, 38)) (pg_p7 12 rfl)) rfl, pg_g (pg_t1 13 rfl) rfl, pg_g (pg_t8 61 rfl) rfl, by decide, by decide, by decide⟩
theorem okX11_fills : pg_okV YX11_fills := ⟨pg_g (pg_t8 64 rfl) rfl, pg_g (pg_sel (q := (yX11_fills, 38)) (pg_p7 13 rfl)) rfl, pg_g (pg_t1 13 rfl) rfl, pg_g (pg_t8 65 rfl) rfl, by decide, by decide, by decide⟩
theorem okX11_fill : pg_okV YX11_fill := ⟨pg_g (pg_t8 55 rfl) rfl, pg_g (pg_t8 56 rfl) rfl, pg_g (pg_t1 13 rfl) rfl, pg_g (pg_t8 57 rfl) rfl, by decide, by decide, by decide⟩
theorem okX11_hanging : pg_okV YX11_hanging := ⟨pg_g (pg_t8 72 rfl) rfl, pg_g (pg_sel (q := (yX11_hanging, 38)) (pg_p7 14 rfl)) rfl, pg_g (pg_t1 13 rfl) rfl, pg_g (pg_t8 73 rfl) rfl, by decide, by decide, by decide⟩
theorem okX11_odds : pg_okV YX11_odds := ⟨pg_g (pg_t8 67 rfl) rfl, pg_g (pg_t8 68 rfl) rfl, pg_g (pg_t1 13 rfl) rfl, pg_g (pg_t8 69 rfl) rfl, by decide, by decide, by decide⟩
theorem okX11_driedBehind : pg_okV YX11_driedBehind := ⟨pg_g (pg_t8 81 rfl) rfl, pg_g (pg_sel (q := (yX11_driedBehind, 38)) (pg_p7 15 rfl)) rfl, pg_g (pg_t1 13 rfl) rfl, pg_g (pg_t8 82 rfl) rfl, by decide, by decide, by decide⟩
theorem okX11_washesFrom : pg_okV YX11_washesFrom := ⟨pg_g (pg_t8 85 rfl) rfl, pg_g (pg_sel (q := (yX11_washesFrom, 38)) (pg_p8 0 rfl)) rfl, pg_g (pg_t1 13 rfl) rfl, pg_g (pg_t8 86 rfl) rfl, by decide, by decide, by decide⟩
theorem okX11_dry : pg_okV YX11_dry := ⟨pg_g (pg_t8 76 rfl) rfl, pg_g (pg_t8 77 rfl) rfl, pg_g (pg_t1 13 rfl) rfl, pg_g (pg_t8 78 rfl) rfl, by decide, by decide, by decide⟩
theorem okX11_feel : pg_okV YX11_feel := ⟨pg_g (pg_t8 88 rfl) rfl, pg_g (pg_t8 89 rfl) rfl, pg_g (pg_t1 13 rfl) rfl, pg_g (pg_t8 90 rfl) rfl, by decide, by decide, by decide⟩
theorem okX11_wetBehind : pg_okV YX11_wetBehind := ⟨pg_g (pg_t8 101 rfl) rfl, pg_g (pg_sel (q := (yX11_wetBehind, 38)) (pg_p8 2 rfl)) rfl, pg_g (pg_t1 13 rfl) rfl, pg_g (pg_t8 102 rfl) rfl, by decide, by decide, by decide⟩
theorem okX11_startsNow : pg_okV YX11_startsNow := ⟨pg_g (pg_t8 97 rfl) rfl, pg_g (pg_sel (q := (yX11_startsNow, 38)) (pg_p8 1 rfl)) rfl, pg_g (pg_t1 13 rfl) rfl, pg_g (pg_t8 98 rfl) rfl, by decide, by decide, by decide⟩
theorem okX11_starts_ : pg_okV YX11_starts_ := ⟨pg_g (pg_t8 92 rfl) rfl, pg_g (pg_t8 93 rfl) rfl, pg_g (pg_t1 13 rfl) rfl, pg_g (pg_t8 94 rfl) rfl, by decide, by decide, by decide⟩
theorem okX11_ask : pg_okV YX11_ask := ⟨pg_g (pg_t8 104 rfl) rfl, pg_g (pg_t8 105 rfl) rfl, pg_g (pg_t1 13 rfl) rfl, pg_g (pg_t8 106 rfl) rfl, by decide, by decide, by decide⟩
theorem okX11_worthBehind : pg_okV YX11_worthBehind := ⟨pg_g (pg_t8 113 rfl) rfl, pg_g (pg_sel (q := (yX11_worthBehind, 38)) (pg_p8 3 rfl)) rfl, pg_g (pg_t1 13 rfl) rfl, pg_g (pg_t8 114 rfl) rfl, by decide, by decide, by decide⟩
theorem okX11_change : pg_okV YX11_change := ⟨pg_g (pg_t8 108 rfl) rfl, pg_g (pg_t8 109 rfl) rfl, pg_g (pg_t1 13 rfl) rfl, pg_g (pg_t8 110 rfl) rfl, by decide, by decide, by decide⟩
theorem okX11_rests : pg_okV YX11_rests := ⟨pg_g (pg_t8 116 rfl) rfl, pg_g (pg_t8 117 rfl) rfl, pg_g (pg_t1 13 rfl) rfl, pg_g (pg_t8 118 rfl) rfl, by decide, by decide, by decide⟩
theorem okX11_draw : pg_okV YX11_draw := ⟨pg_g (pg_t8 129 rfl) rfl, pg_g (pg_sel (q := (yX11_draw, 38)) (pg_p8 5 rfl)) rfl, pg_g (pg_t1 13 rfl) rfl, pg_g (pg_t8 130 rfl) rfl, by decide, by decide, by decide⟩
theorem okX11_firstFree : pg_okV YX11_firstFree := ⟨pg_g (pg_t8 137 rfl) rfl, pg_g (pg_sel (q := (yX11_firstFree, 38)) (pg_p8 6 rfl)) rfl, pg_g (pg_t1 13 rfl) rfl, pg_g (pg_t8 138 rfl) rfl, by decide, by decide, by decide⟩
theorem okX11_drawsCloth : pg_okV YX11_drawsCloth := ⟨pg_g (pg_t8 125 rfl) rfl, pg_g (pg_sel (q := (yX11_drawsCloth, 38)) (pg_p8 4 rfl)) rfl, pg_g (pg_t1 13 rfl) rfl, pg_g (pg_t8 126 rfl) rfl, by decide, by decide, by decide⟩
theorem okX11_decades : pg_okV YX11_decades := ⟨pg_g (pg_t8 120 rfl) rfl, pg_g (pg_t8 121 rfl) rfl, pg_g (pg_t1 13 rfl) rfl, pg_g (pg_t8 122 rfl) rfl, by decide, by decide, by decide⟩
theorem okX11_mark : pg_okV YX11_mark := ⟨pg_g (pg_t8 140 rfl) rfl, pg_g (pg_t8 141 rfl) rfl, pg_g (pg_t1 13 rfl) rfl, pg_g (pg_t8 142 rfl) rfl, by decide, by decide, by decide⟩
theorem okX11_turnedSet : pg_okV YX11_turnedSet := ⟨pg_g (pg_t8 149 rfl) rfl, pg_g (pg_sel (q := (yX11_turnedSet, 38)) (pg_p8 7 rfl)) rfl, pg_g (pg_t1 13 rfl) rfl, pg_g (pg_t8 150 rfl) rfl, by decide, by decide, by decide⟩
theorem okX11_count : pg_okV YX11_count := ⟨pg_g (pg_t8 144 rfl) rfl, pg_g (pg_t8 145 rfl) rfl, pg_g (pg_t1 13 rfl) rfl, pg_g (pg_t8 146 rfl) rfl, by decide, by decide, by decide⟩
theorem okJ11_isValidCodePoint_9a6ad : pg_okS YJ11_isValidCodePoint_9a6ad := ⟨pg_g (pg_t3 102 rfl) rfl, pg_g (pg_t1 19 rfl) rfl, pg_g (pg_t3 103 rfl) rfl, by decide, by decide, by decide⟩
theorem okJ11_highSurrogate_5068e : pg_okS YJ11_highSurrogate_5068e := ⟨pg_g (pg_t3 105 rfl) rfl, pg_g (pg_t1 19 rfl) rfl, pg_g (pg_t3 106 rfl) rfl, by decide, by decide, by decide⟩
theorem okJ11_lowSurrogate_5068e : pg_okS YJ11_lowSurrogate_5068e := ⟨pg_g (pg_t3 109 rfl) rfl, pg_g (pg_t1 19 rfl) rfl, pg_g (pg_t3 110 rfl) rfl, by decide, by decide, by decide⟩
theorem okJ6_lowestOneBit_0f7a4 : pg_okS YJ6_lowestOneBit_0f7a4 := ⟨pg_g (pg_t5 170 rfl) rfl, pg_g (pg_t1 21 rfl) rfl, pg_g (pg_t5 171 rfl) rfl, by decide, by decide, by decide⟩
theorem okJ6_numberOfLeadingZeros_0f7a4 : pg_okS YJ6_numberOfLeadingZeros_0f7a4 := ⟨pg_g (pg_t5 23 rfl) rfl, pg_g (pg_t1 21 rfl) rfl, pg_g (pg_t5 24 rfl) rfl, by decide, by decide, by decide⟩
theorem okJ6_bitCount_0f7a4 : pg_okS YJ6_bitCount_0f7a4 := ⟨pg_g (pg_t4 15 rfl) rfl, pg_g (pg_t1 21 rfl) rfl, pg_g (pg_t4 16 rfl) rfl, by decide, by decide, by decide⟩
theorem okJ9_floorMod_7cf53 : pg_okS YJ9_floorMod_7cf53 := ⟨pg_g (pg_t4 40 rfl) rfl, pg_g (pg_t1 14 rfl) rfl, pg_g (pg_t4 41 rfl) rfl, by decide, by decide, by decide⟩
theorem okJ9_max_7cf53 : pg_okS YJ9_max_7cf53 := ⟨pg_g (pg_t2 235 rfl) rfl, pg_g (pg_t1 14 rfl) rfl, pg_g (pg_t2 236 rfl) rfl, by decide, by decide, by decide⟩
theorem okJ9_min_7cf53 : pg_okS YJ9_min_7cf53 := ⟨pg_g (pg_t2 238 rfl) rfl, pg_g (pg_t1 14 rfl) rfl, pg_g (pg_t2 239 rfl) rfl, by decide, by decide, by decide⟩
theorem okJ0_length_8abf5 : pg_okV YJ0_length_8abf5 := ⟨pg_g (pg_t3 5 rfl) rfl, pg_g (pg_t3 6 rfl) rfl, pg_g (pg_t1 15 rfl) rfl, pg_g (pg_t3 7 rfl) rfl, by decide, by decide, by decide⟩
theorem okJ0_charAt_5068e : pg_okV YJ0_charAt_5068e := ⟨pg_g (pg_t3 15 rfl) rfl, pg_g (pg_t3 16 rfl) rfl, pg_g (pg_t1 15 rfl) rfl, pg_g (pg_t3 17 rfl) rfl, by decide, by decide, by decide⟩
theorem okJ0_indexOf_0f7a4 : pg_okV YJ0_indexOf_0f7a4 := ⟨pg_g (pg_t3 58 rfl) rfl, pg_g (pg_t3 59 rfl) rfl, pg_g (pg_t1 15 rfl) rfl, pg_g (pg_t3 60 rfl) rfl, by decide, by decide, by decide⟩
theorem okJ0_indexOf_7cf53 : pg_okV YJ0_indexOf_7cf53 := ⟨pg_g (pg_t3 62 rfl) rfl, pg_g (pg_t3 63 rfl) rfl, pg_g (pg_t1 15 rfl) rfl, pg_g (pg_t3 64 rfl) rfl, by decide, by decide, by decide⟩
theorem okJ0_coder_7d493 : pg_okV YJ0_coder_7d493 := ⟨pg_g (pg_t3 9 rfl) rfl, pg_g (pg_t3 10 rfl) rfl, pg_g (pg_t1 15 rfl) rfl, pg_g (pg_t3 11 rfl) rfl, by decide, by decide, by decide⟩
theorem okJ0_isLatin1_aae02 : pg_okV YJ0_isLatin1_aae02 := ⟨pg_g (pg_t3 19 rfl) rfl, pg_g (pg_t3 20 rfl) rfl, pg_g (pg_t1 15 rfl) rfl, pg_g (pg_t3 21 rfl) rfl, by decide, by decide, by decide⟩
theorem okJ0_checkIndex_df160 : pg_okS YJ0_checkIndex_df160 := ⟨pg_g (pg_t3 26 rfl) rfl, pg_g (pg_t1 15 rfl) rfl, pg_g (pg_t3 27 rfl) rfl, by decide, by decide, by decide⟩
theorem okJ0_checkBoundsBeginEnd_23922 : pg_okS YJ0_checkBoundsBeginEnd_23922 := ⟨pg_g (pg_t3 90 rfl) rfl, pg_g (pg_t1 15 rfl) rfl, pg_g (pg_t3 91 rfl) rfl, by decide, by decide, by decide⟩
theorem okJ1_charAt_3b067 : pg_okS YJ1_charAt_3b067 := ⟨pg_g (pg_t3 23 rfl) rfl, pg_g (pg_t1 16 rfl) rfl, pg_g (pg_t3 24 rfl) rfl, by decide, by decide, by decide⟩
theorem okJ1_canEncode_9a6ad : pg_okS YJ1_canEncode_9a6ad := ⟨pg_g (pg_t3 70 rfl) rfl, pg_g (pg_t1 16 rfl) rfl, pg_g (pg_t3 71 rfl) rfl, by decide, by decide, by decide⟩
theorem okJ1_indexOf_4cfef : pg_okS YJ1_indexOf_4cfef := ⟨pg_g (pg_t3 67 rfl) rfl, pg_g (pg_t1 16 rfl) rfl, pg_g (pg_t3 68 rfl) rfl, by decide, by decide, by decide⟩
theorem okJ1_indexOfChar_4cfef : pg_okS YJ1_indexOfChar_4cfef := ⟨pg_g (pg_t3 75 rfl) rfl, pg_g (pg_t1 16 rfl) rfl, pg_g (pg_t3 76 rfl) rfl, by decide, by decide, by decide⟩
theorem okJ2_getChar_3b067 : pg_okS YJ2_getChar_3b067 := ⟨pg_g (pg_t3 44 rfl) rfl, pg_g (pg_t1 18 rfl) rfl, pg_g (pg_t3 45 rfl) rfl, by decide, by decide, by decide⟩
theorem okJ2_length_9d52b : pg_okS YJ2_length_9d52b := ⟨pg_g (pg_t3 40 rfl) rfl, pg_g (pg_t1 18 rfl) rfl, pg_g (pg_t3 41 rfl) rfl, by decide, by decide, by decide⟩
theorem okJ2_indexOf_4cfef : pg_okS YJ2_indexOf_4cfef := ⟨pg_g (pg_t3 78 rfl) rfl, pg_g (pg_t1 18 rfl) rfl, pg_g (pg_t3 79 rfl) rfl, by decide, by decide, by decide⟩
theorem okJ2_indexOfChar_4cfef : pg_okS YJ2_indexOfChar_4cfef := ⟨pg_g (pg_t3 84 rfl) rfl, pg_g (pg_t1 18 rfl) rfl, pg_g (pg_t3 85 rfl) rfl, by decide, by decide, by decide⟩
theorem okJ2_indexOfCharUnsafe_4cfef : pg_okS YJ2_indexOfCharUnsafe_4cfef := ⟨pg_g (pg_t3 96 rfl) rfl, pg_g (pg_t1 18 rfl) rfl, pg_g (pg_t3 97 rfl) rfl, by decide, by decide, by decide⟩
theorem okJ2_indexOfSupplementary_4cfef : pg_okS YJ2_indexOfSupplementary_4cfef := ⟨pg_g (pg_t3 99 rfl) rfl, pg_g (pg_t1 18 rfl) rfl, pg_g (pg_t3 100 rfl) rfl, by decide, by decide, by decide⟩
theorem okJ2_charAt_3b067 : pg_okS YJ2_charAt_3b067 := ⟨pg_g (pg_t3 34 rfl) rfl, pg_g (pg_t1 18 rfl) rfl, pg_g (pg_t3 35 rfl) rfl, by decide, by decide, by decide⟩
theorem okJ2_checkIndex_2214a : pg_okS YJ2_checkIndex_2214a := ⟨pg_g (pg_t3 37 rfl) rfl, pg_g (pg_t1 18 rfl) rfl, pg_g (pg_t3 38 rfl) rfl, by decide, by decide, by decide⟩
theorem okJ2_checkBoundsBeginEnd_d044e : pg_okS YJ2_checkBoundsBeginEnd_d044e := ⟨pg_g (pg_t3 87 rfl) rfl, pg_g (pg_t1 18 rfl) rfl, pg_g (pg_t3 88 rfl) rfl, by decide, by decide, by decide⟩
theorem okJ7_fill_d0a16 : pg_okS YJ7_fill_d0a16 := ⟨pg_g (pg_t5 16 rfl) rfl, pg_g (pg_t1 11 rfl) rfl, pg_g (pg_t5 17 rfl) rfl, by decide, by decide, by decide⟩
theorem okJ7_fill_53178 : pg_okS YJ7_fill_53178 := ⟨pg_g (pg_t2 42 rfl) rfl, pg_g (pg_t1 11 rfl) rfl, pg_g (pg_t2 43 rfl) rfl, by decide, by decide, by decide⟩
theorem okJ3_checkIndex_8e157 : pg_okS YJ3_checkIndex_8e157 := ⟨pg_g (pg_t3 31 rfl) rfl, pg_g (pg_t1 17 rfl) rfl, pg_g (pg_t3 32 rfl) rfl, by decide, by decide, by decide⟩
theorem okJ3_checkFromToIndex_8c36e : pg_okS YJ3_checkFromToIndex_8c36e := ⟨pg_g (pg_t3 93 rfl) rfl, pg_g (pg_t1 17 rfl) rfl, pg_g (pg_t3 94 rfl) rfl, by decide, by decide, by decide⟩
theorem lkL_15 : Cond.methodLink RL 15 yX10_init ∈ pg_gd := pg_g (pg_t1 28 rfl) rfl
theorem lkX10_35 : Cond.methodLink RX10 35 yX6_init ∈ pg_gd := pg_g (pg_t1 143 rfl) rfl
theorem lkX10_63 : Cond.methodLink RX10 63 yX5_init ∈ pg_gd := pg_g (pg_t2 17 rfl) rfl
theorem lkX5_47 : Cond.methodLink RX5 47 yX5_clear ∈ pg_gd := pg_g (pg_t2 37 rfl) rfl
theorem lkX5_50 : Cond.methodLink RX5 50 yJ7_fill_53178 ∈ pg_gd := pg_g (pg_t2 41 rfl) rfl
theorem lkX5_75 : Cond.methodLink RX5 75 yX8_clear ∈ pg_gd := pg_g (pg_t2 44 rfl) rfl
theorem lkX5_76 : Cond.methodLink RX5 76 yX8_add ∈ pg_gd := pg_g (pg_t2 48 rfl) rfl
theorem lkL_21 : Cond.methodLink RL 21 yX10_feed ∈ pg_gd := pg_g (pg_t2 201 rfl) rfl
theorem lkX10_85 : Cond.methodLink RX10 85 yX7_addSigns ∈ pg_gd := pg_g (pg_t2 205 rfl) rfl
theorem lkL_26 : Cond.methodLink RL 26 yX10_line ∈ pg_gd := pg_g (pg_t2 210 rfl) rfl
theorem lkX10_93 : Cond.methodLink RX10 93 yX7_readLine ∈ pg_gd := pg_g (pg_t2 214 rfl) rfl
theorem lkX7_21 : Cond.methodLink RX7 21 yX5_clear ∈ pg_gd := pg_g (pg_t2 218 rfl) rfl
theorem lkX7_29 : Cond.methodLink RX7 29 yX7_begin ∈ pg_gd := pg_g (pg_t2 219 rfl) rfl
theorem lkX7_52 : Cond.methodLink RX7 52 yX7_next ∈ pg_gd := pg_g (pg_t2 223 rfl) rfl
theorem lkX7_200 : Cond.methodLink RX7 200 yX7_isLetter ∈ pg_gd := pg_g (pg_t2 227 rfl) rfl
theorem lkX7_206 : Cond.methodLink RX7 206 yX7_isDigit ∈ pg_gd := pg_g (pg_t2 231 rfl) rfl
theorem lkX7_209 : Cond.methodLink RX7 209 yJ9_max_7cf53 ∈ pg_gd := pg_g (pg_t2 234 rfl) rfl
theorem lkX7_214 : Cond.methodLink RX7 214 yJ9_min_7cf53 ∈ pg_gd := pg_g (pg_t2 237 rfl) rfl
theorem lkX7_217 : Cond.methodLink RX7 217 yX7_knownWord ∈ pg_gd := pg_g (pg_t3 0 rfl) rfl
theorem lkX7_233 : Cond.methodLink RX7 233 yJ0_length_8abf5 ∈ pg_gd := pg_g (pg_t3 4 rfl) rfl
theorem lkJ0_335 : Cond.methodLink RJ0 335 yJ0_coder_7d493 ∈ pg_gd := pg_g (pg_t3 8 rfl) rfl
theorem lkX7_235 : Cond.methodLink RX7 235 yJ0_charAt_5068e ∈ pg_gd := pg_g (pg_t3 14 rfl) rfl
theorem lkJ0_492 : Cond.methodLink RJ0 492 yJ0_isLatin1_aae02 ∈ pg_gd := pg_g (pg_t3 18 rfl) rfl
theorem lkJ0_495 : Cond.methodLink RJ0 495 yJ1_charAt_3b067 ∈ pg_gd := pg_g (pg_t3 22 rfl) rfl
theorem lkJ1_9 : Cond.methodLink RJ1 9 yJ0_checkIndex_df160 ∈ pg_gd := pg_g (pg_t3 25 rfl) rfl
theorem lkJ0_1059 : Cond.methodLink RJ0 1059 yJ3_checkIndex_8e157 ∈ pg_gd := pg_g (pg_t3 30 rfl) rfl
theorem lkJ0_498 : Cond.methodLink RJ0 498 yJ2_charAt_3b067 ∈ pg_gd := pg_g (pg_t3 33 rfl) rfl
theorem lkJ2_67 : Cond.methodLink RJ2 67 yJ2_checkIndex_2214a ∈ pg_gd := pg_g (pg_t3 36 rfl) rfl
theorem lkJ2_48 : Cond.methodLink RJ2 48 yJ2_length_9d52b ∈ pg_gd := pg_g (pg_t3 39 rfl) rfl
theorem lkJ2_414 : Cond.methodLink RJ2 414 yJ0_checkIndex_df160 ∈ pg_gd := pg_g (pg_t3 42 rfl) rfl
theorem lkJ2_71 : Cond.methodLink RJ2 71 yJ2_getChar_3b067 ∈ pg_gd := pg_g (pg_t3 43 rfl) rfl
theorem lkX7_220 : Cond.methodLink RX7 220 yX7_sortOf ∈ pg_gd := pg_g (pg_t3 52 rfl) rfl
theorem lkX7_225 : Cond.methodLink RX7 225 yJ0_indexOf_0f7a4 ∈ pg_gd := pg_g (pg_t3 57 rfl) rfl
theorem lkJ0_633 : Cond.methodLink RJ0 633 yJ0_indexOf_7cf53 ∈ pg_gd := pg_g (pg_t3 61 rfl) rfl
theorem lkJ0_505 : Cond.methodLink RJ0 505 yJ0_length_8abf5 ∈ pg_gd := pg_g (pg_t3 65 rfl) rfl
theorem lkJ0_637 : Cond.methodLink RJ0 637 yJ1_indexOf_4cfef ∈ pg_gd := pg_g (pg_t3 66 rfl) rfl
theorem lkJ1_88 : Cond.methodLink RJ1 88 yJ1_canEncode_9a6ad ∈ pg_gd := pg_g (pg_t3 69 rfl) rfl
theorem lkJ1_92 : Cond.methodLink RJ1 92 yJ9_max_7cf53 ∈ pg_gd := pg_g (pg_t3 72 rfl) rfl
theorem lkJ1_38 : Cond.methodLink RJ1 38 yJ9_min_7cf53 ∈ pg_gd := pg_g (pg_t3 73 rfl) rfl
theorem lkJ1_95 : Cond.methodLink RJ1 95 yJ1_indexOfChar_4cfef ∈ pg_gd := pg_g (pg_t3 74 rfl) rfl
theorem lkJ0_640 : Cond.methodLink RJ0 640 yJ2_indexOf_4cfef ∈ pg_gd := pg_g (pg_t3 77 rfl) rfl
theorem lkJ2_224 : Cond.methodLink RJ2 224 yJ9_max_7cf53 ∈ pg_gd := pg_g (pg_t3 80 rfl) rfl
theorem lkJ2_183 : Cond.methodLink RJ2 183 yJ9_min_7cf53 ∈ pg_gd := pg_g (pg_t3 81 rfl) rfl
theorem lkJ2_228 : Cond.methodLink RJ2 228 yJ2_indexOfChar_4cfef ∈ pg_gd := pg_g (pg_t3 83 rfl) rfl
theorem lkJ2_96 : Cond.methodLink RJ2 96 yJ2_checkBoundsBeginEnd_d044e ∈ pg_gd := pg_g (pg_t3 86 rfl) rfl
theorem lkJ2_241 : Cond.methodLink RJ2 241 yJ0_checkBoundsBeginEnd_23922 ∈ pg_gd := pg_g (pg_t3 89 rfl) rfl
theorem lkJ0_1062 : Cond.methodLink RJ0 1062 yJ3_checkFromToIndex_8c36e ∈ pg_gd := pg_g (pg_t3 92 rfl) rfl
theorem lkJ2_244 : Cond.methodLink RJ2 244 yJ2_indexOfCharUnsafe_4cfef ∈ pg_gd := pg_g (pg_t3 95 rfl) rfl
theorem lkJ2_232 : Cond.methodLink RJ2 232 yJ2_indexOfSupplementary_4cfef ∈ pg_gd := pg_g (pg_t3 98 rfl) rfl
theorem lkJ2_164 : Cond.methodLink RJ2 164 yJ11_isValidCodePoint_9a6ad ∈ pg_gd := pg_g (pg_t3 101 rfl) rfl
theorem lkJ2_157 : Cond.methodLink RJ2 157 yJ11_highSurrogate_5068e ∈ pg_gd := pg_g (pg_t3 104 rfl) rfl
theorem lkJ2_161 : Cond.methodLink RJ2 161 yJ11_lowSurrogate_5068e ∈ pg_gd := pg_g (pg_t3 108 rfl) rfl
theorem lkX7_38 : Cond.methodLink RX7 38 yX7_readTold ∈ pg_gd := pg_g (pg_t3 112 rfl) rfl
theorem lkX7_58 : Cond.methodLink RX7 58 yX7_readCloth ∈ pg_gd := pg_g (pg_t3 116 rfl) rfl
theorem lkX7_68 : Cond.methodLink RX7 68 yX7_fail ∈ pg_gd := pg_g (pg_t3 120 rfl) rfl
theorem lkX7_78 : Cond.methodLink RX7 78 yX7_isName ∈ pg_gd := pg_g (pg_t3 124 rfl) rfl
theorem lkX7_86 : Cond.methodLink RX7 86 yX5_clothNamed ∈ pg_gd := pg_g (pg_t3 128 rfl) rfl
theorem lkX7_101 : Cond.methodLink RX7 101 yX7_readMeasure ∈ pg_gd := pg_g (pg_t3 132 rfl) rfl
theorem lkX7_111 : Cond.methodLink RX7 111 yX7_readNumber ∈ pg_gd := pg_g (pg_t3 136 rfl) rfl
theorem lkX7_166 : Cond.methodLink RX7 166 yX7_numberHere ∈ pg_gd := pg_g (pg_t3 140 rfl) rfl
theorem lkX7_61 : Cond.methodLink RX7 61 yX7_readClash ∈ pg_gd := pg_g (pg_t3 144 rfl) rfl
theorem lkX7_115 : Cond.methodLink RX7 115 yX7_readNamed ∈ pg_gd := pg_g (pg_t3 148 rfl) rfl
theorem lkX7_119 : Cond.methodLink RX7 119 yX7_namedHere ∈ pg_gd := pg_g (pg_t3 152 rfl) rfl
theorem lkX7_122 : Cond.methodLink RX7 122 yX5_clashTold ∈ pg_gd := pg_g (pg_t3 156 rfl) rfl
theorem lkX5_80 : Cond.methodLink RX5 80 yJ9_min_7cf53 ∈ pg_gd := pg_g (pg_t3 160 rfl) rfl
theorem lkX5_86 : Cond.methodLink RX5 86 yJ9_max_7cf53 ∈ pg_gd := pg_g (pg_t3 161 rfl) rfl
theorem lkX7_126 : Cond.methodLink RX7 126 yX5_addClash ∈ pg_gd := pg_g (pg_t3 162 rfl) rfl
theorem lkX7_64 : Cond.methodLink RX7 64 yX7_readOnce ∈ pg_gd := pg_g (pg_t3 166 rfl) rfl
theorem lkX7_133 : Cond.methodLink RX7 133 yX7_readRow ∈ pg_gd := pg_g (pg_t3 170 rfl) rfl
theorem lkX7_156 : Cond.methodLink RX7 156 yX8_clear ∈ pg_gd := pg_g (pg_t3 174 rfl) rfl
theorem lkX7_159 : Cond.methodLink RX7 159 yX7_readTests ∈ pg_gd := pg_g (pg_t3 175 rfl) rfl
theorem lkX7_180 : Cond.methodLink RX7 180 yX7_readTest ∈ pg_gd := pg_g (pg_t3 179 rfl) rfl
theorem lkX7_185 : Cond.methodLink RX7 185 yX7_readSum ∈ pg_gd := pg_g (pg_t3 183 rfl) rfl
theorem lkX7_188 : Cond.methodLink RX7 188 yX7_readProduct ∈ pg_gd := pg_g (pg_t3 187 rfl) rfl
theorem lkX7_191 : Cond.methodLink RX7 191 yX7_readPart ∈ pg_gd := pg_g (pg_t3 191 rfl) rfl
theorem lkX7_72 : Cond.methodLink RX7 72 yX7_expectSign ∈ pg_gd := pg_g (pg_t3 195 rfl) rfl
theorem lkX7_183 : Cond.methodLink RX7 183 yX8_add ∈ pg_gd := pg_g (pg_t3 199 rfl) rfl
theorem lkX10_97 : Cond.methodLink RX10 97 yX9_begin ∈ pg_gd := pg_g (pg_t3 200 rfl) rfl
theorem lkX9_24 : Cond.methodLink RX9 24 yJ7_fill_53178 ∈ pg_gd := pg_g (pg_t3 204 rfl) rfl
theorem lkX10_101 : Cond.methodLink RX10 101 yX1_clear ∈ pg_gd := pg_g (pg_t3 208 rfl) rfl
theorem lkX10_104 : Cond.methodLink RX10 104 yX2_clear ∈ pg_gd := pg_g (pg_t3 212 rfl) rfl
theorem lkX10_105 : Cond.methodLink RX10 105 yX6_clear ∈ pg_gd := pg_g (pg_t3 216 rfl) rfl
theorem lkL_31 : Cond.methodLink RL 31 yX10_day ∈ pg_gd := pg_g (pg_t3 221 rfl) rfl
theorem lkX10_106 : Cond.methodLink RX10 106 yX7_readDay ∈ pg_gd := pg_g (pg_t3 225 rfl) rfl
theorem lkX7_42 : Cond.methodLink RX7 42 yX1_clear ∈ pg_gd := pg_g (pg_t3 229 rfl) rfl
theorem lkX7_45 : Cond.methodLink RX7 45 yX7_readDone ∈ pg_gd := pg_g (pg_t3 230 rfl) rfl
theorem lkX7_172 : Cond.methodLink RX7 172 yX7_readPegs ∈ pg_gd := pg_g (pg_t3 234 rfl) rfl
theorem lkX7_176 : Cond.methodLink RX7 176 yX1_add ∈ pg_gd := pg_g (pg_t3 238 rfl) rfl
theorem lkL_35 : Cond.methodLink RL 35 yX10_cloth ∈ pg_gd := pg_g (pg_t4 2 rfl) rfl
theorem lkX10_110 : Cond.methodLink RX10 110 yX5_has ∈ pg_gd := pg_g (pg_t4 6 rfl) rfl
theorem lkX10_127 : Cond.methodLink RX10 127 yX9_isLaw ∈ pg_gd := pg_g (pg_t4 10 rfl) rfl
theorem lkX9_47 : Cond.methodLink RX9 47 yJ6_bitCount_0f7a4 ∈ pg_gd := pg_g (pg_t4 14 rfl) rfl
theorem lkX9_53 : Cond.methodLink RX9 53 yX5_pegsFor ∈ pg_gd := pg_g (pg_t4 20 rfl) rfl
theorem lkX10_131 : Cond.methodLink RX10 131 yX9_isTurned ∈ pg_gd := pg_g (pg_t4 24 rfl) rfl
theorem lkX10_134 : Cond.methodLink RX10 134 yX9_roomOf ∈ pg_gd := pg_g (pg_t4 28 rfl) rfl
theorem lkX9_74 : Cond.methodLink RX9 74 yX9_roomBy ∈ pg_gd := pg_g (pg_t4 32 rfl) rfl
theorem lkX10_141 : Cond.methodLink RX10 141 yX5_windAt ∈ pg_gd := pg_g (pg_t4 35 rfl) rfl
theorem lkX5_95 : Cond.methodLink RX5 95 yJ9_floorMod_7cf53 ∈ pg_gd := pg_g (pg_t4 39 rfl) rfl
theorem lkX10_145 : Cond.methodLink RX10 145 yX5_pullOn ∈ pg_gd := pg_g (pg_t4 42 rfl) rfl
theorem lkX5_98 : Cond.methodLink RX5 98 yX5_massOf ∈ pg_gd := pg_g (pg_t4 46 rfl) rfl
theorem lkX5_101 : Cond.methodLink RX5 101 yX8_value ∈ pg_gd := pg_g (pg_t4 50 rfl) rfl
theorem lkX8_22 : Cond.methodLink RX8 22 yX8_fact ∈ pg_gd := pg_g (pg_t4 54 rfl) rfl
theorem lkX8_26 : Cond.methodLink RX8 26 yX8_joined ∈ pg_gd := pg_g (pg_t4 57 rfl) rfl
theorem lkL_40 : Cond.methodLink RL 40 yX10_peg ∈ pg_gd := pg_g (pg_t4 60 rfl) rfl
theorem lkX10_155 : Cond.methodLink RX10 155 yX9_heldBy ∈ pg_gd := pg_g (pg_t4 64 rfl) rfl
theorem lkL_44 : Cond.methodLink RL 44 yX10_free ∈ pg_gd := pg_g (pg_t4 68 rfl) rfl
theorem lkX10_158 : Cond.methodLink RX10 158 yX9_freePegs ∈ pg_gd := pg_g (pg_t4 72 rfl) rfl
theorem lkX9_85 : Cond.methodLink RX9 85 yX9_unsplitPegs ∈ pg_gd := pg_g (pg_t4 76 rfl) rfl
theorem lkL_48 : Cond.methodLink RL 48 yX10_laws ∈ pg_gd := pg_g (pg_t4 80 rfl) rfl
theorem lkX10_162 : Cond.methodLink RX10 162 yX9_lawBits ∈ pg_gd := pg_g (pg_t4 84 rfl) rfl
theorem lkX9_59 : Cond.methodLink RX9 59 yX9_isLaw ∈ pg_gd := pg_g (pg_t4 88 rfl) rfl
theorem lkL_52 : Cond.methodLink RL 52 yX10_hang ∈ pg_gd := pg_g (pg_t4 89 rfl) rfl
theorem lkX10_165 : Cond.methodLink RX10 165 yX6_draft ∈ pg_gd := pg_g (pg_t4 93 rfl) rfl
theorem lkX6_39 : Cond.methodLink RX6 39 yX9_copyFrom ∈ pg_gd := pg_g (pg_t4 97 rfl) rfl
theorem lkX10_169 : Cond.methodLink RX10 169 yX9_hangUp ∈ pg_gd := pg_g (pg_t4 101 rfl) rfl
theorem lkX9_104 : Cond.methodLink RX9 104 yX5_has ∈ pg_gd := pg_g (pg_t4 105 rfl) rfl
theorem lkX9_89 : Cond.methodLink RX9 89 yX9_freePegs ∈ pg_gd := pg_g (pg_t4 106 rfl) rfl
theorem lkX9_107 : Cond.methodLink RX9 107 yX9_roomLeft ∈ pg_gd := pg_g (pg_t4 107 rfl) rfl
theorem lkX9_81 : Cond.methodLink RX9 81 yX9_roomOf ∈ pg_gd := pg_g (pg_t4 111 rfl) rfl
theorem lkX10_173 : Cond.methodLink RX10 173 yX6_keepDraft ∈ pg_gd := pg_g (pg_t4 112 rfl) rfl
theorem lkX6_43 : Cond.methodLink RX6 43 yJ9_min_7cf53 ∈ pg_gd := pg_g (pg_t4 116 rfl) rfl
theorem lkX10_176 : Cond.methodLink RX10 176 yX9_roomLeft ∈ pg_gd := pg_g (pg_t4 117 rfl) rfl
theorem lkL_56 : Cond.methodLink RL 56 yX10_take ∈ pg_gd := pg_g (pg_t4 118 rfl) rfl
theorem lkX10_179 : Cond.methodLink RX10 179 yX9_takeIn ∈ pg_gd := pg_g (pg_t4 122 rfl) rfl
theorem lkL_61 : Cond.methodLink RL 61 yX10_wash ∈ pg_gd := pg_g (pg_t4 126 rfl) rfl
theorem lkX10_182 : Cond.methodLink RX10 182 yX9_washOut ∈ pg_gd := pg_g (pg_t4 130 rfl) rfl
theorem lkL_66 : Cond.methodLink RL 66 yX10_buy ∈ pg_gd := pg_g (pg_t4 134 rfl) rfl
theorem lkX10_185 : Cond.methodLink RX10 185 yX9_addPeg ∈ pg_gd := pg_g (pg_t4 138 rfl) rfl
theorem lkL_70 : Cond.methodLink RL 70 yX10_hour ∈ pg_gd := pg_g (pg_t4 142 rfl) rfl
theorem lkX10_188 : Cond.methodLink RX10 188 yX9_passHour ∈ pg_gd := pg_g (pg_t4 146 rfl) rfl
theorem lkX9_110 : Cond.methodLink RX9 110 yX5_windAt ∈ pg_gd := pg_g (pg_t4 150 rfl) rfl
theorem lkX9_113 : Cond.methodLink RX9 113 yX9_fallsBy ∈ pg_gd := pg_g (pg_t4 151 rfl) rfl
theorem lkX9_121 : Cond.methodLink RX9 121 yX5_pullOn ∈ pg_gd := pg_g (pg_t4 155 rfl) rfl
theorem lkX9_124 : Cond.methodLink RX9 124 yX9_gripsOf ∈ pg_gd := pg_g (pg_t4 156 rfl) rfl
theorem lkX9_95 : Cond.methodLink RX9 95 yX9_gripsLess ∈ pg_gd := pg_g (pg_t4 160 rfl) rfl
theorem lkX9_99 : Cond.methodLink RX9 99 yJ9_max_7cf53 ∈ pg_gd := pg_g (pg_t4 164 rfl) rfl
theorem lkX9_127 : Cond.methodLink RX9 127 yX9_weaken ∈ pg_gd := pg_g (pg_t4 165 rfl) rfl
theorem lkX9_131 : Cond.methodLink RX9 131 yJ9_min_7cf53 ∈ pg_gd := pg_g (pg_t4 169 rfl) rfl
theorem lkX9_117 : Cond.methodLink RX9 117 yX5_wetAfter ∈ pg_gd := pg_g (pg_t4 170 rfl) rfl
theorem lkL_74 : Cond.methodLink RL 74 yX10_undo ∈ pg_gd := pg_g (pg_t4 174 rfl) rfl
theorem lkX10_191 : Cond.methodLink RX10 191 yX6_stepBack ∈ pg_gd := pg_g (pg_t4 178 rfl) rfl
theorem lkL_79 : Cond.methodLink RL 79 yX10_judged ∈ pg_gd := pg_g (pg_t4 182 rfl) rfl
theorem lkX10_195 : Cond.methodLink RX10 195 yX1_judge ∈ pg_gd := pg_g (pg_t4 186 rfl) rfl
theorem lkX1_31 : Cond.methodLink RX1 31 yX9_begin ∈ pg_gd := pg_g (pg_t4 190 rfl) rfl
theorem lkX1_37 : Cond.methodLink RX1 37 yX9_passHour ∈ pg_gd := pg_g (pg_t4 191 rfl) rfl
theorem lkX1_41 : Cond.methodLink RX1 41 yX1_canDo ∈ pg_gd := pg_g (pg_t4 192 rfl) rfl
theorem lkX1_45 : Cond.methodLink RX1 45 yX9_hangUp ∈ pg_gd := pg_g (pg_t4 196 rfl) rfl
theorem lkX1_49 : Cond.methodLink RX1 49 yX9_takeIn ∈ pg_gd := pg_g (pg_t4 197 rfl) rfl
theorem lkX1_53 : Cond.methodLink RX1 53 yX9_washOut ∈ pg_gd := pg_g (pg_t4 198 rfl) rfl
theorem lkX1_56 : Cond.methodLink RX1 56 yX9_addPeg ∈ pg_gd := pg_g (pg_t4 199 rfl) rfl
theorem lkX10_205 : Cond.methodLink RX10 205 yX9_worthOfLaws ∈ pg_gd := pg_g (pg_t4 200 rfl) rfl
theorem lkX9_67 : Cond.methodLink RX9 67 yX9_lawBits ∈ pg_gd := pg_g (pg_t4 204 rfl) rfl
theorem lkX9_71 : Cond.methodLink RX9 71 yX5_worthOf ∈ pg_gd := pg_g (pg_t4 205 rfl) rfl
theorem lkL_83 : Cond.methodLink RL 83 yX10_holds ∈ pg_gd := pg_g (pg_t4 209 rfl) rfl
theorem lkX10_208 : Cond.methodLink RX10 208 yX9_copyFrom ∈ pg_gd := pg_g (pg_t4 213 rfl) rfl
theorem lkX10_211 : Cond.methodLink RX10 211 yX9_passAlone ∈ pg_gd := pg_g (pg_t4 214 rfl) rfl
theorem lkL_87 : Cond.methodLink RL 87 yX10_clashes ∈ pg_gd := pg_g (pg_t4 218 rfl) rfl
theorem lkX10_214 : Cond.methodLink RX10 214 yX5_clashesAmong ∈ pg_gd := pg_g (pg_t4 222 rfl) rfl
theorem lkX5_89 : Cond.methodLink RX5 89 yJ6_bitCount_0f7a4 ∈ pg_gd := pg_g (pg_t4 226 rfl) rfl
theorem lkL_91 : Cond.methodLink RL 91 yX10_mend ∈ pg_gd := pg_g (pg_t4 227 rfl) rfl
theorem lkX10_217 : Cond.methodLink RX10 217 yX5_worthOf ∈ pg_gd := pg_g (pg_t4 231 rfl) rfl
theorem lkL_95 : Cond.methodLink RL 95 yX10_fill ∈ pg_gd := pg_g (pg_t4 232 rfl) rfl
theorem lkX10_220 : Cond.methodLink RX10 220 yX3_plan ∈ pg_gd := pg_g (pg_t4 236 rfl) rfl
theorem lkX3_52 : Cond.methodLink RX3 52 yX3_chooseFor ∈ pg_gd := pg_g (pg_t5 0 rfl) rfl
theorem lkX3_79 : Cond.methodLink RX3 79 yX5_pegsFor ∈ pg_gd := pg_g (pg_t5 4 rfl) rfl
theorem lkX3_83 : Cond.methodLink RX3 83 yX9_unsplitPegs ∈ pg_gd := pg_g (pg_t5 5 rfl) rfl
theorem lkX3_87 : Cond.methodLink RX3 87 yX3_mostPull ∈ pg_gd := pg_g (pg_t5 6 rfl) rfl
theorem lkX3_108 : Cond.methodLink RX3 108 yX5_windAt ∈ pg_gd := pg_g (pg_t5 9 rfl) rfl
theorem lkX3_111 : Cond.methodLink RX3 111 yX5_pullOn ∈ pg_gd := pg_g (pg_t5 10 rfl) rfl
theorem lkX3_69 : Cond.methodLink RX3 69 yJ9_max_7cf53 ∈ pg_gd := pg_g (pg_t5 11 rfl) rfl
theorem lkX3_115 : Cond.methodLink RX3 115 yX5_wetAfter ∈ pg_gd := pg_g (pg_t5 12 rfl) rfl
theorem lkX3_94 : Cond.methodLink RX3 94 yJ6_bitCount_0f7a4 ∈ pg_gd := pg_g (pg_t5 13 rfl) rfl
theorem lkX3_99 : Cond.methodLink RX3 99 yX9_gripsOf ∈ pg_gd := pg_g (pg_t5 14 rfl) rfl
theorem lkX3_56 : Cond.methodLink RX3 56 yJ7_fill_d0a16 ∈ pg_gd := pg_g (pg_t5 15 rfl) rfl
theorem lkX3_65 : Cond.methodLink RX3 65 yX3_holdSet ∈ pg_gd := pg_g (pg_t5 18 rfl) rfl
theorem lkX3_118 : Cond.methodLink RX3 118 yJ6_numberOfLeadingZeros_0f7a4 ∈ pg_gd := pg_g (pg_t5 22 rfl) rfl
theorem lkX3_126 : Cond.methodLink RX3 126 yX3_holdsBy ∈ pg_gd := pg_g (pg_t5 26 rfl) rfl
theorem lkX3_130 : Cond.methodLink RX3 130 yX3_holdMore ∈ pg_gd := pg_g (pg_t5 30 rfl) rfl
theorem lkX3_75 : Cond.methodLink RX3 75 yX3_layRow ∈ pg_gd := pg_g (pg_t5 34 rfl) rfl
theorem lkX3_134 : Cond.methodLink RX3 134 yX3_firstChoice ∈ pg_gd := pg_g (pg_t5 38 rfl) rfl
theorem lkX3_138 : Cond.methodLink RX3 138 yX3_canEnd ∈ pg_gd := pg_g (pg_t5 42 rfl) rfl
theorem lkX3_142 : Cond.methodLink RX3 142 yX3_holdsWithout ∈ pg_gd := pg_g (pg_t5 46 rfl) rfl
theorem lkL_99 : Cond.methodLink RL 99 yX10_odds ∈ pg_gd := pg_g (pg_t5 50 rfl) rfl
theorem lkX10_229 : Cond.methodLink RX10 229 yX0_millionths ∈ pg_gd := pg_g (pg_t5 54 rfl) rfl
theorem lkX0_18 : Cond.methodLink RX0 18 yJ7_fill_d0a16 ∈ pg_gd := pg_g (pg_t5 58 rfl) rfl
theorem lkX0_34 : Cond.methodLink RX0 34 yX5_windAt ∈ pg_gd := pg_g (pg_t5 59 rfl) rfl
theorem lkX0_43 : Cond.methodLink RX0 43 yX0_goOn ∈ pg_gd := pg_g (pg_t5 60 rfl) rfl
theorem lkX0_57 : Cond.methodLink RX0 57 yX5_pullOn ∈ pg_gd := pg_g (pg_t5 64 rfl) rfl
theorem lkX0_64 : Cond.methodLink RX0 64 yX9_gripsLess ∈ pg_gd := pg_g (pg_t5 65 rfl) rfl
theorem lkX0_68 : Cond.methodLink RX0 68 yX5_wetAfter ∈ pg_gd := pg_g (pg_t5 66 rfl) rfl
theorem lkL_103 : Cond.methodLink RL 103 yX10_dry ∈ pg_gd := pg_g (pg_t5 70 rfl) rfl
theorem lkX10_233 : Cond.methodLink RX10 233 yX4_plan ∈ pg_gd := pg_g (pg_t5 74 rfl) rfl
theorem lkX4_44 : Cond.methodLink RX4 44 yX4_dryAt ∈ pg_gd := pg_g (pg_t5 78 rfl) rfl
theorem lkX4_59 : Cond.methodLink RX4 59 yX5_windAt ∈ pg_gd := pg_g (pg_t5 81 rfl) rfl
theorem lkX4_62 : Cond.methodLink RX4 62 yX5_wetAfter ∈ pg_gd := pg_g (pg_t5 82 rfl) rfl
theorem lkX4_48 : Cond.methodLink RX4 48 yX4_soonestOf ∈ pg_gd := pg_g (pg_t5 83 rfl) rfl
theorem lkX4_66 : Cond.methodLink RX4 66 yX4_dryIfNext ∈ pg_gd := pg_g (pg_t5 87 rfl) rfl
theorem lkX4_75 : Cond.methodLink RX4 75 yJ6_bitCount_0f7a4 ∈ pg_gd := pg_g (pg_t5 91 rfl) rfl
theorem lkX4_80 : Cond.methodLink RX4 80 yJ9_max_7cf53 ∈ pg_gd := pg_g (pg_t5 92 rfl) rfl
theorem lkX4_70 : Cond.methodLink RX4 70 yJ9_min_7cf53 ∈ pg_gd := pg_g (pg_t5 93 rfl) rfl
theorem lkX4_55 : Cond.methodLink RX4 55 yX4_layOrder ∈ pg_gd := pg_g (pg_t5 94 rfl) rfl
theorem lkX4_83 : Cond.methodLink RX4 83 yX4_firstInTime ∈ pg_gd := pg_g (pg_t5 98 rfl) rfl
theorem lkL_107 : Cond.methodLink RL 107 yX10_feel ∈ pg_gd := pg_g (pg_t5 102 rfl) rfl
theorem lkX10_244 : Cond.methodLink RX10 244 yX2_add ∈ pg_gd := pg_g (pg_t5 106 rfl) rfl
theorem lkL_112 : Cond.methodLink RL 112 yX10_starts ∈ pg_gd := pg_g (pg_t5 110 rfl) rfl
theorem lkX10_248 : Cond.methodLink RX10 248 yX2_startBits ∈ pg_gd := pg_g (pg_t5 114 rfl) rfl
theorem lkX2_42 : Cond.methodLink RX2 42 yX2_allSo ∈ pg_gd := pg_g (pg_t5 118 rfl) rfl
theorem lkX2_46 : Cond.methodLink RX2 46 yX5_windAt ∈ pg_gd := pg_g (pg_t5 122 rfl) rfl
theorem lkX2_50 : Cond.methodLink RX2 50 yX5_wetAfter ∈ pg_gd := pg_g (pg_t5 123 rfl) rfl
theorem lkL_116 : Cond.methodLink RL 116 yX10_ask ∈ pg_gd := pg_g (pg_t5 124 rfl) rfl
theorem lkX10_251 : Cond.methodLink RX10 251 yX2_bestHours ∈ pg_gd := pg_g (pg_t5 128 rfl) rfl
theorem lkX2_54 : Cond.methodLink RX2 54 yX2_startBits ∈ pg_gd := pg_g (pg_t5 132 rfl) rfl
theorem lkX2_58 : Cond.methodLink RX2 58 yJ6_bitCount_0f7a4 ∈ pg_gd := pg_g (pg_t5 133 rfl) rfl
theorem lkX2_63 : Cond.methodLink RX2 63 yJ7_fill_53178 ∈ pg_gd := pg_g (pg_t5 134 rfl) rfl
theorem lkX2_69 : Cond.methodLink RX2 69 yX2_mostAlike ∈ pg_gd := pg_g (pg_t5 135 rfl) rfl
theorem lkX2_72 : Cond.methodLink RX2 72 yJ9_max_7cf53 ∈ pg_gd := pg_g (pg_t5 139 rfl) rfl
theorem lkL_120 : Cond.methodLink RL 120 yX10_change ∈ pg_gd := pg_g (pg_t5 140 rfl) rfl
theorem lkX10_254 : Cond.methodLink RX10 254 yX10_worthBehind ∈ pg_gd := pg_g (pg_t5 144 rfl) rfl
theorem lkL_133 : Cond.methodLink RL 133 yX10_decades ∈ pg_gd := pg_g (pg_t5 148 rfl) rfl
theorem lkX10_274 : Cond.methodLink RX10 274 yX10_handleByDraws ∈ pg_gd := pg_g (pg_t5 152 rfl) rfl
theorem lkX10_277 : Cond.methodLink RX10 277 yX10_draw ∈ pg_gd := pg_g (pg_t5 156 rfl) rfl
theorem lkX10_316 : Cond.methodLink RX10 316 yX5_pegsFor ∈ pg_gd := pg_g (pg_t5 164 rfl) rfl
theorem lkX10_319 : Cond.methodLink RX10 319 yX9_firstFree ∈ pg_gd := pg_g (pg_t5 165 rfl) rfl
theorem lkX9_92 : Cond.methodLink RX9 92 yJ6_lowestOneBit_0f7a4 ∈ pg_gd := pg_g (pg_t5 169 rfl) rfl
theorem lkX10_283 : Cond.methodLink RX10 283 yJ6_bitCount_0f7a4 ∈ pg_gd := pg_g (pg_t5 172 rfl) rfl
theorem lkX10_288 : Cond.methodLink RX10 288 yX9_gripsOf ∈ pg_gd := pg_g (pg_t5 173 rfl) rfl
theorem lkL_138 : Cond.methodLink RL 138 yX10_mark ∈ pg_gd := pg_g (pg_t5 174 rfl) rfl
theorem lkX10_291 : Cond.methodLink RX10 291 yX6_goBack ∈ pg_gd := pg_g (pg_t5 178 rfl) rfl
theorem lkX6_49 : Cond.methodLink RX6 49 yX2_copyFrom ∈ pg_gd := pg_g (pg_t5 182 rfl) rfl
theorem lkX10_295 : Cond.methodLink RX10 295 yX6_lay ∈ pg_gd := pg_g (pg_t5 187 rfl) rfl
theorem lkL_143 : Cond.methodLink RL 143 yX10_count ∈ pg_gd := pg_g (pg_t5 191 rfl) rfl
theorem lkX10_305 : Cond.methodLink RX10 305 yX9_turnedBits ∈ pg_gd := pg_g (pg_t5 195 rfl) rfl
theorem lkX9_63 : Cond.methodLink RX9 63 yX9_isTurned ∈ pg_gd := pg_g (pg_t5 199 rfl) rfl
theorem lkL_124 : Cond.methodLink RL 124 yL_rests ∈ pg_gd := pg_g (pg_t5 200 rfl) rfl
theorem lkL_7 : Cond.methodLink RL 7 yX10_rests ∈ pg_gd := pg_g (pg_t5 204 rfl) rfl
theorem lkX10_258 : Cond.methodLink RX10 258 yX10_isWorth ∈ pg_gd := pg_g (pg_t5 208 rfl) rfl
theorem lkX10_268 : Cond.methodLink RX10 268 yX10_isRest ∈ pg_gd := pg_g (pg_t6 36 rfl) rfl
theorem lkX10_330 : Cond.methodLink RX10 330 yX10_loot ∈ pg_gd := pg_g (pg_t6 39 rfl) rfl
theorem lkL_130 : Cond.methodLink RL 130 yX11_thrown ∈ pg_gd := pg_g (pg_t6 43 rfl) rfl
theorem lkL_25 : Cond.methodLink RL 25 yX11_feed ∈ pg_gd := pg_g (pg_t6 47 rfl) rfl
theorem lkX11_7 : Cond.methodLink RX11 7 yX11_lay ∈ pg_gd := pg_g (pg_t6 51 rfl) rfl
theorem lkL_18 : Cond.methodLink RL 18 yX11_init ∈ pg_gd := pg_g (pg_t6 57 rfl) rfl
theorem lkX11_144 : Cond.methodLink RX11 144 yX11_standsAsAlways ∈ pg_gd := pg_g (pg_t6 87 rfl) rfl
theorem lkX11_148 : Cond.methodLink RX11 148 yX11_begins ∈ pg_gd := pg_g (pg_t6 91 rfl) rfl
theorem lkX11_282 : Cond.methodLink RX11 282 yX11_starts ∈ pg_gd := pg_g (pg_t6 95 rfl) rfl
theorem lkL_30 : Cond.methodLink RL 30 yX11_line ∈ pg_gd := pg_g (pg_t6 214 rfl) rfl
theorem lkX11_219 : Cond.methodLink RX11 219 yX11_cutAll ∈ pg_gd := pg_g (pg_t6 218 rfl) rfl
theorem lkX11_151 : Cond.methodLink RX11 151 yX11_isLetter ∈ pg_gd := pg_g (pg_t6 222 rfl) rfl
theorem lkX11_160 : Cond.methodLink RX11 160 yX11_rank ∈ pg_gd := pg_g (pg_t6 226 rfl) rfl
theorem lkX11_164 : Cond.methodLink RX11 164 yX11_isDigit ∈ pg_gd := pg_g (pg_t6 229 rfl) rfl
theorem lkX11_171 : Cond.methodLink RX11 171 yX11_isSignOf ∈ pg_gd := pg_g (pg_t6 234 rfl) rfl
theorem lkX11_186 : Cond.methodLink RX11 186 yX11_isWord ∈ pg_gd := pg_g (pg_t6 237 rfl) rfl
theorem lkX11_228 : Cond.methodLink RX11 228 yX11_readCloth ∈ pg_gd := pg_g (pg_t7 1 rfl) rfl
theorem lkX11_183 : Cond.methodLink RX11 183 yX11_wrong ∈ pg_gd := pg_g (pg_t7 5 rfl) rfl
theorem lkX11_208 : Cond.methodLink RX11 208 yX11_isName ∈ pg_gd := pg_g (pg_t7 9 rfl) rfl
theorem lkX11_199 : Cond.methodLink RX11 199 yX11_wordHere ∈ pg_gd := pg_g (pg_t7 13 rfl) rfl
theorem lkX11_212 : Cond.methodLink RX11 212 yX11_find ∈ pg_gd := pg_g (pg_t7 17 rfl) rfl
theorem lkX11_240 : Cond.methodLink RX11 240 yX11_takeOne ∈ pg_gd := pg_g (pg_t7 21 rfl) rfl
theorem lkX11_243 : Cond.methodLink RX11 243 yX11_takeAfter ∈ pg_gd := pg_g (pg_t7 25 rfl) rfl
theorem lkX11_192 : Cond.methodLink RX11 192 yX11_takeWord ∈ pg_gd := pg_g (pg_t7 29 rfl) rfl
theorem lkX11_189 : Cond.methodLink RX11 189 yX11_hasWord ∈ pg_gd := pg_g (pg_t7 33 rfl) rfl
theorem lkX11_195 : Cond.methodLink RX11 195 yX11_takeNumber ∈ pg_gd := pg_g (pg_t7 37 rfl) rfl
theorem lkX11_231 : Cond.methodLink RX11 231 yX11_readClash ∈ pg_gd := pg_g (pg_t7 41 rfl) rfl
theorem lkX11_247 : Cond.methodLink RX11 247 yX11_takeTold ∈ pg_gd := pg_g (pg_t7 45 rfl) rfl
theorem lkX11_216 : Cond.methodLink RX11 216 yX11_toldHere ∈ pg_gd := pg_g (pg_t7 49 rfl) rfl
theorem lkX11_234 : Cond.methodLink RX11 234 yX11_readOnce ∈ pg_gd := pg_g (pg_t7 53 rfl) rfl
theorem lkX11_250 : Cond.methodLink RX11 250 yX11_readRow ∈ pg_gd := pg_g (pg_t7 57 rfl) rfl
theorem lkX11_253 : Cond.methodLink RX11 253 yX11_all ∈ pg_gd := pg_g (pg_t7 61 rfl) rfl
theorem lkX11_264 : Cond.methodLink RX11 264 yX11_test ∈ pg_gd := pg_g (pg_t7 65 rfl) rfl
theorem lkX11_267 : Cond.methodLink RX11 267 yX11_sums ∈ pg_gd := pg_g (pg_t7 69 rfl) rfl
theorem lkX11_273 : Cond.methodLink RX11 273 yX11_products ∈ pg_gd := pg_g (pg_t7 73 rfl) rfl
theorem lkX11_276 : Cond.methodLink RX11 276 yX11_takePart ∈ pg_gd := pg_g (pg_t7 77 rfl) rfl
theorem lkX11_180 : Cond.methodLink RX11 180 yX11_isSign ∈ pg_gd := pg_g (pg_t7 81 rfl) rfl
theorem lkX11_256 : Cond.methodLink RX11 256 yX11_emit ∈ pg_gd := pg_g (pg_t7 85 rfl) rfl
theorem lkX11_270 : Cond.methodLink RX11 270 yX11_hasSign ∈ pg_gd := pg_g (pg_t7 89 rfl) rfl
theorem lkX11_237 : Cond.methodLink RX11 237 yX11_takeSign ∈ pg_gd := pg_g (pg_t7 93 rfl) rfl
theorem lkL_34 : Cond.methodLink RL 34 yX11_day ∈ pg_gd := pg_g (pg_t7 97 rfl) rfl
theorem lkX11_260 : Cond.methodLink RX11 260 yX11_readPegs ∈ pg_gd := pg_g (pg_t7 101 rfl) rfl
theorem lkL_39 : Cond.methodLink RL 39 yX11_cloth ∈ pg_gd := pg_g (pg_t7 105 rfl) rfl
theorem lkX11_346 : Cond.methodLink RX11 346 yX11_isCloth ∈ pg_gd := pg_g (pg_t7 109 rfl) rfl
theorem lkX11_292 : Cond.methodLink RX11 292 yX11_cloths ∈ pg_gd := pg_g (pg_t7 113 rfl) rfl
theorem lkX11_349 : Cond.methodLink RX11 349 yX11_within ∈ pg_gd := pg_g (pg_t7 117 rfl) rfl
theorem lkX11_295 : Cond.methodLink RX11 295 yX11_clothOf ∈ pg_gd := pg_g (pg_t7 120 rfl) rfl
theorem lkX11_343 : Cond.methodLink RX11 343 yX11_isLaw ∈ pg_gd := pg_g (pg_t7 124 rfl) rfl
theorem lkX11_298 : Cond.methodLink RX11 298 yX11_bits ∈ pg_gd := pg_g (pg_t7 128 rfl) rfl
theorem lkX11_301 : Cond.methodLink RX11 301 yX11_needs ∈ pg_gd := pg_g (pg_t7 131 rfl) rfl
theorem lkX11_352 : Cond.methodLink RX11 352 yX11_isTurned ∈ pg_gd := pg_g (pg_t7 135 rfl) rfl
theorem lkX11_304 : Cond.methodLink RX11 304 yX11_isHung ∈ pg_gd := pg_g (pg_t7 139 rfl) rfl
theorem lkX11_308 : Cond.methodLink RX11 308 yX11_roomBy ∈ pg_gd := pg_g (pg_t7 143 rfl) rfl
theorem lkX11_332 : Cond.methodLink RX11 332 yX11_windOf ∈ pg_gd := pg_g (pg_t7 147 rfl) rfl
theorem lkX11_317 : Cond.methodLink RX11 317 yX11_pullOf ∈ pg_gd := pg_g (pg_t7 151 rfl) rfl
theorem lkX11_311 : Cond.methodLink RX11 311 yX11_laysFacts ∈ pg_gd := pg_g (pg_t7 155 rfl) rfl
theorem lkX11_314 : Cond.methodLink RX11 314 yX11_worthAt ∈ pg_gd := pg_g (pg_t7 159 rfl) rfl
theorem lkX11_279 : Cond.methodLink RX11 279 yX11_both ∈ pg_gd := pg_g (pg_t7 163 rfl) rfl
theorem lkL_43 : Cond.methodLink RL 43 yX11_peg ∈ pg_gd := pg_g (pg_t7 166 rfl) rfl
theorem lkX11_355 : Cond.methodLink RX11 355 yX11_heldBy ∈ pg_gd := pg_g (pg_t7 170 rfl) rfl
theorem lkL_51 : Cond.methodLink RL 51 yX11_laws ∈ pg_gd := pg_g (pg_t7 174 rfl) rfl
theorem lkX11_358 : Cond.methodLink RX11 358 yX11_lawsOf ∈ pg_gd := pg_g (pg_t7 178 rfl) rfl
theorem lkL_47 : Cond.methodLink RL 47 yX11_free ∈ pg_gd := pg_g (pg_t7 182 rfl) rfl
theorem lkX11_361 : Cond.methodLink RX11 361 yX11_freePegs ∈ pg_gd := pg_g (pg_t7 186 rfl) rfl
theorem lkL_55 : Cond.methodLink RL 55 yX11_hang ∈ pg_gd := pg_g (pg_t7 190 rfl) rfl
theorem lkX11_367 : Cond.methodLink RX11 367 yX11_mayHang ∈ pg_gd := pg_g (pg_t7 194 rfl) rfl
theorem lkX11_364 : Cond.methodLink RX11 364 yX11_roomLeft ∈ pg_gd := pg_g (pg_t7 198 rfl) rfl
theorem lkX11_370 : Cond.methodLink RX11 370 yX11_keeps ∈ pg_gd := pg_g (pg_t7 202 rfl) rfl
theorem lkX11_288 : Cond.methodLink RX11 288 yX11_copies ∈ pg_gd := pg_g (pg_t7 206 rfl) rfl
theorem lkL_60 : Cond.methodLink RL 60 yX11_take ∈ pg_gd := pg_g (pg_t7 210 rfl) rfl
theorem lkL_65 : Cond.methodLink RL 65 yX11_wash ∈ pg_gd := pg_g (pg_t7 214 rfl) rfl
theorem lkX11_373 : Cond.methodLink RX11 373 yX11_washes ∈ pg_gd := pg_g (pg_t7 218 rfl) rfl
theorem lkL_69 : Cond.methodLink RL 69 yX11_buy ∈ pg_gd := pg_g (pg_t7 222 rfl) rfl
theorem lkX11_376 : Cond.methodLink RX11 376 yX11_buys ∈ pg_gd := pg_g (pg_t7 226 rfl) rfl
theorem lkL_73 : Cond.methodLink RL 73 yX11_hour ∈ pg_gd := pg_g (pg_t7 230 rfl) rfl
theorem lkX11_379 : Cond.methodLink RX11 379 yX11_passes ∈ pg_gd := pg_g (pg_t7 234 rfl) rfl
theorem lkX11_336 : Cond.methodLink RX11 336 yX11_pulls ∈ pg_gd := pg_g (pg_t7 238 rfl) rfl
theorem lkX11_320 : Cond.methodLink RX11 320 yX11_gripsOf ∈ pg_gd := pg_g (pg_t8 2 rfl) rfl
theorem lkX11_323 : Cond.methodLink RX11 323 yX11_loosens ∈ pg_gd := pg_g (pg_t8 6 rfl) rfl
theorem lkX11_326 : Cond.methodLink RX11 326 yX11_held ∈ pg_gd := pg_g (pg_t8 10 rfl) rfl
theorem lkX11_329 : Cond.methodLink RX11 329 yX11_falls ∈ pg_gd := pg_g (pg_t8 14 rfl) rfl
theorem lkX11_340 : Cond.methodLink RX11 340 yX11_driedOf ∈ pg_gd := pg_g (pg_t8 18 rfl) rfl
theorem lkL_78 : Cond.methodLink RL 78 yX11_undo ∈ pg_gd := pg_g (pg_t8 22 rfl) rfl
theorem lkL_82 : Cond.methodLink RL 82 yX11_judged ∈ pg_gd := pg_g (pg_t8 26 rfl) rfl
theorem lkX11_382 : Cond.methodLink RX11 382 yX11_does ∈ pg_gd := pg_g (pg_t8 30 rfl) rfl
theorem lkX11_385 : Cond.methodLink RX11 385 yX11_worthOf ∈ pg_gd := pg_g (pg_t8 34 rfl) rfl
theorem lkL_86 : Cond.methodLink RL 86 yX11_holds ∈ pg_gd := pg_g (pg_t8 38 rfl) rfl
theorem lkL_90 : Cond.methodLink RL 90 yX11_clashes ∈ pg_gd := pg_g (pg_t8 42 rfl) rfl
theorem lkX11_388 : Cond.methodLink RX11 388 yX11_clashesIn ∈ pg_gd := pg_g (pg_t8 46 rfl) rfl
theorem lkL_94 : Cond.methodLink RL 94 yX11_mend ∈ pg_gd := pg_g (pg_t8 50 rfl) rfl
theorem lkL_98 : Cond.methodLink RL 98 yX11_fill ∈ pg_gd := pg_g (pg_t8 54 rfl) rfl
theorem lkX11_401 : Cond.methodLink RX11 401 yX11_findHardest ∈ pg_gd := pg_g (pg_t8 58 rfl) rfl
theorem lkX11_397 : Cond.methodLink RX11 397 yX11_fills ∈ pg_gd := pg_g (pg_t8 62 rfl) rfl
theorem lkL_102 : Cond.methodLink RL 102 yX11_odds ∈ pg_gd := pg_g (pg_t8 66 rfl) rfl
theorem lkX11_404 : Cond.methodLink RX11 404 yX11_hanging ∈ pg_gd := pg_g (pg_t8 70 rfl) rfl
theorem lkL_106 : Cond.methodLink RL 106 yX11_dry ∈ pg_gd := pg_g (pg_t8 75 rfl) rfl
theorem lkX11_419 : Cond.methodLink RX11 419 yX11_driedBehind ∈ pg_gd := pg_g (pg_t8 79 rfl) rfl
theorem lkX11_416 : Cond.methodLink RX11 416 yX11_washesFrom ∈ pg_gd := pg_g (pg_t8 83 rfl) rfl
theorem lkL_111 : Cond.methodLink RL 111 yX11_feel ∈ pg_gd := pg_g (pg_t8 87 rfl) rfl
theorem lkL_115 : Cond.methodLink RL 115 yX11_starts_ ∈ pg_gd := pg_g (pg_t8 91 rfl) rfl
theorem lkX11_425 : Cond.methodLink RX11 425 yX11_startsNow ∈ pg_gd := pg_g (pg_t8 95 rfl) rfl
theorem lkX11_422 : Cond.methodLink RX11 422 yX11_wetBehind ∈ pg_gd := pg_g (pg_t8 99 rfl) rfl
theorem lkL_119 : Cond.methodLink RL 119 yX11_ask ∈ pg_gd := pg_g (pg_t8 103 rfl) rfl
theorem lkL_123 : Cond.methodLink RL 123 yX11_change ∈ pg_gd := pg_g (pg_t8 107 rfl) rfl
theorem lkX11_428 : Cond.methodLink RX11 428 yX11_worthBehind ∈ pg_gd := pg_g (pg_t8 111 rfl) rfl
theorem lkL_129 : Cond.methodLink RL 129 yX11_rests ∈ pg_gd := pg_g (pg_t8 115 rfl) rfl
theorem lkL_137 : Cond.methodLink RL 137 yX11_decades ∈ pg_gd := pg_g (pg_t8 119 rfl) rfl
theorem lkX11_449 : Cond.methodLink RX11 449 yX11_drawsCloth ∈ pg_gd := pg_g (pg_t8 123 rfl) rfl
theorem lkX11_443 : Cond.methodLink RX11 443 yX11_draw ∈ pg_gd := pg_g (pg_t8 127 rfl) rfl
theorem lkX11_446 : Cond.methodLink RX11 446 yX11_firstFree ∈ pg_gd := pg_g (pg_t8 135 rfl) rfl
theorem lkL_142 : Cond.methodLink RL 142 yX11_mark ∈ pg_gd := pg_g (pg_t8 139 rfl) rfl
theorem lkL_146 : Cond.methodLink RL 146 yX11_count ∈ pg_gd := pg_g (pg_t8 143 rfl) rfl
theorem lkX11_452 : Cond.methodLink RX11 452 yX11_turnedSet ∈ pg_gd := pg_g (pg_t8 147 rfl) rfl
theorem kX7_15 : Cond.constantLong RX7 15 (255) ∈ pg_gd := pg_g (pg_t2 209 rfl) rfl
theorem kX7_204 : Cond.constantLong RX7 204 (32) ∈ pg_gd := pg_g (pg_t2 230 rfl) rfl
theorem kJ2_227 : Cond.constant RJ2 227 (65536) ∈ pg_gd := pg_g (pg_t3 82 rfl) rfl
theorem kJ11_110 : Cond.constant RJ11 110 (55232) ∈ pg_gd := pg_g (pg_t3 107 rfl) rfl
theorem kJ11_76 : Cond.constant RJ11 76 (56320) ∈ pg_gd := pg_g (pg_t3 111 rfl) rfl
theorem kJ6_265 : Cond.constant RJ6 265 (1431655765) ∈ pg_gd := pg_g (pg_t4 17 rfl) rfl
theorem kJ6_266 : Cond.constant RJ6 266 (858993459) ∈ pg_gd := pg_g (pg_t4 18 rfl) rfl
theorem kJ6_267 : Cond.constant RJ6 267 (252645135) ∈ pg_gd := pg_g (pg_t4 19 rfl) rfl
theorem kJ6_264 : Cond.constant RJ6 264 (65536) ∈ pg_gd := pg_g (pg_t5 25 rfl) rfl
theorem kX0_53 : Cond.constantLong RX0 53 (10) ∈ pg_gd := pg_g (pg_t5 68 rfl) rfl
theorem kX0_55 : Cond.constantLong RX0 55 (1000000) ∈ pg_gd := pg_g (pg_t5 69 rfl) rfl
theorem kX10_322 : Cond.constantLong RX10 322 (1103515245) ∈ pg_gd := pg_g (pg_t5 160 rfl) rfl
theorem kX10_324 : Cond.constantLong RX10 324 (12345) ∈ pg_gd := pg_g (pg_t5 161 rfl) rfl
theorem kX10_326 : Cond.constantLong RX10 326 (2147483648) ∈ pg_gd := pg_g (pg_t5 162 rfl) rfl
theorem kX10_328 : Cond.constantLong RX10 328 (65536) ∈ pg_gd := pg_g (pg_t5 163 rfl) rfl
theorem kX11_34 : Cond.constantLong RX11 34 (6251602) ∈ pg_gd := pg_g (pg_t6 61 rfl) rfl
theorem kX11_36 : Cond.constantLong RX11 36 (1177493) ∈ pg_gd := pg_g (pg_t6 62 rfl) rfl
theorem kX11_38 : Cond.constantLong RX11 38 (1604747592) ∈ pg_gd := pg_g (pg_t6 63 rfl) rfl
theorem kX11_40 : Cond.constantLong RX11 40 (43890888) ∈ pg_gd := pg_g (pg_t6 64 rfl) rfl
theorem kX11_42 : Cond.constantLong RX11 42 (817571) ∈ pg_gd := pg_g (pg_t6 65 rfl) rfl
theorem kX11_44 : Cond.constantLong RX11 44 (43580913) ∈ pg_gd := pg_g (pg_t6 66 rfl) rfl
theorem kX11_46 : Cond.constantLong RX11 46 (46929487) ∈ pg_gd := pg_g (pg_t6 67 rfl) rfl
theorem kX11_48 : Cond.constantLong RX11 48 (14209610) ∈ pg_gd := pg_g (pg_t6 68 rfl) rfl
theorem kX11_50 : Cond.constantLong RX11 50 (6232399) ∈ pg_gd := pg_g (pg_t6 69 rfl) rfl
theorem kX11_52 : Cond.constantLong RX11 52 (31067180) ∈ pg_gd := pg_g (pg_t6 70 rfl) rfl
theorem kX11_54 : Cond.constantLong RX11 54 (8420923) ∈ pg_gd := pg_g (pg_t6 71 rfl) rfl
theorem kX11_56 : Cond.constantLong RX11 56 (407118) ∈ pg_gd := pg_g (pg_t6 72 rfl) rfl
theorem kX11_58 : Cond.constantLong RX11 58 (1014841) ∈ pg_gd := pg_g (pg_t6 73 rfl) rfl
theorem kX11_60 : Cond.constantLong RX11 60 (1167099) ∈ pg_gd := pg_g (pg_t6 74 rfl) rfl
theorem kX11_62 : Cond.constantLong RX11 62 (3540) ∈ pg_gd := pg_g (pg_t6 75 rfl) rfl
theorem kX11_64 : Cond.constantLong RX11 64 (426554) ∈ pg_gd := pg_g (pg_t6 76 rfl) rfl
theorem kX11_66 : Cond.constantLong RX11 66 (30596128) ∈ pg_gd := pg_g (pg_t6 77 rfl) rfl
theorem kX11_68 : Cond.constantLong RX11 68 (36021333) ∈ pg_gd := pg_g (pg_t6 78 rfl) rfl
theorem kX11_70 : Cond.constantLong RX11 70 (320390) ∈ pg_gd := pg_g (pg_t6 79 rfl) rfl
theorem kX11_72 : Cond.constantLong RX11 72 (1186121) ∈ pg_gd := pg_g (pg_t6 80 rfl) rfl
theorem kX11_74 : Cond.constantLong RX11 74 (19741) ∈ pg_gd := pg_g (pg_t6 81 rfl) rfl
theorem kX11_76 : Cond.constantLong RX11 76 (1891) ∈ pg_gd := pg_g (pg_t6 82 rfl) rfl
theorem kX11_78 : Cond.constantLong RX11 78 (573) ∈ pg_gd := pg_g (pg_t6 83 rfl) rfl
theorem kX11_80 : Cond.constantLong RX11 80 (1177862) ∈ pg_gd := pg_g (pg_t6 84 rfl) rfl
theorem kX11_82 : Cond.constantLong RX11 82 (660580) ∈ pg_gd := pg_g (pg_t6 85 rfl) rfl
theorem kX11_84 : Cond.constantLong RX11 84 (975695) ∈ pg_gd := pg_g (pg_t6 86 rfl) rfl
theorem kX11_158 : Cond.constantLong RX11 158 (37) ∈ pg_gd := pg_g (pg_t6 225 rfl) rfl
theorem kX11_167 : Cond.constantLong RX11 167 (10) ∈ pg_gd := pg_g (pg_t6 232 rfl) rfl
theorem kX11_169 : Cond.constantLong RX11 169 (48) ∈ pg_gd := pg_g (pg_t6 233 rfl) rfl
theorem kX11_408 : Cond.constantLong RX11 408 (1000000) ∈ pg_gd := pg_g (pg_t8 74 rfl) rfl
theorem kX11_435 : Cond.constantLong RX11 435 (1103515245) ∈ pg_gd := pg_g (pg_t8 131 rfl) rfl
theorem kX11_437 : Cond.constantLong RX11 437 (12345) ∈ pg_gd := pg_g (pg_t8 132 rfl) rfl
theorem kX11_439 : Cond.constantLong RX11 439 (2147483648) ∈ pg_gd := pg_g (pg_t8 133 rfl) rfl
theorem kX11_441 : Cond.constantLong RX11 441 (65536) ∈ pg_gd := pg_g (pg_t8 134 rfl) rfl
theorem kL_19 : Cond.constantLong RL 19 (4294967295) ∈ pg_gd := pg_g (pg_t8 151 rfl) rfl
