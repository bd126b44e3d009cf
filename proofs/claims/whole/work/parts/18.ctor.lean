set_option maxRecDepth 100000 in
theorem ac_int : Cond.arrayClass (newarray.typeOf .int) ∈ tblG := tg1 (List.mem_of_getElem? (i := 83) (by decide +kernel)) rfl
set_option maxRecDepth 100000 in
theorem ac_char : Cond.arrayClass (newarray.typeOf .char) ∈ tblG := tg1 (List.mem_of_getElem? (i := 46) (by decide +kernel)) rfl
set_option maxRecDepth 100000 in
theorem ac_boolean : Cond.arrayClass (newarray.typeOf .boolean) ∈ tblG := tg1 (List.mem_of_getElem? (i := 956) (by decide +kernel)) rfl
set_option maxRecDepth 100000 in
theorem ao_0 : Cond.arrayOver (.object RX0) ∈ nestT := tn1 (List.mem_of_getElem? (i := 91) (by decide +kernel)) rfl
set_option maxRecDepth 100000 in
theorem ao_2 : Cond.arrayOver (.object RX2) ∈ nestT := tn1 (List.mem_of_getElem? (i := 105) (by decide +kernel)) rfl
set_option maxRecDepth 100000 in
theorem ob_in : Cond.instanceMethod objectInit ∈ tblG ∧ Cond.code objectInit ⟨#[0xb1]⟩ 1 none ∈ tblG := ⟨tg1 (List.mem_of_getElem? (i := 20) (by decide +kernel)) rfl, tg1 (List.mem_of_getElem? (i := 21) (by decide +kernel)) rfl⟩
set_option maxRecDepth 100000 in
theorem ni_0 : Cond.instantiable (cN 0) (cF 0) ∈ tblG ∧ Cond.initialized (cN 0) ∈ tblG := ⟨tg1 (List.mem_of_getElem? (i := 48) (by decide +kernel)) rfl, in_LetterTray_Desk⟩
set_option maxRecDepth 100000 in
theorem ni_1 : Cond.instantiable (cN 1) (cF 1) ∈ tblG ∧ Cond.initialized (cN 1) ∈ tblG := ⟨tg1 (List.mem_of_getElem? (i := 85) (by decide +kernel)) rfl, in_LetterTray_History⟩
set_option maxRecDepth 100000 in
theorem ni_2 : Cond.instantiable (cN 2) (cF 2) ∈ tblG ∧ Cond.initialized (cN 2) ∈ tblG := ⟨tg1 (List.mem_of_getElem? (i := 106) (by decide +kernel)) rfl, in_LetterTray_Image⟩
set_option maxRecDepth 100000 in
theorem ni_3 : Cond.instantiable (cN 3) (cF 3) ∈ tblG ∧ Cond.initialized (cN 3) ∈ tblG := ⟨tg1 (List.mem_of_getElem? (i := 23) (by decide +kernel)) rfl, in_LetterTray_Reader⟩
set_option maxRecDepth 100000 in
theorem ni_4 : Cond.instantiable (cN 4) (cF 4) ∈ tblG ∧ Cond.initialized (cN 4) ∈ tblG := ⟨tg1 (List.mem_of_getElem? (i := 219) (by decide +kernel)) rfl, in_LetterTray_Rows⟩
set_option maxRecDepth 100000 in
theorem ni_5 : Cond.instantiable (cN 5) (cF 5) ∈ tblG ∧ Cond.initialized (cN 5) ∈ tblG := ⟨tg1 (List.mem_of_getElem? (i := 127) (by decide +kernel)) rfl, in_LetterTray_Talk⟩
set_option maxRecDepth 100000 in
theorem ni_6 : Cond.instantiable (cN 6) (cF 6) ∈ tblG ∧ Cond.initialized (cN 6) ∈ tblG := ⟨tg1 (List.mem_of_getElem? (i := 157) (by decide +kernel)) rfl, in_LetterTray_Words⟩
set_option maxRecDepth 100000 in
theorem ni_7 : Cond.instantiable (cN 7) (cF 7) ∈ tblG ∧ Cond.initialized (cN 7) ∈ tblG := ⟨tg1 (List.mem_of_getElem? (i := 15) (by decide +kernel)) rfl, in_LetterTray⟩
set_option maxRecDepth 100000 in
theorem ni_8 : Cond.instantiable (cN 8) (cF 8) ∈ tblG ∧ Cond.initialized (cN 8) ∈ tblG := ⟨tg1 (List.mem_of_getElem? (i := 833) (by decide +kernel)) rfl, in_LetterTrayModel⟩
set_option maxRecDepth 100000 in
theorem ob_X0 : Cond.methodLink RX0 3 objectInit ∈ tblG ∧ Cond.instanceMethod objectInit ∈ tblG ∧ Cond.code objectInit ⟨#[0xb1]⟩ 1 none ∈ tblG := ⟨tg1 (List.mem_of_getElem? (i := 52) (by decide +kernel)) rfl, ob_in⟩
set_option maxRecDepth 100000 in
theorem fl_X0_9 : Cond.fieldLink RX0 9 (cT 0 0).1 (cT 0 0).2.1 (cT 0 0).2.2.1 ∈ tblG := tg1 (List.mem_of_getElem? (i := 53) (by decide +kernel)) rfl
set_option maxRecDepth 100000 in
theorem fl_X0_15 : Cond.fieldLink RX0 15 (cT 0 1).1 (cT 0 1).2.1 (cT 0 1).2.2.1 ∈ tblG := tg1 (List.mem_of_getElem? (i := 55) (by decide +kernel)) rfl
set_option maxRecDepth 100000 in
theorem fl_X0_18 : Cond.fieldLink RX0 18 (cT 0 2).1 (cT 0 2).2.1 (cT 0 2).2.2.1 ∈ tblG := tg1 (List.mem_of_getElem? (i := 57) (by decide +kernel)) rfl
set_option maxRecDepth 100000 in
theorem fl_X0_21 : Cond.fieldLink RX0 21 (cT 0 3).1 (cT 0 3).2.1 (cT 0 3).2.2.1 ∈ tblG := tg1 (List.mem_of_getElem? (i := 60) (by decide +kernel)) rfl
set_option maxRecDepth 100000 in
theorem ob_X6 : Cond.methodLink RX6 3 objectInit ∈ tblG ∧ Cond.instanceMethod objectInit ∈ tblG ∧ Cond.code objectInit ⟨#[0xb1]⟩ 1 none ∈ tblG := ⟨tg1 (List.mem_of_getElem? (i := 161) (by decide +kernel)) rfl, ob_in⟩
set_option maxRecDepth 100000 in
theorem fl_X6_9 : Cond.fieldLink RX6 9 (cT 6 0).1 (cT 6 0).2.1 (cT 6 0).2.2.1 ∈ tblG := tg1 (List.mem_of_getElem? (i := 162) (by decide +kernel)) rfl
set_option maxRecDepth 100000 in
theorem fl_X6_15 : Cond.fieldLink RX6 15 (cT 6 1).1 (cT 6 1).2.1 (cT 6 1).2.2.1 ∈ tblG := tg1 (List.mem_of_getElem? (i := 165) (by decide +kernel)) rfl
set_option maxRecDepth 100000 in
theorem fl_X6_18 : Cond.fieldLink RX6 18 (cT 6 2).1 (cT 6 2).2.1 (cT 6 2).2.2.1 ∈ tblG := tg1 (List.mem_of_getElem? (i := 168) (by decide +kernel)) rfl
set_option maxRecDepth 100000 in
theorem fl_X6_21 : Cond.fieldLink RX6 21 (cT 6 3).1 (cT 6 3).2.1 (cT 6 3).2.2.1 ∈ tblG := tg1 (List.mem_of_getElem? (i := 170) (by decide +kernel)) rfl
set_option maxRecDepth 100000 in
theorem fl_X6_24 : Cond.fieldLink RX6 24 (cT 6 4).1 (cT 6 4).2.1 (cT 6 4).2.2.1 ∈ tblG := tg1 (List.mem_of_getElem? (i := 172) (by decide +kernel)) rfl
set_option maxRecDepth 100000 in
theorem fl_X6_27 : Cond.fieldLink RX6 27 (cT 6 5).1 (cT 6 5).2.1 (cT 6 5).2.2.1 ∈ tblG := tg1 (List.mem_of_getElem? (i := 176) (by decide +kernel)) rfl
set_option maxRecDepth 100000 in
theorem fl_X6_30 : Cond.fieldLink RX6 30 (cT 6 6).1 (cT 6 6).2.1 (cT 6 6).2.2.1 ∈ tblG := tg1 (List.mem_of_getElem? (i := 177) (by decide +kernel)) rfl
set_option maxRecDepth 100000 in
theorem fl_X6_33 : Cond.fieldLink RX6 33 (cT 6 7).1 (cT 6 7).2.1 (cT 6 7).2.2.1 ∈ tblG := tg1 (List.mem_of_getElem? (i := 178) (by decide +kernel)) rfl
set_option maxRecDepth 100000 in
theorem fl_X6_36 : Cond.fieldLink RX6 36 (cT 6 8).1 (cT 6 8).2.1 (cT 6 8).2.2.1 ∈ tblG := tg1 (List.mem_of_getElem? (i := 179) (by decide +kernel)) rfl
set_option maxRecDepth 100000 in
theorem fl_X6_39 : Cond.fieldLink RX6 39 (cT 6 9).1 (cT 6 9).2.1 (cT 6 9).2.2.1 ∈ tblG := tg1 (List.mem_of_getElem? (i := 180) (by decide +kernel)) rfl
set_option maxRecDepth 100000 in
theorem ob_X3 : Cond.methodLink RX3 3 objectInit ∈ tblG ∧ Cond.instanceMethod objectInit ∈ tblG ∧ Cond.code objectInit ⟨#[0xb1]⟩ 1 none ∈ tblG := ⟨tg1 (List.mem_of_getElem? (i := 27) (by decide +kernel)) rfl, ob_in⟩
set_option maxRecDepth 100000 in
theorem fl_X3_9 : Cond.fieldLink RX3 9 (cT 3 0).1 (cT 3 0).2.1 (cT 3 0).2.2.1 ∈ tblG := tg1 (List.mem_of_getElem? (i := 28) (by decide +kernel)) rfl
set_option maxRecDepth 100000 in
theorem ob_X5 : Cond.methodLink RX5 3 objectInit ∈ tblG ∧ Cond.instanceMethod objectInit ∈ tblG ∧ Cond.code objectInit ⟨#[0xb1]⟩ 1 none ∈ tblG := ⟨tg1 (List.mem_of_getElem? (i := 131) (by decide +kernel)) rfl, ob_in⟩
set_option maxRecDepth 100000 in
theorem fl_X5_9 : Cond.fieldLink RX5 9 (cT 5 0).1 (cT 5 0).2.1 (cT 5 0).2.2.1 ∈ tblG := tg1 (List.mem_of_getElem? (i := 132) (by decide +kernel)) rfl
set_option maxRecDepth 100000 in
theorem fl_X5_15 : Cond.fieldLink RX5 15 (cT 5 1).1 (cT 5 1).2.1 (cT 5 1).2.2.1 ∈ tblG := tg1 (List.mem_of_getElem? (i := 133) (by decide +kernel)) rfl
set_option maxRecDepth 100000 in
theorem fl_X5_18 : Cond.fieldLink RX5 18 (cT 5 2).1 (cT 5 2).2.1 (cT 5 2).2.2.1 ∈ tblG := tg1 (List.mem_of_getElem? (i := 134) (by decide +kernel)) rfl
set_option maxRecDepth 100000 in
theorem fl_X5_21 : Cond.fieldLink RX5 21 (cT 5 3).1 (cT 5 3).2.1 (cT 5 3).2.2.1 ∈ tblG := tg1 (List.mem_of_getElem? (i := 135) (by decide +kernel)) rfl
set_option maxRecDepth 100000 in
theorem fl_X5_24 : Cond.fieldLink RX5 24 (cT 5 4).1 (cT 5 4).2.1 (cT 5 4).2.2.1 ∈ tblG := tg1 (List.mem_of_getElem? (i := 136) (by decide +kernel)) rfl
set_option maxRecDepth 100000 in
theorem ob_X4 : Cond.methodLink RX4 3 objectInit ∈ tblG ∧ Cond.instanceMethod objectInit ∈ tblG ∧ Cond.code objectInit ⟨#[0xb1]⟩ 1 none ∈ tblG := ⟨tg1 (List.mem_of_getElem? (i := 223) (by decide +kernel)) rfl, ob_in⟩
set_option maxRecDepth 100000 in
theorem fl_X4_9 : Cond.fieldLink RX4 9 (cT 4 0).1 (cT 4 0).2.1 (cT 4 0).2.2.1 ∈ tblG := tg1 (List.mem_of_getElem? (i := 224) (by decide +kernel)) rfl
set_option maxRecDepth 100000 in
theorem fl_X4_15 : Cond.fieldLink RX4 15 (cT 4 1).1 (cT 4 1).2.1 (cT 4 1).2.2.1 ∈ tblG := tg1 (List.mem_of_getElem? (i := 225) (by decide +kernel)) rfl
set_option maxRecDepth 100000 in
theorem fl_X4_18 : Cond.fieldLink RX4 18 (cT 4 2).1 (cT 4 2).2.1 (cT 4 2).2.2.1 ∈ tblG := tg1 (List.mem_of_getElem? (i := 226) (by decide +kernel)) rfl
set_option maxRecDepth 100000 in
theorem fl_X4_21 : Cond.fieldLink RX4 21 (cT 4 3).1 (cT 4 3).2.1 (cT 4 3).2.2.1 ∈ tblG := tg1 (List.mem_of_getElem? (i := 227) (by decide +kernel)) rfl
set_option maxRecDepth 100000 in
theorem ob_X2 : Cond.methodLink RX2 1 objectInit ∈ tblG ∧ Cond.instanceMethod objectInit ∈ tblG ∧ Cond.code objectInit ⟨#[0xb1]⟩ 1 none ∈ tblG := ⟨tg1 (List.mem_of_getElem? (i := 110) (by decide +kernel)) rfl, ob_in⟩
set_option maxRecDepth 100000 in
theorem cl_X2_7 : Cond.classLink RX2 7 (cN 0) ∈ tblG := tg1 (List.mem_of_getElem? (i := 111) (by decide +kernel)) rfl
set_option maxRecDepth 100000 in
theorem fl_X2_10 : Cond.fieldLink RX2 10 (cT 2 0).1 (cT 2 0).2.1 (cT 2 0).2.2.1 ∈ tblG := tg1 (List.mem_of_getElem? (i := 113) (by decide +kernel)) rfl
set_option maxRecDepth 100000 in
theorem ob_X1 : Cond.methodLink RX1 3 objectInit ∈ tblG ∧ Cond.instanceMethod objectInit ∈ tblG ∧ Cond.code objectInit ⟨#[0xb1]⟩ 1 none ∈ tblG := ⟨tg1 (List.mem_of_getElem? (i := 89) (by decide +kernel)) rfl, ob_in⟩
set_option maxRecDepth 100000 in
theorem cl_X1_9 : Cond.classLink RX1 9 (cN 0) ∈ tblG := tg1 (List.mem_of_getElem? (i := 90) (by decide +kernel)) rfl
set_option maxRecDepth 100000 in
theorem fl_X1_11 : Cond.fieldLink RX1 11 (cT 1 0).1 (cT 1 0).2.1 (cT 1 0).2.2.1 ∈ tblG := tg1 (List.mem_of_getElem? (i := 93) (by decide +kernel)) rfl
set_option maxRecDepth 100000 in
theorem ob_X7 : Cond.methodLink RX7 1 objectInit ∈ tblG ∧ Cond.instanceMethod objectInit ∈ tblG ∧ Cond.code objectInit ⟨#[0xb1]⟩ 1 none ∈ tblG := ⟨tg1 (List.mem_of_getElem? (i := 19) (by decide +kernel)) rfl, ob_in⟩
set_option maxRecDepth 100000 in
theorem cl_X7_7 : Cond.classLink RX7 7 (cN 3) ∈ tblG := tg1 (List.mem_of_getElem? (i := 22) (by decide +kernel)) rfl
set_option maxRecDepth 100000 in
theorem fl_X7_10 : Cond.fieldLink RX7 10 (cT 7 0).1 (cT 7 0).2.1 (cT 7 0).2.2.1 ∈ tblG := tg1 (List.mem_of_getElem? (i := 246) (by decide +kernel)) rfl
set_option maxRecDepth 100000 in
theorem cl_X7_16 : Cond.classLink RX7 16 (cN 0) ∈ tblG := tg1 (List.mem_of_getElem? (i := 47) (by decide +kernel)) rfl
set_option maxRecDepth 100000 in
theorem fl_X7_19 : Cond.fieldLink RX7 19 (cT 7 1).1 (cT 7 1).2.1 (cT 7 1).2.2.1 ∈ tblG := tg1 (List.mem_of_getElem? (i := 247) (by decide +kernel)) rfl
set_option maxRecDepth 100000 in
theorem cl_X7_23 : Cond.classLink RX7 23 (cN 1) ∈ tblG := tg1 (List.mem_of_getElem? (i := 84) (by decide +kernel)) rfl
set_option maxRecDepth 100000 in
theorem fl_X7_26 : Cond.fieldLink RX7 26 (cT 7 2).1 (cT 7 2).2.1 (cT 7 2).2.2.1 ∈ tblG := tg1 (List.mem_of_getElem? (i := 248) (by decide +kernel)) rfl
set_option maxRecDepth 100000 in
theorem cl_X7_30 : Cond.classLink RX7 30 (cN 2) ∈ tblG := tg1 (List.mem_of_getElem? (i := 104) (by decide +kernel)) rfl
set_option maxRecDepth 100000 in
theorem fl_X7_32 : Cond.fieldLink RX7 32 (cT 7 3).1 (cT 7 3).2.1 (cT 7 3).2.2.1 ∈ tblG := tg1 (List.mem_of_getElem? (i := 249) (by decide +kernel)) rfl
set_option maxRecDepth 100000 in
theorem cl_X7_37 : Cond.classLink RX7 37 (cN 5) ∈ tblG := tg1 (List.mem_of_getElem? (i := 126) (by decide +kernel)) rfl
set_option maxRecDepth 100000 in
theorem fl_X7_40 : Cond.fieldLink RX7 40 (cT 7 5).1 (cT 7 5).2.1 (cT 7 5).2.2.1 ∈ tblG := tg1 (List.mem_of_getElem? (i := 251) (by decide +kernel)) rfl
set_option maxRecDepth 100000 in
theorem cl_X7_44 : Cond.classLink RX7 44 (cN 6) ∈ tblG := tg1 (List.mem_of_getElem? (i := 156) (by decide +kernel)) rfl
set_option maxRecDepth 100000 in
theorem cl_X7_54 : Cond.classLink RX7 54 (cN 4) ∈ tblG := tg1 (List.mem_of_getElem? (i := 218) (by decide +kernel)) rfl
set_option maxRecDepth 100000 in
theorem fl_X7_59 : Cond.fieldLink RX7 59 (cT 7 4).1 (cT 7 4).2.1 (cT 7 4).2.2.1 ∈ tblG := tg1 (List.mem_of_getElem? (i := 250) (by decide +kernel)) rfl
set_option maxRecDepth 100000 in
theorem ob_X8 : Cond.methodLink RX8 1 objectInit ∈ tblG ∧ Cond.instanceMethod objectInit ∈ tblG ∧ Cond.code objectInit ⟨#[0xb1]⟩ 1 none ∈ tblG := ⟨tg1 (List.mem_of_getElem? (i := 837) (by decide +kernel)) rfl, ob_in⟩
set_option maxRecDepth 100000 in
theorem fl_X8_7 : Cond.fieldLink RX8 7 (cT 8 0).1 (cT 8 0).2.1 (cT 8 0).2.2.1 ∈ tblG := tg1 (List.mem_of_getElem? (i := 838) (by decide +kernel)) rfl
set_option maxRecDepth 100000 in
theorem fl_X8_13 : Cond.fieldLink RX8 13 (cT 8 1).1 (cT 8 1).2.1 (cT 8 1).2.2.1 ∈ tblG := tg1 (List.mem_of_getElem? (i := 839) (by decide +kernel)) rfl
set_option maxRecDepth 100000 in
theorem fl_X8_16 : Cond.fieldLink RX8 16 (cT 8 2).1 (cT 8 2).2.1 (cT 8 2).2.2.1 ∈ tblG := tg1 (List.mem_of_getElem? (i := 840) (by decide +kernel)) rfl
set_option maxRecDepth 100000 in
theorem fl_X8_19 : Cond.fieldLink RX8 19 (cT 8 3).1 (cT 8 3).2.1 (cT 8 3).2.2.1 ∈ tblG := tg1 (List.mem_of_getElem? (i := 841) (by decide +kernel)) rfl
set_option maxRecDepth 100000 in
theorem fl_X8_22 : Cond.fieldLink RX8 22 (cT 8 4).1 (cT 8 4).2.1 (cT 8 4).2.2.1 ∈ tblG := tg1 (List.mem_of_getElem? (i := 842) (by decide +kernel)) rfl
set_option maxRecDepth 100000 in
theorem fl_X8_25 : Cond.fieldLink RX8 25 (cT 8 7).1 (cT 8 7).2.1 (cT 8 7).2.2.1 ∈ tblG := tg1 (List.mem_of_getElem? (i := 845) (by decide +kernel)) rfl
set_option maxRecDepth 100000 in
theorem fl_X8_28 : Cond.fieldLink RX8 28 (cT 8 9).1 (cT 8 9).2.1 (cT 8 9).2.2.1 ∈ tblG := tg1 (List.mem_of_getElem? (i := 847) (by decide +kernel)) rfl
set_option maxRecDepth 100000 in
theorem fl_X8_31 : Cond.fieldLink RX8 31 (cT 8 11).1 (cT 8 11).2.1 (cT 8 11).2.2.1 ∈ tblG := tg1 (List.mem_of_getElem? (i := 849) (by decide +kernel)) rfl
set_option maxRecDepth 100000 in
theorem fl_X8_34 : Cond.fieldLink RX8 34 (cT 8 17).1 (cT 8 17).2.1 (cT 8 17).2.2.1 ∈ tblG := tg1 (List.mem_of_getElem? (i := 855) (by decide +kernel)) rfl
set_option maxRecDepth 100000 in
theorem fl_X8_37 : Cond.fieldLink RX8 37 (cT 8 18).1 (cT 8 18).2.1 (cT 8 18).2.2.1 ∈ tblG := tg1 (List.mem_of_getElem? (i := 856) (by decide +kernel)) rfl
set_option maxRecDepth 100000 in
theorem fl_X8_40 : Cond.fieldLink RX8 40 (cT 8 19).1 (cT 8 19).2.1 (cT 8 19).2.2.1 ∈ tblG := tg1 (List.mem_of_getElem? (i := 857) (by decide +kernel)) rfl
set_option maxRecDepth 100000 in
theorem fl_X8_43 : Cond.fieldLink RX8 43 (cT 8 20).1 (cT 8 20).2.1 (cT 8 20).2.2.1 ∈ tblG := tg1 (List.mem_of_getElem? (i := 858) (by decide +kernel)) rfl
set_option maxRecDepth 100000 in
theorem fl_X8_46 : Cond.fieldLink RX8 46 (cT 8 21).1 (cT 8 21).2.1 (cT 8 21).2.2.1 ∈ tblG := tg1 (List.mem_of_getElem? (i := 859) (by decide +kernel)) rfl
set_option maxRecDepth 100000 in
theorem fl_X8_49 : Cond.fieldLink RX8 49 (cT 8 24).1 (cT 8 24).2.1 (cT 8 24).2.2.1 ∈ tblG := tg1 (List.mem_of_getElem? (i := 862) (by decide +kernel)) rfl
set_option maxRecDepth 100000 in
theorem fl_X8_52 : Cond.fieldLink RX8 52 (cT 8 26).1 (cT 8 26).2.1 (cT 8 26).2.2.1 ∈ tblG := tg1 (List.mem_of_getElem? (i := 864) (by decide +kernel)) rfl
set_option maxRecDepth 100000 in
theorem fl_X8_55 : Cond.fieldLink RX8 55 (cT 8 32).1 (cT 8 32).2.1 (cT 8 32).2.2.1 ∈ tblG := tg1 (List.mem_of_getElem? (i := 870) (by decide +kernel)) rfl
set_option maxRecDepth 100000 in
theorem fl_X8_58 : Cond.fieldLink RX8 58 (cT 8 33).1 (cT 8 33).2.1 (cT 8 33).2.2.1 ∈ tblG := tg1 (List.mem_of_getElem? (i := 871) (by decide +kernel)) rfl
set_option maxRecDepth 100000 in
theorem fl_X8_61 : Cond.fieldLink RX8 61 (cT 8 35).1 (cT 8 35).2.1 (cT 8 35).2.2.1 ∈ tblG := tg1 (List.mem_of_getElem? (i := 873) (by decide +kernel)) rfl
set_option maxRecDepth 100000 in
theorem fl_X8_64 : Cond.fieldLink RX8 64 (cT 8 37).1 (cT 8 37).2.1 (cT 8 37).2.2.1 ∈ tblG := tg1 (List.mem_of_getElem? (i := 875) (by decide +kernel)) rfl
set_option maxRecDepth 100000 in
theorem fl_X8_67 : Cond.fieldLink RX8 67 (cT 8 38).1 (cT 8 38).2.1 (cT 8 38).2.2.1 ∈ tblG := tg1 (List.mem_of_getElem? (i := 876) (by decide +kernel)) rfl
set_option maxRecDepth 100000 in
theorem cl_L_7 : Cond.classLink RL 7 (cN 7) ∈ tblG := tg1 (List.mem_of_getElem? (i := 14) (by decide +kernel)) rfl
set_option maxRecDepth 100000 in
theorem cl_L_10 : Cond.classLink RL 10 (cN 8) ∈ tblG := tg1 (List.mem_of_getElem? (i := 832) (by decide +kernel)) rfl
theorem x_meth3 {l : Launch} {G : GT} {y : MethodName} {cc : ByteArray} {nL : Nat} {rt : Option FieldType} {d mc ms : Nat} {av : List Value} {S : Shp} {mr : Rfs} {mi : Mem} {r : Option Value} {S' : Shp} {mr' : Rfs} {mi' : Mem} {own : String} {lv : List (Nat × Value)} (hy : plainName y.cls = true) (hown : y.cls = own) (hlv : lv_args 0 av = lv) (hn : (lg_sl av).length ≤ nL)
    (body : ∀ (p : Program) (e : Env) (s : State) (m : MethodId) (below : List Frame) (meth : Method) (c : Code), Cx G p s m c av.toArray own cc nL → meth.sig.returnType = rt → meth.locks = false → meth.name = y.name → ∀ ls : Array Slot, lv_has ls nL lv → ∀ (H : Heap) (locs : List Loc), RM G S mr mi H locs →
      W p l e (rmD d mc ms) s m av.toArray below meth c H locs 0 0 (MQ below (QX G r S' mr' mi') av.toArray s mc ms (fun q => G.2.2.2.1 ≤ q)) (F0 m 0 ls [])) : MX l G y cc nL rt d mc ms av S mr mi r S' mr' mi' :=
  x_method hy hown hlv hn (fun p e s m below meth c C hr hlk hnm ls hl _ hR => body p e s m below meth c C hr hlk hnm ls hl _ _ hR)
def deskR (mr : Rfs) (a : Nat) : Rfs := sr (sr (sr (sr mr a 0 (some (a + 1))) a 1 (some (a + 2))) a 2 (some (a + 3))) a 3 (some (a + 4))
theorem deskR_ne {mr : Rfs} {a b : Nat} (h : b ≠ a) : deskR mr a b = mr b := by unfold deskR; rw [sr_ne h, sr_ne h, sr_ne h, sr_ne h]
theorem Fz.desk {a n : Nat} {mr : Rfs} {mi : Mem} (h : Fz n mr mi) (ha : a < n) : Fz n (deskR mr a) mi := fun k hk => by rw [deskR_ne (show k ≠ a by omega)]; exact h k hk
def wordsR (mr : Rfs) (a : Nat) : Rfs := sr (sr (sr (sr (sr (sr (sr (sr (sr (sr mr a 0 (some (a + 1))) a 1 (some (a + 2))) a 2 (some (a + 3))) a 3 (some (a + 4))) a 4 (some (a + 5))) a 5 (some (a + 6))) a 6 (some (a + 7))) a 7 (some (a + 8))) a 8 (some (a + 9))) a 9 (some (a + 10))
theorem wordsR_ne {mr : Rfs} {a b : Nat} (h : b ≠ a) : wordsR mr a b = mr b := by unfold wordsR; rw [sr_ne h, sr_ne h, sr_ne h, sr_ne h, sr_ne h, sr_ne h, sr_ne h, sr_ne h, sr_ne h, sr_ne h]
theorem Fz.words {a n : Nat} {mr : Rfs} {mi : Mem} (h : Fz n mr mi) (ha : a < n) : Fz n (wordsR mr a) mi := fun k hk => by rw [wordsR_ne (show k ≠ a by omega)]; exact h k hk
def imR (mr : Rfs) (a : Nat) : Rfs := sr (deskR mr (a + 1)) a 0 (some (a + 1))
theorem imR_ne {mr : Rfs} {a b : Nat} (h : b ≠ a) (h2 : b ≠ a + 1) : imR mr a b = mr b := by unfold imR; rw [sr_ne h, deskR_ne h2]
theorem Fz.im {a n : Nat} {mr : Rfs} {mi : Mem} (h : Fz n mr mi) (ha : a + 1 < n) : Fz n (imR mr a) mi := fun k hk => by rw [imR_ne (show k ≠ a by omega) (show k ≠ a + 1 by omega)]; exact h k hk
def hmr (mr : Rfs) : Nat → Rfs
  | 0 => sr mr 8 0 (some 9)
  | k + 1 => sr (deskR (hmr mr k) (10 + 5 * k)) 9 k (some (10 + 5 * k))
theorem hmr_ring (mr : Rfs) : ∀ k, hmr mr k 8 0 = some 9
  | 0 => by show sr mr 8 0 (some 9) 8 0 = _; rw [sr_eq]; rfl
  | k + 1 => by show sr (deskR (hmr mr k) (10 + 5 * k)) 9 k (some (10 + 5 * k)) 8 0 = _; rw [sr_ne (by decide), deskR_ne (by omega)]; exact hmr_ring mr k
theorem hmr_ne (mr : Rfs) {b : Nat} (h : b < 8) : ∀ k, hmr mr k b = mr b
  | 0 => sr_ne (by omega)
  | k + 1 => by show sr (deskR (hmr mr k) (10 + 5 * k)) 9 k (some (10 + 5 * k)) b = _; rw [sr_ne (by omega), deskR_ne (by omega)]; exact hmr_ne mr h k
theorem Fz.hmr {mr : Rfs} {mi : Mem} (h : Fz 10 mr mi) : ∀ k, Fz (10 + 5 * k) (hmr mr k) mi
  | 0 => Fz.sr h (by decide)
  | k + 1 => ((Fz.hmr h k).up (by omega)).desk (by omega) |>.sr (by omega)
theorem dX0_init_0 : decode cX0_init 0 = .ok (.aload_n 0, 1) := by decide +kernel
theorem dX0_init_1 : decode cX0_init 1 = .ok (.invokespecial 3, 3) := by decide +kernel
theorem dX0_init_4 : decode cX0_init 4 = .ok (.aload_n 0, 1) := by decide +kernel
theorem dX0_init_5 : decode cX0_init 5 = .ok (.bipush 9, 2) := by decide +kernel
theorem dX0_init_7 : decode cX0_init 7 = .ok (.newarray .int, 2) := by decide +kernel
theorem dX0_init_9 : decode cX0_init 9 = .ok (.putfield 9, 3) := by decide +kernel
theorem dX0_init_12 : decode cX0_init 12 = .ok (.aload_n 0, 1) := by decide +kernel
theorem dX0_init_13 : decode cX0_init 13 = .ok (.bipush 9, 2) := by decide +kernel
theorem dX0_init_15 : decode cX0_init 15 = .ok (.newarray .int, 2) := by decide +kernel
theorem dX0_init_17 : decode cX0_init 17 = .ok (.putfield 15, 3) := by decide +kernel
theorem dX0_init_20 : decode cX0_init 20 = .ok (.aload_n 0, 1) := by decide +kernel
theorem dX0_init_21 : decode cX0_init 21 = .ok (.bipush 8, 2) := by decide +kernel
theorem dX0_init_23 : decode cX0_init 23 = .ok (.newarray .int, 2) := by decide +kernel
theorem dX0_init_25 : decode cX0_init 25 = .ok (.putfield 18, 3) := by decide +kernel
theorem dX0_init_28 : decode cX0_init 28 = .ok (.aload_n 0, 1) := by decide +kernel
theorem dX0_init_29 : decode cX0_init 29 = .ok (.bipush 8, 2) := by decide +kernel
theorem dX0_init_31 : decode cX0_init 31 = .ok (.newarray .int, 2) := by decide +kernel
theorem dX0_init_33 : decode cX0_init 33 = .ok (.putfield 21, 3) := by decide +kernel
theorem dX0_init_36 : decode cX0_init 36 = .ok (.aload_n 0, 1) := by decide +kernel
theorem dX0_init_37 : decode cX0_init 37 = .ok (.iconst 0, 1) := by decide +kernel
theorem dX0_init_38 : decode cX0_init 38 = .ok (.putfield 24, 3) := by decide +kernel
theorem dX0_init_41 : decode cX0_init 41 = .ok (.aload_n 0, 1) := by decide +kernel
theorem dX0_init_42 : decode cX0_init 42 = .ok (.iconst 0, 1) := by decide +kernel
theorem dX0_init_43 : decode cX0_init 43 = .ok (.putfield 28, 3) := by decide +kernel
theorem dX0_init_46 : decode cX0_init 46 = .ok (.aload_n 0, 1) := by decide +kernel
theorem dX0_init_47 : decode cX0_init 47 = .ok (.iconst 0, 1) := by decide +kernel
theorem dX0_init_48 : decode cX0_init 48 = .ok (.putfield 31, 3) := by decide +kernel
theorem dX0_init_51 : decode cX0_init 51 = .ok (.return_, 1) := by decide +kernel
set_option maxHeartbeats 4000000 in
set_option maxRecDepth 100000 in
theorem m_X0_init {l : Launch} {G : GT} {a : Nat} {mr : Rfs} {mi : Mem} (ha : isD a) (hz : Fz a mr mi) : MX l G yX0_init cX0_init 1 none 1 4 34 [.ref (G.2.2.2.1 + a)] ((a + 1), kd0, ln0) mr mi none ((a + 5), kd0, ln0) (deskR mr a) mi := by
  refine x_meth3 (own := RX0) (lv := [(0, .ref (G.2.2.2.1 + a))]) (by decide) rfl rfl (Nat.le_of_ble_eq_true rfl) ?_
  intro p e s m below meth c C hr hlk hnm ls hl H locs hR
  have hx := C.1
  have hb := C.2.1
  have hz1 : Fz (a + 1) mr mi := hz.up (by omega)
  refine lv_aload_n hx hb dX0_init_0 rfl (lv_at hl 0 rfl) ?_
  refine x_obj C ob_X0 hl.1 (by decide) (Nat.le_of_ble_eq_true rfl) dX0_init_1 ?_
  refine lv_aload_n hx hb dX0_init_4 rfl (lv_at hl 0 rfl) ?_
  refine lv_bipush (v := 9) hx hb dX0_init_5 (by decide) ?_
  refine x_newa (atype := .int) (t0 := 0) (N := 9) (n := (a + 1)) (n' := (a + 2)) C hR (hz1 (a + 1) (by omega)) ⟨(kD0 ha).2, lD0 ha⟩ (by omega) (Or.inl ⟨rfl, rfl⟩) ac_int ⟨by decide, by decide, by decide⟩ ⟨by decide, by decide⟩ dX0_init_7 (fun H hR => ?_)
  refine x_putF C hR fo_X0_9 rfl hnm rfl fl_X0_9 rfl (show _ < _ ∧ _ from ⟨by omega, (kD ha).2⟩) dX0_init_9 (fun H locs hR => ?_)
  have hz1 := hz1.sr (a := a) (k := 0) (v := some (a + 1)) (by omega)
  refine lv_aload_n hx hb dX0_init_12 rfl (lv_at hl 0 rfl) ?_
  refine lv_bipush (v := 9) hx hb dX0_init_13 (by decide) ?_
  refine x_newa (atype := .int) (t0 := 0) (N := 9) (n := (a + 2)) (n' := (a + 3)) C hR (hz1 (a + 2) (by omega)) ⟨(kD1 ha).2, lD1 ha⟩ (by omega) (Or.inl ⟨rfl, rfl⟩) ac_int ⟨by decide, by decide, by decide⟩ ⟨by decide, by decide⟩ dX0_init_15 (fun H hR => ?_)
  refine x_putF C hR fo_X0_15 rfl hnm rfl fl_X0_15 rfl (show _ < _ ∧ _ from ⟨by omega, (kD ha).2⟩) dX0_init_17 (fun H locs hR => ?_)
  have hz1 := hz1.sr (a := a) (k := 1) (v := some (a + 2)) (by omega)
  refine lv_aload_n hx hb dX0_init_20 rfl (lv_at hl 0 rfl) ?_
  refine lv_bipush (v := 8) hx hb dX0_init_21 (by decide) ?_
  refine x_newa (atype := .int) (t0 := 0) (N := 8) (n := (a + 3)) (n' := (a + 4)) C hR (hz1 (a + 3) (by omega)) ⟨(kD2 ha).2, lD2 ha⟩ (by omega) (Or.inl ⟨rfl, rfl⟩) ac_int ⟨by decide, by decide, by decide⟩ ⟨by decide, by decide⟩ dX0_init_23 (fun H hR => ?_)
  refine x_putF C hR fo_X0_18 rfl hnm rfl fl_X0_18 rfl (show _ < _ ∧ _ from ⟨by omega, (kD ha).2⟩) dX0_init_25 (fun H locs hR => ?_)
  have hz1 := hz1.sr (a := a) (k := 2) (v := some (a + 3)) (by omega)
  refine lv_aload_n hx hb dX0_init_28 rfl (lv_at hl 0 rfl) ?_
  refine lv_bipush (v := 8) hx hb dX0_init_29 (by decide) ?_
  refine x_newa (atype := .int) (t0 := 0) (N := 8) (n := (a + 4)) (n' := (a + 5)) C hR (hz1 (a + 4) (by omega)) ⟨(kD3 ha).2, lD3 ha⟩ (by omega) (Or.inl ⟨rfl, rfl⟩) ac_int ⟨by decide, by decide, by decide⟩ ⟨by decide, by decide⟩ dX0_init_31 (fun H hR => ?_)
  refine x_putF C hR fo_X0_21 rfl hnm rfl fl_X0_21 rfl (show _ < _ ∧ _ from ⟨by omega, (kD ha).2⟩) dX0_init_33 (fun H locs hR => ?_)
  have hz1 := hz1.sr (a := a) (k := 3) (v := some (a + 4)) (by omega)
  refine lv_aload_n hx hb dX0_init_36 rfl (lv_at hl 0 rfl) ?_
  refine lv_iconst (v := 0) hx hb dX0_init_37 (by decide) ?_
  refine x_puti C hR fo_X0_24 rfl rfl (show _ < _ ∧ _ from ⟨by omega, (kD ha).2⟩) dX0_init_38 (fun H locs hR => ?_)
  rw [st_same ((hz a (by omega)).2 4)] at hR
  refine lv_aload_n hx hb dX0_init_41 rfl (lv_at hl 0 rfl) ?_
  refine lv_iconst (v := 0) hx hb dX0_init_42 (by decide) ?_
  refine x_puti C hR fo_X0_28 rfl rfl (show _ < _ ∧ _ from ⟨by omega, (kD ha).2⟩) dX0_init_43 (fun H locs hR => ?_)
  rw [st_same ((hz a (by omega)).2 5)] at hR
  refine lv_aload_n hx hb dX0_init_46 rfl (lv_at hl 0 rfl) ?_
  refine lv_iconst (v := 0) hx hb dX0_init_47 (by decide) ?_
  refine x_puti C hR fo_X0_31 rfl rfl (show _ < _ ∧ _ from ⟨by omega, (kD ha).2⟩) dX0_init_48 (fun H locs hR => ?_)
  rw [st_same ((hz a (by omega)).2 6)] at hR
  exact x_vret C hR hr hlk dX0_init_51
theorem dX6_init_0 : decode cX6_init 0 = .ok (.aload_n 0, 1) := by decide +kernel
theorem dX6_init_1 : decode cX6_init 1 = .ok (.invokespecial 3, 3) := by decide +kernel
theorem dX6_init_4 : decode cX6_init 4 = .ok (.aload_n 0, 1) := by decide +kernel
theorem dX6_init_5 : decode cX6_init 5 = .ok (.bipush 9, 2) := by decide +kernel
theorem dX6_init_7 : decode cX6_init 7 = .ok (.newarray .int, 2) := by decide +kernel
theorem dX6_init_9 : decode cX6_init 9 = .ok (.putfield 9, 3) := by decide +kernel
theorem dX6_init_12 : decode cX6_init 12 = .ok (.aload_n 0, 1) := by decide +kernel
theorem dX6_init_13 : decode cX6_init 13 = .ok (.bipush 9, 2) := by decide +kernel
theorem dX6_init_15 : decode cX6_init 15 = .ok (.newarray .int, 2) := by decide +kernel
theorem dX6_init_17 : decode cX6_init 17 = .ok (.putfield 15, 3) := by decide +kernel
theorem dX6_init_20 : decode cX6_init 20 = .ok (.aload_n 0, 1) := by decide +kernel
theorem dX6_init_21 : decode cX6_init 21 = .ok (.bipush 10, 2) := by decide +kernel
theorem dX6_init_23 : decode cX6_init 23 = .ok (.newarray .int, 2) := by decide +kernel
theorem dX6_init_25 : decode cX6_init 25 = .ok (.putfield 18, 3) := by decide +kernel
theorem dX6_init_28 : decode cX6_init 28 = .ok (.aload_n 0, 1) := by decide +kernel
theorem dX6_init_29 : decode cX6_init 29 = .ok (.bipush 10, 2) := by decide +kernel
theorem dX6_init_31 : decode cX6_init 31 = .ok (.newarray .int, 2) := by decide +kernel
theorem dX6_init_33 : decode cX6_init 33 = .ok (.putfield 21, 3) := by decide +kernel
theorem dX6_init_36 : decode cX6_init 36 = .ok (.aload_n 0, 1) := by decide +kernel
theorem dX6_init_37 : decode cX6_init 37 = .ok (.bipush 10, 2) := by decide +kernel
theorem dX6_init_39 : decode cX6_init 39 = .ok (.newarray .int, 2) := by decide +kernel
theorem dX6_init_41 : decode cX6_init 41 = .ok (.putfield 24, 3) := by decide +kernel
theorem dX6_init_44 : decode cX6_init 44 = .ok (.aload_n 0, 1) := by decide +kernel
theorem dX6_init_45 : decode cX6_init 45 = .ok (.bipush 60, 2) := by decide +kernel
theorem dX6_init_47 : decode cX6_init 47 = .ok (.newarray .int, 2) := by decide +kernel
theorem dX6_init_49 : decode cX6_init 49 = .ok (.putfield 27, 3) := by decide +kernel
theorem dX6_init_52 : decode cX6_init 52 = .ok (.aload_n 0, 1) := by decide +kernel
theorem dX6_init_53 : decode cX6_init 53 = .ok (.bipush 80, 2) := by decide +kernel
theorem dX6_init_55 : decode cX6_init 55 = .ok (.newarray .int, 2) := by decide +kernel
theorem dX6_init_57 : decode cX6_init 57 = .ok (.putfield 30, 3) := by decide +kernel
theorem dX6_init_60 : decode cX6_init 60 = .ok (.aload_n 0, 1) := by decide +kernel
theorem dX6_init_61 : decode cX6_init 61 = .ok (.bipush 100, 2) := by decide +kernel
theorem dX6_init_63 : decode cX6_init 63 = .ok (.newarray .int, 2) := by decide +kernel
theorem dX6_init_65 : decode cX6_init 65 = .ok (.putfield 33, 3) := by decide +kernel
theorem dX6_init_68 : decode cX6_init 68 = .ok (.aload_n 0, 1) := by decide +kernel
theorem dX6_init_69 : decode cX6_init 69 = .ok (.bipush 100, 2) := by decide +kernel
theorem dX6_init_71 : decode cX6_init 71 = .ok (.newarray .int, 2) := by decide +kernel
theorem dX6_init_73 : decode cX6_init 73 = .ok (.putfield 36, 3) := by decide +kernel
theorem dX6_init_76 : decode cX6_init 76 = .ok (.aload_n 0, 1) := by decide +kernel
theorem dX6_init_77 : decode cX6_init 77 = .ok (.bipush 100, 2) := by decide +kernel
theorem dX6_init_79 : decode cX6_init 79 = .ok (.newarray .int, 2) := by decide +kernel
theorem dX6_init_81 : decode cX6_init 81 = .ok (.putfield 39, 3) := by decide +kernel
theorem dX6_init_84 : decode cX6_init 84 = .ok (.aload_n 0, 1) := by decide +kernel
theorem dX6_init_85 : decode cX6_init 85 = .ok (.iconst 0, 1) := by decide +kernel
theorem dX6_init_86 : decode cX6_init 86 = .ok (.putfield 42, 3) := by decide +kernel
theorem dX6_init_89 : decode cX6_init 89 = .ok (.aload_n 0, 1) := by decide +kernel
theorem dX6_init_90 : decode cX6_init 90 = .ok (.iconst 0, 1) := by decide +kernel
theorem dX6_init_91 : decode cX6_init 91 = .ok (.putfield 46, 3) := by decide +kernel
theorem dX6_init_94 : decode cX6_init 94 = .ok (.aload_n 0, 1) := by decide +kernel
theorem dX6_init_95 : decode cX6_init 95 = .ok (.iconst 0, 1) := by decide +kernel
theorem dX6_init_96 : decode cX6_init 96 = .ok (.putfield 49, 3) := by decide +kernel
theorem dX6_init_99 : decode cX6_init 99 = .ok (.return_, 1) := by decide +kernel
set_option maxHeartbeats 4000000 in
set_option maxRecDepth 100000 in
theorem m_X6_init {l : Launch} {G : GT} {a : Nat} {mr : Rfs} {mi : Mem} (ha : isW a) (hz : Fz a mr mi) : MX l G yX6_init cX6_init 1 none 1 10 488 [.ref (G.2.2.2.1 + a)] ((a + 1), kd0, ln0) mr mi none ((a + 11), kd0, ln0) (wordsR mr a) mi := by
  refine x_meth3 (own := RX6) (lv := [(0, .ref (G.2.2.2.1 + a))]) (by decide) rfl rfl (Nat.le_of_ble_eq_true rfl) ?_
  intro p e s m below meth c C hr hlk hnm ls hl H locs hR
  have hx := C.1
  have hb := C.2.1
  have hz1 : Fz (a + 1) mr mi := hz.up (by omega)
  refine lv_aload_n hx hb dX6_init_0 rfl (lv_at hl 0 rfl) ?_
  refine x_obj C ob_X6 hl.1 (by decide) (Nat.le_of_ble_eq_true rfl) dX6_init_1 ?_
  refine lv_aload_n hx hb dX6_init_4 rfl (lv_at hl 0 rfl) ?_
  refine lv_bipush (v := 9) hx hb dX6_init_5 (by decide) ?_
  refine x_newa (atype := .int) (t0 := 0) (N := 9) (n := (a + 1)) (n' := (a + 2)) C hR (hz1 (a + 1) (by omega)) ⟨(kW0 ha).2, lW0 ha⟩ (by omega) (Or.inl ⟨rfl, rfl⟩) ac_int ⟨by decide, by decide, by decide⟩ ⟨by decide, by decide⟩ dX6_init_7 (fun H hR => ?_)
  refine x_putF C hR fo_X6_9 rfl hnm rfl fl_X6_9 rfl (show _ < _ ∧ _ from ⟨by omega, (kW ha).2⟩) dX6_init_9 (fun H locs hR => ?_)
  have hz1 := hz1.sr (a := a) (k := 0) (v := some (a + 1)) (by omega)
  refine lv_aload_n hx hb dX6_init_12 rfl (lv_at hl 0 rfl) ?_
  refine lv_bipush (v := 9) hx hb dX6_init_13 (by decide) ?_
  refine x_newa (atype := .int) (t0 := 0) (N := 9) (n := (a + 2)) (n' := (a + 3)) C hR (hz1 (a + 2) (by omega)) ⟨(kW1 ha).2, lW1 ha⟩ (by omega) (Or.inl ⟨rfl, rfl⟩) ac_int ⟨by decide, by decide, by decide⟩ ⟨by decide, by decide⟩ dX6_init_15 (fun H hR => ?_)
  refine x_putF C hR fo_X6_15 rfl hnm rfl fl_X6_15 rfl (show _ < _ ∧ _ from ⟨by omega, (kW ha).2⟩) dX6_init_17 (fun H locs hR => ?_)
  have hz1 := hz1.sr (a := a) (k := 1) (v := some (a + 2)) (by omega)
  refine lv_aload_n hx hb dX6_init_20 rfl (lv_at hl 0 rfl) ?_
  refine lv_bipush (v := 10) hx hb dX6_init_21 (by decide) ?_
  refine x_newa (atype := .int) (t0 := 0) (N := 10) (n := (a + 3)) (n' := (a + 4)) C hR (hz1 (a + 3) (by omega)) ⟨(kW2 ha).2, lW2 ha⟩ (by omega) (Or.inl ⟨rfl, rfl⟩) ac_int ⟨by decide, by decide, by decide⟩ ⟨by decide, by decide⟩ dX6_init_23 (fun H hR => ?_)
  refine x_putF C hR fo_X6_18 rfl hnm rfl fl_X6_18 rfl (show _ < _ ∧ _ from ⟨by omega, (kW ha).2⟩) dX6_init_25 (fun H locs hR => ?_)
  have hz1 := hz1.sr (a := a) (k := 2) (v := some (a + 3)) (by omega)
  refine lv_aload_n hx hb dX6_init_28 rfl (lv_at hl 0 rfl) ?_
  refine lv_bipush (v := 10) hx hb dX6_init_29 (by decide) ?_
  refine x_newa (atype := .int) (t0 := 0) (N := 10) (n := (a + 4)) (n' := (a + 5)) C hR (hz1 (a + 4) (by omega)) ⟨(kW3 ha).2, lW3 ha⟩ (by omega) (Or.inl ⟨rfl, rfl⟩) ac_int ⟨by decide, by decide, by decide⟩ ⟨by decide, by decide⟩ dX6_init_31 (fun H hR => ?_)
  refine x_putF C hR fo_X6_21 rfl hnm rfl fl_X6_21 rfl (show _ < _ ∧ _ from ⟨by omega, (kW ha).2⟩) dX6_init_33 (fun H locs hR => ?_)
  have hz1 := hz1.sr (a := a) (k := 3) (v := some (a + 4)) (by omega)
  refine lv_aload_n hx hb dX6_init_36 rfl (lv_at hl 0 rfl) ?_
  refine lv_bipush (v := 10) hx hb dX6_init_37 (by decide) ?_
  refine x_newa (atype := .int) (t0 := 0) (N := 10) (n := (a + 5)) (n' := (a + 6)) C hR (hz1 (a + 5) (by omega)) ⟨(kW4 ha).2, lW4 ha⟩ (by omega) (Or.inl ⟨rfl, rfl⟩) ac_int ⟨by decide, by decide, by decide⟩ ⟨by decide, by decide⟩ dX6_init_39 (fun H hR => ?_)
  refine x_putF C hR fo_X6_24 rfl hnm rfl fl_X6_24 rfl (show _ < _ ∧ _ from ⟨by omega, (kW ha).2⟩) dX6_init_41 (fun H locs hR => ?_)
  have hz1 := hz1.sr (a := a) (k := 4) (v := some (a + 5)) (by omega)
  refine lv_aload_n hx hb dX6_init_44 rfl (lv_at hl 0 rfl) ?_
  refine lv_bipush (v := 60) hx hb dX6_init_45 (by decide) ?_
  refine x_newa (atype := .int) (t0 := 0) (N := 60) (n := (a + 6)) (n' := (a + 7)) C hR (hz1 (a + 6) (by omega)) ⟨(kW5 ha).2, lW5 ha⟩ (by omega) (Or.inl ⟨rfl, rfl⟩) ac_int ⟨by decide, by decide, by decide⟩ ⟨by decide, by decide⟩ dX6_init_47 (fun H hR => ?_)
  refine x_putF C hR fo_X6_27 rfl hnm rfl fl_X6_27 rfl (show _ < _ ∧ _ from ⟨by omega, (kW ha).2⟩) dX6_init_49 (fun H locs hR => ?_)
  have hz1 := hz1.sr (a := a) (k := 5) (v := some (a + 6)) (by omega)
  refine lv_aload_n hx hb dX6_init_52 rfl (lv_at hl 0 rfl) ?_
  refine lv_bipush (v := 80) hx hb dX6_init_53 (by decide) ?_
  refine x_newa (atype := .int) (t0 := 0) (N := 80) (n := (a + 7)) (n' := (a + 8)) C hR (hz1 (a + 7) (by omega)) ⟨(kW6 ha).2, lW6 ha⟩ (by omega) (Or.inl ⟨rfl, rfl⟩) ac_int ⟨by decide, by decide, by decide⟩ ⟨by decide, by decide⟩ dX6_init_55 (fun H hR => ?_)
  refine x_putF C hR fo_X6_30 rfl hnm rfl fl_X6_30 rfl (show _ < _ ∧ _ from ⟨by omega, (kW ha).2⟩) dX6_init_57 (fun H locs hR => ?_)
  have hz1 := hz1.sr (a := a) (k := 6) (v := some (a + 7)) (by omega)
  refine lv_aload_n hx hb dX6_init_60 rfl (lv_at hl 0 rfl) ?_
  refine lv_bipush (v := 100) hx hb dX6_init_61 (by decide) ?_
  refine x_newa (atype := .int) (t0 := 0) (N := 100) (n := (a + 8)) (n' := (a + 9)) C hR (hz1 (a + 8) (by omega)) ⟨(kW7 ha).2, lW7 ha⟩ (by omega) (Or.inl ⟨rfl, rfl⟩) ac_int ⟨by decide, by decide, by decide⟩ ⟨by decide, by decide⟩ dX6_init_63 (fun H hR => ?_)
  refine x_putF C hR fo_X6_33 rfl hnm rfl fl_X6_33 rfl (show _ < _ ∧ _ from ⟨by omega, (kW ha).2⟩) dX6_init_65 (fun H locs hR => ?_)
  have hz1 := hz1.sr (a := a) (k := 7) (v := some (a + 8)) (by omega)
  refine lv_aload_n hx hb dX6_init_68 rfl (lv_at hl 0 rfl) ?_
  refine lv_bipush (v := 100) hx hb dX6_init_69 (by decide) ?_
  refine x_newa (atype := .int) (t0 := 0) (N := 100) (n := (a + 9)) (n' := (a + 10)) C hR (hz1 (a + 9) (by omega)) ⟨(kW8 ha).2, lW8 ha⟩ (by omega) (Or.inl ⟨rfl, rfl⟩) ac_int ⟨by decide, by decide, by decide⟩ ⟨by decide, by decide⟩ dX6_init_71 (fun H hR => ?_)
  refine x_putF C hR fo_X6_36 rfl hnm rfl fl_X6_36 rfl (show _ < _ ∧ _ from ⟨by omega, (kW ha).2⟩) dX6_init_73 (fun H locs hR => ?_)
  have hz1 := hz1.sr (a := a) (k := 8) (v := some (a + 9)) (by omega)
  refine lv_aload_n hx hb dX6_init_76 rfl (lv_at hl 0 rfl) ?_
  refine lv_bipush (v := 100) hx hb dX6_init_77 (by decide) ?_
  refine x_newa (atype := .int) (t0 := 0) (N := 100) (n := (a + 10)) (n' := (a + 11)) C hR (hz1 (a + 10) (by omega)) ⟨(kW9 ha).2, lW9 ha⟩ (by omega) (Or.inl ⟨rfl, rfl⟩) ac_int ⟨by decide, by decide, by decide⟩ ⟨by decide, by decide⟩ dX6_init_79 (fun H hR => ?_)
  refine x_putF C hR fo_X6_39 rfl hnm rfl fl_X6_39 rfl (show _ < _ ∧ _ from ⟨by omega, (kW ha).2⟩) dX6_init_81 (fun H locs hR => ?_)
  have hz1 := hz1.sr (a := a) (k := 9) (v := some (a + 10)) (by omega)
  refine lv_aload_n hx hb dX6_init_84 rfl (lv_at hl 0 rfl) ?_
  refine lv_iconst (v := 0) hx hb dX6_init_85 (by decide) ?_
  refine x_putz C hR (by decide) fo_X6_42 rfl rfl (show _ < _ ∧ _ from ⟨by omega, (kW ha).2⟩) dX6_init_86 (fun H locs hR => ?_)
  rw [st_same ((hz a (by omega)).2 10)] at hR
  refine lv_aload_n hx hb dX6_init_89 rfl (lv_at hl 0 rfl) ?_
  refine lv_iconst (v := 0) hx hb dX6_init_90 (by decide) ?_
  refine x_putz C hR (by decide) fo_X6_46 rfl rfl (show _ < _ ∧ _ from ⟨by omega, (kW ha).2⟩) dX6_init_91 (fun H locs hR => ?_)
  rw [st_same ((hz a (by omega)).2 11)] at hR
  refine lv_aload_n hx hb dX6_init_94 rfl (lv_at hl 0 rfl) ?_
  refine lv_iconst (v := 0) hx hb dX6_init_95 (by decide) ?_
  refine x_puti C hR fo_X6_49 rfl rfl (show _ < _ ∧ _ from ⟨by omega, (kW ha).2⟩) dX6_init_96 (fun H locs hR => ?_)
  rw [st_same ((hz a (by omega)).2 12)] at hR
  exact x_vret C hR hr hlk dX6_init_99
theorem dX3_init_0 : decode cX3_init 0 = .ok (.aload_n 0, 1) := by decide +kernel
theorem dX3_init_1 : decode cX3_init 1 = .ok (.invokespecial 3, 3) := by decide +kernel
theorem dX3_init_4 : decode cX3_init 4 = .ok (.aload_n 0, 1) := by decide +kernel
theorem dX3_init_5 : decode cX3_init 5 = .ok (.sipush 240, 3) := by decide +kernel
theorem dX3_init_8 : decode cX3_init 8 = .ok (.newarray .char, 2) := by decide +kernel
theorem dX3_init_10 : decode cX3_init 10 = .ok (.putfield 9, 3) := by decide +kernel
theorem dX3_init_13 : decode cX3_init 13 = .ok (.aload_n 0, 1) := by decide +kernel
theorem dX3_init_14 : decode cX3_init 14 = .ok (.iconst 0, 1) := by decide +kernel
theorem dX3_init_15 : decode cX3_init 15 = .ok (.putfield 15, 3) := by decide +kernel
theorem dX3_init_18 : decode cX3_init 18 = .ok (.aload_n 0, 1) := by decide +kernel
theorem dX3_init_19 : decode cX3_init 19 = .ok (.iconst 0, 1) := by decide +kernel
theorem dX3_init_20 : decode cX3_init 20 = .ok (.putfield 19, 3) := by decide +kernel
theorem dX3_init_23 : decode cX3_init 23 = .ok (.aload_n 0, 1) := by decide +kernel
theorem dX3_init_24 : decode cX3_init 24 = .ok (.iconst 0, 1) := by decide +kernel
theorem dX3_init_25 : decode cX3_init 25 = .ok (.putfield 22, 3) := by decide +kernel
theorem dX3_init_28 : decode cX3_init 28 = .ok (.aload_n 0, 1) := by decide +kernel
theorem dX3_init_29 : decode cX3_init 29 = .ok (.iconst (-1), 1) := by decide +kernel
theorem dX3_init_30 : decode cX3_init 30 = .ok (.putfield 25, 3) := by decide +kernel
theorem dX3_init_33 : decode cX3_init 33 = .ok (.return_, 1) := by decide +kernel
set_option maxHeartbeats 4000000 in
set_option maxRecDepth 100000 in
theorem m_X3_init {l : Launch} {G : GT}  {mr : Rfs} {mi : Mem}  (hz : Fz 1 mr mi) : MX l G yX3_init cX3_init 1 none 1 1 240 [.ref (G.2.2.2.1 + 1)] (2, kd0, ln0) mr mi none (3, kd0, ln0) (sr mr 1 0 (some 2)) (st mi 1 4 (-1)) := by
  refine x_meth3 (own := RX3) (lv := [(0, .ref (G.2.2.2.1 + 1))]) (by decide) rfl rfl (Nat.le_of_ble_eq_true rfl) ?_
  intro p e s m below meth c C hr hlk hnm ls hl H locs hR
  have hx := C.1
  have hb := C.2.1
  have hz1 : Fz 2 mr mi := hz.up (by omega)
  refine lv_aload_n hx hb dX3_init_0 rfl (lv_at hl 0 rfl) ?_
  refine x_obj C ob_X3 hl.1 (by decide) (Nat.le_of_ble_eq_true rfl) dX3_init_1 ?_
  refine lv_aload_n hx hb dX3_init_4 rfl (lv_at hl 0 rfl) ?_
  refine lv_sipush (v := 240) hx hb dX3_init_5 (by decide) ?_
  refine x_newa (atype := .char) (t0 := 0) (N := 240) (n := 2) (n' := 3) C hR (hz1 2 (by omega)) ⟨by decide +kernel, by decide +kernel⟩ (by omega) (Or.inr (Or.inl ⟨rfl, rfl⟩)) ac_char ⟨by decide, by decide, by decide⟩ ⟨by decide, by decide⟩ dX3_init_8 (fun H hR => ?_)
  refine x_putF C hR fo_X3_9 rfl hnm rfl fl_X3_9 rfl (show _ < _ ∧ _ from ⟨by omega, by decide +kernel⟩) dX3_init_10 (fun H locs hR => ?_)
  have hz1 := hz1.sr (a := 1) (k := 0) (v := some 2) (by omega)
  refine lv_aload_n hx hb dX3_init_13 rfl (lv_at hl 0 rfl) ?_
  refine lv_iconst (v := 0) hx hb dX3_init_14 (by decide) ?_
  refine x_puti C hR fo_X3_15 rfl rfl (show _ < _ ∧ _ from ⟨by omega, by decide +kernel⟩) dX3_init_15 (fun H locs hR => ?_)
  rw [st_same ((hz 1 (by omega)).2 1)] at hR
  refine lv_aload_n hx hb dX3_init_18 rfl (lv_at hl 0 rfl) ?_
  refine lv_iconst (v := 0) hx hb dX3_init_19 (by decide) ?_
  refine x_puti C hR fo_X3_19 rfl rfl (show _ < _ ∧ _ from ⟨by omega, by decide +kernel⟩) dX3_init_20 (fun H locs hR => ?_)
  rw [st_same ((hz 1 (by omega)).2 2)] at hR
  refine lv_aload_n hx hb dX3_init_23 rfl (lv_at hl 0 rfl) ?_
  refine lv_iconst (v := 0) hx hb dX3_init_24 (by decide) ?_
  refine x_puti C hR fo_X3_22 rfl rfl (show _ < _ ∧ _ from ⟨by omega, by decide +kernel⟩) dX3_init_25 (fun H locs hR => ?_)
  rw [st_same ((hz 1 (by omega)).2 3)] at hR
  refine lv_aload_n hx hb dX3_init_28 rfl (lv_at hl 0 rfl) ?_
  refine lv_iconst (v := (-1)) hx hb dX3_init_29 (by decide) ?_
  refine x_puti C hR fo_X3_25 rfl rfl (show _ < _ ∧ _ from ⟨by omega, by decide +kernel⟩) dX3_init_30 (fun H locs hR => ?_)
  have hz1 := hz1.st (a := 1) (k := 4) (v := (-1)) (by omega)
  exact x_vret C hR hr hlk dX3_init_33
def talkR (mr : Rfs) : Rfs := (sr (sr (sr (sr (sr mr 173 0 (some 174)) 173 1 (some 175)) 173 2 (some 176)) 173 3 (some 177)) 173 4 (some 178))
theorem talkR_ne {mr : Rfs} {b : Nat} (h : b ≠ 173) : talkR mr b = mr b := by unfold talkR; rw [sr_ne h, sr_ne h, sr_ne h, sr_ne h, sr_ne h]
theorem dX5_init_0 : decode cX5_init 0 = .ok (.aload_n 0, 1) := by decide +kernel
theorem dX5_init_1 : decode cX5_init 1 = .ok (.invokespecial 3, 3) := by decide +kernel
theorem dX5_init_4 : decode cX5_init 4 = .ok (.aload_n 0, 1) := by decide +kernel
theorem dX5_init_5 : decode cX5_init 5 = .ok (.bipush 6, 2) := by decide +kernel
theorem dX5_init_7 : decode cX5_init 7 = .ok (.newarray .int, 2) := by decide +kernel
theorem dX5_init_9 : decode cX5_init 9 = .ok (.putfield 9, 3) := by decide +kernel
theorem dX5_init_12 : decode cX5_init 12 = .ok (.aload_n 0, 1) := by decide +kernel
theorem dX5_init_13 : decode cX5_init 13 = .ok (.bipush 6, 2) := by decide +kernel
theorem dX5_init_15 : decode cX5_init 15 = .ok (.newarray .int, 2) := by decide +kernel
theorem dX5_init_17 : decode cX5_init 17 = .ok (.putfield 15, 3) := by decide +kernel
theorem dX5_init_20 : decode cX5_init 20 = .ok (.aload_n 0, 1) := by decide +kernel
theorem dX5_init_21 : decode cX5_init 21 = .ok (.bipush 6, 2) := by decide +kernel
theorem dX5_init_23 : decode cX5_init 23 = .ok (.newarray .int, 2) := by decide +kernel
theorem dX5_init_25 : decode cX5_init 25 = .ok (.putfield 18, 3) := by decide +kernel
theorem dX5_init_28 : decode cX5_init 28 = .ok (.aload_n 0, 1) := by decide +kernel
theorem dX5_init_29 : decode cX5_init 29 = .ok (.bipush 20, 2) := by decide +kernel
theorem dX5_init_31 : decode cX5_init 31 = .ok (.newarray .int, 2) := by decide +kernel
theorem dX5_init_33 : decode cX5_init 33 = .ok (.putfield 21, 3) := by decide +kernel
theorem dX5_init_36 : decode cX5_init 36 = .ok (.aload_n 0, 1) := by decide +kernel
theorem dX5_init_37 : decode cX5_init 37 = .ok (.bipush 20, 2) := by decide +kernel
theorem dX5_init_39 : decode cX5_init 39 = .ok (.newarray .int, 2) := by decide +kernel
theorem dX5_init_41 : decode cX5_init 41 = .ok (.putfield 24, 3) := by decide +kernel
theorem dX5_init_44 : decode cX5_init 44 = .ok (.aload_n 0, 1) := by decide +kernel
theorem dX5_init_45 : decode cX5_init 45 = .ok (.iconst 0, 1) := by decide +kernel
theorem dX5_init_46 : decode cX5_init 46 = .ok (.putfield 27, 3) := by decide +kernel
theorem dX5_init_49 : decode cX5_init 49 = .ok (.aload_n 0, 1) := by decide +kernel
theorem dX5_init_50 : decode cX5_init 50 = .ok (.iconst 0, 1) := by decide +kernel
theorem dX5_init_51 : decode cX5_init 51 = .ok (.putfield 31, 3) := by decide +kernel
theorem dX5_init_54 : decode cX5_init 54 = .ok (.return_, 1) := by decide +kernel
set_option maxHeartbeats 4000000 in
set_option maxRecDepth 100000 in
theorem m_X5_init {l : Launch} {G : GT}  {mr : Rfs} {mi : Mem}  (hz : Fz 173 mr mi) : MX l G yX5_init cX5_init 1 none 1 5 58 [.ref (G.2.2.2.1 + 173)] (174, kd0, ln0) mr mi none (179, kd0, ln0) (talkR mr) mi := by
  refine x_meth3 (own := RX5) (lv := [(0, .ref (G.2.2.2.1 + 173))]) (by decide) rfl rfl (Nat.le_of_ble_eq_true rfl) ?_
  intro p e s m below meth c C hr hlk hnm ls hl H locs hR
  have hx := C.1
  have hb := C.2.1
  have hz1 : Fz 174 mr mi := hz.up (by omega)
  refine lv_aload_n hx hb dX5_init_0 rfl (lv_at hl 0 rfl) ?_
  refine x_obj C ob_X5 hl.1 (by decide) (Nat.le_of_ble_eq_true rfl) dX5_init_1 ?_
  refine lv_aload_n hx hb dX5_init_4 rfl (lv_at hl 0 rfl) ?_
  refine lv_bipush (v := 6) hx hb dX5_init_5 (by decide) ?_
  refine x_newa (atype := .int) (t0 := 0) (N := 6) (n := 174) (n' := 175) C hR (hz1 174 (by omega)) ⟨by decide +kernel, by decide +kernel⟩ (by omega) (Or.inl ⟨rfl, rfl⟩) ac_int ⟨by decide, by decide, by decide⟩ ⟨by decide, by decide⟩ dX5_init_7 (fun H hR => ?_)
  refine x_putF C hR fo_X5_9 rfl hnm rfl fl_X5_9 rfl (show _ < _ ∧ _ from ⟨by omega, by decide +kernel⟩) dX5_init_9 (fun H locs hR => ?_)
  have hz1 := hz1.sr (a := 173) (k := 0) (v := some 174) (by omega)
  refine lv_aload_n hx hb dX5_init_12 rfl (lv_at hl 0 rfl) ?_
  refine lv_bipush (v := 6) hx hb dX5_init_13 (by decide) ?_
  refine x_newa (atype := .int) (t0 := 0) (N := 6) (n := 175) (n' := 176) C hR (hz1 175 (by omega)) ⟨by decide +kernel, by decide +kernel⟩ (by omega) (Or.inl ⟨rfl, rfl⟩) ac_int ⟨by decide, by decide, by decide⟩ ⟨by decide, by decide⟩ dX5_init_15 (fun H hR => ?_)
  refine x_putF C hR fo_X5_15 rfl hnm rfl fl_X5_15 rfl (show _ < _ ∧ _ from ⟨by omega, by decide +kernel⟩) dX5_init_17 (fun H locs hR => ?_)
  have hz1 := hz1.sr (a := 173) (k := 1) (v := some 175) (by omega)
  refine lv_aload_n hx hb dX5_init_20 rfl (lv_at hl 0 rfl) ?_
  refine lv_bipush (v := 6) hx hb dX5_init_21 (by decide) ?_
  refine x_newa (atype := .int) (t0 := 0) (N := 6) (n := 176) (n' := 177) C hR (hz1 176 (by omega)) ⟨by decide +kernel, by decide +kernel⟩ (by omega) (Or.inl ⟨rfl, rfl⟩) ac_int ⟨by decide, by decide, by decide⟩ ⟨by decide, by decide⟩ dX5_init_23 (fun H hR => ?_)
  refine x_putF C hR fo_X5_18 rfl hnm rfl fl_X5_18 rfl (show _ < _ ∧ _ from ⟨by omega, by decide +kernel⟩) dX5_init_25 (fun H locs hR => ?_)
  have hz1 := hz1.sr (a := 173) (k := 2) (v := some 176) (by omega)
  refine lv_aload_n hx hb dX5_init_28 rfl (lv_at hl 0 rfl) ?_
  refine lv_bipush (v := 20) hx hb dX5_init_29 (by decide) ?_
  refine x_newa (atype := .int) (t0 := 0) (N := 20) (n := 177) (n' := 178) C hR (hz1 177 (by omega)) ⟨by decide +kernel, by decide +kernel⟩ (by omega) (Or.inl ⟨rfl, rfl⟩) ac_int ⟨by decide, by decide, by decide⟩ ⟨by decide, by decide⟩ dX5_init_31 (fun H hR => ?_)
  refine x_putF C hR fo_X5_21 rfl hnm rfl fl_X5_21 rfl (show _ < _ ∧ _ from ⟨by omega, by decide +kernel⟩) dX5_init_33 (fun H locs hR => ?_)
  have hz1 := hz1.sr (a := 173) (k := 3) (v := some 177) (by omega)
  refine lv_aload_n hx hb dX5_init_36 rfl (lv_at hl 0 rfl) ?_
  refine lv_bipush (v := 20) hx hb dX5_init_37 (by decide) ?_
  refine x_newa (atype := .int) (t0 := 0) (N := 20) (n := 178) (n' := 179) C hR (hz1 178 (by omega)) ⟨by decide +kernel, by decide +kernel⟩ (by omega) (Or.inl ⟨rfl, rfl⟩) ac_int ⟨by decide, by decide, by decide⟩ ⟨by decide, by decide⟩ dX5_init_39 (fun H hR => ?_)
  refine x_putF C hR fo_X5_24 rfl hnm rfl fl_X5_24 rfl (show _ < _ ∧ _ from ⟨by omega, by decide +kernel⟩) dX5_init_41 (fun H locs hR => ?_)
  have hz1 := hz1.sr (a := 173) (k := 4) (v := some 178) (by omega)
  refine lv_aload_n hx hb dX5_init_44 rfl (lv_at hl 0 rfl) ?_
  refine lv_iconst (v := 0) hx hb dX5_init_45 (by decide) ?_
  refine x_puti C hR fo_X5_27 rfl rfl (show _ < _ ∧ _ from ⟨by omega, by decide +kernel⟩) dX5_init_46 (fun H locs hR => ?_)
  rw [st_same ((hz 173 (by omega)).2 5)] at hR
  refine lv_aload_n hx hb dX5_init_49 rfl (lv_at hl 0 rfl) ?_
  refine lv_iconst (v := 0) hx hb dX5_init_50 (by decide) ?_
  refine x_puti C hR fo_X5_31 rfl rfl (show _ < _ ∧ _ from ⟨by omega, by decide +kernel⟩) dX5_init_51 (fun H locs hR => ?_)
  rw [st_same ((hz 173 (by omega)).2 6)] at hR
  exact x_vret C hR hr hlk dX5_init_54
def rowsR (mr : Rfs) : Rfs := (sr (sr (sr (sr (sr mr 201 0 (some 202)) 201 1 (some 203)) 201 2 (some 204)) 201 3 (some 205)) 201 6 (some 179))
theorem rowsR_ne {mr : Rfs} {b : Nat} (h : b ≠ 201) : rowsR mr b = mr b := by unfold rowsR; rw [sr_ne h, sr_ne h, sr_ne h, sr_ne h, sr_ne h]
theorem dX4_init_0 : decode cX4_init 0 = .ok (.aload_n 0, 1) := by decide +kernel
theorem dX4_init_1 : decode cX4_init 1 = .ok (.invokespecial 3, 3) := by decide +kernel
theorem dX4_init_4 : decode cX4_init 4 = .ok (.aload_n 0, 1) := by decide +kernel
theorem dX4_init_5 : decode cX4_init 5 = .ok (.bipush 9, 2) := by decide +kernel
theorem dX4_init_7 : decode cX4_init 7 = .ok (.newarray .int, 2) := by decide +kernel
theorem dX4_init_9 : decode cX4_init 9 = .ok (.putfield 9, 3) := by decide +kernel
theorem dX4_init_12 : decode cX4_init 12 = .ok (.aload_n 0, 1) := by decide +kernel
theorem dX4_init_13 : decode cX4_init 13 = .ok (.bipush 9, 2) := by decide +kernel
theorem dX4_init_15 : decode cX4_init 15 = .ok (.newarray .int, 2) := by decide +kernel
theorem dX4_init_17 : decode cX4_init 17 = .ok (.putfield 15, 3) := by decide +kernel
theorem dX4_init_20 : decode cX4_init 20 = .ok (.aload_n 0, 1) := by decide +kernel
theorem dX4_init_21 : decode cX4_init 21 = .ok (.sipush 1728, 3) := by decide +kernel
theorem dX4_init_24 : decode cX4_init 24 = .ok (.newarray .int, 2) := by decide +kernel
theorem dX4_init_26 : decode cX4_init 26 = .ok (.putfield 18, 3) := by decide +kernel
theorem dX4_init_29 : decode cX4_init 29 = .ok (.aload_n 0, 1) := by decide +kernel
theorem dX4_init_30 : decode cX4_init 30 = .ok (.sipush 1728, 3) := by decide +kernel
theorem dX4_init_33 : decode cX4_init 33 = .ok (.newarray .int, 2) := by decide +kernel
theorem dX4_init_35 : decode cX4_init 35 = .ok (.putfield 21, 3) := by decide +kernel
theorem dX4_init_38 : decode cX4_init 38 = .ok (.aload_n 0, 1) := by decide +kernel
theorem dX4_init_39 : decode cX4_init 39 = .ok (.iconst 1, 1) := by decide +kernel
theorem dX4_init_40 : decode cX4_init 40 = .ok (.putfield 24, 3) := by decide +kernel
theorem dX4_init_43 : decode cX4_init 43 = .ok (.aload_n 0, 1) := by decide +kernel
theorem dX4_init_44 : decode cX4_init 44 = .ok (.iconst 0, 1) := by decide +kernel
theorem dX4_init_45 : decode cX4_init 45 = .ok (.putfield 28, 3) := by decide +kernel
theorem dX4_init_48 : decode cX4_init 48 = .ok (.aload_n 0, 1) := by decide +kernel
theorem dX4_init_49 : decode cX4_init 49 = .ok (.aload_n 1, 1) := by decide +kernel
theorem dX4_init_50 : decode cX4_init 50 = .ok (.putfield 32, 3) := by decide +kernel
theorem dX4_init_53 : decode cX4_init 53 = .ok (.return_, 1) := by decide +kernel
set_option maxHeartbeats 4000000 in
set_option maxRecDepth 100000 in
theorem m_X4_init {l : Launch} {G : GT}  {mr : Rfs} {mi : Mem}  (hz : Fz 201 mr mi) : MX l G yX4_init cX4_init 2 none 1 4 3474 [.ref (G.2.2.2.1 + 201), .ref (G.2.2.2.1 + 179)] (202, kd0, ln0) mr mi none (206, kd0, ln0) (rowsR mr) (st mi 201 4 1) := by
  refine x_meth3 (own := RX4) (lv := [(0, .ref (G.2.2.2.1 + 201)), (1, .ref (G.2.2.2.1 + 179))]) (by decide) rfl rfl (Nat.le_of_ble_eq_true rfl) ?_
  intro p e s m below meth c C hr hlk hnm ls hl H locs hR
  have hx := C.1
  have hb := C.2.1
  have hz1 : Fz 202 mr mi := hz.up (by omega)
  refine lv_aload_n hx hb dX4_init_0 rfl (lv_at hl 0 rfl) ?_
  refine x_obj C ob_X4 hl.1 (by decide) (Nat.le_of_ble_eq_true rfl) dX4_init_1 ?_
  refine lv_aload_n hx hb dX4_init_4 rfl (lv_at hl 0 rfl) ?_
  refine lv_bipush (v := 9) hx hb dX4_init_5 (by decide) ?_
  refine x_newa (atype := .int) (t0 := 0) (N := 9) (n := 202) (n' := 203) C hR (hz1 202 (by omega)) ⟨by decide +kernel, by decide +kernel⟩ (by omega) (Or.inl ⟨rfl, rfl⟩) ac_int ⟨by decide, by decide, by decide⟩ ⟨by decide, by decide⟩ dX4_init_7 (fun H hR => ?_)
  refine x_putF C hR fo_X4_9 rfl hnm rfl fl_X4_9 rfl (show _ < _ ∧ _ from ⟨by omega, by decide +kernel⟩) dX4_init_9 (fun H locs hR => ?_)
  have hz1 := hz1.sr (a := 201) (k := 0) (v := some 202) (by omega)
  refine lv_aload_n hx hb dX4_init_12 rfl (lv_at hl 0 rfl) ?_
  refine lv_bipush (v := 9) hx hb dX4_init_13 (by decide) ?_
  refine x_newa (atype := .int) (t0 := 0) (N := 9) (n := 203) (n' := 204) C hR (hz1 203 (by omega)) ⟨by decide +kernel, by decide +kernel⟩ (by omega) (Or.inl ⟨rfl, rfl⟩) ac_int ⟨by decide, by decide, by decide⟩ ⟨by decide, by decide⟩ dX4_init_15 (fun H hR => ?_)
  refine x_putF C hR fo_X4_15 rfl hnm rfl fl_X4_15 rfl (show _ < _ ∧ _ from ⟨by omega, by decide +kernel⟩) dX4_init_17 (fun H locs hR => ?_)
  have hz1 := hz1.sr (a := 201) (k := 1) (v := some 203) (by omega)
  refine lv_aload_n hx hb dX4_init_20 rfl (lv_at hl 0 rfl) ?_
  refine lv_sipush (v := 1728) hx hb dX4_init_21 (by decide) ?_
  refine x_newa (atype := .int) (t0 := 0) (N := 1728) (n := 204) (n' := 205) C hR (hz1 204 (by omega)) ⟨by decide +kernel, by decide +kernel⟩ (by omega) (Or.inl ⟨rfl, rfl⟩) ac_int ⟨by decide, by decide, by decide⟩ ⟨by decide, by decide⟩ dX4_init_24 (fun H hR => ?_)
  refine x_putF C hR fo_X4_18 rfl hnm rfl fl_X4_18 rfl (show _ < _ ∧ _ from ⟨by omega, by decide +kernel⟩) dX4_init_26 (fun H locs hR => ?_)
  have hz1 := hz1.sr (a := 201) (k := 2) (v := some 204) (by omega)
  refine lv_aload_n hx hb dX4_init_29 rfl (lv_at hl 0 rfl) ?_
  refine lv_sipush (v := 1728) hx hb dX4_init_30 (by decide) ?_
  refine x_newa (atype := .int) (t0 := 0) (N := 1728) (n := 205) (n' := 206) C hR (hz1 205 (by omega)) ⟨by decide +kernel, by decide +kernel⟩ (by omega) (Or.inl ⟨rfl, rfl⟩) ac_int ⟨by decide, by decide, by decide⟩ ⟨by decide, by decide⟩ dX4_init_33 (fun H hR => ?_)
  refine x_putF C hR fo_X4_21 rfl hnm rfl fl_X4_21 rfl (show _ < _ ∧ _ from ⟨by omega, by decide +kernel⟩) dX4_init_35 (fun H locs hR => ?_)
  have hz1 := hz1.sr (a := 201) (k := 3) (v := some 205) (by omega)
  refine lv_aload_n hx hb dX4_init_38 rfl (lv_at hl 0 rfl) ?_
  refine lv_iconst (v := 1) hx hb dX4_init_39 (by decide) ?_
  refine x_puti C hR fo_X4_24 rfl rfl (show _ < _ ∧ _ from ⟨by omega, by decide +kernel⟩) dX4_init_40 (fun H locs hR => ?_)
  have hz1 := hz1.st (a := 201) (k := 4) (v := 1) (by omega)
  refine lv_aload_n hx hb dX4_init_43 rfl (lv_at hl 0 rfl) ?_
  refine lv_iconst (v := 0) hx hb dX4_init_44 (by decide) ?_
  refine x_putz C hR (by decide) fo_X4_28 rfl rfl (show _ < _ ∧ _ from ⟨by omega, by decide +kernel⟩) dX4_init_45 (fun H locs hR => ?_)
  rw [st_same (by rw [st_pt, if_neg (by decide)]; exact (hz 201 (by omega)).2 5)] at hR
  refine lv_aload_n hx hb dX4_init_48 rfl (lv_at hl 0 rfl) ?_
  refine lv_aload_n hx hb dX4_init_49 rfl (lv_at hl 1 rfl) ?_
  refine x_putr C hR fo_X4_32 rfl rfl (show _ < _ ∧ _ from ⟨by omega, by decide +kernel⟩) dX4_init_50 (fun H locs hR => ?_)
  have hz1 := hz1.sr (a := 201) (k := 6) (v := some 179) (by omega)
  exact x_vret C hR hr hlk dX4_init_53
theorem dX2_init_0 : decode cX2_init 0 = .ok (.aload_n 0, 1) := by decide +kernel
theorem dX2_init_1 : decode cX2_init 1 = .ok (.invokespecial 1, 3) := by decide +kernel
theorem dX2_init_4 : decode cX2_init 4 = .ok (.aload_n 0, 1) := by decide +kernel
theorem dX2_init_5 : decode cX2_init 5 = .ok (.new 7, 3) := by decide +kernel
theorem dX2_init_8 : decode cX2_init 8 = .ok (.dup, 1) := by decide +kernel
theorem dX2_init_9 : decode cX2_init 9 = .ok (.invokespecial 9, 3) := by decide +kernel
theorem dX2_init_12 : decode cX2_init 12 = .ok (.putfield 10, 3) := by decide +kernel
theorem dX2_init_15 : decode cX2_init 15 = .ok (.aload_n 0, 1) := by decide +kernel
theorem dX2_init_16 : decode cX2_init 16 = .ok (.iconst 0, 1) := by decide +kernel
theorem dX2_init_17 : decode cX2_init 17 = .ok (.putfield 16, 3) := by decide +kernel
theorem dX2_init_20 : decode cX2_init 20 = .ok (.aload_n 0, 1) := by decide +kernel
theorem dX2_init_21 : decode cX2_init 21 = .ok (.iconst 0, 1) := by decide +kernel
theorem dX2_init_22 : decode cX2_init 22 = .ok (.putfield 20, 3) := by decide +kernel
theorem dX2_init_25 : decode cX2_init 25 = .ok (.return_, 1) := by decide +kernel
set_option maxHeartbeats 4000000 in
set_option maxRecDepth 100000 in
theorem m_X2_init {l : Launch} {G : GT} {a : Nat} {mr : Rfs} {mi : Mem} (ha : isI a) (hz : Fz a mr mi) : MX l G yX2_init cX2_init 1 none 2 5 41 [.ref (G.2.2.2.1 + a)] ((a + 1), kd0, ln0) mr mi none ((a + 6), kd0, ln0) (imR mr a) mi := by
  refine x_meth3 (own := RX2) (lv := [(0, .ref (G.2.2.2.1 + a))]) (by decide) rfl rfl (Nat.le_of_ble_eq_true rfl) ?_
  intro p e s m below meth c C hr hlk hnm ls hl H locs hR
  have hx := C.1
  have hb := C.2.1
  have hz1 : Fz (a + 1) mr mi := hz.up (by omega)
  refine lv_aload_n hx hb dX2_init_0 rfl (lv_at hl 0 rfl) ?_
  refine x_obj C ob_X2 hl.1 (by decide) (Nat.le_of_ble_eq_true rfl) dX2_init_1 ?_
  refine lv_aload_n hx hb dX2_init_4 rfl (lv_at hl 0 rfl) ?_
  refine x_new (ci := 0) (n := (a + 1)) (n' := (a + 2)) C hR (by decide) (hz1 (a + 1) (by omega)) (kD (dI ha)).2 (by omega) ⟨cl_X2_7, ni_0⟩ ⟨by decide, by decide⟩ dX2_init_5 (fun H hR => ?_)
  refine lv_dup hx hb dX2_init_8 rfl ?_
  refine x_callI (mc := 4) (ms := 34) (rest := [.ref (G.2.2.2.1 + (a + 1)), .ref (G.2.2.2.1 + a)]) C hR co_X2_9 (m_X0_init (dI ha) (hz1.up (by omega))) rfl rfl (Nat.le_of_ble_eq_true rfl) hl.1 ⟨by decide, by decide⟩ ⟨by decide, by decide⟩ dX2_init_9 (fun H locs hR => ?_)
  have hz1 : Fz (a + 6) (deskR (mr) (a + 1)) (mi) := (hz1.up (by omega)).desk (by omega)
  refine x_putF C hR fo_X2_10 rfl hnm rfl fl_X2_10 rfl (show _ < _ ∧ _ from ⟨by omega, (kI ha).2⟩) dX2_init_12 (fun H locs hR => ?_)
  have hz1 := hz1.sr (a := a) (k := 0) (v := some (a + 1)) (by omega)
  refine lv_aload_n hx hb dX2_init_15 rfl (lv_at hl 0 rfl) ?_
  refine lv_iconst (v := 0) hx hb dX2_init_16 (by decide) ?_
  refine x_puti C hR fo_X2_16 rfl rfl (show _ < _ ∧ _ from ⟨by omega, (kI ha).2⟩) dX2_init_17 (fun H locs hR => ?_)
  rw [st_same ((hz a (by omega)).2 1)] at hR
  refine lv_aload_n hx hb dX2_init_20 rfl (lv_at hl 0 rfl) ?_
  refine lv_iconst (v := 0) hx hb dX2_init_21 (by decide) ?_
  refine x_putz C hR (by decide) fo_X2_20 rfl rfl (show _ < _ ∧ _ from ⟨by omega, (kI ha).2⟩) dX2_init_22 (fun H locs hR => ?_)
  rw [st_same ((hz a (by omega)).2 2)] at hR
  exact x_vret C hR hr hlk dX2_init_25
theorem dX1_init_0 : decode cX1_init 0 = .ok (.aload_n 0, 1) := by decide +kernel
theorem dX1_init_1 : decode cX1_init 1 = .ok (.invokespecial 3, 3) := by decide +kernel
theorem dX1_init_4 : decode cX1_init 4 = .ok (.aload_n 0, 1) := by decide +kernel
theorem dX1_init_5 : decode cX1_init 5 = .ok (.bipush 30, 2) := by decide +kernel
theorem dX1_init_7 : decode cX1_init 7 = .ok (.anewarray 9, 3) := by decide +kernel
theorem dX1_init_10 : decode cX1_init 10 = .ok (.putfield 11, 3) := by decide +kernel
theorem dX1_init_13 : decode cX1_init 13 = .ok (.aload_n 0, 1) := by decide +kernel
theorem dX1_init_14 : decode cX1_init 14 = .ok (.iconst 0, 1) := by decide +kernel
theorem dX1_init_15 : decode cX1_init 15 = .ok (.putfield 17, 3) := by decide +kernel
theorem dX1_init_18 : decode cX1_init 18 = .ok (.aload_n 0, 1) := by decide +kernel
theorem dX1_init_19 : decode cX1_init 19 = .ok (.iconst 0, 1) := by decide +kernel
theorem dX1_init_20 : decode cX1_init 20 = .ok (.putfield 21, 3) := by decide +kernel
theorem dX1_init_23 : decode cX1_init 23 = .ok (.iconst 0, 1) := by decide +kernel
theorem dX1_init_24 : decode cX1_init 24 = .ok (.istore_n 1, 1) := by decide +kernel
theorem dX1_init_25 : decode cX1_init 25 = .ok (.iload_n 1, 1) := by decide +kernel
theorem dX1_init_26 : decode cX1_init 26 = .ok (.bipush 30, 2) := by decide +kernel
theorem dX1_init_28 : decode cX1_init 28 = .ok (.if_icmp .ge 22, 3) := by decide +kernel
theorem dX1_init_31 : decode cX1_init 31 = .ok (.aload_n 0, 1) := by decide +kernel
theorem dX1_init_32 : decode cX1_init 32 = .ok (.getfield 11, 3) := by decide +kernel
theorem dX1_init_35 : decode cX1_init 35 = .ok (.iload_n 1, 1) := by decide +kernel
theorem dX1_init_36 : decode cX1_init 36 = .ok (.new 9, 3) := by decide +kernel
theorem dX1_init_39 : decode cX1_init 39 = .ok (.dup, 1) := by decide +kernel
theorem dX1_init_40 : decode cX1_init 40 = .ok (.invokespecial 24, 3) := by decide +kernel
theorem dX1_init_43 : decode cX1_init 43 = .ok (.aastore, 1) := by decide +kernel
theorem dX1_init_44 : decode cX1_init 44 = .ok (.iinc 1 1, 3) := by decide +kernel
theorem dX1_init_47 : decode cX1_init 47 = .ok (.goto (-22), 3) := by decide +kernel
theorem dX1_init_50 : decode cX1_init 50 = .ok (.return_, 1) := by decide +kernel
set_option maxHeartbeats 4000000 in
set_option maxRecDepth 100000 in
theorem m_X1_init {l : Launch} {G : GT}  {mr : Rfs} {mi : Mem}  (hz : Fz 8 mr mi) : MX l G yX1_init cX1_init 2 none 2 151 1260 [.ref (G.2.2.2.1 + 8)] (9, kd0, ln0) mr mi none (160, kd0, ln0) (hmr mr 30) mi := by
  refine x_meth3 (own := RX1) (lv := [(0, .ref (G.2.2.2.1 + 8))]) (by decide) rfl rfl (Nat.le_of_ble_eq_true rfl) ?_
  intro p e s m below meth c C hr hlk hnm ls hl H locs hR
  have hx := C.1
  have hb := C.2.1
  have hz1 : Fz 9 mr mi := hz.up (by omega)
  refine lv_aload_n hx hb dX1_init_0 rfl (lv_at hl 0 rfl) ?_
  refine x_obj C ob_X1 hl.1 (by decide) (Nat.le_of_ble_eq_true rfl) dX1_init_1 ?_
  refine lv_aload_n hx hb dX1_init_4 rfl (lv_at hl 0 rfl) ?_
  refine lv_bipush (v := 30) hx hb dX1_init_5 (by decide) ?_
  refine x_anew (K := RX0) (t0 := 0) (N := 30) (n := 9) (n' := 10) C hR (hz1 9 (by omega)) ⟨by decide +kernel, by decide +kernel⟩ (by omega) (Or.inl ⟨rfl, rfl⟩) cl_X1_9 (va_AO.use (C.2.2.2.2.2.2 _ ao_0)) ⟨by decide, by decide, by decide⟩ ⟨by decide, by decide⟩ dX1_init_7 (fun H hR => ?_)
  refine x_putF C hR fo_X1_11 rfl hnm rfl fl_X1_11 rfl (show _ < _ ∧ _ from ⟨by omega, by decide +kernel⟩) dX1_init_10 (fun H locs hR => ?_)
  have hz1 := hz1.sr (a := 8) (k := 0) (v := some 9) (by omega)
  have hR : RM G (10, kd0, ln0) (hmr mr 0) (mi) H locs := hR
  have hz1 : Fz 10 (hmr mr 0) (mi) := hz1.up (by omega)
  refine lv_aload_n hx hb dX1_init_13 rfl (lv_at hl 0 rfl) ?_
  refine lv_iconst (v := 0) hx hb dX1_init_14 (by decide) ?_
  refine x_puti C hR fo_X1_17 rfl rfl (show _ < _ ∧ _ from ⟨by omega, by decide +kernel⟩) dX1_init_15 (fun H locs hR => ?_)
  rw [st_same ((hz 8 (by omega)).2 1)] at hR
  refine lv_aload_n hx hb dX1_init_18 rfl (lv_at hl 0 rfl) ?_
  refine lv_iconst (v := 0) hx hb dX1_init_19 (by decide) ?_
  refine x_puti C hR fo_X1_21 rfl rfl (show _ < _ ∧ _ from ⟨by omega, by decide +kernel⟩) dX1_init_20 (fun H locs hR => ?_)
  rw [st_same ((hz 8 (by omega)).2 2)] at hR
  refine lv_iconst (v := 0) hx hb dX1_init_23 (by decide) ?_
  refine lv_istore_n (lv' := [(1, .int 0), (0, .ref (G.2.2.2.1 + 8))]) hx hb dX1_init_24 rfl hl (by decide) rfl (fun ls hl => ?_)
  refine lv_iload_n hx hb dX1_init_25 rfl (lv_at hl 0 rfl) ?_
  refine lv_bipush (v := 30) hx hb dX1_init_26 (by decide) ?_
  refine lv_icmp_ge (tgt := 50) hx hb dX1_init_28 (by decide) (fun c => absurd c (by decide)) (fun _ => ?_)
  refine lv_aload_n hx hb dX1_init_31 rfl (lv_at hl 1 rfl) ?_
  refine x_getr (b := 9) C hR fo_X1_11 rfl (show _ < _ ∧ _ from ⟨by omega, by decide +kernel⟩) (hmr_ring mr 0) dX1_init_32 ?_
  refine lv_iload_n hx hb dX1_init_35 rfl (lv_at hl 0 rfl) ?_
  refine x_new (ci := 0) (n := 10) (n' := 11) C hR (by decide) (hz1 10 (by omega)) (by decide +kernel) (by omega) ⟨cl_X1_9, ni_0⟩ ⟨by decide, by decide⟩ dX1_init_36 (fun H hR => ?_)
  refine lv_dup hx hb dX1_init_39 rfl ?_
  refine x_callI (mc := 4) (ms := 34) (rest := [.ref (G.2.2.2.1 + 10), .int 0, .ref (G.2.2.2.1 + 9)]) C hR co_X1_24 (m_X0_init (show isD 10 by unfold isD; decide) (hz1.up (by omega))) rfl rfl (Nat.le_of_ble_eq_true rfl) hl.1 ⟨by decide, by decide⟩ ⟨by decide, by decide⟩ dX1_init_40 (fun H locs hR => ?_)
  have hz1 : Fz 15 (deskR (hmr mr 0) 10) (mi) := (hz1.up (by omega)).desk (by omega)
  refine x_aast (kd := 12) (ci := 0) (t0 := 0) C hR (Or.inl ⟨rfl, rfl⟩) (show _ < _ ∧ _ from ⟨by omega, by decide +kernel⟩) (show _ < _ ∧ _ from ⟨by omega, by decide +kernel⟩) (show inB 0 (ln0 9) = true by decide +kernel) dX1_init_43 (fun H locs hR => ?_)
  have hR : RM G (15, kd0, ln0) (hmr mr 1) (mi) H locs := hR
  have hz1 : Fz 15 (hmr mr 1) (mi) := (Fz.hmr (hz.up (by omega)) 1)
  refine lv_iinc (v := 1) (lv' := [(1, .int 1), (0, .ref (G.2.2.2.1 + 8))]) hx hb dX1_init_44 hl (k := 0) rfl (by decide) (by decide) rfl (fun ls hl => ?_)
  refine lv_goto (tgt := 25) hx hb dX1_init_47 (by decide) ?_
  refine lv_iload_n hx hb dX1_init_25 rfl (lv_at hl 0 rfl) ?_
  refine lv_bipush (v := 30) hx hb dX1_init_26 (by decide) ?_
  refine lv_icmp_ge (tgt := 50) hx hb dX1_init_28 (by decide) (fun c => absurd c (by decide)) (fun _ => ?_)
  refine lv_aload_n hx hb dX1_init_31 rfl (lv_at hl 1 rfl) ?_
  refine x_getr (b := 9) C hR fo_X1_11 rfl (show _ < _ ∧ _ from ⟨by omega, by decide +kernel⟩) (hmr_ring mr 1) dX1_init_32 ?_
  refine lv_iload_n hx hb dX1_init_35 rfl (lv_at hl 0 rfl) ?_
  refine x_new (ci := 0) (n := 15) (n' := 16) C hR (by decide) (hz1 15 (by omega)) (by decide +kernel) (by omega) ⟨cl_X1_9, ni_0⟩ ⟨by decide, by decide⟩ dX1_init_36 (fun H hR => ?_)
  refine lv_dup hx hb dX1_init_39 rfl ?_
  refine x_callI (mc := 4) (ms := 34) (rest := [.ref (G.2.2.2.1 + 15), .int 1, .ref (G.2.2.2.1 + 9)]) C hR co_X1_24 (m_X0_init (show isD 15 by unfold isD; decide) (hz1.up (by omega))) rfl rfl (Nat.le_of_ble_eq_true rfl) hl.1 ⟨by decide, by decide⟩ ⟨by decide, by decide⟩ dX1_init_40 (fun H locs hR => ?_)
  have hz1 : Fz 20 (deskR (hmr mr 1) 15) (mi) := (hz1.up (by omega)).desk (by omega)
  refine x_aast (kd := 12) (ci := 0) (t0 := 0) C hR (Or.inl ⟨rfl, rfl⟩) (show _ < _ ∧ _ from ⟨by omega, by decide +kernel⟩) (show _ < _ ∧ _ from ⟨by omega, by decide +kernel⟩) (show inB 1 (ln0 9) = true by decide +kernel) dX1_init_43 (fun H locs hR => ?_)
  have hR : RM G (20, kd0, ln0) (hmr mr 2) (mi) H locs := hR
  have hz1 : Fz 20 (hmr mr 2) (mi) := (Fz.hmr (hz.up (by omega)) 2)
  refine lv_iinc (v := 2) (lv' := [(1, .int 2), (0, .ref (G.2.2.2.1 + 8))]) hx hb dX1_init_44 hl (k := 0) rfl (by decide) (by decide) rfl (fun ls hl => ?_)
  refine lv_goto (tgt := 25) hx hb dX1_init_47 (by decide) ?_
  refine lv_iload_n hx hb dX1_init_25 rfl (lv_at hl 0 rfl) ?_
  refine lv_bipush (v := 30) hx hb dX1_init_26 (by decide) ?_
  refine lv_icmp_ge (tgt := 50) hx hb dX1_init_28 (by decide) (fun c => absurd c (by decide)) (fun _ => ?_)
  refine lv_aload_n hx hb dX1_init_31 rfl (lv_at hl 1 rfl) ?_
  refine x_getr (b := 9) C hR fo_X1_11 rfl (show _ < _ ∧ _ from ⟨by omega, by decide +kernel⟩) (hmr_ring mr 2) dX1_init_32 ?_
  refine lv_iload_n hx hb dX1_init_35 rfl (lv_at hl 0 rfl) ?_
  refine x_new (ci := 0) (n := 20) (n' := 21) C hR (by decide) (hz1 20 (by omega)) (by decide +kernel) (by omega) ⟨cl_X1_9, ni_0⟩ ⟨by decide, by decide⟩ dX1_init_36 (fun H hR => ?_)
  refine lv_dup hx hb dX1_init_39 rfl ?_
  refine x_callI (mc := 4) (ms := 34) (rest := [.ref (G.2.2.2.1 + 20), .int 2, .ref (G.2.2.2.1 + 9)]) C hR co_X1_24 (m_X0_init (show isD 20 by unfold isD; decide) (hz1.up (by omega))) rfl rfl (Nat.le_of_ble_eq_true rfl) hl.1 ⟨by decide, by decide⟩ ⟨by decide, by decide⟩ dX1_init_40 (fun H locs hR => ?_)
  have hz1 : Fz 25 (deskR (hmr mr 2) 20) (mi) := (hz1.up (by omega)).desk (by omega)
  refine x_aast (kd := 12) (ci := 0) (t0 := 0) C hR (Or.inl ⟨rfl, rfl⟩) (show _ < _ ∧ _ from ⟨by omega, by decide +kernel⟩) (show _ < _ ∧ _ from ⟨by omega, by decide +kernel⟩) (show inB 2 (ln0 9) = true by decide +kernel) dX1_init_43 (fun H locs hR => ?_)
  have hR : RM G (25, kd0, ln0) (hmr mr 3) (mi) H locs := hR
  have hz1 : Fz 25 (hmr mr 3) (mi) := (Fz.hmr (hz.up (by omega)) 3)
  refine lv_iinc (v := 3) (lv' := [(1, .int 3), (0, .ref (G.2.2.2.1 + 8))]) hx hb dX1_init_44 hl (k := 0) rfl (by decide) (by decide) rfl (fun ls hl => ?_)
  refine lv_goto (tgt := 25) hx hb dX1_init_47 (by decide) ?_
  refine lv_iload_n hx hb dX1_init_25 rfl (lv_at hl 0 rfl) ?_
  refine lv_bipush (v := 30) hx hb dX1_init_26 (by decide) ?_
  refine lv_icmp_ge (tgt := 50) hx hb dX1_init_28 (by decide) (fun c => absurd c (by decide)) (fun _ => ?_)
  refine lv_aload_n hx hb dX1_init_31 rfl (lv_at hl 1 rfl) ?_
  refine x_getr (b := 9) C hR fo_X1_11 rfl (show _ < _ ∧ _ from ⟨by omega, by decide +kernel⟩) (hmr_ring mr 3) dX1_init_32 ?_
  refine lv_iload_n hx hb dX1_init_35 rfl (lv_at hl 0 rfl) ?_
  refine x_new (ci := 0) (n := 25) (n' := 26) C hR (by decide) (hz1 25 (by omega)) (by decide +kernel) (by omega) ⟨cl_X1_9, ni_0⟩ ⟨by decide, by decide⟩ dX1_init_36 (fun H hR => ?_)
  refine lv_dup hx hb dX1_init_39 rfl ?_
  refine x_callI (mc := 4) (ms := 34) (rest := [.ref (G.2.2.2.1 + 25), .int 3, .ref (G.2.2.2.1 + 9)]) C hR co_X1_24 (m_X0_init (show isD 25 by unfold isD; decide) (hz1.up (by omega))) rfl rfl (Nat.le_of_ble_eq_true rfl) hl.1 ⟨by decide, by decide⟩ ⟨by decide, by decide⟩ dX1_init_40 (fun H locs hR => ?_)
  have hz1 : Fz 30 (deskR (hmr mr 3) 25) (mi) := (hz1.up (by omega)).desk (by omega)
  refine x_aast (kd := 12) (ci := 0) (t0 := 0) C hR (Or.inl ⟨rfl, rfl⟩) (show _ < _ ∧ _ from ⟨by omega, by decide +kernel⟩) (show _ < _ ∧ _ from ⟨by omega, by decide +kernel⟩) (show inB 3 (ln0 9) = true by decide +kernel) dX1_init_43 (fun H locs hR => ?_)
  have hR : RM G (30, kd0, ln0) (hmr mr 4) (mi) H locs := hR
  have hz1 : Fz 30 (hmr mr 4) (mi) := (Fz.hmr (hz.up (by omega)) 4)
  refine lv_iinc (v := 4) (lv' := [(1, .int 4), (0, .ref (G.2.2.2.1 + 8))]) hx hb dX1_init_44 hl (k := 0) rfl (by decide) (by decide) rfl (fun ls hl => ?_)
  refine lv_goto (tgt := 25) hx hb dX1_init_47 (by decide) ?_
  refine lv_iload_n hx hb dX1_init_25 rfl (lv_at hl 0 rfl) ?_
  refine lv_bipush (v := 30) hx hb dX1_init_26 (by decide) ?_
  refine lv_icmp_ge (tgt := 50) hx hb dX1_init_28 (by decide) (fun c => absurd c (by decide)) (fun _ => ?_)
  refine lv_aload_n hx hb dX1_init_31 rfl (lv_at hl 1 rfl) ?_
  refine x_getr (b := 9) C hR fo_X1_11 rfl (show _ < _ ∧ _ from ⟨by omega, by decide +kernel⟩) (hmr_ring mr 4) dX1_init_32 ?_
  refine lv_iload_n hx hb dX1_init_35 rfl (lv_at hl 0 rfl) ?_
  refine x_new (ci := 0) (n := 30) (n' := 31) C hR (by decide) (hz1 30 (by omega)) (by decide +kernel) (by omega) ⟨cl_X1_9, ni_0⟩ ⟨by decide, by decide⟩ dX1_init_36 (fun H hR => ?_)
  refine lv_dup hx hb dX1_init_39 rfl ?_
  refine x_callI (mc := 4) (ms := 34) (rest := [.ref (G.2.2.2.1 + 30), .int 4, .ref (G.2.2.2.1 + 9)]) C hR co_X1_24 (m_X0_init (show isD 30 by unfold isD; decide) (hz1.up (by omega))) rfl rfl (Nat.le_of_ble_eq_true rfl) hl.1 ⟨by decide, by decide⟩ ⟨by decide, by decide⟩ dX1_init_40 (fun H locs hR => ?_)
  have hz1 : Fz 35 (deskR (hmr mr 4) 30) (mi) := (hz1.up (by omega)).desk (by omega)
  refine x_aast (kd := 12) (ci := 0) (t0 := 0) C hR (Or.inl ⟨rfl, rfl⟩) (show _ < _ ∧ _ from ⟨by omega, by decide +kernel⟩) (show _ < _ ∧ _ from ⟨by omega, by decide +kernel⟩) (show inB 4 (ln0 9) = true by decide +kernel) dX1_init_43 (fun H locs hR => ?_)
  have hR : RM G (35, kd0, ln0) (hmr mr 5) (mi) H locs := hR
  have hz1 : Fz 35 (hmr mr 5) (mi) := (Fz.hmr (hz.up (by omega)) 5)
  refine lv_iinc (v := 5) (lv' := [(1, .int 5), (0, .ref (G.2.2.2.1 + 8))]) hx hb dX1_init_44 hl (k := 0) rfl (by decide) (by decide) rfl (fun ls hl => ?_)
  refine lv_goto (tgt := 25) hx hb dX1_init_47 (by decide) ?_
  refine lv_iload_n hx hb dX1_init_25 rfl (lv_at hl 0 rfl) ?_
  refine lv_bipush (v := 30) hx hb dX1_init_26 (by decide) ?_
  refine lv_icmp_ge (tgt := 50) hx hb dX1_init_28 (by decide) (fun c => absurd c (by decide)) (fun _ => ?_)
  refine lv_aload_n hx hb dX1_init_31 rfl (lv_at hl 1 rfl) ?_
  refine x_getr (b := 9) C hR fo_X1_11 rfl (show _ < _ ∧ _ from ⟨by omega, by decide +kernel⟩) (hmr_ring mr 5) dX1_init_32 ?_
  refine lv_iload_n hx hb dX1_init_35 rfl (lv_at hl 0 rfl) ?_
  refine x_new (ci := 0) (n := 35) (n' := 36) C hR (by decide) (hz1 35 (by omega)) (by decide +kernel) (by omega) ⟨cl_X1_9, ni_0⟩ ⟨by decide, by decide⟩ dX1_init_36 (fun H hR => ?_)
  refine lv_dup hx hb dX1_init_39 rfl ?_
  refine x_callI (mc := 4) (ms := 34) (rest := [.ref (G.2.2.2.1 + 35), .int 5, .ref (G.2.2.2.1 + 9)]) C hR co_X1_24 (m_X0_init (show isD 35 by unfold isD; decide) (hz1.up (by omega))) rfl rfl (Nat.le_of_ble_eq_true rfl) hl.1 ⟨by decide, by decide⟩ ⟨by decide, by decide⟩ dX1_init_40 (fun H locs hR => ?_)
  have hz1 : Fz 40 (deskR (hmr mr 5) 35) (mi) := (hz1.up (by omega)).desk (by omega)
  refine x_aast (kd := 12) (ci := 0) (t0 := 0) C hR (Or.inl ⟨rfl, rfl⟩) (show _ < _ ∧ _ from ⟨by omega, by decide +kernel⟩) (show _ < _ ∧ _ from ⟨by omega, by decide +kernel⟩) (show inB 5 (ln0 9) = true by decide +kernel) dX1_init_43 (fun H locs hR => ?_)
  have hR : RM G (40, kd0, ln0) (hmr mr 6) (mi) H locs := hR
  have hz1 : Fz 40 (hmr mr 6) (mi) := (Fz.hmr (hz.up (by omega)) 6)
  refine lv_iinc (v := 6) (lv' := [(1, .int 6), (0, .ref (G.2.2.2.1 + 8))]) hx hb dX1_init_44 hl (k := 0) rfl (by decide) (by decide) rfl (fun ls hl => ?_)
  refine lv_goto (tgt := 25) hx hb dX1_init_47 (by decide) ?_
  refine lv_iload_n hx hb dX1_init_25 rfl (lv_at hl 0 rfl) ?_
  refine lv_bipush (v := 30) hx hb dX1_init_26 (by decide) ?_
  refine lv_icmp_ge (tgt := 50) hx hb dX1_init_28 (by decide) (fun c => absurd c (by decide)) (fun _ => ?_)
  refine lv_aload_n hx hb dX1_init_31 rfl (lv_at hl 1 rfl) ?_
  refine x_getr (b := 9) C hR fo_X1_11 rfl (show _ < _ ∧ _ from ⟨by omega, by decide +kernel⟩) (hmr_ring mr 6) dX1_init_32 ?_
  refine lv_iload_n hx hb dX1_init_35 rfl (lv_at hl 0 rfl) ?_
  refine x_new (ci := 0) (n := 40) (n' := 41) C hR (by decide) (hz1 40 (by omega)) (by decide +kernel) (by omega) ⟨cl_X1_9, ni_0⟩ ⟨by decide, by decide⟩ dX1_init_36 (fun H hR => ?_)
  refine lv_dup hx hb dX1_init_39 rfl ?_
  refine x_callI (mc := 4) (ms := 34) (rest := [.ref (G.2.2.2.1 + 40), .int 6, .ref (G.2.2.2.1 + 9)]) C hR co_X1_24 (m_X0_init (show isD 40 by unfold isD; decide) (hz1.up (by omega))) rfl rfl (Nat.le_of_ble_eq_true rfl) hl.1 ⟨by decide, by decide⟩ ⟨by decide, by decide⟩ dX1_init_40 (fun H locs hR => ?_)
  have hz1 : Fz 45 (deskR (hmr mr 6) 40) (mi) := (hz1.up (by omega)).desk (by omega)
  refine x_aast (kd := 12) (ci := 0) (t0 := 0) C hR (Or.inl ⟨rfl, rfl⟩) (show _ < _ ∧ _ from ⟨by omega, by decide +kernel⟩) (show _ < _ ∧ _ from ⟨by omega, by decide +kernel⟩) (show inB 6 (ln0 9) = true by decide +kernel) dX1_init_43 (fun H locs hR => ?_)
  have hR : RM G (45, kd0, ln0) (hmr mr 7) (mi) H locs := hR
  have hz1 : Fz 45 (hmr mr 7) (mi) := (Fz.hmr (hz.up (by omega)) 7)
  refine lv_iinc (v := 7) (lv' := [(1, .int 7), (0, .ref (G.2.2.2.1 + 8))]) hx hb dX1_init_44 hl (k := 0) rfl (by decide) (by decide) rfl (fun ls hl => ?_)
  refine lv_goto (tgt := 25) hx hb dX1_init_47 (by decide) ?_
  refine lv_iload_n hx hb dX1_init_25 rfl (lv_at hl 0 rfl) ?_
  refine lv_bipush (v := 30) hx hb dX1_init_26 (by decide) ?_
  refine lv_icmp_ge (tgt := 50) hx hb dX1_init_28 (by decide) (fun c => absurd c (by decide)) (fun _ => ?_)
  refine lv_aload_n hx hb dX1_init_31 rfl (lv_at hl 1 rfl) ?_
  refine x_getr (b := 9) C hR fo_X1_11 rfl (show _ < _ ∧ _ from ⟨by omega, by decide +kernel⟩) (hmr_ring mr 7) dX1_init_32 ?_
  refine lv_iload_n hx hb dX1_init_35 rfl (lv_at hl 0 rfl) ?_
  refine x_new (ci := 0) (n := 45) (n' := 46) C hR (by decide) (hz1 45 (by omega)) (by decide +kernel) (by omega) ⟨cl_X1_9, ni_0⟩ ⟨by decide, by decide⟩ dX1_init_36 (fun H hR => ?_)
  refine lv_dup hx hb dX1_init_39 rfl ?_
  refine x_callI (mc := 4) (ms := 34) (rest := [.ref (G.2.2.2.1 + 45), .int 7, .ref (G.2.2.2.1 + 9)]) C hR co_X1_24 (m_X0_init (show isD 45 by unfold isD; decide) (hz1.up (by omega))) rfl rfl (Nat.le_of_ble_eq_true rfl) hl.1 ⟨by decide, by decide⟩ ⟨by decide, by decide⟩ dX1_init_40 (fun H locs hR => ?_)
  have hz1 : Fz 50 (deskR (hmr mr 7) 45) (mi) := (hz1.up (by omega)).desk (by omega)
  refine x_aast (kd := 12) (ci := 0) (t0 := 0) C hR (Or.inl ⟨rfl, rfl⟩) (show _ < _ ∧ _ from ⟨by omega, by decide +kernel⟩) (show _ < _ ∧ _ from ⟨by omega, by decide +kernel⟩) (show inB 7 (ln0 9) = true by decide +kernel) dX1_init_43 (fun H locs hR => ?_)
  have hR : RM G (50, kd0, ln0) (hmr mr 8) (mi) H locs := hR
  have hz1 : Fz 50 (hmr mr 8) (mi) := (Fz.hmr (hz.up (by omega)) 8)
  refine lv_iinc (v := 8) (lv' := [(1, .int 8), (0, .ref (G.2.2.2.1 + 8))]) hx hb dX1_init_44 hl (k := 0) rfl (by decide) (by decide) rfl (fun ls hl => ?_)
  refine lv_goto (tgt := 25) hx hb dX1_init_47 (by decide) ?_
  refine lv_iload_n hx hb dX1_init_25 rfl (lv_at hl 0 rfl) ?_
  refine lv_bipush (v := 30) hx hb dX1_init_26 (by decide) ?_
  refine lv_icmp_ge (tgt := 50) hx hb dX1_init_28 (by decide) (fun c => absurd c (by decide)) (fun _ => ?_)
  refine lv_aload_n hx hb dX1_init_31 rfl (lv_at hl 1 rfl) ?_
  refine x_getr (b := 9) C hR fo_X1_11 rfl (show _ < _ ∧ _ from ⟨by omega, by decide +kernel⟩) (hmr_ring mr 8) dX1_init_32 ?_
  refine lv_iload_n hx hb dX1_init_35 rfl (lv_at hl 0 rfl) ?_
  refine x_new (ci := 0) (n := 50) (n' := 51) C hR (by decide) (hz1 50 (by omega)) (by decide +kernel) (by omega) ⟨cl_X1_9, ni_0⟩ ⟨by decide, by decide⟩ dX1_init_36 (fun H hR => ?_)
  refine lv_dup hx hb dX1_init_39 rfl ?_
  refine x_callI (mc := 4) (ms := 34) (rest := [.ref (G.2.2.2.1 + 50), .int 8, .ref (G.2.2.2.1 + 9)]) C hR co_X1_24 (m_X0_init (show isD 50 by unfold isD; decide) (hz1.up (by omega))) rfl rfl (Nat.le_of_ble_eq_true rfl) hl.1 ⟨by decide, by decide⟩ ⟨by decide, by decide⟩ dX1_init_40 (fun H locs hR => ?_)
  have hz1 : Fz 55 (deskR (hmr mr 8) 50) (mi) := (hz1.up (by omega)).desk (by omega)
  refine x_aast (kd := 12) (ci := 0) (t0 := 0) C hR (Or.inl ⟨rfl, rfl⟩) (show _ < _ ∧ _ from ⟨by omega, by decide +kernel⟩) (show _ < _ ∧ _ from ⟨by omega, by decide +kernel⟩) (show inB 8 (ln0 9) = true by decide +kernel) dX1_init_43 (fun H locs hR => ?_)
  have hR : RM G (55, kd0, ln0) (hmr mr 9) (mi) H locs := hR
  have hz1 : Fz 55 (hmr mr 9) (mi) := (Fz.hmr (hz.up (by omega)) 9)
  refine lv_iinc (v := 9) (lv' := [(1, .int 9), (0, .ref (G.2.2.2.1 + 8))]) hx hb dX1_init_44 hl (k := 0) rfl (by decide) (by decide) rfl (fun ls hl => ?_)
  refine lv_goto (tgt := 25) hx hb dX1_init_47 (by decide) ?_
  refine lv_iload_n hx hb dX1_init_25 rfl (lv_at hl 0 rfl) ?_
  refine lv_bipush (v := 30) hx hb dX1_init_26 (by decide) ?_
  refine lv_icmp_ge (tgt := 50) hx hb dX1_init_28 (by decide) (fun c => absurd c (by decide)) (fun _ => ?_)
  refine lv_aload_n hx hb dX1_init_31 rfl (lv_at hl 1 rfl) ?_
  refine x_getr (b := 9) C hR fo_X1_11 rfl (show _ < _ ∧ _ from ⟨by omega, by decide +kernel⟩) (hmr_ring mr 9) dX1_init_32 ?_
  refine lv_iload_n hx hb dX1_init_35 rfl (lv_at hl 0 rfl) ?_
  refine x_new (ci := 0) (n := 55) (n' := 56) C hR (by decide) (hz1 55 (by omega)) (by decide +kernel) (by omega) ⟨cl_X1_9, ni_0⟩ ⟨by decide, by decide⟩ dX1_init_36 (fun H hR => ?_)
  refine lv_dup hx hb dX1_init_39 rfl ?_
  refine x_callI (mc := 4) (ms := 34) (rest := [.ref (G.2.2.2.1 + 55), .int 9, .ref (G.2.2.2.1 + 9)]) C hR co_X1_24 (m_X0_init (show isD 55 by unfold isD; decide) (hz1.up (by omega))) rfl rfl (Nat.le_of_ble_eq_true rfl) hl.1 ⟨by decide, by decide⟩ ⟨by decide, by decide⟩ dX1_init_40 (fun H locs hR => ?_)
  have hz1 : Fz 60 (deskR (hmr mr 9) 55) (mi) := (hz1.up (by omega)).desk (by omega)
  refine x_aast (kd := 12) (ci := 0) (t0 := 0) C hR (Or.inl ⟨rfl, rfl⟩) (show _ < _ ∧ _ from ⟨by omega, by decide +kernel⟩) (show _ < _ ∧ _ from ⟨by omega, by decide +kernel⟩) (show inB 9 (ln0 9) = true by decide +kernel) dX1_init_43 (fun H locs hR => ?_)
  have hR : RM G (60, kd0, ln0) (hmr mr 10) (mi) H locs := hR
  have hz1 : Fz 60 (hmr mr 10) (mi) := (Fz.hmr (hz.up (by omega)) 10)
  refine lv_iinc (v := 10) (lv' := [(1, .int 10), (0, .ref (G.2.2.2.1 + 8))]) hx hb dX1_init_44 hl (k := 0) rfl (by decide) (by decide) rfl (fun ls hl => ?_)
  refine lv_goto (tgt := 25) hx hb dX1_init_47 (by decide) ?_
  refine lv_iload_n hx hb dX1_init_25 rfl (lv_at hl 0 rfl) ?_
  refine lv_bipush (v := 30) hx hb dX1_init_26 (by decide) ?_
  refine lv_icmp_ge (tgt := 50) hx hb dX1_init_28 (by decide) (fun c => absurd c (by decide)) (fun _ => ?_)
  refine lv_aload_n hx hb dX1_init_31 rfl (lv_at hl 1 rfl) ?_
  refine x_getr (b := 9) C hR fo_X1_11 rfl (show _ < _ ∧ _ from ⟨by omega, by decide +kernel⟩) (hmr_ring mr 10) dX1_init_32 ?_
  refine lv_iload_n hx hb dX1_init_35 rfl (lv_at hl 0 rfl) ?_
  refine x_new (ci := 0) (n := 60) (n' := 61) C hR (by decide) (hz1 60 (by omega)) (by decide +kernel) (by omega) ⟨cl_X1_9, ni_0⟩ ⟨by decide, by decide⟩ dX1_init_36 (fun H hR => ?_)
  refine lv_dup hx hb dX1_init_39 rfl ?_
  refine x_callI (mc := 4) (ms := 34) (rest := [.ref (G.2.2.2.1 + 60), .int 10, .ref (G.2.2.2.1 + 9)]) C hR co_X1_24 (m_X0_init (show isD 60 by unfold isD; decide) (hz1.up (by omega))) rfl rfl (Nat.le_of_ble_eq_true rfl) hl.1 ⟨by decide, by decide⟩ ⟨by decide, by decide⟩ dX1_init_40 (fun H locs hR => ?_)
  have hz1 : Fz 65 (deskR (hmr mr 10) 60) (mi) := (hz1.up (by omega)).desk (by omega)
  refine x_aast (kd := 12) (ci := 0) (t0 := 0) C hR (Or.inl ⟨rfl, rfl⟩) (show _ < _ ∧ _ from ⟨by omega, by decide +kernel⟩) (show _ < _ ∧ _ from ⟨by omega, by decide +kernel⟩) (show inB 10 (ln0 9) = true by decide +kernel) dX1_init_43 (fun H locs hR => ?_)
  have hR : RM G (65, kd0, ln0) (hmr mr 11) (mi) H locs := hR
  have hz1 : Fz 65 (hmr mr 11) (mi) := (Fz.hmr (hz.up (by omega)) 11)
  refine lv_iinc (v := 11) (lv' := [(1, .int 11), (0, .ref (G.2.2.2.1 + 8))]) hx hb dX1_init_44 hl (k := 0) rfl (by decide) (by decide) rfl (fun ls hl => ?_)
  refine lv_goto (tgt := 25) hx hb dX1_init_47 (by decide) ?_
  refine lv_iload_n hx hb dX1_init_25 rfl (lv_at hl 0 rfl) ?_
  refine lv_bipush (v := 30) hx hb dX1_init_26 (by decide) ?_
  refine lv_icmp_ge (tgt := 50) hx hb dX1_init_28 (by decide) (fun c => absurd c (by decide)) (fun _ => ?_)
  refine lv_aload_n hx hb dX1_init_31 rfl (lv_at hl 1 rfl) ?_
  refine x_getr (b := 9) C hR fo_X1_11 rfl (show _ < _ ∧ _ from ⟨by omega, by decide +kernel⟩) (hmr_ring mr 11) dX1_init_32 ?_
  refine lv_iload_n hx hb dX1_init_35 rfl (lv_at hl 0 rfl) ?_
  refine x_new (ci := 0) (n := 65) (n' := 66) C hR (by decide) (hz1 65 (by omega)) (by decide +kernel) (by omega) ⟨cl_X1_9, ni_0⟩ ⟨by decide, by decide⟩ dX1_init_36 (fun H hR => ?_)
  refine lv_dup hx hb dX1_init_39 rfl ?_
  refine x_callI (mc := 4) (ms := 34) (rest := [.ref (G.2.2.2.1 + 65), .int 11, .ref (G.2.2.2.1 + 9)]) C hR co_X1_24 (m_X0_init (show isD 65 by unfold isD; decide) (hz1.up (by omega))) rfl rfl (Nat.le_of_ble_eq_true rfl) hl.1 ⟨by decide, by decide⟩ ⟨by decide, by decide⟩ dX1_init_40 (fun H locs hR => ?_)
  have hz1 : Fz 70 (deskR (hmr mr 11) 65) (mi) := (hz1.up (by omega)).desk (by omega)
  refine x_aast (kd := 12) (ci := 0) (t0 := 0) C hR (Or.inl ⟨rfl, rfl⟩) (show _ < _ ∧ _ from ⟨by omega, by decide +kernel⟩) (show _ < _ ∧ _ from ⟨by omega, by decide +kernel⟩) (show inB 11 (ln0 9) = true by decide +kernel) dX1_init_43 (fun H locs hR => ?_)
  have hR : RM G (70, kd0, ln0) (hmr mr 12) (mi) H locs := hR
  have hz1 : Fz 70 (hmr mr 12) (mi) := (Fz.hmr (hz.up (by omega)) 12)
  refine lv_iinc (v := 12) (lv' := [(1, .int 12), (0, .ref (G.2.2.2.1 + 8))]) hx hb dX1_init_44 hl (k := 0) rfl (by decide) (by decide) rfl (fun ls hl => ?_)
  refine lv_goto (tgt := 25) hx hb dX1_init_47 (by decide) ?_
  refine lv_iload_n hx hb dX1_init_25 rfl (lv_at hl 0 rfl) ?_
  refine lv_bipush (v := 30) hx hb dX1_init_26 (by decide) ?_
  refine lv_icmp_ge (tgt := 50) hx hb dX1_init_28 (by decide) (fun c => absurd c (by decide)) (fun _ => ?_)
  refine lv_aload_n hx hb dX1_init_31 rfl (lv_at hl 1 rfl) ?_
  refine x_getr (b := 9) C hR fo_X1_11 rfl (show _ < _ ∧ _ from ⟨by omega, by decide +kernel⟩) (hmr_ring mr 12) dX1_init_32 ?_
  refine lv_iload_n hx hb dX1_init_35 rfl (lv_at hl 0 rfl) ?_
  refine x_new (ci := 0) (n := 70) (n' := 71) C hR (by decide) (hz1 70 (by omega)) (by decide +kernel) (by omega) ⟨cl_X1_9, ni_0⟩ ⟨by decide, by decide⟩ dX1_init_36 (fun H hR => ?_)
  refine lv_dup hx hb dX1_init_39 rfl ?_
  refine x_callI (mc := 4) (ms := 34) (rest := [.ref (G.2.2.2.1 + 70), .int 12, .ref (G.2.2.2.1 + 9)]) C hR co_X1_24 (m_X0_init (show isD 70 by unfold isD; decide) (hz1.up (by omega))) rfl rfl (Nat.le_of_ble_eq_true rfl) hl.1 ⟨by decide, by decide⟩ ⟨by decide, by decide⟩ dX1_init_40 (fun H locs hR => ?_)
  have hz1 : Fz 75 (deskR (hmr mr 12) 70) (mi) := (hz1.up (by omega)).desk (by omega)
  refine x_aast (kd := 12) (ci := 0) (t0 := 0) C hR (Or.inl ⟨rfl, rfl⟩) (show _ < _ ∧ _ from ⟨by omega, by decide +kernel⟩) (show _ < _ ∧ _ from ⟨by omega, by decide +kernel⟩) (show inB 12 (ln0 9) = true by decide +kernel) dX1_init_43 (fun H locs hR => ?_)
  have hR : RM G (75, kd0, ln0) (hmr mr 13) (mi) H locs := hR
  have hz1 : Fz 75 (hmr mr 13) (mi) := (Fz.hmr (hz.up (by omega)) 13)
  refine lv_iinc (v := 13) (lv' := [(1, .int 13), (0, .ref (G.2.2.2.1 + 8))]) hx hb dX1_init_44 hl (k := 0) rfl (by decide) (by decide) rfl (fun ls hl => ?_)
  refine lv_goto (tgt := 25) hx hb dX1_init_47 (by decide) ?_
  refine lv_iload_n hx hb dX1_init_25 rfl (lv_at hl 0 rfl) ?_
  refine lv_bipush (v := 30) hx hb dX1_init_26 (by decide) ?_
  refine lv_icmp_ge (tgt := 50) hx hb dX1_init_28 (by decide) (fun c => absurd c (by decide)) (fun _ => ?_)
  refine lv_aload_n hx hb dX1_init_31 rfl (lv_at hl 1 rfl) ?_
  refine x_getr (b := 9) C hR fo_X1_11 rfl (show _ < _ ∧ _ from ⟨by omega, by decide +kernel⟩) (hmr_ring mr 13) dX1_init_32 ?_
  refine lv_iload_n hx hb dX1_init_35 rfl (lv_at hl 0 rfl) ?_
  refine x_new (ci := 0) (n := 75) (n' := 76) C hR (by decide) (hz1 75 (by omega)) (by decide +kernel) (by omega) ⟨cl_X1_9, ni_0⟩ ⟨by decide, by decide⟩ dX1_init_36 (fun H hR => ?_)
  refine lv_dup hx hb dX1_init_39 rfl ?_
  refine x_callI (mc := 4) (ms := 34) (rest := [.ref (G.2.2.2.1 + 75), .int 13, .ref (G.2.2.2.1 + 9)]) C hR co_X1_24 (m_X0_init (show isD 75 by unfold isD; decide) (hz1.up (by omega))) rfl rfl (Nat.le_of_ble_eq_true rfl) hl.1 ⟨by decide, by decide⟩ ⟨by decide, by decide⟩ dX1_init_40 (fun H locs hR => ?_)
  have hz1 : Fz 80 (deskR (hmr mr 13) 75) (mi) := (hz1.up (by omega)).desk (by omega)
  refine x_aast (kd := 12) (ci := 0) (t0 := 0) C hR (Or.inl ⟨rfl, rfl⟩) (show _ < _ ∧ _ from ⟨by omega, by decide +kernel⟩) (show _ < _ ∧ _ from ⟨by omega, by decide +kernel⟩) (show inB 13 (ln0 9) = true by decide +kernel) dX1_init_43 (fun H locs hR => ?_)
  have hR : RM G (80, kd0, ln0) (hmr mr 14) (mi) H locs := hR
  have hz1 : Fz 80 (hmr mr 14) (mi) := (Fz.hmr (hz.up (by omega)) 14)
  refine lv_iinc (v := 14) (lv' := [(1, .int 14), (0, .ref (G.2.2.2.1 + 8))]) hx hb dX1_init_44 hl (k := 0) rfl (by decide) (by decide) rfl (fun ls hl => ?_)
  refine lv_goto (tgt := 25) hx hb dX1_init_47 (by decide) ?_
  refine lv_iload_n hx hb dX1_init_25 rfl (lv_at hl 0 rfl) ?_
  refine lv_bipush (v := 30) hx hb dX1_init_26 (by decide) ?_
  refine lv_icmp_ge (tgt := 50) hx hb dX1_init_28 (by decide) (fun c => absurd c (by decide)) (fun _ => ?_)
  refine lv_aload_n hx hb dX1_init_31 rfl (lv_at hl 1 rfl) ?_
  refine x_getr (b := 9) C hR fo_X1_11 rfl (show _ < _ ∧ _ from ⟨by omega, by decide +kernel⟩) (hmr_ring mr 14) dX1_init_32 ?_
  refine lv_iload_n hx hb dX1_init_35 rfl (lv_at hl 0 rfl) ?_
  refine x_new (ci := 0) (n := 80) (n' := 81) C hR (by decide) (hz1 80 (by omega)) (by decide +kernel) (by omega) ⟨cl_X1_9, ni_0⟩ ⟨by decide, by decide⟩ dX1_init_36 (fun H hR => ?_)
  refine lv_dup hx hb dX1_init_39 rfl ?_
  refine x_callI (mc := 4) (ms := 34) (rest := [.ref (G.2.2.2.1 + 80), .int 14, .ref (G.2.2.2.1 + 9)]) C hR co_X1_24 (m_X0_init (show isD 80 by unfold isD; decide) (hz1.up (by omega))) rfl rfl (Nat.le_of_ble_eq_true rfl) hl.1 ⟨by decide, by decide⟩ ⟨by decide, by decide⟩ dX1_init_40 (fun H locs hR => ?_)
  have hz1 : Fz 85 (deskR (hmr mr 14) 80) (mi) := (hz1.up (by omega)).desk (by omega)
  refine x_aast (kd := 12) (ci := 0) (t0 := 0) C hR (Or.inl ⟨rfl, rfl⟩) (show _ < _ ∧ _ from ⟨by omega, by decide +kernel⟩) (show _ < _ ∧ _ from ⟨by omega, by decide +kernel⟩) (show inB 14 (ln0 9) = true by decide +kernel) dX1_init_43 (fun H locs hR => ?_)
  have hR : RM G (85, kd0, ln0) (hmr mr 15) (mi) H locs := hR
  have hz1 : Fz 85 (hmr mr 15) (mi) := (Fz.hmr (hz.up (by omega)) 15)
  refine lv_iinc (v := 15) (lv' := [(1, .int 15), (0, .ref (G.2.2.2.1 + 8))]) hx hb dX1_init_44 hl (k := 0) rfl (by decide) (by decide) rfl (fun ls hl => ?_)
  refine lv_goto (tgt := 25) hx hb dX1_init_47 (by decide) ?_
  refine lv_iload_n hx hb dX1_init_25 rfl (lv_at hl 0 rfl) ?_
  refine lv_bipush (v := 30) hx hb dX1_init_26 (by decide) ?_
  refine lv_icmp_ge (tgt := 50) hx hb dX1_init_28 (by decide) (fun c => absurd c (by decide)) (fun _ => ?_)
  refine lv_aload_n hx hb dX1_init_31 rfl (lv_at hl 1 rfl) ?_
  refine x_getr (b := 9) C hR fo_X1_11 rfl (show _ < _ ∧ _ from ⟨by omega, by decide +kernel⟩) (hmr_ring mr 15) dX1_init_32 ?_
  refine lv_iload_n hx hb dX1_init_35 rfl (lv_at hl 0 rfl) ?_
  refine x_new (ci := 0) (n := 85) (n' := 86) C hR (by decide) (hz1 85 (by omega)) (by decide +kernel) (by omega) ⟨cl_X1_9, ni_0⟩ ⟨by decide, by decide⟩ dX1_init_36 (fun H hR => ?_)
  refine lv_dup hx hb dX1_init_39 rfl ?_
  refine x_callI (mc := 4) (ms := 34) (rest := [.ref (G.2.2.2.1 + 85), .int 15, .ref (G.2.2.2.1 + 9)]) C hR co_X1_24 (m_X0_init (show isD 85 by unfold isD; decide) (hz1.up (by omega))) rfl rfl (Nat.le_of_ble_eq_true rfl) hl.1 ⟨by decide, by decide⟩ ⟨by decide, by decide⟩ dX1_init_40 (fun H locs hR => ?_)
  have hz1 : Fz 90 (deskR (hmr mr 15) 85) (mi) := (hz1.up (by omega)).desk (by omega)
  refine x_aast (kd := 12) (ci := 0) (t0 := 0) C hR (Or.inl ⟨rfl, rfl⟩) (show _ < _ ∧ _ from ⟨by omega, by decide +kernel⟩) (show _ < _ ∧ _ from ⟨by omega, by decide +kernel⟩) (show inB 15 (ln0 9) = true by decide +kernel) dX1_init_43 (fun H locs hR => ?_)
  have hR : RM G (90, kd0, ln0) (hmr mr 16) (mi) H locs := hR
  have hz1 : Fz 90 (hmr mr 16) (mi) := (Fz.hmr (hz.up (by omega)) 16)
  refine lv_iinc (v := 16) (lv' := [(1, .int 16), (0, .ref (G.2.2.2.1 + 8))]) hx hb dX1_init_44 hl (k := 0) rfl (by decide) (by decide) rfl (fun ls hl => ?_)
  refine lv_goto (tgt := 25) hx hb dX1_init_47 (by decide) ?_
  refine lv_iload_n hx hb dX1_init_25 rfl (lv_at hl 0 rfl) ?_
  refine lv_bipush (v := 30) hx hb dX1_init_26 (by decide) ?_
  refine lv_icmp_ge (tgt := 50) hx hb dX1_init_28 (by decide) (fun c => absurd c (by decide)) (fun _ => ?_)
  refine lv_aload_n hx hb dX1_init_31 rfl (lv_at hl 1 rfl) ?_
  refine x_getr (b := 9) C hR fo_X1_11 rfl (show _ < _ ∧ _ from ⟨by omega, by decide +kernel⟩) (hmr_ring mr 16) dX1_init_32 ?_
  refine lv_iload_n hx hb dX1_init_35 rfl (lv_at hl 0 rfl) ?_
  refine x_new (ci := 0) (n := 90) (n' := 91) C hR (by decide) (hz1 90 (by omega)) (by decide +kernel) (by omega) ⟨cl_X1_9, ni_0⟩ ⟨by decide, by decide⟩ dX1_init_36 (fun H hR => ?_)
  refine lv_dup hx hb dX1_init_39 rfl ?_
  refine x_callI (mc := 4) (ms := 34) (rest := [.ref (G.2.2.2.1 + 90), .int 16, .ref (G.2.2.2.1 + 9)]) C hR co_X1_24 (m_X0_init (show isD 90 by unfold isD; decide) (hz1.up (by omega))) rfl rfl (Nat.le_of_ble_eq_true rfl) hl.1 ⟨by decide, by decide⟩ ⟨by decide, by decide⟩ dX1_init_40 (fun H locs hR => ?_)
  have hz1 : Fz 95 (deskR (hmr mr 16) 90) (mi) := (hz1.up (by omega)).desk (by omega)
  refine x_aast (kd := 12) (ci := 0) (t0 := 0) C hR (Or.inl ⟨rfl, rfl⟩) (show _ < _ ∧ _ from ⟨by omega, by decide +kernel⟩) (show _ < _ ∧ _ from ⟨by omega, by decide +kernel⟩) (show inB 16 (ln0 9) = true by decide +kernel) dX1_init_43 (fun H locs hR => ?_)
  have hR : RM G (95, kd0, ln0) (hmr mr 17) (mi) H locs := hR
  have hz1 : Fz 95 (hmr mr 17) (mi) := (Fz.hmr (hz.up (by omega)) 17)
  refine lv_iinc (v := 17) (lv' := [(1, .int 17), (0, .ref (G.2.2.2.1 + 8))]) hx hb dX1_init_44 hl (k := 0) rfl (by decide) (by decide) rfl (fun ls hl => ?_)
  refine lv_goto (tgt := 25) hx hb dX1_init_47 (by decide) ?_
  refine lv_iload_n hx hb dX1_init_25 rfl (lv_at hl 0 rfl) ?_
  refine lv_bipush (v := 30) hx hb dX1_init_26 (by decide) ?_
  refine lv_icmp_ge (tgt := 50) hx hb dX1_init_28 (by decide) (fun c => absurd c (by decide)) (fun _ => ?_)
  refine lv_aload_n hx hb dX1_init_31 rfl (lv_at hl 1 rfl) ?_
  refine x_getr (b := 9) C hR fo_X1_11 rfl (show _ < _ ∧ _ from ⟨by omega, by decide +kernel⟩) (hmr_ring mr 17) dX1_init_32 ?_
  refine lv_iload_n hx hb dX1_init_35 rfl (lv_at hl 0 rfl) ?_
  refine x_new (ci := 0) (n := 95) (n' := 96) C hR (by decide) (hz1 95 (by omega)) (by decide +kernel) (by omega) ⟨cl_X1_9, ni_0⟩ ⟨by decide, by decide⟩ dX1_init_36 (fun H hR => ?_)
  refine lv_dup hx hb dX1_init_39 rfl ?_
  refine x_callI (mc := 4) (ms := 34) (rest := [.ref (G.2.2.2.1 + 95), .int 17, .ref (G.2.2.2.1 + 9)]) C hR co_X1_24 (m_X0_init (show isD 95 by unfold isD; decide) (hz1.up (by omega))) rfl rfl (Nat.le_of_ble_eq_true rfl) hl.1 ⟨by decide, by decide⟩ ⟨by decide, by decide⟩ dX1_init_40 (fun H locs hR => ?_)
  have hz1 : Fz 100 (deskR (hmr mr 17) 95) (mi) := (hz1.up (by omega)).desk (by omega)
  refine x_aast (kd := 12) (ci := 0) (t0 := 0) C hR (Or.inl ⟨rfl, rfl⟩) (show _ < _ ∧ _ from ⟨by omega, by decide +kernel⟩) (show _ < _ ∧ _ from ⟨by omega, by decide +kernel⟩) (show inB 17 (ln0 9) = true by decide +kernel) dX1_init_43 (fun H locs hR => ?_)
  have hR : RM G (100, kd0, ln0) (hmr mr 18) (mi) H locs := hR
  have hz1 : Fz 100 (hmr mr 18) (mi) := (Fz.hmr (hz.up (by omega)) 18)
  refine lv_iinc (v := 18) (lv' := [(1, .int 18), (0, .ref (G.2.2.2.1 + 8))]) hx hb dX1_init_44 hl (k := 0) rfl (by decide) (by decide) rfl (fun ls hl => ?_)
  refine lv_goto (tgt := 25) hx hb dX1_init_47 (by decide) ?_
  refine lv_iload_n hx hb dX1_init_25 rfl (lv_at hl 0 rfl) ?_
  refine lv_bipush (v := 30) hx hb dX1_init_26 (by decide) ?_
  refine lv_icmp_ge (tgt := 50) hx hb dX1_init_28 (by decide) (fun c => absurd c (by decide)) (fun _ => ?_)
  refine lv_aload_n hx hb dX1_init_31 rfl (lv_at hl 1 rfl) ?_
  refine x_getr (b := 9) C hR fo_X1_11 rfl (show _ < _ ∧ _ from ⟨by omega, by decide +kernel⟩) (hmr_ring mr 18) dX1_init_32 ?_
  refine lv_iload_n hx hb dX1_init_35 rfl (lv_at hl 0 rfl) ?_
  refine x_new (ci := 0) (n := 100) (n' := 101) C hR (by decide) (hz1 100 (by omega)) (by decide +kernel) (by omega) ⟨cl_X1_9, ni_0⟩ ⟨by decide, by decide⟩ dX1_init_36 (fun H hR => ?_)
  refine lv_dup hx hb dX1_init_39 rfl ?_
  refine x_callI (mc := 4) (ms := 34) (rest := [.ref (G.2.2.2.1 + 100), .int 18, .ref (G.2.2.2.1 + 9)]) C hR co_X1_24 (m_X0_init (show isD 100 by unfold isD; decide) (hz1.up (by omega))) rfl rfl (Nat.le_of_ble_eq_true rfl) hl.1 ⟨by decide, by decide⟩ ⟨by decide, by decide⟩ dX1_init_40 (fun H locs hR => ?_)
  have hz1 : Fz 105 (deskR (hmr mr 18) 100) (mi) := (hz1.up (by omega)).desk (by omega)
  refine x_aast (kd := 12) (ci := 0) (t0 := 0) C hR (Or.inl ⟨rfl, rfl⟩) (show _ < _ ∧ _ from ⟨by omega, by decide +kernel⟩) (show _ < _ ∧ _ from ⟨by omega, by decide +kernel⟩) (show inB 18 (ln0 9) = true by decide +kernel) dX1_init_43 (fun H locs hR => ?_)
  have hR : RM G (105, kd0, ln0) (hmr mr 19) (mi) H locs := hR
  have hz1 : Fz 105 (hmr mr 19) (mi) := (Fz.hmr (hz.up (by omega)) 19)
  refine lv_iinc (v := 19) (lv' := [(1, .int 19), (0, .ref (G.2.2.2.1 + 8))]) hx hb dX1_init_44 hl (k := 0) rfl (by decide) (by decide) rfl (fun ls hl => ?_)
  refine lv_goto (tgt := 25) hx hb dX1_init_47 (by decide) ?_
  refine lv_iload_n hx hb dX1_init_25 rfl (lv_at hl 0 rfl) ?_
  refine lv_bipush (v := 30) hx hb dX1_init_26 (by decide) ?_
  refine lv_icmp_ge (tgt := 50) hx hb dX1_init_28 (by decide) (fun c => absurd c (by decide)) (fun _ => ?_)
  refine lv_aload_n hx hb dX1_init_31 rfl (lv_at hl 1 rfl) ?_
  refine x_getr (b := 9) C hR fo_X1_11 rfl (show _ < _ ∧ _ from ⟨by omega, by decide +kernel⟩) (hmr_ring mr 19) dX1_init_32 ?_
  refine lv_iload_n hx hb dX1_init_35 rfl (lv_at hl 0 rfl) ?_
  refine x_new (ci := 0) (n := 105) (n' := 106) C hR (by decide) (hz1 105 (by omega)) (by decide +kernel) (by omega) ⟨cl_X1_9, ni_0⟩ ⟨by decide, by decide⟩ dX1_init_36 (fun H hR => ?_)
  refine lv_dup hx hb dX1_init_39 rfl ?_
  refine x_callI (mc := 4) (ms := 34) (rest := [.ref (G.2.2.2.1 + 105), .int 19, .ref (G.2.2.2.1 + 9)]) C hR co_X1_24 (m_X0_init (show isD 105 by unfold isD; decide) (hz1.up (by omega))) rfl rfl (Nat.le_of_ble_eq_true rfl) hl.1 ⟨by decide, by decide⟩ ⟨by decide, by decide⟩ dX1_init_40 (fun H locs hR => ?_)
  have hz1 : Fz 110 (deskR (hmr mr 19) 105) (mi) := (hz1.up (by omega)).desk (by omega)
  refine x_aast (kd := 12) (ci := 0) (t0 := 0) C hR (Or.inl ⟨rfl, rfl⟩) (show _ < _ ∧ _ from ⟨by omega, by decide +kernel⟩) (show _ < _ ∧ _ from ⟨by omega, by decide +kernel⟩) (show inB 19 (ln0 9) = true by decide +kernel) dX1_init_43 (fun H locs hR => ?_)
  have hR : RM G (110, kd0, ln0) (hmr mr 20) (mi) H locs := hR
  have hz1 : Fz 110 (hmr mr 20) (mi) := (Fz.hmr (hz.up (by omega)) 20)
  refine lv_iinc (v := 20) (lv' := [(1, .int 20), (0, .ref (G.2.2.2.1 + 8))]) hx hb dX1_init_44 hl (k := 0) rfl (by decide) (by decide) rfl (fun ls hl => ?_)
  refine lv_goto (tgt := 25) hx hb dX1_init_47 (by decide) ?_
  refine lv_iload_n hx hb dX1_init_25 rfl (lv_at hl 0 rfl) ?_
  refine lv_bipush (v := 30) hx hb dX1_init_26 (by decide) ?_
  refine lv_icmp_ge (tgt := 50) hx hb dX1_init_28 (by decide) (fun c => absurd c (by decide)) (fun _ => ?_)
  refine lv_aload_n hx hb dX1_init_31 rfl (lv_at hl 1 rfl) ?_
  refine x_getr (b := 9) C hR fo_X1_11 rfl (show _ < _ ∧ _ from ⟨by omega, by decide +kernel⟩) (hmr_ring mr 20) dX1_init_32 ?_
  refine lv_iload_n hx hb dX1_init_35 rfl (lv_at hl 0 rfl) ?_
  refine x_new (ci := 0) (n := 110) (n' := 111) C hR (by decide) (hz1 110 (by omega)) (by decide +kernel) (by omega) ⟨cl_X1_9, ni_0⟩ ⟨by decide, by decide⟩ dX1_init_36 (fun H hR => ?_)
  refine lv_dup hx hb dX1_init_39 rfl ?_
  refine x_callI (mc := 4) (ms := 34) (rest := [.ref (G.2.2.2.1 + 110), .int 20, .ref (G.2.2.2.1 + 9)]) C hR co_X1_24 (m_X0_init (show isD 110 by unfold isD; decide) (hz1.up (by omega))) rfl rfl (Nat.le_of_ble_eq_true rfl) hl.1 ⟨by decide, by decide⟩ ⟨by decide, by decide⟩ dX1_init_40 (fun H locs hR => ?_)
  have hz1 : Fz 115 (deskR (hmr mr 20) 110) (mi) := (hz1.up (by omega)).desk (by omega)
  refine x_aast (kd := 12) (ci := 0) (t0 := 0) C hR (Or.inl ⟨rfl, rfl⟩) (show _ < _ ∧ _ from ⟨by omega, by decide +kernel⟩) (show _ < _ ∧ _ from ⟨by omega, by decide +kernel⟩) (show inB 20 (ln0 9) = true by decide +kernel) dX1_init_43 (fun H locs hR => ?_)
  have hR : RM G (115, kd0, ln0) (hmr mr 21) (mi) H locs := hR
  have hz1 : Fz 115 (hmr mr 21) (mi) := (Fz.hmr (hz.up (by omega)) 21)
  refine lv_iinc (v := 21) (lv' := [(1, .int 21), (0, .ref (G.2.2.2.1 + 8))]) hx hb dX1_init_44 hl (k := 0) rfl (by decide) (by decide) rfl (fun ls hl => ?_)
  refine lv_goto (tgt := 25) hx hb dX1_init_47 (by decide) ?_
  refine lv_iload_n hx hb dX1_init_25 rfl (lv_at hl 0 rfl) ?_
  refine lv_bipush (v := 30) hx hb dX1_init_26 (by decide) ?_
  refine lv_icmp_ge (tgt := 50) hx hb dX1_init_28 (by decide) (fun c => absurd c (by decide)) (fun _ => ?_)
  refine lv_aload_n hx hb dX1_init_31 rfl (lv_at hl 1 rfl) ?_
  refine x_getr (b := 9) C hR fo_X1_11 rfl (show _ < _ ∧ _ from ⟨by omega, by decide +kernel⟩) (hmr_ring mr 21) dX1_init_32 ?_
  refine lv_iload_n hx hb dX1_init_35 rfl (lv_at hl 0 rfl) ?_
  refine x_new (ci := 0) (n := 115) (n' := 116) C hR (by decide) (hz1 115 (by omega)) (by decide +kernel) (by omega) ⟨cl_X1_9, ni_0⟩ ⟨by decide, by decide⟩ dX1_init_36 (fun H hR => ?_)
  refine lv_dup hx hb dX1_init_39 rfl ?_
  refine x_callI (mc := 4) (ms := 34) (rest := [.ref (G.2.2.2.1 + 115), .int 21, .ref (G.2.2.2.1 + 9)]) C hR co_X1_24 (m_X0_init (show isD 115 by unfold isD; decide) (hz1.up (by omega))) rfl rfl (Nat.le_of_ble_eq_true rfl) hl.1 ⟨by decide, by decide⟩ ⟨by decide, by decide⟩ dX1_init_40 (fun H locs hR => ?_)
  have hz1 : Fz 120 (deskR (hmr mr 21) 115) (mi) := (hz1.up (by omega)).desk (by omega)
  refine x_aast (kd := 12) (ci := 0) (t0 := 0) C hR (Or.inl ⟨rfl, rfl⟩) (show _ < _ ∧ _ from ⟨by omega, by decide +kernel⟩) (show _ < _ ∧ _ from ⟨by omega, by decide +kernel⟩) (show inB 21 (ln0 9) = true by decide +kernel) dX1_init_43 (fun H locs hR => ?_)
  have hR : RM G (120, kd0, ln0) (hmr mr 22) (mi) H locs := hR
  have hz1 : Fz 120 (hmr mr 22) (mi) := (Fz.hmr (hz.up (by omega)) 22)
  refine lv_iinc (v := 22) (lv' := [(1, .int 22), (0, .ref (G.2.2.2.1 + 8))]) hx hb dX1_init_44 hl (k := 0) rfl (by decide) (by decide) rfl (fun ls hl => ?_)
  refine lv_goto (tgt := 25) hx hb dX1_init_47 (by decide) ?_
  refine lv_iload_n hx hb dX1_init_25 rfl (lv_at hl 0 rfl) ?_
  refine lv_bipush (v := 30) hx hb dX1_init_26 (by decide) ?_
  refine lv_icmp_ge (tgt := 50) hx hb dX1_init_28 (by decide) (fun c => absurd c (by decide)) (fun _ => ?_)
  refine lv_aload_n hx hb dX1_init_31 rfl (lv_at hl 1 rfl) ?_
  refine x_getr (b := 9) C hR fo_X1_11 rfl (show _ < _ ∧ _ from ⟨by omega, by decide +kernel⟩) (hmr_ring mr 22) dX1_init_32 ?_
  refine lv_iload_n hx hb dX1_init_35 rfl (lv_at hl 0 rfl) ?_
  refine x_new (ci := 0) (n := 120) (n' := 121) C hR (by decide) (hz1 120 (by omega)) (by decide +kernel) (by omega) ⟨cl_X1_9, ni_0⟩ ⟨by decide, by decide⟩ dX1_init_36 (fun H hR => ?_)
  refine lv_dup hx hb dX1_init_39 rfl ?_
  refine x_callI (mc := 4) (ms := 34) (rest := [.ref (G.2.2.2.1 + 120), .int 22, .ref (G.2.2.2.1 + 9)]) C hR co_X1_24 (m_X0_init (show isD 120 by unfold isD; decide) (hz1.up (by omega))) rfl rfl (Nat.le_of_ble_eq_true rfl) hl.1 ⟨by decide, by decide⟩ ⟨by decide, by decide⟩ dX1_init_40 (fun H locs hR => ?_)
  have hz1 : Fz 125 (deskR (hmr mr 22) 120) (mi) := (hz1.up (by omega)).desk (by omega)
  refine x_aast (kd := 12) (ci := 0) (t0 := 0) C hR (Or.inl ⟨rfl, rfl⟩) (show _ < _ ∧ _ from ⟨by omega, by decide +kernel⟩) (show _ < _ ∧ _ from ⟨by omega, by decide +kernel⟩) (show inB 22 (ln0 9) = true by decide +kernel) dX1_init_43 (fun H locs hR => ?_)
  have hR : RM G (125, kd0, ln0) (hmr mr 23) (mi) H locs := hR
  have hz1 : Fz 125 (hmr mr 23) (mi) := (Fz.hmr (hz.up (by omega)) 23)
  refine lv_iinc (v := 23) (lv' := [(1, .int 23), (0, .ref (G.2.2.2.1 + 8))]) hx hb dX1_init_44 hl (k := 0) rfl (by decide) (by decide) rfl (fun ls hl => ?_)
  refine lv_goto (tgt := 25) hx hb dX1_init_47 (by decide) ?_
  refine lv_iload_n hx hb dX1_init_25 rfl (lv_at hl 0 rfl) ?_
  refine lv_bipush (v := 30) hx hb dX1_init_26 (by decide) ?_
  refine lv_icmp_ge (tgt := 50) hx hb dX1_init_28 (by decide) (fun c => absurd c (by decide)) (fun _ => ?_)
  refine lv_aload_n hx hb dX1_init_31 rfl (lv_at hl 1 rfl) ?_
  refine x_getr (b := 9) C hR fo_X1_11 rfl (show _ < _ ∧ _ from ⟨by omega, by decide +kernel⟩) (hmr_ring mr 23) dX1_init_32 ?_
  refine lv_iload_n hx hb dX1_init_35 rfl (lv_at hl 0 rfl) ?_
  refine x_new (ci := 0) (n := 125) (n' := 126) C hR (by decide) (hz1 125 (by omega)) (by decide +kernel) (by omega) ⟨cl_X1_9, ni_0⟩ ⟨by decide, by decide⟩ dX1_init_36 (fun H hR => ?_)
  refine lv_dup hx hb dX1_init_39 rfl ?_
  refine x_callI (mc := 4) (ms := 34) (rest := [.ref (G.2.2.2.1 + 125), .int 23, .ref (G.2.2.2.1 + 9)]) C hR co_X1_24 (m_X0_init (show isD 125 by unfold isD; decide) (hz1.up (by omega))) rfl rfl (Nat.le_of_ble_eq_true rfl) hl.1 ⟨by decide, by decide⟩ ⟨by decide, by decide⟩ dX1_init_40 (fun H locs hR => ?_)
  have hz1 : Fz 130 (deskR (hmr mr 23) 125) (mi) := (hz1.up (by omega)).desk (by omega)
  refine x_aast (kd := 12) (ci := 0) (t0 := 0) C hR (Or.inl ⟨rfl, rfl⟩) (show _ < _ ∧ _ from ⟨by omega, by decide +kernel⟩) (show _ < _ ∧ _ from ⟨by omega, by decide +kernel⟩) (show inB 23 (ln0 9) = true by decide +kernel) dX1_init_43 (fun H locs hR => ?_)
  have hR : RM G (130, kd0, ln0) (hmr mr 24) (mi) H locs := hR
  have hz1 : Fz 130 (hmr mr 24) (mi) := (Fz.hmr (hz.up (by omega)) 24)
  refine lv_iinc (v := 24) (lv' := [(1, .int 24), (0, .ref (G.2.2.2.1 + 8))]) hx hb dX1_init_44 hl (k := 0) rfl (by decide) (by decide) rfl (fun ls hl => ?_)
  refine lv_goto (tgt := 25) hx hb dX1_init_47 (by decide) ?_
  refine lv_iload_n hx hb dX1_init_25 rfl (lv_at hl 0 rfl) ?_
  refine lv_bipush (v := 30) hx hb dX1_init_26 (by decide) ?_
  refine lv_icmp_ge (tgt := 50) hx hb dX1_init_28 (by decide) (fun c => absurd c (by decide)) (fun _ => ?_)
  refine lv_aload_n hx hb dX1_init_31 rfl (lv_at hl 1 rfl) ?_
  refine x_getr (b := 9) C hR fo_X1_11 rfl (show _ < _ ∧ _ from ⟨by omega, by decide +kernel⟩) (hmr_ring mr 24) dX1_init_32 ?_
  refine lv_iload_n hx hb dX1_init_35 rfl (lv_at hl 0 rfl) ?_
  refine x_new (ci := 0) (n := 130) (n' := 131) C hR (by decide) (hz1 130 (by omega)) (by decide +kernel) (by omega) ⟨cl_X1_9, ni_0⟩ ⟨by decide, by decide⟩ dX1_init_36 (fun H hR => ?_)
  refine lv_dup hx hb dX1_init_39 rfl ?_
  refine x_callI (mc := 4) (ms := 34) (rest := [.ref (G.2.2.2.1 + 130), .int 24, .ref (G.2.2.2.1 + 9)]) C hR co_X1_24 (m_X0_init (show isD 130 by unfold isD; decide) (hz1.up (by omega))) rfl rfl (Nat.le_of_ble_eq_true rfl) hl.1 ⟨by decide, by decide⟩ ⟨by decide, by decide⟩ dX1_init_40 (fun H locs hR => ?_)
  have hz1 : Fz 135 (deskR (hmr mr 24) 130) (mi) := (hz1.up (by omega)).desk (by omega)
  refine x_aast (kd := 12) (ci := 0) (t0 := 0) C hR (Or.inl ⟨rfl, rfl⟩) (show _ < _ ∧ _ from ⟨by omega, by decide +kernel⟩) (show _ < _ ∧ _ from ⟨by omega, by decide +kernel⟩) (show inB 24 (ln0 9) = true by decide +kernel) dX1_init_43 (fun H locs hR => ?_)
  have hR : RM G (135, kd0, ln0) (hmr mr 25) (mi) H locs := hR
  have hz1 : Fz 135 (hmr mr 25) (mi) := (Fz.hmr (hz.up (by omega)) 25)
  refine lv_iinc (v := 25) (lv' := [(1, .int 25), (0, .ref (G.2.2.2.1 + 8))]) hx hb dX1_init_44 hl (k := 0) rfl (by decide) (by decide) rfl (fun ls hl => ?_)
  refine lv_goto (tgt := 25) hx hb dX1_init_47 (by decide) ?_
  refine lv_iload_n hx hb dX1_init_25 rfl (lv_at hl 0 rfl) ?_
  refine lv_bipush (v := 30) hx hb dX1_init_26 (by decide) ?_
  refine lv_icmp_ge (tgt := 50) hx hb dX1_init_28 (by decide) (fun c => absurd c (by decide)) (fun _ => ?_)
  refine lv_aload_n hx hb dX1_init_31 rfl (lv_at hl 1 rfl) ?_
  refine x_getr (b := 9) C hR fo_X1_11 rfl (show _ < _ ∧ _ from ⟨by omega, by decide +kernel⟩) (hmr_ring mr 25) dX1_init_32 ?_
  refine lv_iload_n hx hb dX1_init_35 rfl (lv_at hl 0 rfl) ?_
  refine x_new (ci := 0) (n := 135) (n' := 136) C hR (by decide) (hz1 135 (by omega)) (by decide +kernel) (by omega) ⟨cl_X1_9, ni_0⟩ ⟨by decide, by decide⟩ dX1_init_36 (fun H hR => ?_)
  refine lv_dup hx hb dX1_init_39 rfl ?_
  refine x_callI (mc := 4) (ms := 34) (rest := [.ref (G.2.2.2.1 + 135), .int 25, .ref (G.2.2.2.1 + 9)]) C hR co_X1_24 (m_X0_init (show isD 135 by unfold isD; decide) (hz1.up (by omega))) rfl rfl (Nat.le_of_ble_eq_true rfl) hl.1 ⟨by decide, by decide⟩ ⟨by decide, by decide⟩ dX1_init_40 (fun H locs hR => ?_)
  have hz1 : Fz 140 (deskR (hmr mr 25) 135) (mi) := (hz1.up (by omega)).desk (by omega)
  refine x_aast (kd := 12) (ci := 0) (t0 := 0) C hR (Or.inl ⟨rfl, rfl⟩) (show _ < _ ∧ _ from ⟨by omega, by decide +kernel⟩) (show _ < _ ∧ _ from ⟨by omega, by decide +kernel⟩) (show inB 25 (ln0 9) = true by decide +kernel) dX1_init_43 (fun H locs hR => ?_)
  have hR : RM G (140, kd0, ln0) (hmr mr 26) (mi) H locs := hR
  have hz1 : Fz 140 (hmr mr 26) (mi) := (Fz.hmr (hz.up (by omega)) 26)
  refine lv_iinc (v := 26) (lv' := [(1, .int 26), (0, .ref (G.2.2.2.1 + 8))]) hx hb dX1_init_44 hl (k := 0) rfl (by decide) (by decide) rfl (fun ls hl => ?_)
  refine lv_goto (tgt := 25) hx hb dX1_init_47 (by decide) ?_
  refine lv_iload_n hx hb dX1_init_25 rfl (lv_at hl 0 rfl) ?_
  refine lv_bipush (v := 30) hx hb dX1_init_26 (by decide) ?_
  refine lv_icmp_ge (tgt := 50) hx hb dX1_init_28 (by decide) (fun c => absurd c (by decide)) (fun _ => ?_)
  refine lv_aload_n hx hb dX1_init_31 rfl (lv_at hl 1 rfl) ?_
  refine x_getr (b := 9) C hR fo_X1_11 rfl (show _ < _ ∧ _ from ⟨by omega, by decide +kernel⟩) (hmr_ring mr 26) dX1_init_32 ?_
  refine lv_iload_n hx hb dX1_init_35 rfl (lv_at hl 0 rfl) ?_
  refine x_new (ci := 0) (n := 140) (n' := 141) C hR (by decide) (hz1 140 (by omega)) (by decide +kernel) (by omega) ⟨cl_X1_9, ni_0⟩ ⟨by decide, by decide⟩ dX1_init_36 (fun H hR => ?_)
  refine lv_dup hx hb dX1_init_39 rfl ?_
  refine x_callI (mc := 4) (ms := 34) (rest := [.ref (G.2.2.2.1 + 140), .int 26, .ref (G.2.2.2.1 + 9)]) C hR co_X1_24 (m_X0_init (show isD 140 by unfold isD; decide) (hz1.up (by omega))) rfl rfl (Nat.le_of_ble_eq_true rfl) hl.1 ⟨by decide, by decide⟩ ⟨by decide, by decide⟩ dX1_init_40 (fun H locs hR => ?_)
  have hz1 : Fz 145 (deskR (hmr mr 26) 140) (mi) := (hz1.up (by omega)).desk (by omega)
  refine x_aast (kd := 12) (ci := 0) (t0 := 0) C hR (Or.inl ⟨rfl, rfl⟩) (show _ < _ ∧ _ from ⟨by omega, by decide +kernel⟩) (show _ < _ ∧ _ from ⟨by omega, by decide +kernel⟩) (show inB 26 (ln0 9) = true by decide +kernel) dX1_init_43 (fun H locs hR => ?_)
  have hR : RM G (145, kd0, ln0) (hmr mr 27) (mi) H locs := hR
  have hz1 : Fz 145 (hmr mr 27) (mi) := (Fz.hmr (hz.up (by omega)) 27)
  refine lv_iinc (v := 27) (lv' := [(1, .int 27), (0, .ref (G.2.2.2.1 + 8))]) hx hb dX1_init_44 hl (k := 0) rfl (by decide) (by decide) rfl (fun ls hl => ?_)
  refine lv_goto (tgt := 25) hx hb dX1_init_47 (by decide) ?_
  refine lv_iload_n hx hb dX1_init_25 rfl (lv_at hl 0 rfl) ?_
  refine lv_bipush (v := 30) hx hb dX1_init_26 (by decide) ?_
  refine lv_icmp_ge (tgt := 50) hx hb dX1_init_28 (by decide) (fun c => absurd c (by decide)) (fun _ => ?_)
  refine lv_aload_n hx hb dX1_init_31 rfl (lv_at hl 1 rfl) ?_
  refine x_getr (b := 9) C hR fo_X1_11 rfl (show _ < _ ∧ _ from ⟨by omega, by decide +kernel⟩) (hmr_ring mr 27) dX1_init_32 ?_
  refine lv_iload_n hx hb dX1_init_35 rfl (lv_at hl 0 rfl) ?_
  refine x_new (ci := 0) (n := 145) (n' := 146) C hR (by decide) (hz1 145 (by omega)) (by decide +kernel) (by omega) ⟨cl_X1_9, ni_0⟩ ⟨by decide, by decide⟩ dX1_init_36 (fun H hR => ?_)
  refine lv_dup hx hb dX1_init_39 rfl ?_
  refine x_callI (mc := 4) (ms := 34) (rest := [.ref (G.2.2.2.1 + 145), .int 27, .ref (G.2.2.2.1 + 9)]) C hR co_X1_24 (m_X0_init (show isD 145 by unfold isD; decide) (hz1.up (by omega))) rfl rfl (Nat.le_of_ble_eq_true rfl) hl.1 ⟨by decide, by decide⟩ ⟨by decide, by decide⟩ dX1_init_40 (fun H locs hR => ?_)
  have hz1 : Fz 150 (deskR (hmr mr 27) 145) (mi) := (hz1.up (by omega)).desk (by omega)
  refine x_aast (kd := 12) (ci := 0) (t0 := 0) C hR (Or.inl ⟨rfl, rfl⟩) (show _ < _ ∧ _ from ⟨by omega, by decide +kernel⟩) (show _ < _ ∧ _ from ⟨by omega, by decide +kernel⟩) (show inB 27 (ln0 9) = true by decide +kernel) dX1_init_43 (fun H locs hR => ?_)
  have hR : RM G (150, kd0, ln0) (hmr mr 28) (mi) H locs := hR
  have hz1 : Fz 150 (hmr mr 28) (mi) := (Fz.hmr (hz.up (by omega)) 28)
  refine lv_iinc (v := 28) (lv' := [(1, .int 28), (0, .ref (G.2.2.2.1 + 8))]) hx hb dX1_init_44 hl (k := 0) rfl (by decide) (by decide) rfl (fun ls hl => ?_)
  refine lv_goto (tgt := 25) hx hb dX1_init_47 (by decide) ?_
  refine lv_iload_n hx hb dX1_init_25 rfl (lv_at hl 0 rfl) ?_
  refine lv_bipush (v := 30) hx hb dX1_init_26 (by decide) ?_
  refine lv_icmp_ge (tgt := 50) hx hb dX1_init_28 (by decide) (fun c => absurd c (by decide)) (fun _ => ?_)
  refine lv_aload_n hx hb dX1_init_31 rfl (lv_at hl 1 rfl) ?_
  refine x_getr (b := 9) C hR fo_X1_11 rfl (show _ < _ ∧ _ from ⟨by omega, by decide +kernel⟩) (hmr_ring mr 28) dX1_init_32 ?_
  refine lv_iload_n hx hb dX1_init_35 rfl (lv_at hl 0 rfl) ?_
  refine x_new (ci := 0) (n := 150) (n' := 151) C hR (by decide) (hz1 150 (by omega)) (by decide +kernel) (by omega) ⟨cl_X1_9, ni_0⟩ ⟨by decide, by decide⟩ dX1_init_36 (fun H hR => ?_)
  refine lv_dup hx hb dX1_init_39 rfl ?_
  refine x_callI (mc := 4) (ms := 34) (rest := [.ref (G.2.2.2.1 + 150), .int 28, .ref (G.2.2.2.1 + 9)]) C hR co_X1_24 (m_X0_init (show isD 150 by unfold isD; decide) (hz1.up (by omega))) rfl rfl (Nat.le_of_ble_eq_true rfl) hl.1 ⟨by decide, by decide⟩ ⟨by decide, by decide⟩ dX1_init_40 (fun H locs hR => ?_)
  have hz1 : Fz 155 (deskR (hmr mr 28) 150) (mi) := (hz1.up (by omega)).desk (by omega)
  refine x_aast (kd := 12) (ci := 0) (t0 := 0) C hR (Or.inl ⟨rfl, rfl⟩) (show _ < _ ∧ _ from ⟨by omega, by decide +kernel⟩) (show _ < _ ∧ _ from ⟨by omega, by decide +kernel⟩) (show inB 28 (ln0 9) = true by decide +kernel) dX1_init_43 (fun H locs hR => ?_)
  have hR : RM G (155, kd0, ln0) (hmr mr 29) (mi) H locs := hR
  have hz1 : Fz 155 (hmr mr 29) (mi) := (Fz.hmr (hz.up (by omega)) 29)
  refine lv_iinc (v := 29) (lv' := [(1, .int 29), (0, .ref (G.2.2.2.1 + 8))]) hx hb dX1_init_44 hl (k := 0) rfl (by decide) (by decide) rfl (fun ls hl => ?_)
  refine lv_goto (tgt := 25) hx hb dX1_init_47 (by decide) ?_
  refine lv_iload_n hx hb dX1_init_25 rfl (lv_at hl 0 rfl) ?_
  refine lv_bipush (v := 30) hx hb dX1_init_26 (by decide) ?_
  refine lv_icmp_ge (tgt := 50) hx hb dX1_init_28 (by decide) (fun c => absurd c (by decide)) (fun _ => ?_)
  refine lv_aload_n hx hb dX1_init_31 rfl (lv_at hl 1 rfl) ?_
  refine x_getr (b := 9) C hR fo_X1_11 rfl (show _ < _ ∧ _ from ⟨by omega, by decide +kernel⟩) (hmr_ring mr 29) dX1_init_32 ?_
  refine lv_iload_n hx hb dX1_init_35 rfl (lv_at hl 0 rfl) ?_
  refine x_new (ci := 0) (n := 155) (n' := 156) C hR (by decide) (hz1 155 (by omega)) (by decide +kernel) (by omega) ⟨cl_X1_9, ni_0⟩ ⟨by decide, by decide⟩ dX1_init_36 (fun H hR => ?_)
  refine lv_dup hx hb dX1_init_39 rfl ?_
  refine x_callI (mc := 4) (ms := 34) (rest := [.ref (G.2.2.2.1 + 155), .int 29, .ref (G.2.2.2.1 + 9)]) C hR co_X1_24 (m_X0_init (show isD 155 by unfold isD; decide) (hz1.up (by omega))) rfl rfl (Nat.le_of_ble_eq_true rfl) hl.1 ⟨by decide, by decide⟩ ⟨by decide, by decide⟩ dX1_init_40 (fun H locs hR => ?_)
  have hz1 : Fz 160 (deskR (hmr mr 29) 155) (mi) := (hz1.up (by omega)).desk (by omega)
  refine x_aast (kd := 12) (ci := 0) (t0 := 0) C hR (Or.inl ⟨rfl, rfl⟩) (show _ < _ ∧ _ from ⟨by omega, by decide +kernel⟩) (show _ < _ ∧ _ from ⟨by omega, by decide +kernel⟩) (show inB 29 (ln0 9) = true by decide +kernel) dX1_init_43 (fun H locs hR => ?_)
  have hR : RM G (160, kd0, ln0) (hmr mr 30) (mi) H locs := hR
  have hz1 : Fz 160 (hmr mr 30) (mi) := (Fz.hmr (hz.up (by omega)) 30)
  refine lv_iinc (v := 30) (lv' := [(1, .int 30), (0, .ref (G.2.2.2.1 + 8))]) hx hb dX1_init_44 hl (k := 0) rfl (by decide) (by decide) rfl (fun ls hl => ?_)
  refine lv_goto (tgt := 25) hx hb dX1_init_47 (by decide) ?_
  refine lv_iload_n hx hb dX1_init_25 rfl (lv_at hl 0 rfl) ?_
  refine lv_bipush (v := 30) hx hb dX1_init_26 (by decide) ?_
  refine lv_icmp_ge (tgt := 50) hx hb dX1_init_28 (by decide) (fun _ => ?_) (fun c => absurd (by decide) c)
  exact x_vret C hR hr hlk dX1_init_50
theorem dX7_init_0 : decode cX7_init 0 = .ok (.aload_n 0, 1) := by decide +kernel
theorem dX7_init_1 : decode cX7_init 1 = .ok (.invokespecial 1, 3) := by decide +kernel
theorem dX7_init_4 : decode cX7_init 4 = .ok (.aload_n 0, 1) := by decide +kernel
theorem dX7_init_5 : decode cX7_init 5 = .ok (.new 7, 3) := by decide +kernel
theorem dX7_init_8 : decode cX7_init 8 = .ok (.dup, 1) := by decide +kernel
theorem dX7_init_9 : decode cX7_init 9 = .ok (.invokespecial 9, 3) := by decide +kernel
theorem dX7_init_12 : decode cX7_init 12 = .ok (.putfield 10, 3) := by decide +kernel
theorem dX7_init_15 : decode cX7_init 15 = .ok (.aload_n 0, 1) := by decide +kernel
theorem dX7_init_16 : decode cX7_init 16 = .ok (.new 16, 3) := by decide +kernel
theorem dX7_init_19 : decode cX7_init 19 = .ok (.dup, 1) := by decide +kernel
theorem dX7_init_20 : decode cX7_init 20 = .ok (.invokespecial 18, 3) := by decide +kernel
theorem dX7_init_23 : decode cX7_init 23 = .ok (.putfield 19, 3) := by decide +kernel
theorem dX7_init_26 : decode cX7_init 26 = .ok (.aload_n 0, 1) := by decide +kernel
theorem dX7_init_27 : decode cX7_init 27 = .ok (.new 23, 3) := by decide +kernel
theorem dX7_init_30 : decode cX7_init 30 = .ok (.dup, 1) := by decide +kernel
theorem dX7_init_31 : decode cX7_init 31 = .ok (.invokespecial 25, 3) := by decide +kernel
theorem dX7_init_34 : decode cX7_init 34 = .ok (.putfield 26, 3) := by decide +kernel
theorem dX7_init_37 : decode cX7_init 37 = .ok (.aload_n 0, 1) := by decide +kernel
theorem dX7_init_38 : decode cX7_init 38 = .ok (.iconst 2, 1) := by decide +kernel
theorem dX7_init_39 : decode cX7_init 39 = .ok (.anewarray 30, 3) := by decide +kernel
theorem dX7_init_42 : decode cX7_init 42 = .ok (.putfield 32, 3) := by decide +kernel
theorem dX7_init_45 : decode cX7_init 45 = .ok (.iconst 0, 1) := by decide +kernel
theorem dX7_init_46 : decode cX7_init 46 = .ok (.istore_n 1, 1) := by decide +kernel
theorem dX7_init_47 : decode cX7_init 47 = .ok (.iload_n 1, 1) := by decide +kernel
theorem dX7_init_48 : decode cX7_init 48 = .ok (.iconst 2, 1) := by decide +kernel
theorem dX7_init_49 : decode cX7_init 49 = .ok (.if_icmp .ge 22, 3) := by decide +kernel
theorem dX7_init_52 : decode cX7_init 52 = .ok (.aload_n 0, 1) := by decide +kernel
theorem dX7_init_53 : decode cX7_init 53 = .ok (.getfield 32, 3) := by decide +kernel
theorem dX7_init_56 : decode cX7_init 56 = .ok (.iload_n 1, 1) := by decide +kernel
theorem dX7_init_57 : decode cX7_init 57 = .ok (.new 30, 3) := by decide +kernel
theorem dX7_init_60 : decode cX7_init 60 = .ok (.dup, 1) := by decide +kernel
theorem dX7_init_61 : decode cX7_init 61 = .ok (.invokespecial 36, 3) := by decide +kernel
theorem dX7_init_64 : decode cX7_init 64 = .ok (.aastore, 1) := by decide +kernel
theorem dX7_init_65 : decode cX7_init 65 = .ok (.iinc 1 1, 3) := by decide +kernel
theorem dX7_init_68 : decode cX7_init 68 = .ok (.goto (-21), 3) := by decide +kernel
theorem dX7_init_71 : decode cX7_init 71 = .ok (.aload_n 0, 1) := by decide +kernel
theorem dX7_init_72 : decode cX7_init 72 = .ok (.new 37, 3) := by decide +kernel
theorem dX7_init_75 : decode cX7_init 75 = .ok (.dup, 1) := by decide +kernel
theorem dX7_init_76 : decode cX7_init 76 = .ok (.invokespecial 39, 3) := by decide +kernel
theorem dX7_init_79 : decode cX7_init 79 = .ok (.putfield 40, 3) := by decide +kernel
theorem dX7_init_82 : decode cX7_init 82 = .ok (.aload_n 0, 1) := by decide +kernel
theorem dX7_init_83 : decode cX7_init 83 = .ok (.new 44, 3) := by decide +kernel
theorem dX7_init_86 : decode cX7_init 86 = .ok (.dup, 1) := by decide +kernel
theorem dX7_init_87 : decode cX7_init 87 = .ok (.invokespecial 46, 3) := by decide +kernel
theorem dX7_init_90 : decode cX7_init 90 = .ok (.putfield 47, 3) := by decide +kernel
theorem dX7_init_93 : decode cX7_init 93 = .ok (.aload_n 0, 1) := by decide +kernel
theorem dX7_init_94 : decode cX7_init 94 = .ok (.new 44, 3) := by decide +kernel
theorem dX7_init_97 : decode cX7_init 97 = .ok (.dup, 1) := by decide +kernel
theorem dX7_init_98 : decode cX7_init 98 = .ok (.invokespecial 46, 3) := by decide +kernel
theorem dX7_init_101 : decode cX7_init 101 = .ok (.putfield 51, 3) := by decide +kernel
theorem dX7_init_104 : decode cX7_init 104 = .ok (.aload_n 0, 1) := by decide +kernel
theorem dX7_init_105 : decode cX7_init 105 = .ok (.new 54, 3) := by decide +kernel
theorem dX7_init_108 : decode cX7_init 108 = .ok (.dup, 1) := by decide +kernel
theorem dX7_init_109 : decode cX7_init 109 = .ok (.aload_n 0, 1) := by decide +kernel
theorem dX7_init_110 : decode cX7_init 110 = .ok (.getfield 47, 3) := by decide +kernel
theorem dX7_init_113 : decode cX7_init 113 = .ok (.invokespecial 56, 3) := by decide +kernel
theorem dX7_init_116 : decode cX7_init 116 = .ok (.putfield 59, 3) := by decide +kernel
theorem dX7_init_119 : decode cX7_init 119 = .ok (.aload_n 0, 1) := by decide +kernel
theorem dX7_init_120 : decode cX7_init 120 = .ok (.iconst 0, 1) := by decide +kernel
theorem dX7_init_121 : decode cX7_init 121 = .ok (.putfield 63, 3) := by decide +kernel
theorem dX7_init_124 : decode cX7_init 124 = .ok (.aload_n 0, 1) := by decide +kernel
theorem dX7_init_125 : decode cX7_init 125 = .ok (.iconst (-1), 1) := by decide +kernel
theorem dX7_init_126 : decode cX7_init 126 = .ok (.putfield 67, 3) := by decide +kernel
theorem dX7_init_129 : decode cX7_init 129 = .ok (.return_, 1) := by decide +kernel
def ltR (mr : Rfs) : Rfs := sr (rowsR (sr (wordsR (sr (wordsR (sr (talkR (sr (imR (sr (imR (sr (sr (hmr (sr (deskR (sr (sr (mr) 1 0 (some 2)) 0 0 (some 1)) 3) 0 1 (some 3)) 30) 0 2 (some 8)) 0 3 (some 160)) 161) 160 0 (some 161)) 167) 160 1 (some 167))) 0 5 (some 173)) 179) 0 6 (some 179)) 190) 0 7 (some 190))) 0 4 (some 201)
set_option maxHeartbeats 4000000 in
set_option maxRecDepth 100000 in
theorem m_X7_init {l : Launch} {G : GT}  {mr : Rfs} {mi : Mem}  (hz : Fz 0 mr mi) : MX l G yX7_init cX7_init 2 none 3 205 6187 [.ref (G.2.2.2.1 + 0)] (1, kd0, ln0) mr mi none (206, kd0, ln0) (ltR mr) (st (st (st mi 1 4 (-1)) 201 4 1) 0 9 (-1)) := by
  refine x_meth3 (own := RX7) (lv := [(0, .ref (G.2.2.2.1 + 0))]) (by decide) rfl rfl (Nat.le_of_ble_eq_true rfl) ?_
  intro p e s m below meth c C hr hlk hnm ls hl H locs hR
  have hx := C.1
  have hb := C.2.1
  have hz1 : Fz 1 mr mi := hz.up (by omega)
  refine lv_aload_n hx hb dX7_init_0 rfl (lv_at hl 0 rfl) ?_
  refine x_obj C ob_X7 hl.1 (by decide) (Nat.le_of_ble_eq_true rfl) dX7_init_1 ?_
  refine lv_aload_n hx hb dX7_init_4 rfl (lv_at hl 0 rfl) ?_
  refine x_new (ci := 3) (n := 1) (n' := 2) C hR (by decide) (hz1 1 (by omega)) (by decide +kernel) (by omega) ⟨cl_X7_7, ni_3⟩ ⟨by decide, by decide⟩ dX7_init_5 (fun H hR => ?_)
  refine lv_dup hx hb dX7_init_8 rfl ?_
  refine x_callI (mc := 1) (ms := 240) (rest := [.ref (G.2.2.2.1 + 1), .ref (G.2.2.2.1 + 0)]) C hR co_X7_9 (m_X3_init  (hz1.up (by omega))) rfl rfl (Nat.le_of_ble_eq_true rfl) hl.1 ⟨by decide, by decide⟩ ⟨by decide, by decide⟩ dX7_init_9 (fun H locs hR => ?_)
  have hz1 : Fz 3 (sr (mr) 1 0 (some 2)) (st (mi) 1 4 (-1)) := ((hz1.up (by omega)).sr (by omega)).st (by omega)
  refine x_putF C hR fo_X7_10 rfl hnm rfl fl_X7_10 rfl (show _ < _ ∧ _ from ⟨by omega, by decide +kernel⟩) dX7_init_12 (fun H locs hR => ?_)
  have hz1 := hz1.sr (a := 0) (k := 0) (v := some 1) (by omega)
  refine lv_aload_n hx hb dX7_init_15 rfl (lv_at hl 0 rfl) ?_
  refine x_new (ci := 0) (n := 3) (n' := 4) C hR (by decide) (hz1 3 (by omega)) (by decide +kernel) (by omega) ⟨cl_X7_16, ni_0⟩ ⟨by decide, by decide⟩ dX7_init_16 (fun H hR => ?_)
  refine lv_dup hx hb dX7_init_19 rfl ?_
  refine x_callI (mc := 4) (ms := 34) (rest := [.ref (G.2.2.2.1 + 3), .ref (G.2.2.2.1 + 0)]) C hR co_X7_18 (m_X0_init hD3 (hz1.up (by omega))) rfl rfl (Nat.le_of_ble_eq_true rfl) hl.1 ⟨by decide, by decide⟩ ⟨by decide, by decide⟩ dX7_init_20 (fun H locs hR => ?_)
  have hz1 : Fz 8 (deskR (sr (sr (mr) 1 0 (some 2)) 0 0 (some 1)) 3) (st (mi) 1 4 (-1)) := (hz1.up (by omega)).desk (by omega)
  refine x_putF C hR fo_X7_19 rfl hnm rfl fl_X7_19 rfl (show _ < _ ∧ _ from ⟨by omega, by decide +kernel⟩) dX7_init_23 (fun H locs hR => ?_)
  have hz1 := hz1.sr (a := 0) (k := 1) (v := some 3) (by omega)
  refine lv_aload_n hx hb dX7_init_26 rfl (lv_at hl 0 rfl) ?_
  refine x_new (ci := 1) (n := 8) (n' := 9) C hR (by decide) (hz1 8 (by omega)) (by decide +kernel) (by omega) ⟨cl_X7_23, ni_1⟩ ⟨by decide, by decide⟩ dX7_init_27 (fun H hR => ?_)
  refine lv_dup hx hb dX7_init_30 rfl ?_
  refine x_callI (mc := 151) (ms := 1260) (rest := [.ref (G.2.2.2.1 + 8), .ref (G.2.2.2.1 + 0)]) C hR co_X7_25 (m_X1_init  (hz1.up (by omega))) rfl rfl (Nat.le_of_ble_eq_true rfl) hl.1 ⟨by decide, by decide⟩ ⟨by decide, by decide⟩ dX7_init_31 (fun H locs hR => ?_)
  have hz1 : Fz 160 (hmr (sr (deskR (sr (sr (mr) 1 0 (some 2)) 0 0 (some 1)) 3) 0 1 (some 3)) 30) (st (mi) 1 4 (-1)) := Fz.hmr (hz1.up (by omega)) 30
  refine x_putF C hR fo_X7_26 rfl hnm rfl fl_X7_26 rfl (show _ < _ ∧ _ from ⟨by omega, by decide +kernel⟩) dX7_init_34 (fun H locs hR => ?_)
  have hz1 := hz1.sr (a := 0) (k := 2) (v := some 8) (by omega)
  refine lv_aload_n hx hb dX7_init_37 rfl (lv_at hl 0 rfl) ?_
  refine lv_iconst (v := 2) hx hb dX7_init_38 (by decide) ?_
  refine x_anew (K := RX2) (t0 := 0) (N := 2) (n := 160) (n' := 161) C hR (hz1 160 (by omega)) ⟨by decide +kernel, by decide +kernel⟩ (by omega) (Or.inr ⟨rfl, rfl⟩) cl_X7_30 (va_AO.use (C.2.2.2.2.2.2 _ ao_2)) ⟨by decide, by decide, by decide⟩ ⟨by decide, by decide⟩ dX7_init_39 (fun H hR => ?_)
  refine x_putF C hR fo_X7_32 rfl hnm rfl fl_X7_32 rfl (show _ < _ ∧ _ from ⟨by omega, by decide +kernel⟩) dX7_init_42 (fun H locs hR => ?_)
  have hz1 := hz1.sr (a := 0) (k := 3) (v := some 160) (by omega)
  refine lv_iconst (v := 0) hx hb dX7_init_45 (by decide) ?_
  refine lv_istore_n (lv' := [(1, .int 0), (0, .ref (G.2.2.2.1 + 0))]) hx hb dX7_init_46 rfl hl (by decide) rfl (fun ls hl => ?_)
  refine lv_iload_n hx hb dX7_init_47 rfl (lv_at hl 0 rfl) ?_
  refine lv_iconst (v := 2) hx hb dX7_init_48 (by decide) ?_
  refine lv_icmp_ge (tgt := 71) hx hb dX7_init_49 (by decide) (fun c => absurd c (by decide)) (fun _ => ?_)
  refine lv_aload_n hx hb dX7_init_52 rfl (lv_at hl 1 rfl) ?_
  refine x_getr (b := 160) C hR fo_X7_32 rfl (show _ < _ ∧ _ from ⟨by omega, by decide +kernel⟩) (show (sr (sr (hmr (sr (deskR (sr (sr (mr) 1 0 (some 2)) 0 0 (some 1)) 3) 0 1 (some 3)) 30) 0 2 (some 8)) 0 3 (some 160)) 0 3 = some 160 from rfl) dX7_init_53 ?_
  refine lv_iload_n hx hb dX7_init_56 rfl (lv_at hl 0 rfl) ?_
  refine x_new (ci := 2) (n := 161) (n' := 162) C hR (by decide) (hz1 161 (by omega)) (by decide +kernel) (by omega) ⟨cl_X7_30, ni_2⟩ ⟨by decide, by decide⟩ dX7_init_57 (fun H hR => ?_)
  refine lv_dup hx hb dX7_init_60 rfl ?_
  refine x_callI (mc := 5) (ms := 41) (rest := [.ref (G.2.2.2.1 + 161), .int 0, .ref (G.2.2.2.1 + 160)]) C hR co_X7_36 (m_X2_init (Or.inl rfl) (hz1.up (by omega))) rfl rfl (Nat.le_of_ble_eq_true rfl) hl.1 ⟨by decide, by decide⟩ ⟨by decide, by decide⟩ dX7_init_61 (fun H locs hR => ?_)
  have hz1 : Fz 167 (imR (sr (sr (hmr (sr (deskR (sr (sr (mr) 1 0 (some 2)) 0 0 (some 1)) 3) 0 1 (some 3)) 30) 0 2 (some 8)) 0 3 (some 160)) 161) (st (mi) 1 4 (-1)) := (hz1.up (by omega)).im (by omega)
  refine x_aast (kd := 13) (ci := 2) (t0 := 0) C hR (Or.inr ⟨rfl, rfl⟩) (show _ < _ ∧ _ from ⟨by omega, by decide +kernel⟩) (show _ < _ ∧ _ from ⟨by omega, by decide +kernel⟩) (show inB 0 (ln0 160) = true by decide +kernel) dX7_init_64 (fun H locs hR => ?_)
  have hR : RM G (167, kd0, ln0) (sr (imR (sr (sr (hmr (sr (deskR (sr (sr (mr) 1 0 (some 2)) 0 0 (some 1)) 3) 0 1 (some 3)) 30) 0 2 (some 8)) 0 3 (some 160)) 161) 160 0 (some 161)) (st (mi) 1 4 (-1)) H locs := hR
  have hz1 : Fz 167 (sr (imR (sr (sr (hmr (sr (deskR (sr (sr (mr) 1 0 (some 2)) 0 0 (some 1)) 3) 0 1 (some 3)) 30) 0 2 (some 8)) 0 3 (some 160)) 161) 160 0 (some 161)) (st (mi) 1 4 (-1)) := hz1.sr (by omega)
  refine lv_iinc (v := 1) (lv' := [(1, .int 1), (0, .ref (G.2.2.2.1 + 0))]) hx hb dX7_init_65 hl (k := 0) rfl (by decide) (by decide) rfl (fun ls hl => ?_)
  refine lv_goto (tgt := 47) hx hb dX7_init_68 (by decide) ?_
  refine lv_iload_n hx hb dX7_init_47 rfl (lv_at hl 0 rfl) ?_
  refine lv_iconst (v := 2) hx hb dX7_init_48 (by decide) ?_
  refine lv_icmp_ge (tgt := 71) hx hb dX7_init_49 (by decide) (fun c => absurd c (by decide)) (fun _ => ?_)
  refine lv_aload_n hx hb dX7_init_52 rfl (lv_at hl 1 rfl) ?_
  refine x_getr (b := 160) C hR fo_X7_32 rfl (show _ < _ ∧ _ from ⟨by omega, by decide +kernel⟩) (show (sr (imR (sr (sr (hmr (sr (deskR (sr (sr (mr) 1 0 (some 2)) 0 0 (some 1)) 3) 0 1 (some 3)) 30) 0 2 (some 8)) 0 3 (some 160)) 161) 160 0 (some 161)) 0 3 = some 160 from rfl) dX7_init_53 ?_
  refine lv_iload_n hx hb dX7_init_56 rfl (lv_at hl 0 rfl) ?_
  refine x_new (ci := 2) (n := 167) (n' := 168) C hR (by decide) (hz1 167 (by omega)) (by decide +kernel) (by omega) ⟨cl_X7_30, ni_2⟩ ⟨by decide, by decide⟩ dX7_init_57 (fun H hR => ?_)
  refine lv_dup hx hb dX7_init_60 rfl ?_
  refine x_callI (mc := 5) (ms := 41) (rest := [.ref (G.2.2.2.1 + 167), .int 1, .ref (G.2.2.2.1 + 160)]) C hR co_X7_36 (m_X2_init (Or.inr rfl) (hz1.up (by omega))) rfl rfl (Nat.le_of_ble_eq_true rfl) hl.1 ⟨by decide, by decide⟩ ⟨by decide, by decide⟩ dX7_init_61 (fun H locs hR => ?_)
  have hz1 : Fz 173 (imR (sr (imR (sr (sr (hmr (sr (deskR (sr (sr (mr) 1 0 (some 2)) 0 0 (some 1)) 3) 0 1 (some 3)) 30) 0 2 (some 8)) 0 3 (some 160)) 161) 160 0 (some 161)) 167) (st (mi) 1 4 (-1)) := (hz1.up (by omega)).im (by omega)
  refine x_aast (kd := 13) (ci := 2) (t0 := 0) C hR (Or.inr ⟨rfl, rfl⟩) (show _ < _ ∧ _ from ⟨by omega, by decide +kernel⟩) (show _ < _ ∧ _ from ⟨by omega, by decide +kernel⟩) (show inB 1 (ln0 160) = true by decide +kernel) dX7_init_64 (fun H locs hR => ?_)
  have hR : RM G (173, kd0, ln0) (sr (imR (sr (imR (sr (sr (hmr (sr (deskR (sr (sr (mr) 1 0 (some 2)) 0 0 (some 1)) 3) 0 1 (some 3)) 30) 0 2 (some 8)) 0 3 (some 160)) 161) 160 0 (some 161)) 167) 160 1 (some 167)) (st (mi) 1 4 (-1)) H locs := hR
  have hz1 : Fz 173 (sr (imR (sr (imR (sr (sr (hmr (sr (deskR (sr (sr (mr) 1 0 (some 2)) 0 0 (some 1)) 3) 0 1 (some 3)) 30) 0 2 (some 8)) 0 3 (some 160)) 161) 160 0 (some 161)) 167) 160 1 (some 167)) (st (mi) 1 4 (-1)) := hz1.sr (by omega)
  refine lv_iinc (v := 2) (lv' := [(1, .int 2), (0, .ref (G.2.2.2.1 + 0))]) hx hb dX7_init_65 hl (k := 0) rfl (by decide) (by decide) rfl (fun ls hl => ?_)
  refine lv_goto (tgt := 47) hx hb dX7_init_68 (by decide) ?_
  refine lv_iload_n hx hb dX7_init_47 rfl (lv_at hl 0 rfl) ?_
  refine lv_iconst (v := 2) hx hb dX7_init_48 (by decide) ?_
  refine lv_icmp_ge (tgt := 71) hx hb dX7_init_49 (by decide) (fun _ => ?_) (fun c => absurd (by decide) c)
  refine lv_aload_n hx hb dX7_init_71 rfl (lv_at hl 1 rfl) ?_
  refine x_new (ci := 5) (n := 173) (n' := 174) C hR (by decide) (hz1 173 (by omega)) (by decide +kernel) (by omega) ⟨cl_X7_37, ni_5⟩ ⟨by decide, by decide⟩ dX7_init_72 (fun H hR => ?_)
  refine lv_dup hx hb dX7_init_75 rfl ?_
  refine x_callI (mc := 5) (ms := 58) (rest := [.ref (G.2.2.2.1 + 173), .ref (G.2.2.2.1 + 0)]) C hR co_X7_39 (m_X5_init  (hz1.up (by omega))) rfl rfl (Nat.le_of_ble_eq_true rfl) hl.1 ⟨by decide, by decide⟩ ⟨by decide, by decide⟩ dX7_init_76 (fun H locs hR => ?_)
  have hz1 : Fz 179 (talkR (sr (imR (sr (imR (sr (sr (hmr (sr (deskR (sr (sr (mr) 1 0 (some 2)) 0 0 (some 1)) 3) 0 1 (some 3)) 30) 0 2 (some 8)) 0 3 (some 160)) 161) 160 0 (some 161)) 167) 160 1 (some 167))) (st (mi) 1 4 (-1)) := fun k hk => by rw [talkR_ne (by omega)]; exact hz1 k (by omega)
  refine x_putF C hR fo_X7_40 rfl hnm rfl fl_X7_40 rfl (show _ < _ ∧ _ from ⟨by omega, by decide +kernel⟩) dX7_init_79 (fun H locs hR => ?_)
  have hz1 := hz1.sr (a := 0) (k := 5) (v := some 173) (by omega)
  refine lv_aload_n hx hb dX7_init_82 rfl (lv_at hl 1 rfl) ?_
  refine x_new (ci := 6) (n := 179) (n' := 180) C hR (by decide) (hz1 179 (by omega)) (by decide +kernel) (by omega) ⟨cl_X7_44, ni_6⟩ ⟨by decide, by decide⟩ dX7_init_83 (fun H hR => ?_)
  refine lv_dup hx hb dX7_init_86 rfl ?_
  refine x_callI (mc := 10) (ms := 488) (rest := [.ref (G.2.2.2.1 + 179), .ref (G.2.2.2.1 + 0)]) C hR co_X7_46 (m_X6_init (Or.inl rfl) (hz1.up (by omega))) rfl rfl (Nat.le_of_ble_eq_true rfl) hl.1 ⟨by decide, by decide⟩ ⟨by decide, by decide⟩ dX7_init_87 (fun H locs hR => ?_)
  have hz1 : Fz 190 (wordsR (sr (talkR (sr (imR (sr (imR (sr (sr (hmr (sr (deskR (sr (sr (mr) 1 0 (some 2)) 0 0 (some 1)) 3) 0 1 (some 3)) 30) 0 2 (some 8)) 0 3 (some 160)) 161) 160 0 (some 161)) 167) 160 1 (some 167))) 0 5 (some 173)) 179) (st (mi) 1 4 (-1)) := (hz1.up (by omega)).words (by omega)
  refine x_putr C hR fo_X7_47 rfl rfl (show _ < _ ∧ _ from ⟨by omega, by decide +kernel⟩) dX7_init_90 (fun H locs hR => ?_)
  have hz1 := hz1.sr (a := 0) (k := 6) (v := some 179) (by omega)
  refine lv_aload_n hx hb dX7_init_93 rfl (lv_at hl 1 rfl) ?_
  refine x_new (ci := 6) (n := 190) (n' := 191) C hR (by decide) (hz1 190 (by omega)) (by decide +kernel) (by omega) ⟨cl_X7_44, ni_6⟩ ⟨by decide, by decide⟩ dX7_init_94 (fun H hR => ?_)
  refine lv_dup hx hb dX7_init_97 rfl ?_
  refine x_callI (mc := 10) (ms := 488) (rest := [.ref (G.2.2.2.1 + 190), .ref (G.2.2.2.1 + 0)]) C hR co_X7_46 (m_X6_init (Or.inr rfl) (hz1.up (by omega))) rfl rfl (Nat.le_of_ble_eq_true rfl) hl.1 ⟨by decide, by decide⟩ ⟨by decide, by decide⟩ dX7_init_98 (fun H locs hR => ?_)
  have hz1 : Fz 201 (wordsR (sr (wordsR (sr (talkR (sr (imR (sr (imR (sr (sr (hmr (sr (deskR (sr (sr (mr) 1 0 (some 2)) 0 0 (some 1)) 3) 0 1 (some 3)) 30) 0 2 (some 8)) 0 3 (some 160)) 161) 160 0 (some 161)) 167) 160 1 (some 167))) 0 5 (some 173)) 179) 0 6 (some 179)) 190) (st (mi) 1 4 (-1)) := (hz1.up (by omega)).words (by omega)
  refine x_putr C hR fo_X7_51 rfl rfl (show _ < _ ∧ _ from ⟨by omega, by decide +kernel⟩) dX7_init_101 (fun H locs hR => ?_)
  have hz1 := hz1.sr (a := 0) (k := 7) (v := some 190) (by omega)
  refine lv_aload_n hx hb dX7_init_104 rfl (lv_at hl 1 rfl) ?_
  refine x_new (ci := 4) (n := 201) (n' := 202) C hR (by decide) (hz1 201 (by omega)) (by decide +kernel) (by omega) ⟨cl_X7_54, ni_4⟩ ⟨by decide, by decide⟩ dX7_init_105 (fun H hR => ?_)
  refine lv_dup hx hb dX7_init_108 rfl ?_
  refine lv_aload_n hx hb dX7_init_109 rfl (lv_at hl 1 rfl) ?_
  refine x_getr (b := 179) C hR fo_X7_47 rfl (show _ < _ ∧ _ from ⟨by omega, by decide +kernel⟩) (show (sr (wordsR (sr (wordsR (sr (talkR (sr (imR (sr (imR (sr (sr (hmr (sr (deskR (sr (sr (mr) 1 0 (some 2)) 0 0 (some 1)) 3) 0 1 (some 3)) 30) 0 2 (some 8)) 0 3 (some 160)) 161) 160 0 (some 161)) 167) 160 1 (some 167))) 0 5 (some 173)) 179) 0 6 (some 179)) 190) 0 7 (some 190)) 0 6 = some 179 from rfl) dX7_init_110 ?_
  refine x_callI (mc := 4) (ms := 3474) (rest := [.ref (G.2.2.2.1 + 201), .ref (G.2.2.2.1 + 0)]) C hR co_X7_56 (m_X4_init  (hz1.up (by omega))) rfl rfl (Nat.le_of_ble_eq_true rfl) hl.1 ⟨by decide, by decide⟩ ⟨by decide, by decide⟩ dX7_init_113 (fun H locs hR => ?_)
  have hz1 : Fz 206 (rowsR (sr (wordsR (sr (wordsR (sr (talkR (sr (imR (sr (imR (sr (sr (hmr (sr (deskR (sr (sr (mr) 1 0 (some 2)) 0 0 (some 1)) 3) 0 1 (some 3)) 30) 0 2 (some 8)) 0 3 (some 160)) 161) 160 0 (some 161)) 167) 160 1 (some 167))) 0 5 (some 173)) 179) 0 6 (some 179)) 190) 0 7 (some 190))) (st (st (mi) 1 4 (-1)) 201 4 1) := fun k hk => by rw [rowsR_ne (by omega), st_ne (by omega)]; exact hz1 k (by omega)
  refine x_putF C hR fo_X7_59 rfl hnm rfl fl_X7_59 rfl (show _ < _ ∧ _ from ⟨by omega, by decide +kernel⟩) dX7_init_116 (fun H locs hR => ?_)
  have hz1 := hz1.sr (a := 0) (k := 4) (v := some 201) (by omega)
  refine lv_aload_n hx hb dX7_init_119 rfl (lv_at hl 1 rfl) ?_
  refine lv_iconst (v := 0) hx hb dX7_init_120 (by decide) ?_
  refine x_puti C hR fo_X7_63 rfl rfl (show _ < _ ∧ _ from ⟨by omega, by decide +kernel⟩) dX7_init_121 (fun H locs hR => ?_)
  rw [st_same (by rw [st_ne (by decide), st_ne (by decide)]; exact (hz 0 (by omega)).2 8)] at hR
  refine lv_aload_n hx hb dX7_init_124 rfl (lv_at hl 1 rfl) ?_
  refine lv_iconst (v := (-1)) hx hb dX7_init_125 (by decide) ?_
  refine x_puti C hR fo_X7_67 rfl rfl (show _ < _ ∧ _ from ⟨by omega, by decide +kernel⟩) dX7_init_126 (fun H locs hR => ?_)
  have hz1 := hz1.st (a := 0) (k := 9) (v := (-1)) (by omega)
  exact x_vret C hR hr hlk dX7_init_129
theorem dX8_init_0 : decode cX8_init 0 = .ok (.aload_n 0, 1) := by decide +kernel
theorem dX8_init_1 : decode cX8_init 1 = .ok (.invokespecial 1, 3) := by decide +kernel
theorem dX8_init_4 : decode cX8_init 4 = .ok (.aload_n 0, 1) := by decide +kernel
theorem dX8_init_5 : decode cX8_init 5 = .ok (.bipush 8, 2) := by decide +kernel
theorem dX8_init_7 : decode cX8_init 7 = .ok (.newarray .int, 2) := by decide +kernel
theorem dX8_init_9 : decode cX8_init 9 = .ok (.putfield 7, 3) := by decide +kernel
theorem dX8_init_12 : decode cX8_init 12 = .ok (.aload_n 0, 1) := by decide +kernel
theorem dX8_init_13 : decode cX8_init 13 = .ok (.bipush 10, 2) := by decide +kernel
theorem dX8_init_15 : decode cX8_init 15 = .ok (.newarray .int, 2) := by decide +kernel
theorem dX8_init_17 : decode cX8_init 17 = .ok (.putfield 13, 3) := by decide +kernel
theorem dX8_init_20 : decode cX8_init 20 = .ok (.aload_n 0, 1) := by decide +kernel
theorem dX8_init_21 : decode cX8_init 21 = .ok (.bipush 10, 2) := by decide +kernel
theorem dX8_init_23 : decode cX8_init 23 = .ok (.newarray .int, 2) := by decide +kernel
theorem dX8_init_25 : decode cX8_init 25 = .ok (.putfield 16, 3) := by decide +kernel
theorem dX8_init_28 : decode cX8_init 28 = .ok (.aload_n 0, 1) := by decide +kernel
theorem dX8_init_29 : decode cX8_init 29 = .ok (.bipush 60, 2) := by decide +kernel
theorem dX8_init_31 : decode cX8_init 31 = .ok (.newarray .int, 2) := by decide +kernel
theorem dX8_init_33 : decode cX8_init 33 = .ok (.putfield 19, 3) := by decide +kernel
theorem dX8_init_36 : decode cX8_init 36 = .ok (.aload_n 0, 1) := by decide +kernel
theorem dX8_init_37 : decode cX8_init 37 = .ok (.bipush 80, 2) := by decide +kernel
theorem dX8_init_39 : decode cX8_init 39 = .ok (.newarray .int, 2) := by decide +kernel
theorem dX8_init_41 : decode cX8_init 41 = .ok (.putfield 22, 3) := by decide +kernel
theorem dX8_init_44 : decode cX8_init 44 = .ok (.aload_n 0, 1) := by decide +kernel
theorem dX8_init_45 : decode cX8_init 45 = .ok (.bipush 37, 2) := by decide +kernel
theorem dX8_init_47 : decode cX8_init 47 = .ok (.newarray .int, 2) := by decide +kernel
theorem dX8_init_49 : decode cX8_init 49 = .ok (.putfield 25, 3) := by decide +kernel
theorem dX8_init_52 : decode cX8_init 52 = .ok (.aload_n 0, 1) := by decide +kernel
theorem dX8_init_53 : decode cX8_init 53 = .ok (.sipush 1110, 3) := by decide +kernel
theorem dX8_init_56 : decode cX8_init 56 = .ok (.newarray .int, 2) := by decide +kernel
theorem dX8_init_58 : decode cX8_init 58 = .ok (.putfield 28, 3) := by decide +kernel
theorem dX8_init_61 : decode cX8_init 61 = .ok (.aload_n 0, 1) := by decide +kernel
theorem dX8_init_62 : decode cX8_init 62 = .ok (.sipush 240, 3) := by decide +kernel
theorem dX8_init_65 : decode cX8_init 65 = .ok (.newarray .int, 2) := by decide +kernel
theorem dX8_init_67 : decode cX8_init 67 = .ok (.putfield 31, 3) := by decide +kernel
theorem dX8_init_70 : decode cX8_init 70 = .ok (.aload_n 0, 1) := by decide +kernel
theorem dX8_init_71 : decode cX8_init 71 = .ok (.bipush 8, 2) := by decide +kernel
theorem dX8_init_73 : decode cX8_init 73 = .ok (.newarray .int, 2) := by decide +kernel
theorem dX8_init_75 : decode cX8_init 75 = .ok (.putfield 34, 3) := by decide +kernel
theorem dX8_init_78 : decode cX8_init 78 = .ok (.aload_n 0, 1) := by decide +kernel
theorem dX8_init_79 : decode cX8_init 79 = .ok (.bipush 9, 2) := by decide +kernel
theorem dX8_init_81 : decode cX8_init 81 = .ok (.newarray .int, 2) := by decide +kernel
theorem dX8_init_83 : decode cX8_init 83 = .ok (.putfield 37, 3) := by decide +kernel
theorem dX8_init_86 : decode cX8_init 86 = .ok (.aload_n 0, 1) := by decide +kernel
theorem dX8_init_87 : decode cX8_init 87 = .ok (.bipush 10, 2) := by decide +kernel
theorem dX8_init_89 : decode cX8_init 89 = .ok (.newarray .int, 2) := by decide +kernel
theorem dX8_init_91 : decode cX8_init 91 = .ok (.putfield 40, 3) := by decide +kernel
theorem dX8_init_94 : decode cX8_init 94 = .ok (.aload_n 0, 1) := by decide +kernel
theorem dX8_init_95 : decode cX8_init 95 = .ok (.bipush 10, 2) := by decide +kernel
theorem dX8_init_97 : decode cX8_init 97 = .ok (.newarray .int, 2) := by decide +kernel
theorem dX8_init_99 : decode cX8_init 99 = .ok (.putfield 43, 3) := by decide +kernel
theorem dX8_init_102 : decode cX8_init 102 = .ok (.aload_n 0, 1) := by decide +kernel
theorem dX8_init_103 : decode cX8_init 103 = .ok (.bipush 60, 2) := by decide +kernel
theorem dX8_init_105 : decode cX8_init 105 = .ok (.newarray .int, 2) := by decide +kernel
theorem dX8_init_107 : decode cX8_init 107 = .ok (.putfield 46, 3) := by decide +kernel
theorem dX8_init_110 : decode cX8_init 110 = .ok (.aload_n 0, 1) := by decide +kernel
theorem dX8_init_111 : decode cX8_init 111 = .ok (.bipush 13, 2) := by decide +kernel
theorem dX8_init_113 : decode cX8_init 113 = .ok (.newarray .int, 2) := by decide +kernel
theorem dX8_init_115 : decode cX8_init 115 = .ok (.putfield 49, 3) := by decide +kernel
theorem dX8_init_118 : decode cX8_init 118 = .ok (.aload_n 0, 1) := by decide +kernel
theorem dX8_init_119 : decode cX8_init 119 = .ok (.bipush 8, 2) := by decide +kernel
theorem dX8_init_121 : decode cX8_init 121 = .ok (.newarray .int, 2) := by decide +kernel
theorem dX8_init_123 : decode cX8_init 123 = .ok (.putfield 52, 3) := by decide +kernel
theorem dX8_init_126 : decode cX8_init 126 = .ok (.aload_n 0, 1) := by decide +kernel
theorem dX8_init_127 : decode cX8_init 127 = .ok (.bipush 13, 2) := by decide +kernel
theorem dX8_init_129 : decode cX8_init 129 = .ok (.newarray .int, 2) := by decide +kernel
theorem dX8_init_131 : decode cX8_init 131 = .ok (.putfield 55, 3) := by decide +kernel
theorem dX8_init_134 : decode cX8_init 134 = .ok (.aload_n 0, 1) := by decide +kernel
theorem dX8_init_135 : decode cX8_init 135 = .ok (.bipush 18, 2) := by decide +kernel
theorem dX8_init_137 : decode cX8_init 137 = .ok (.newarray .int, 2) := by decide +kernel
theorem dX8_init_139 : decode cX8_init 139 = .ok (.putfield 58, 3) := by decide +kernel
theorem dX8_init_142 : decode cX8_init 142 = .ok (.aload_n 0, 1) := by decide +kernel
theorem dX8_init_143 : decode cX8_init 143 = .ok (.bipush 40, 2) := by decide +kernel
theorem dX8_init_145 : decode cX8_init 145 = .ok (.newarray .int, 2) := by decide +kernel
theorem dX8_init_147 : decode cX8_init 147 = .ok (.putfield 61, 3) := by decide +kernel
theorem dX8_init_150 : decode cX8_init 150 = .ok (.aload_n 0, 1) := by decide +kernel
theorem dX8_init_151 : decode cX8_init 151 = .ok (.bipush 76, 2) := by decide +kernel
theorem dX8_init_153 : decode cX8_init 153 = .ok (.newarray .int, 2) := by decide +kernel
theorem dX8_init_155 : decode cX8_init 155 = .ok (.putfield 64, 3) := by decide +kernel
theorem dX8_init_158 : decode cX8_init 158 = .ok (.aload_n 0, 1) := by decide +kernel
theorem dX8_init_159 : decode cX8_init 159 = .ok (.iconst 2, 1) := by decide +kernel
theorem dX8_init_160 : decode cX8_init 160 = .ok (.newarray .boolean, 2) := by decide +kernel
theorem dX8_init_162 : decode cX8_init 162 = .ok (.putfield 67, 3) := by decide +kernel
theorem dX8_init_165 : decode cX8_init 165 = .ok (.aload_n 0, 1) := by decide +kernel
theorem dX8_init_166 : decode cX8_init 166 = .ok (.iconst (-1), 1) := by decide +kernel
theorem dX8_init_167 : decode cX8_init 167 = .ok (.putfield 71, 3) := by decide +kernel
theorem dX8_init_170 : decode cX8_init 170 = .ok (.return_, 1) := by decide +kernel
def mdR (mr : Rfs) : Rfs := sr (sr (sr (sr (sr (sr (sr (sr (sr (sr (sr (sr (sr (sr (sr (sr (sr (sr (sr (sr (mr) 206 0 (some 207)) 206 1 (some 208)) 206 2 (some 209)) 206 3 (some 210)) 206 4 (some 211)) 206 7 (some 212)) 206 9 (some 213)) 206 11 (some 214)) 206 17 (some 215)) 206 18 (some 216)) 206 19 (some 217)) 206 20 (some 218)) 206 21 (some 219)) 206 24 (some 220)) 206 26 (some 221)) 206 32 (some 222)) 206 33 (some 223)) 206 35 (some 224)) 206 37 (some 225)) 206 38 (some 226)
set_option maxHeartbeats 4000000 in
set_option maxRecDepth 100000 in
theorem m_X8_init {l : Launch} {G : GT}  {mr : Rfs} {mi : Mem}  (hz : Fz 206 mr mi) : MX l G yX8_init cX8_init 1 none 1 20 1822 [.ref (G.2.2.2.1 + 206)] (207, kd0, ln0) mr mi none (227, kd0, ln0) (mdR mr) (st mi 206 14 (-1)) := by
  refine x_meth3 (own := RX8) (lv := [(0, .ref (G.2.2.2.1 + 206))]) (by decide) rfl rfl (Nat.le_of_ble_eq_true rfl) ?_
  intro p e s m below meth c C hr hlk hnm ls hl H locs hR
  have hx := C.1
  have hb := C.2.1
  have hz1 : Fz 207 mr mi := hz.up (by omega)
  refine lv_aload_n hx hb dX8_init_0 rfl (lv_at hl 0 rfl) ?_
  refine x_obj C ob_X8 hl.1 (by decide) (Nat.le_of_ble_eq_true rfl) dX8_init_1 ?_
  refine lv_aload_n hx hb dX8_init_4 rfl (lv_at hl 0 rfl) ?_
  refine lv_bipush (v := 8) hx hb dX8_init_5 (by decide) ?_
  refine x_newa (atype := .int) (t0 := 0) (N := 8) (n := 207) (n' := 208) C hR (hz1 207 (by omega)) ⟨by decide +kernel, by decide +kernel⟩ (by omega) (Or.inl ⟨rfl, rfl⟩) ac_int ⟨by decide, by decide, by decide⟩ ⟨by decide, by decide⟩ dX8_init_7 (fun H hR => ?_)
  refine x_putF C hR fo_X8_7 rfl hnm rfl fl_X8_7 rfl (show _ < _ ∧ _ from ⟨by omega, by decide +kernel⟩) dX8_init_9 (fun H locs hR => ?_)
  have hz1 := hz1.sr (a := 206) (k := 0) (v := some 207) (by omega)
  refine lv_aload_n hx hb dX8_init_12 rfl (lv_at hl 0 rfl) ?_
  refine lv_bipush (v := 10) hx hb dX8_init_13 (by decide) ?_
  refine x_newa (atype := .int) (t0 := 0) (N := 10) (n := 208) (n' := 209) C hR (hz1 208 (by omega)) ⟨by decide +kernel, by decide +kernel⟩ (by omega) (Or.inl ⟨rfl, rfl⟩) ac_int ⟨by decide, by decide, by decide⟩ ⟨by decide, by decide⟩ dX8_init_15 (fun H hR => ?_)
  refine x_putF C hR fo_X8_13 rfl hnm rfl fl_X8_13 rfl (show _ < _ ∧ _ from ⟨by omega, by decide +kernel⟩) dX8_init_17 (fun H locs hR => ?_)
  have hz1 := hz1.sr (a := 206) (k := 1) (v := some 208) (by omega)
  refine lv_aload_n hx hb dX8_init_20 rfl (lv_at hl 0 rfl) ?_
  refine lv_bipush (v := 10) hx hb dX8_init_21 (by decide) ?_
  refine x_newa (atype := .int) (t0 := 0) (N := 10) (n := 209) (n' := 210) C hR (hz1 209 (by omega)) ⟨by decide +kernel, by decide +kernel⟩ (by omega) (Or.inl ⟨rfl, rfl⟩) ac_int ⟨by decide, by decide, by decide⟩ ⟨by decide, by decide⟩ dX8_init_23 (fun H hR => ?_)
  refine x_putF C hR fo_X8_16 rfl hnm rfl fl_X8_16 rfl (show _ < _ ∧ _ from ⟨by omega, by decide +kernel⟩) dX8_init_25 (fun H locs hR => ?_)
  have hz1 := hz1.sr (a := 206) (k := 2) (v := some 209) (by omega)
  refine lv_aload_n hx hb dX8_init_28 rfl (lv_at hl 0 rfl) ?_
  refine lv_bipush (v := 60) hx hb dX8_init_29 (by decide) ?_
  refine x_newa (atype := .int) (t0 := 0) (N := 60) (n := 210) (n' := 211) C hR (hz1 210 (by omega)) ⟨by decide +kernel, by decide +kernel⟩ (by omega) (Or.inl ⟨rfl, rfl⟩) ac_int ⟨by decide, by decide, by decide⟩ ⟨by decide, by decide⟩ dX8_init_31 (fun H hR => ?_)
  refine x_putF C hR fo_X8_19 rfl hnm rfl fl_X8_19 rfl (show _ < _ ∧ _ from ⟨by omega, by decide +kernel⟩) dX8_init_33 (fun H locs hR => ?_)
  have hz1 := hz1.sr (a := 206) (k := 3) (v := some 210) (by omega)
  refine lv_aload_n hx hb dX8_init_36 rfl (lv_at hl 0 rfl) ?_
  refine lv_bipush (v := 80) hx hb dX8_init_37 (by decide) ?_
  refine x_newa (atype := .int) (t0 := 0) (N := 80) (n := 211) (n' := 212) C hR (hz1 211 (by omega)) ⟨by decide +kernel, by decide +kernel⟩ (by omega) (Or.inl ⟨rfl, rfl⟩) ac_int ⟨by decide, by decide, by decide⟩ ⟨by decide, by decide⟩ dX8_init_39 (fun H hR => ?_)
  refine x_putF C hR fo_X8_22 rfl hnm rfl fl_X8_22 rfl (show _ < _ ∧ _ from ⟨by omega, by decide +kernel⟩) dX8_init_41 (fun H locs hR => ?_)
  have hz1 := hz1.sr (a := 206) (k := 4) (v := some 211) (by omega)
  refine lv_aload_n hx hb dX8_init_44 rfl (lv_at hl 0 rfl) ?_
  refine lv_bipush (v := 37) hx hb dX8_init_45 (by decide) ?_
  refine x_newa (atype := .int) (t0 := 0) (N := 37) (n := 212) (n' := 213) C hR (hz1 212 (by omega)) ⟨by decide +kernel, by decide +kernel⟩ (by omega) (Or.inl ⟨rfl, rfl⟩) ac_int ⟨by decide, by decide, by decide⟩ ⟨by decide, by decide⟩ dX8_init_47 (fun H hR => ?_)
  refine x_putF C hR fo_X8_25 rfl hnm rfl fl_X8_25 rfl (show _ < _ ∧ _ from ⟨by omega, by decide +kernel⟩) dX8_init_49 (fun H locs hR => ?_)
  have hz1 := hz1.sr (a := 206) (k := 7) (v := some 212) (by omega)
  refine lv_aload_n hx hb dX8_init_52 rfl (lv_at hl 0 rfl) ?_
  refine lv_sipush (v := 1110) hx hb dX8_init_53 (by decide) ?_
  refine x_newa (atype := .int) (t0 := 0) (N := 1110) (n := 213) (n' := 214) C hR (hz1 213 (by omega)) ⟨by decide +kernel, by decide +kernel⟩ (by omega) (Or.inl ⟨rfl, rfl⟩) ac_int ⟨by decide, by decide, by decide⟩ ⟨by decide, by decide⟩ dX8_init_56 (fun H hR => ?_)
  refine x_putF C hR fo_X8_28 rfl hnm rfl fl_X8_28 rfl (show _ < _ ∧ _ from ⟨by omega, by decide +kernel⟩) dX8_init_58 (fun H locs hR => ?_)
  have hz1 := hz1.sr (a := 206) (k := 9) (v := some 213) (by omega)
  refine lv_aload_n hx hb dX8_init_61 rfl (lv_at hl 0 rfl) ?_
  refine lv_sipush (v := 240) hx hb dX8_init_62 (by decide) ?_
  refine x_newa (atype := .int) (t0 := 0) (N := 240) (n := 214) (n' := 215) C hR (hz1 214 (by omega)) ⟨by decide +kernel, by decide +kernel⟩ (by omega) (Or.inl ⟨rfl, rfl⟩) ac_int ⟨by decide, by decide, by decide⟩ ⟨by decide, by decide⟩ dX8_init_65 (fun H hR => ?_)
  refine x_putF C hR fo_X8_31 rfl hnm rfl fl_X8_31 rfl (show _ < _ ∧ _ from ⟨by omega, by decide +kernel⟩) dX8_init_67 (fun H locs hR => ?_)
  have hz1 := hz1.sr (a := 206) (k := 11) (v := some 214) (by omega)
  refine lv_aload_n hx hb dX8_init_70 rfl (lv_at hl 0 rfl) ?_
  refine lv_bipush (v := 8) hx hb dX8_init_71 (by decide) ?_
  refine x_newa (atype := .int) (t0 := 0) (N := 8) (n := 215) (n' := 216) C hR (hz1 215 (by omega)) ⟨by decide +kernel, by decide +kernel⟩ (by omega) (Or.inl ⟨rfl, rfl⟩) ac_int ⟨by decide, by decide, by decide⟩ ⟨by decide, by decide⟩ dX8_init_73 (fun H hR => ?_)
  refine x_putF C hR fo_X8_34 rfl hnm rfl fl_X8_34 rfl (show _ < _ ∧ _ from ⟨by omega, by decide +kernel⟩) dX8_init_75 (fun H locs hR => ?_)
  have hz1 := hz1.sr (a := 206) (k := 17) (v := some 215) (by omega)
  refine lv_aload_n hx hb dX8_init_78 rfl (lv_at hl 0 rfl) ?_
  refine lv_bipush (v := 9) hx hb dX8_init_79 (by decide) ?_
  refine x_newa (atype := .int) (t0 := 0) (N := 9) (n := 216) (n' := 217) C hR (hz1 216 (by omega)) ⟨by decide +kernel, by decide +kernel⟩ (by omega) (Or.inl ⟨rfl, rfl⟩) ac_int ⟨by decide, by decide, by decide⟩ ⟨by decide, by decide⟩ dX8_init_81 (fun H hR => ?_)
  refine x_putF C hR fo_X8_37 rfl hnm rfl fl_X8_37 rfl (show _ < _ ∧ _ from ⟨by omega, by decide +kernel⟩) dX8_init_83 (fun H locs hR => ?_)
  have hz1 := hz1.sr (a := 206) (k := 18) (v := some 216) (by omega)
  refine lv_aload_n hx hb dX8_init_86 rfl (lv_at hl 0 rfl) ?_
  refine lv_bipush (v := 10) hx hb dX8_init_87 (by decide) ?_
  refine x_newa (atype := .int) (t0 := 0) (N := 10) (n := 217) (n' := 218) C hR (hz1 217 (by omega)) ⟨by decide +kernel, by decide +kernel⟩ (by omega) (Or.inl ⟨rfl, rfl⟩) ac_int ⟨by decide, by decide, by decide⟩ ⟨by decide, by decide⟩ dX8_init_89 (fun H hR => ?_)
  refine x_putF C hR fo_X8_40 rfl hnm rfl fl_X8_40 rfl (show _ < _ ∧ _ from ⟨by omega, by decide +kernel⟩) dX8_init_91 (fun H locs hR => ?_)
  have hz1 := hz1.sr (a := 206) (k := 19) (v := some 217) (by omega)
  refine lv_aload_n hx hb dX8_init_94 rfl (lv_at hl 0 rfl) ?_
  refine lv_bipush (v := 10) hx hb dX8_init_95 (by decide) ?_
  refine x_newa (atype := .int) (t0 := 0) (N := 10) (n := 218) (n' := 219) C hR (hz1 218 (by omega)) ⟨by decide +kernel, by decide +kernel⟩ (by omega) (Or.inl ⟨rfl, rfl⟩) ac_int ⟨by decide, by decide, by decide⟩ ⟨by decide, by decide⟩ dX8_init_97 (fun H hR => ?_)
  refine x_putF C hR fo_X8_43 rfl hnm rfl fl_X8_43 rfl (show _ < _ ∧ _ from ⟨by omega, by decide +kernel⟩) dX8_init_99 (fun H locs hR => ?_)
  have hz1 := hz1.sr (a := 206) (k := 20) (v := some 218) (by omega)
  refine lv_aload_n hx hb dX8_init_102 rfl (lv_at hl 0 rfl) ?_
  refine lv_bipush (v := 60) hx hb dX8_init_103 (by decide) ?_
  refine x_newa (atype := .int) (t0 := 0) (N := 60) (n := 219) (n' := 220) C hR (hz1 219 (by omega)) ⟨by decide +kernel, by decide +kernel⟩ (by omega) (Or.inl ⟨rfl, rfl⟩) ac_int ⟨by decide, by decide, by decide⟩ ⟨by decide, by decide⟩ dX8_init_105 (fun H hR => ?_)
  refine x_putF C hR fo_X8_46 rfl hnm rfl fl_X8_46 rfl (show _ < _ ∧ _ from ⟨by omega, by decide +kernel⟩) dX8_init_107 (fun H locs hR => ?_)
  have hz1 := hz1.sr (a := 206) (k := 21) (v := some 219) (by omega)
  refine lv_aload_n hx hb dX8_init_110 rfl (lv_at hl 0 rfl) ?_
  refine lv_bipush (v := 13) hx hb dX8_init_111 (by decide) ?_
  refine x_newa (atype := .int) (t0 := 0) (N := 13) (n := 220) (n' := 221) C hR (hz1 220 (by omega)) ⟨by decide +kernel, by decide +kernel⟩ (by omega) (Or.inl ⟨rfl, rfl⟩) ac_int ⟨by decide, by decide, by decide⟩ ⟨by decide, by decide⟩ dX8_init_113 (fun H hR => ?_)
  refine x_putF C hR fo_X8_49 rfl hnm rfl fl_X8_49 rfl (show _ < _ ∧ _ from ⟨by omega, by decide +kernel⟩) dX8_init_115 (fun H locs hR => ?_)
  have hz1 := hz1.sr (a := 206) (k := 24) (v := some 220) (by omega)
  refine lv_aload_n hx hb dX8_init_118 rfl (lv_at hl 0 rfl) ?_
  refine lv_bipush (v := 8) hx hb dX8_init_119 (by decide) ?_
  refine x_newa (atype := .int) (t0 := 0) (N := 8) (n := 221) (n' := 222) C hR (hz1 221 (by omega)) ⟨by decide +kernel, by decide +kernel⟩ (by omega) (Or.inl ⟨rfl, rfl⟩) ac_int ⟨by decide, by decide, by decide⟩ ⟨by decide, by decide⟩ dX8_init_121 (fun H hR => ?_)
  refine x_putF C hR fo_X8_52 rfl hnm rfl fl_X8_52 rfl (show _ < _ ∧ _ from ⟨by omega, by decide +kernel⟩) dX8_init_123 (fun H locs hR => ?_)
  have hz1 := hz1.sr (a := 206) (k := 26) (v := some 221) (by omega)
  refine lv_aload_n hx hb dX8_init_126 rfl (lv_at hl 0 rfl) ?_
  refine lv_bipush (v := 13) hx hb dX8_init_127 (by decide) ?_
  refine x_newa (atype := .int) (t0 := 0) (N := 13) (n := 222) (n' := 223) C hR (hz1 222 (by omega)) ⟨by decide +kernel, by decide +kernel⟩ (by omega) (Or.inl ⟨rfl, rfl⟩) ac_int ⟨by decide, by decide, by decide⟩ ⟨by decide, by decide⟩ dX8_init_129 (fun H hR => ?_)
  refine x_putF C hR fo_X8_55 rfl hnm rfl fl_X8_55 rfl (show _ < _ ∧ _ from ⟨by omega, by decide +kernel⟩) dX8_init_131 (fun H locs hR => ?_)
  have hz1 := hz1.sr (a := 206) (k := 32) (v := some 222) (by omega)
  refine lv_aload_n hx hb dX8_init_134 rfl (lv_at hl 0 rfl) ?_
  refine lv_bipush (v := 18) hx hb dX8_init_135 (by decide) ?_
  refine x_newa (atype := .int) (t0 := 0) (N := 18) (n := 223) (n' := 224) C hR (hz1 223 (by omega)) ⟨by decide +kernel, by decide +kernel⟩ (by omega) (Or.inl ⟨rfl, rfl⟩) ac_int ⟨by decide, by decide, by decide⟩ ⟨by decide, by decide⟩ dX8_init_137 (fun H hR => ?_)
  refine x_putF C hR fo_X8_58 rfl hnm rfl fl_X8_58 rfl (show _ < _ ∧ _ from ⟨by omega, by decide +kernel⟩) dX8_init_139 (fun H locs hR => ?_)
  have hz1 := hz1.sr (a := 206) (k := 33) (v := some 223) (by omega)
  refine lv_aload_n hx hb dX8_init_142 rfl (lv_at hl 0 rfl) ?_
  refine lv_bipush (v := 40) hx hb dX8_init_143 (by decide) ?_
  refine x_newa (atype := .int) (t0 := 0) (N := 40) (n := 224) (n' := 225) C hR (hz1 224 (by omega)) ⟨by decide +kernel, by decide +kernel⟩ (by omega) (Or.inl ⟨rfl, rfl⟩) ac_int ⟨by decide, by decide, by decide⟩ ⟨by decide, by decide⟩ dX8_init_145 (fun H hR => ?_)
  refine x_putF C hR fo_X8_61 rfl hnm rfl fl_X8_61 rfl (show _ < _ ∧ _ from ⟨by omega, by decide +kernel⟩) dX8_init_147 (fun H locs hR => ?_)
  have hz1 := hz1.sr (a := 206) (k := 35) (v := some 224) (by omega)
  refine lv_aload_n hx hb dX8_init_150 rfl (lv_at hl 0 rfl) ?_
  refine lv_bipush (v := 76) hx hb dX8_init_151 (by decide) ?_
  refine x_newa (atype := .int) (t0 := 0) (N := 76) (n := 225) (n' := 226) C hR (hz1 225 (by omega)) ⟨by decide +kernel, by decide +kernel⟩ (by omega) (Or.inl ⟨rfl, rfl⟩) ac_int ⟨by decide, by decide, by decide⟩ ⟨by decide, by decide⟩ dX8_init_153 (fun H hR => ?_)
  refine x_putF C hR fo_X8_64 rfl hnm rfl fl_X8_64 rfl (show _ < _ ∧ _ from ⟨by omega, by decide +kernel⟩) dX8_init_155 (fun H locs hR => ?_)
  have hz1 := hz1.sr (a := 206) (k := 37) (v := some 225) (by omega)
  refine lv_aload_n hx hb dX8_init_158 rfl (lv_at hl 0 rfl) ?_
  refine lv_iconst (v := 2) hx hb dX8_init_159 (by decide) ?_
  refine x_newa (atype := .boolean) (t0 := 0) (N := 2) (n := 226) (n' := 227) C hR (hz1 226 (by omega)) ⟨by decide +kernel, by decide +kernel⟩ (by omega) (Or.inr (Or.inr ⟨rfl, rfl⟩)) ac_boolean ⟨by decide, by decide, by decide⟩ ⟨by decide, by decide⟩ dX8_init_160 (fun H hR => ?_)
  refine x_putF C hR fo_X8_67 rfl hnm rfl fl_X8_67 rfl (show _ < _ ∧ _ from ⟨by omega, by decide +kernel⟩) dX8_init_162 (fun H locs hR => ?_)
  have hz1 := hz1.sr (a := 206) (k := 38) (v := some 226) (by omega)
  refine lv_aload_n hx hb dX8_init_165 rfl (lv_at hl 0 rfl) ?_
  refine lv_iconst (v := (-1)) hx hb dX8_init_166 (by decide) ?_
  refine x_puti C hR fo_X8_71 rfl rfl (show _ < _ ∧ _ from ⟨by omega, by decide +kernel⟩) dX8_init_167 (fun H locs hR => ?_)
  have hz1 := hz1.st (a := 206) (k := 14) (v := (-1)) (by omega)
  exact x_vret C hR hr hlk dX8_init_170
