/-! ===== the words that fields, calls, constants take (printed by wip/whole/gen/facts.py) ===== -/
set_option maxRecDepth 100000 in
theorem in_LetterTray : Cond.initialized "LetterTray" ∈ tblG := tg1 (List.mem_of_getElem? (i := 1) (by decide +kernel)) rfl
set_option maxRecDepth 100000 in
theorem in_LetterTray_Desk : Cond.initialized "LetterTray$Desk" ∈ tblG := tg1 (List.mem_of_getElem? (i := 3) (by decide +kernel)) rfl
set_option maxRecDepth 100000 in
theorem in_LetterTray_History : Cond.initialized "LetterTray$History" ∈ tblG := tg1 (List.mem_of_getElem? (i := 4) (by decide +kernel)) rfl
set_option maxRecDepth 100000 in
theorem in_LetterTray_Image : Cond.initialized "LetterTray$Image" ∈ tblG := tg1 (List.mem_of_getElem? (i := 5) (by decide +kernel)) rfl
set_option maxRecDepth 100000 in
theorem in_LetterTray_Reader : Cond.initialized "LetterTray$Reader" ∈ tblG := tg1 (List.mem_of_getElem? (i := 2) (by decide +kernel)) rfl
set_option maxRecDepth 100000 in
theorem in_LetterTray_Rows : Cond.initialized "LetterTray$Rows" ∈ tblG := tg1 (List.mem_of_getElem? (i := 8) (by decide +kernel)) rfl
set_option maxRecDepth 100000 in
theorem in_LetterTray_Talk : Cond.initialized "LetterTray$Talk" ∈ tblG := tg1 (List.mem_of_getElem? (i := 6) (by decide +kernel)) rfl
set_option maxRecDepth 100000 in
theorem in_LetterTray_Words : Cond.initialized "LetterTray$Words" ∈ tblG := tg1 (List.mem_of_getElem? (i := 7) (by decide +kernel)) rfl
set_option maxRecDepth 100000 in
theorem in_LetterTrayModel : Cond.initialized "LetterTrayModel" ∈ tblG := tg1 (List.mem_of_getElem? (i := 9) (by decide +kernel)) rfl
set_option maxRecDepth 100000 in
theorem in_java_lang_Integer : Cond.initialized "java/lang/Integer" ∈ tblG := tg1 (List.mem_of_getElem? (i := 13) (by decide +kernel)) rfl
set_option maxRecDepth 100000 in
theorem in_java_lang_Math : Cond.initialized "java/lang/Math" ∈ tblG := tg1 (List.mem_of_getElem? (i := 11) (by decide +kernel)) rfl
set_option maxRecDepth 100000 in
theorem in_java_lang_System : Cond.initialized "java/lang/System" ∈ tblG := tg1 (List.mem_of_getElem? (i := 12) (by decide +kernel)) rfl
set_option maxRecDepth 100000 in
theorem in_java_util_Arrays : Cond.initialized "java/util/Arrays" ∈ tblG := tg1 (List.mem_of_getElem? (i := 10) (by decide +kernel)) rfl
set_option maxRecDepth 100000 in
theorem cd_X7_init : Cond.code yX7_init cX7_init 2 none ∈ tblG := tg1 (List.mem_of_getElem? (i := 18) (by decide +kernel)) rfl
set_option maxRecDepth 100000 in
theorem ds_X7_init : yX7_init.cls ≠ "java/lang/invoke/MethodHandle" ∧ yX7_init.cls ≠ "java/lang/invoke/VarHandle" ∧ (parseMethodDescriptor yX7_init.desc).map (fun d => d.parameters.length) = some 0 := by decide +kernel
set_option maxRecDepth 100000 in
theorem im_X7_init : Cond.instanceMethod yX7_init ∈ tblG := tg1 (List.mem_of_getElem? (i := 17) (by decide +kernel)) rfl
set_option maxRecDepth 100000 in
theorem cd_X7_ask : Cond.code yX7_ask cX7_ask 1 (some .int) ∈ tblG := tg1 (List.mem_of_getElem? (i := 777) (by decide +kernel)) rfl
set_option maxRecDepth 100000 in
theorem ds_X7_ask : yX7_ask.cls ≠ "java/lang/invoke/MethodHandle" ∧ yX7_ask.cls ≠ "java/lang/invoke/VarHandle" ∧ (parseMethodDescriptor yX7_ask.desc).map (fun d => d.parameters.length) = some 0 := by decide +kernel
set_option maxRecDepth 100000 in
theorem im_X7_ask : Cond.instanceMethod yX7_ask ∈ tblG := tg1 (List.mem_of_getElem? (i := 775) (by decide +kernel)) rfl
set_option maxRecDepth 100000 in
theorem se_X7_ask : Cond.selects yX7_ask.cls yX7_ask yX7_ask ∈ tblG := tg1 (List.mem_of_getElem? (i := 776) (by decide +kernel)) rfl
set_option maxRecDepth 100000 in
theorem cd_X7_begin : Cond.code yX7_begin cX7_begin 2 none ∈ tblG := tg1 (List.mem_of_getElem? (i := 417) (by decide +kernel)) rfl
set_option maxRecDepth 100000 in
theorem ds_X7_begin : yX7_begin.cls ≠ "java/lang/invoke/MethodHandle" ∧ yX7_begin.cls ≠ "java/lang/invoke/VarHandle" ∧ (parseMethodDescriptor yX7_begin.desc).map (fun d => d.parameters.length) = some 0 := by decide +kernel
set_option maxRecDepth 100000 in
theorem im_X7_begin : Cond.instanceMethod yX7_begin ∈ tblG := tg1 (List.mem_of_getElem? (i := 416) (by decide +kernel)) rfl
set_option maxRecDepth 100000 in
theorem se_X7_begin : Cond.selects yX7_begin.cls yX7_begin yX7_begin ∈ tblG := tg (List.mem_append_left _ (List.mem_of_getElem? (i := 30) (by decide +kernel))) rfl
set_option maxRecDepth 100000 in
theorem cd_X7_bestWord : Cond.code yX7_bestWord cX7_bestWord 4 (some .int) ∈ tblG := tg1 (List.mem_of_getElem? (i := 468) (by decide +kernel)) rfl
set_option maxRecDepth 100000 in
theorem ds_X7_bestWord : yX7_bestWord.cls ≠ "java/lang/invoke/MethodHandle" ∧ yX7_bestWord.cls ≠ "java/lang/invoke/VarHandle" ∧ (parseMethodDescriptor yX7_bestWord.desc).map (fun d => d.parameters.length) = some 0 := by decide +kernel
set_option maxRecDepth 100000 in
theorem im_X7_bestWord : Cond.instanceMethod yX7_bestWord ∈ tblG := tg1 (List.mem_of_getElem? (i := 467) (by decide +kernel)) rfl
set_option maxRecDepth 100000 in
theorem se_X7_bestWord : Cond.selects yX7_bestWord.cls yX7_bestWord yX7_bestWord ∈ tblG := tg (List.mem_append_left _ (List.mem_of_getElem? (i := 38) (by decide +kernel))) rfl
set_option maxRecDepth 100000 in
theorem cd_X7_can : Cond.code yX7_can cX7_can 2 (some .boolean) ∈ tblG := tg1 (List.mem_of_getElem? (i := 456) (by decide +kernel)) rfl
set_option maxRecDepth 100000 in
theorem ds_X7_can : yX7_can.cls ≠ "java/lang/invoke/MethodHandle" ∧ yX7_can.cls ≠ "java/lang/invoke/VarHandle" ∧ (parseMethodDescriptor yX7_can.desc).map (fun d => d.parameters.length) = some 1 := by decide +kernel
set_option maxRecDepth 100000 in
theorem im_X7_can : Cond.instanceMethod yX7_can ∈ tblG := tg1 (List.mem_of_getElem? (i := 455) (by decide +kernel)) rfl
set_option maxRecDepth 100000 in
theorem se_X7_can : Cond.selects yX7_can.cls yX7_can yX7_can ∈ tblG := tg (List.mem_append_left _ (List.mem_of_getElem? (i := 36) (by decide +kernel))) rfl
set_option maxRecDepth 100000 in
theorem cd_X7_canSet : Cond.code yX7_canSet cX7_canSet 3 (some .int) ∈ tblG := tg1 (List.mem_of_getElem? (i := 452) (by decide +kernel)) rfl
set_option maxRecDepth 100000 in
theorem ds_X7_canSet : yX7_canSet.cls ≠ "java/lang/invoke/MethodHandle" ∧ yX7_canSet.cls ≠ "java/lang/invoke/VarHandle" ∧ (parseMethodDescriptor yX7_canSet.desc).map (fun d => d.parameters.length) = some 0 := by decide +kernel
set_option maxRecDepth 100000 in
theorem im_X7_canSet : Cond.instanceMethod yX7_canSet ∈ tblG := tg1 (List.mem_of_getElem? (i := 451) (by decide +kernel)) rfl
set_option maxRecDepth 100000 in
theorem se_X7_canSet : Cond.selects yX7_canSet.cls yX7_canSet yX7_canSet ∈ tblG := tg (List.mem_append_left _ (List.mem_of_getElem? (i := 35) (by decide +kernel))) rfl
set_option maxRecDepth 100000 in
theorem cd_X7_change : Cond.code yX7_change cX7_change 3 (some .int) ∈ tblG := tg1 (List.mem_of_getElem? (i := 632) (by decide +kernel)) rfl
set_option maxRecDepth 100000 in
theorem ds_X7_change : yX7_change.cls ≠ "java/lang/invoke/MethodHandle" ∧ yX7_change.cls ≠ "java/lang/invoke/VarHandle" ∧ (parseMethodDescriptor yX7_change.desc).map (fun d => d.parameters.length) = some 1 := by decide +kernel
set_option maxRecDepth 100000 in
theorem im_X7_change : Cond.instanceMethod yX7_change ∈ tblG := tg1 (List.mem_of_getElem? (i := 630) (by decide +kernel)) rfl
set_option maxRecDepth 100000 in
theorem se_X7_change : Cond.selects yX7_change.cls yX7_change yX7_change ∈ tblG := tg1 (List.mem_of_getElem? (i := 631) (by decide +kernel)) rfl
set_option maxRecDepth 100000 in
theorem cd_X7_couldBe : Cond.code yX7_couldBe cX7_couldBe 1 (some .int) ∈ tblG := tg1 (List.mem_of_getElem? (i := 763) (by decide +kernel)) rfl
set_option maxRecDepth 100000 in
theorem ds_X7_couldBe : yX7_couldBe.cls ≠ "java/lang/invoke/MethodHandle" ∧ yX7_couldBe.cls ≠ "java/lang/invoke/VarHandle" ∧ (parseMethodDescriptor yX7_couldBe.desc).map (fun d => d.parameters.length) = some 0 := by decide +kernel
set_option maxRecDepth 100000 in
theorem im_X7_couldBe : Cond.instanceMethod yX7_couldBe ∈ tblG := tg1 (List.mem_of_getElem? (i := 761) (by decide +kernel)) rfl
set_option maxRecDepth 100000 in
theorem se_X7_couldBe : Cond.selects yX7_couldBe.cls yX7_couldBe yX7_couldBe ∈ tblG := tg1 (List.mem_of_getElem? (i := 762) (by decide +kernel)) rfl
set_option maxRecDepth 100000 in
theorem cd_X7_draw : Cond.code yX7_draw cX7_draw 2 (some .int) ∈ tblG := tg1 (List.mem_of_getElem? (i := 578) (by decide +kernel)) rfl
set_option maxRecDepth 100000 in
theorem ds_X7_draw : yX7_draw.cls ≠ "java/lang/invoke/MethodHandle" ∧ yX7_draw.cls ≠ "java/lang/invoke/VarHandle" ∧ (parseMethodDescriptor yX7_draw.desc).map (fun d => d.parameters.length) = some 0 := by decide +kernel
set_option maxRecDepth 100000 in
theorem im_X7_draw : Cond.instanceMethod yX7_draw ∈ tblG := tg1 (List.mem_of_getElem? (i := 576) (by decide +kernel)) rfl
set_option maxRecDepth 100000 in
theorem se_X7_draw : Cond.selects yX7_draw.cls yX7_draw yX7_draw ∈ tblG := tg1 (List.mem_of_getElem? (i := 577) (by decide +kernel)) rfl
set_option maxRecDepth 100000 in
theorem cd_X7_drawOf : Cond.code yX7_drawOf cX7_drawOf 4 (some .int) ∈ tblG := tg1 (List.mem_of_getElem? (i := 601) (by decide +kernel)) rfl
set_option maxRecDepth 100000 in
theorem ds_X7_drawOf : yX7_drawOf.cls ≠ "java/lang/invoke/MethodHandle" ∧ yX7_drawOf.cls ≠ "java/lang/invoke/VarHandle" ∧ (parseMethodDescriptor yX7_drawOf.desc).map (fun d => d.parameters.length) = some 1 := by decide +kernel
set_option maxRecDepth 100000 in
theorem im_X7_drawOf : Cond.instanceMethod yX7_drawOf ∈ tblG := tg1 (List.mem_of_getElem? (i := 600) (by decide +kernel)) rfl
set_option maxRecDepth 100000 in
theorem se_X7_drawOf : Cond.selects yX7_drawOf.cls yX7_drawOf yX7_drawOf ∈ tblG := tg (List.mem_append_left _ (List.mem_of_getElem? (i := 63) (by decide +kernel))) rfl
set_option maxRecDepth 100000 in
theorem cd_X7_drawOne : Cond.code yX7_drawOne cX7_drawOne 2 (some .int) ∈ tblG := tg1 (List.mem_of_getElem? (i := 597) (by decide +kernel)) rfl
set_option maxRecDepth 100000 in
theorem ds_X7_drawOne : yX7_drawOne.cls ≠ "java/lang/invoke/MethodHandle" ∧ yX7_drawOne.cls ≠ "java/lang/invoke/VarHandle" ∧ (parseMethodDescriptor yX7_drawOne.desc).map (fun d => d.parameters.length) = some 0 := by decide +kernel
set_option maxRecDepth 100000 in
theorem im_X7_drawOne : Cond.instanceMethod yX7_drawOne ∈ tblG := tg1 (List.mem_of_getElem? (i := 596) (by decide +kernel)) rfl
set_option maxRecDepth 100000 in
theorem se_X7_drawOne : Cond.selects yX7_drawOne.cls yX7_drawOne yX7_drawOne ∈ tblG := tg (List.mem_append_left _ (List.mem_of_getElem? (i := 62) (by decide +kernel))) rfl
set_option maxRecDepth 100000 in
theorem cd_X7_drawRefusal : Cond.code yX7_drawRefusal cX7_drawRefusal 1 (some .int) ∈ tblG := tg1 (List.mem_of_getElem? (i := 582) (by decide +kernel)) rfl
set_option maxRecDepth 100000 in
theorem ds_X7_drawRefusal : yX7_drawRefusal.cls ≠ "java/lang/invoke/MethodHandle" ∧ yX7_drawRefusal.cls ≠ "java/lang/invoke/VarHandle" ∧ (parseMethodDescriptor yX7_drawRefusal.desc).map (fun d => d.parameters.length) = some 0 := by decide +kernel
set_option maxRecDepth 100000 in
theorem im_X7_drawRefusal : Cond.instanceMethod yX7_drawRefusal ∈ tblG := tg1 (List.mem_of_getElem? (i := 581) (by decide +kernel)) rfl
set_option maxRecDepth 100000 in
theorem se_X7_drawRefusal : Cond.selects yX7_drawRefusal.cls yX7_drawRefusal yX7_drawRefusal ∈ tblG := tg (List.mem_append_left _ (List.mem_of_getElem? (i := 59) (by decide +kernel))) rfl
set_option maxRecDepth 100000 in
theorem cd_X7_drift : Cond.code yX7_drift cX7_drift 3 (some .int) ∈ tblG := tg1 (List.mem_of_getElem? (i := 676) (by decide +kernel)) rfl
set_option maxRecDepth 100000 in
theorem ds_X7_drift : yX7_drift.cls ≠ "java/lang/invoke/MethodHandle" ∧ yX7_drift.cls ≠ "java/lang/invoke/VarHandle" ∧ (parseMethodDescriptor yX7_drift.desc).map (fun d => d.parameters.length) = some 1 := by decide +kernel
set_option maxRecDepth 100000 in
theorem im_X7_drift : Cond.instanceMethod yX7_drift ∈ tblG := tg1 (List.mem_of_getElem? (i := 674) (by decide +kernel)) rfl
set_option maxRecDepth 100000 in
theorem se_X7_drift : Cond.selects yX7_drift.cls yX7_drift yX7_drift ∈ tblG := tg1 (List.mem_of_getElem? (i := 675) (by decide +kernel)) rfl
set_option maxRecDepth 100000 in
theorem cd_X7_driftGive : Cond.code yX7_driftGive cX7_driftGive 3 none ∈ tblG := tg1 (List.mem_of_getElem? (i := 684) (by decide +kernel)) rfl
set_option maxRecDepth 100000 in
theorem ds_X7_driftGive : yX7_driftGive.cls ≠ "java/lang/invoke/MethodHandle" ∧ yX7_driftGive.cls ≠ "java/lang/invoke/VarHandle" ∧ (parseMethodDescriptor yX7_driftGive.desc).map (fun d => d.parameters.length) = some 0 := by decide +kernel
set_option maxRecDepth 100000 in
theorem im_X7_driftGive : Cond.instanceMethod yX7_driftGive ∈ tblG := tg1 (List.mem_of_getElem? (i := 683) (by decide +kernel)) rfl
set_option maxRecDepth 100000 in
theorem se_X7_driftGive : Cond.selects yX7_driftGive.cls yX7_driftGive yX7_driftGive ∈ tblG := tg (List.mem_append_left _ (List.mem_of_getElem? (i := 76) (by decide +kernel))) rfl
set_option maxRecDepth 100000 in
theorem cd_X7_driftLay : Cond.code yX7_driftLay cX7_driftLay 2 none ∈ tblG := tg1 (List.mem_of_getElem? (i := 688) (by decide +kernel)) rfl
set_option maxRecDepth 100000 in
theorem ds_X7_driftLay : yX7_driftLay.cls ≠ "java/lang/invoke/MethodHandle" ∧ yX7_driftLay.cls ≠ "java/lang/invoke/VarHandle" ∧ (parseMethodDescriptor yX7_driftLay.desc).map (fun d => d.parameters.length) = some 0 := by decide +kernel
set_option maxRecDepth 100000 in
theorem im_X7_driftLay : Cond.instanceMethod yX7_driftLay ∈ tblG := tg1 (List.mem_of_getElem? (i := 687) (by decide +kernel)) rfl
set_option maxRecDepth 100000 in
theorem se_X7_driftLay : Cond.selects yX7_driftLay.cls yX7_driftLay yX7_driftLay ∈ tblG := tg (List.mem_append_left _ (List.mem_of_getElem? (i := 77) (by decide +kernel))) rfl
set_option maxRecDepth 100000 in
theorem cd_X7_driftOnce : Cond.code yX7_driftOnce cX7_driftOnce 2 none ∈ tblG := tg1 (List.mem_of_getElem? (i := 680) (by decide +kernel)) rfl
set_option maxRecDepth 100000 in
theorem ds_X7_driftOnce : yX7_driftOnce.cls ≠ "java/lang/invoke/MethodHandle" ∧ yX7_driftOnce.cls ≠ "java/lang/invoke/VarHandle" ∧ (parseMethodDescriptor yX7_driftOnce.desc).map (fun d => d.parameters.length) = some 1 := by decide +kernel
set_option maxRecDepth 100000 in
theorem im_X7_driftOnce : Cond.instanceMethod yX7_driftOnce ∈ tblG := tg1 (List.mem_of_getElem? (i := 679) (by decide +kernel)) rfl
set_option maxRecDepth 100000 in
theorem se_X7_driftOnce : Cond.selects yX7_driftOnce.cls yX7_driftOnce yX7_driftOnce ∈ tblG := tg (List.mem_append_left _ (List.mem_of_getElem? (i := 75) (by decide +kernel))) rfl
set_option maxRecDepth 100000 in
theorem cd_X7_driftTake : Cond.code yX7_driftTake cX7_driftTake 2 none ∈ tblG := tg1 (List.mem_of_getElem? (i := 692) (by decide +kernel)) rfl
set_option maxRecDepth 100000 in
theorem ds_X7_driftTake : yX7_driftTake.cls ≠ "java/lang/invoke/MethodHandle" ∧ yX7_driftTake.cls ≠ "java/lang/invoke/VarHandle" ∧ (parseMethodDescriptor yX7_driftTake.desc).map (fun d => d.parameters.length) = some 0 := by decide +kernel
set_option maxRecDepth 100000 in
theorem im_X7_driftTake : Cond.instanceMethod yX7_driftTake ∈ tblG := tg1 (List.mem_of_getElem? (i := 691) (by decide +kernel)) rfl
set_option maxRecDepth 100000 in
theorem se_X7_driftTake : Cond.selects yX7_driftTake.cls yX7_driftTake yX7_driftTake ∈ tblG := tg (List.mem_append_left _ (List.mem_of_getElem? (i := 78) (by decide +kernel))) rfl
set_option maxRecDepth 100000 in
theorem cd_X7_far : Cond.code yX7_far cX7_far 3 (some .int) ∈ tblG := tg1 (List.mem_of_getElem? (i := 729) (by decide +kernel)) rfl
set_option maxRecDepth 100000 in
theorem ds_X7_far : yX7_far.cls ≠ "java/lang/invoke/MethodHandle" ∧ yX7_far.cls ≠ "java/lang/invoke/VarHandle" ∧ (parseMethodDescriptor yX7_far.desc).map (fun d => d.parameters.length) = some 2 := by decide +kernel
set_option maxRecDepth 100000 in
theorem im_X7_far : Cond.instanceMethod yX7_far ∈ tblG := tg1 (List.mem_of_getElem? (i := 727) (by decide +kernel)) rfl
set_option maxRecDepth 100000 in
theorem se_X7_far : Cond.selects yX7_far.cls yX7_far yX7_far ∈ tblG := tg1 (List.mem_of_getElem? (i := 728) (by decide +kernel)) rfl
set_option maxRecDepth 100000 in
theorem cd_X7_fault : Cond.code yX7_fault cX7_fault 1 (some .int) ∈ tblG := tg1 (List.mem_of_getElem? (i := 441) (by decide +kernel)) rfl
set_option maxRecDepth 100000 in
theorem ds_X7_fault : yX7_fault.cls ≠ "java/lang/invoke/MethodHandle" ∧ yX7_fault.cls ≠ "java/lang/invoke/VarHandle" ∧ (parseMethodDescriptor yX7_fault.desc).map (fun d => d.parameters.length) = some 0 := by decide +kernel
set_option maxRecDepth 100000 in
theorem im_X7_fault : Cond.instanceMethod yX7_fault ∈ tblG := tg1 (List.mem_of_getElem? (i := 439) (by decide +kernel)) rfl
set_option maxRecDepth 100000 in
theorem se_X7_fault : Cond.selects yX7_fault.cls yX7_fault yX7_fault ∈ tblG := tg1 (List.mem_of_getElem? (i := 440) (by decide +kernel)) rfl
set_option maxRecDepth 100000 in
theorem cd_X7_feed : Cond.code yX7_feed cX7_feed 2 (some .int) ∈ tblG := tg1 (List.mem_of_getElem? (i := 280) (by decide +kernel)) rfl
set_option maxRecDepth 100000 in
theorem ds_X7_feed : yX7_feed.cls ≠ "java/lang/invoke/MethodHandle" ∧ yX7_feed.cls ≠ "java/lang/invoke/VarHandle" ∧ (parseMethodDescriptor yX7_feed.desc).map (fun d => d.parameters.length) = some 1 := by decide +kernel
set_option maxRecDepth 100000 in
theorem im_X7_feed : Cond.instanceMethod yX7_feed ∈ tblG := tg1 (List.mem_of_getElem? (i := 278) (by decide +kernel)) rfl
set_option maxRecDepth 100000 in
theorem se_X7_feed : Cond.selects yX7_feed.cls yX7_feed yX7_feed ∈ tblG := tg1 (List.mem_of_getElem? (i := 279) (by decide +kernel)) rfl
set_option maxRecDepth 100000 in
theorem cd_X7_first : Cond.code yX7_first cX7_first 2 (some .int) ∈ tblG := tg1 (List.mem_of_getElem? (i := 708) (by decide +kernel)) rfl
set_option maxRecDepth 100000 in
theorem ds_X7_first : yX7_first.cls ≠ "java/lang/invoke/MethodHandle" ∧ yX7_first.cls ≠ "java/lang/invoke/VarHandle" ∧ (parseMethodDescriptor yX7_first.desc).map (fun d => d.parameters.length) = some 1 := by decide +kernel
set_option maxRecDepth 100000 in
theorem im_X7_first : Cond.instanceMethod yX7_first ∈ tblG := tg1 (List.mem_of_getElem? (i := 706) (by decide +kernel)) rfl
set_option maxRecDepth 100000 in
theorem se_X7_first : Cond.selects yX7_first.cls yX7_first yX7_first ∈ tblG := tg1 (List.mem_of_getElem? (i := 707) (by decide +kernel)) rfl
set_option maxRecDepth 100000 in
theorem cd_X7_game : Cond.code yX7_game cX7_game 3 (some .int) ∈ tblG := tg1 (List.mem_of_getElem? (i := 290) (by decide +kernel)) rfl
set_option maxRecDepth 100000 in
theorem ds_X7_game : yX7_game.cls ≠ "java/lang/invoke/MethodHandle" ∧ yX7_game.cls ≠ "java/lang/invoke/VarHandle" ∧ (parseMethodDescriptor yX7_game.desc).map (fun d => d.parameters.length) = some 0 := by decide +kernel
set_option maxRecDepth 100000 in
theorem im_X7_game : Cond.instanceMethod yX7_game ∈ tblG := tg1 (List.mem_of_getElem? (i := 288) (by decide +kernel)) rfl
set_option maxRecDepth 100000 in
theorem se_X7_game : Cond.selects yX7_game.cls yX7_game yX7_game ∈ tblG := tg1 (List.mem_of_getElem? (i := 289) (by decide +kernel)) rfl
set_option maxRecDepth 100000 in
theorem cd_X7_give : Cond.code yX7_give cX7_give 3 (some .int) ∈ tblG := tg1 (List.mem_of_getElem? (i := 616) (by decide +kernel)) rfl
set_option maxRecDepth 100000 in
theorem ds_X7_give : yX7_give.cls ≠ "java/lang/invoke/MethodHandle" ∧ yX7_give.cls ≠ "java/lang/invoke/VarHandle" ∧ (parseMethodDescriptor yX7_give.desc).map (fun d => d.parameters.length) = some 1 := by decide +kernel
set_option maxRecDepth 100000 in
theorem im_X7_give : Cond.instanceMethod yX7_give ∈ tblG := tg1 (List.mem_of_getElem? (i := 614) (by decide +kernel)) rfl
set_option maxRecDepth 100000 in
theorem se_X7_give : Cond.selects yX7_give.cls yX7_give yX7_give ∈ tblG := tg1 (List.mem_of_getElem? (i := 615) (by decide +kernel)) rfl
set_option maxRecDepth 100000 in
theorem cd_X7_giveOne : Cond.code yX7_giveOne cX7_giveOne 2 none ∈ tblG := tg1 (List.mem_of_getElem? (i := 624) (by decide +kernel)) rfl
set_option maxRecDepth 100000 in
theorem ds_X7_giveOne : yX7_giveOne.cls ≠ "java/lang/invoke/MethodHandle" ∧ yX7_giveOne.cls ≠ "java/lang/invoke/VarHandle" ∧ (parseMethodDescriptor yX7_giveOne.desc).map (fun d => d.parameters.length) = some 1 := by decide +kernel
set_option maxRecDepth 100000 in
theorem im_X7_giveOne : Cond.instanceMethod yX7_giveOne ∈ tblG := tg1 (List.mem_of_getElem? (i := 623) (by decide +kernel)) rfl
set_option maxRecDepth 100000 in
theorem se_X7_giveOne : Cond.selects yX7_giveOne.cls yX7_giveOne yX7_giveOne ∈ tblG := tg (List.mem_append_left _ (List.mem_of_getElem? (i := 66) (by decide +kernel))) rfl
set_option maxRecDepth 100000 in
theorem cd_X7_giveRefusal : Cond.code yX7_giveRefusal cX7_giveRefusal 2 (some .int) ∈ tblG := tg1 (List.mem_of_getElem? (i := 620) (by decide +kernel)) rfl
set_option maxRecDepth 100000 in
theorem ds_X7_giveRefusal : yX7_giveRefusal.cls ≠ "java/lang/invoke/MethodHandle" ∧ yX7_giveRefusal.cls ≠ "java/lang/invoke/VarHandle" ∧ (parseMethodDescriptor yX7_giveRefusal.desc).map (fun d => d.parameters.length) = some 1 := by decide +kernel
set_option maxRecDepth 100000 in
theorem im_X7_giveRefusal : Cond.instanceMethod yX7_giveRefusal ∈ tblG := tg1 (List.mem_of_getElem? (i := 619) (by decide +kernel)) rfl
set_option maxRecDepth 100000 in
theorem se_X7_giveRefusal : Cond.selects yX7_giveRefusal.cls yX7_giveRefusal yX7_giveRefusal ∈ tblG := tg (List.mem_append_left _ (List.mem_of_getElem? (i := 65) (by decide +kernel))) rfl
set_option maxRecDepth 100000 in
theorem cd_X7_goBack : Cond.code yX7_goBack cX7_goBack 3 (some .int) ∈ tblG := tg1 (List.mem_of_getElem? (i := 831) (by decide +kernel)) rfl
set_option maxRecDepth 100000 in
theorem ds_X7_goBack : yX7_goBack.cls ≠ "java/lang/invoke/MethodHandle" ∧ yX7_goBack.cls ≠ "java/lang/invoke/VarHandle" ∧ (parseMethodDescriptor yX7_goBack.desc).map (fun d => d.parameters.length) = some 1 := by decide +kernel
set_option maxRecDepth 100000 in
theorem im_X7_goBack : Cond.instanceMethod yX7_goBack ∈ tblG := tg1 (List.mem_of_getElem? (i := 829) (by decide +kernel)) rfl
set_option maxRecDepth 100000 in
theorem se_X7_goBack : Cond.selects yX7_goBack.cls yX7_goBack yX7_goBack ∈ tblG := tg1 (List.mem_of_getElem? (i := 830) (by decide +kernel)) rfl
set_option maxRecDepth 100000 in
theorem cd_X7_judge : Cond.code yX7_judge cX7_judge 1 (some .int) ∈ tblG := tg1 (List.mem_of_getElem? (i := 809) (by decide +kernel)) rfl
set_option maxRecDepth 100000 in
theorem ds_X7_judge : yX7_judge.cls ≠ "java/lang/invoke/MethodHandle" ∧ yX7_judge.cls ≠ "java/lang/invoke/VarHandle" ∧ (parseMethodDescriptor yX7_judge.desc).map (fun d => d.parameters.length) = some 0 := by decide +kernel
set_option maxRecDepth 100000 in
theorem im_X7_judge : Cond.instanceMethod yX7_judge ∈ tblG := tg1 (List.mem_of_getElem? (i := 807) (by decide +kernel)) rfl
set_option maxRecDepth 100000 in
theorem se_X7_judge : Cond.selects yX7_judge.cls yX7_judge yX7_judge ∈ tblG := tg1 (List.mem_of_getElem? (i := 808) (by decide +kernel)) rfl
set_option maxRecDepth 100000 in
theorem cd_X7_keep : Cond.code yX7_keep cX7_keep 3 (some .int) ∈ tblG := tg1 (List.mem_of_getElem? (i := 826) (by decide +kernel)) rfl
set_option maxRecDepth 100000 in
theorem ds_X7_keep : yX7_keep.cls ≠ "java/lang/invoke/MethodHandle" ∧ yX7_keep.cls ≠ "java/lang/invoke/VarHandle" ∧ (parseMethodDescriptor yX7_keep.desc).map (fun d => d.parameters.length) = some 1 := by decide +kernel
set_option maxRecDepth 100000 in
theorem im_X7_keep : Cond.instanceMethod yX7_keep ∈ tblG := tg1 (List.mem_of_getElem? (i := 824) (by decide +kernel)) rfl
set_option maxRecDepth 100000 in
theorem se_X7_keep : Cond.selects yX7_keep.cls yX7_keep yX7_keep ∈ tblG := tg1 (List.mem_of_getElem? (i := 825) (by decide +kernel)) rfl
set_option maxRecDepth 100000 in
theorem cd_X7_ladder : Cond.code yX7_ladder cX7_ladder 4 (some .int) ∈ tblG := tg1 (List.mem_of_getElem? (i := 720) (by decide +kernel)) rfl
set_option maxRecDepth 100000 in
theorem ds_X7_ladder : yX7_ladder.cls ≠ "java/lang/invoke/MethodHandle" ∧ yX7_ladder.cls ≠ "java/lang/invoke/VarHandle" ∧ (parseMethodDescriptor yX7_ladder.desc).map (fun d => d.parameters.length) = some 3 := by decide +kernel
set_option maxRecDepth 100000 in
theorem im_X7_ladder : Cond.instanceMethod yX7_ladder ∈ tblG := tg1 (List.mem_of_getElem? (i := 718) (by decide +kernel)) rfl
set_option maxRecDepth 100000 in
theorem se_X7_ladder : Cond.selects yX7_ladder.cls yX7_ladder yX7_ladder ∈ tblG := tg1 (List.mem_of_getElem? (i := 719) (by decide +kernel)) rfl
set_option maxRecDepth 100000 in
theorem cd_X7_laid : Cond.code yX7_laid cX7_laid 3 (some .int) ∈ tblG := tg1 (List.mem_of_getElem? (i := 570) (by decide +kernel)) rfl
set_option maxRecDepth 100000 in
theorem ds_X7_laid : yX7_laid.cls ≠ "java/lang/invoke/MethodHandle" ∧ yX7_laid.cls ≠ "java/lang/invoke/VarHandle" ∧ (parseMethodDescriptor yX7_laid.desc).map (fun d => d.parameters.length) = some 2 := by decide +kernel
set_option maxRecDepth 100000 in
theorem im_X7_laid : Cond.instanceMethod yX7_laid ∈ tblG := tg1 (List.mem_of_getElem? (i := 568) (by decide +kernel)) rfl
set_option maxRecDepth 100000 in
theorem se_X7_laid : Cond.selects yX7_laid.cls yX7_laid yX7_laid ∈ tblG := tg1 (List.mem_of_getElem? (i := 569) (by decide +kernel)) rfl
set_option maxRecDepth 100000 in
theorem cd_X7_lay : Cond.code yX7_lay cX7_lay 3 (some .int) ∈ tblG := tg1 (List.mem_of_getElem? (i := 636) (by decide +kernel)) rfl
set_option maxRecDepth 100000 in
theorem ds_X7_lay : yX7_lay.cls ≠ "java/lang/invoke/MethodHandle" ∧ yX7_lay.cls ≠ "java/lang/invoke/VarHandle" ∧ (parseMethodDescriptor yX7_lay.desc).map (fun d => d.parameters.length) = some 1 := by decide +kernel
set_option maxRecDepth 100000 in
theorem im_X7_lay : Cond.instanceMethod yX7_lay ∈ tblG := tg1 (List.mem_of_getElem? (i := 634) (by decide +kernel)) rfl
set_option maxRecDepth 100000 in
theorem se_X7_lay : Cond.selects yX7_lay.cls yX7_lay yX7_lay ∈ tblG := tg1 (List.mem_of_getElem? (i := 635) (by decide +kernel)) rfl
set_option maxRecDepth 100000 in
theorem cd_X7_layOne : Cond.code yX7_layOne cX7_layOne 2 none ∈ tblG := tg1 (List.mem_of_getElem? (i := 644) (by decide +kernel)) rfl
set_option maxRecDepth 100000 in
theorem ds_X7_layOne : yX7_layOne.cls ≠ "java/lang/invoke/MethodHandle" ∧ yX7_layOne.cls ≠ "java/lang/invoke/VarHandle" ∧ (parseMethodDescriptor yX7_layOne.desc).map (fun d => d.parameters.length) = some 1 := by decide +kernel
set_option maxRecDepth 100000 in
theorem im_X7_layOne : Cond.instanceMethod yX7_layOne ∈ tblG := tg1 (List.mem_of_getElem? (i := 643) (by decide +kernel)) rfl
set_option maxRecDepth 100000 in
theorem se_X7_layOne : Cond.selects yX7_layOne.cls yX7_layOne yX7_layOne ∈ tblG := tg (List.mem_append_left _ (List.mem_of_getElem? (i := 69) (by decide +kernel))) rfl
set_option maxRecDepth 100000 in
theorem cd_X7_layRefusal : Cond.code yX7_layRefusal cX7_layRefusal 2 (some .int) ∈ tblG := tg1 (List.mem_of_getElem? (i := 640) (by decide +kernel)) rfl
set_option maxRecDepth 100000 in
theorem ds_X7_layRefusal : yX7_layRefusal.cls ≠ "java/lang/invoke/MethodHandle" ∧ yX7_layRefusal.cls ≠ "java/lang/invoke/VarHandle" ∧ (parseMethodDescriptor yX7_layRefusal.desc).map (fun d => d.parameters.length) = some 1 := by decide +kernel
set_option maxRecDepth 100000 in
theorem im_X7_layRefusal : Cond.instanceMethod yX7_layRefusal ∈ tblG := tg1 (List.mem_of_getElem? (i := 639) (by decide +kernel)) rfl
set_option maxRecDepth 100000 in
theorem se_X7_layRefusal : Cond.selects yX7_layRefusal.cls yX7_layRefusal yX7_layRefusal ∈ tblG := tg (List.mem_append_left _ (List.mem_of_getElem? (i := 68) (by decide +kernel))) rfl
set_option maxRecDepth 100000 in
theorem cd_X7_letters : Cond.code yX7_letters cX7_letters 3 (some .int) ∈ tblG := tg1 (List.mem_of_getElem? (i := 543) (by decide +kernel)) rfl
set_option maxRecDepth 100000 in
theorem ds_X7_letters : yX7_letters.cls ≠ "java/lang/invoke/MethodHandle" ∧ yX7_letters.cls ≠ "java/lang/invoke/VarHandle" ∧ (parseMethodDescriptor yX7_letters.desc).map (fun d => d.parameters.length) = some 2 := by decide +kernel
set_option maxRecDepth 100000 in
theorem im_X7_letters : Cond.instanceMethod yX7_letters ∈ tblG := tg1 (List.mem_of_getElem? (i := 541) (by decide +kernel)) rfl
set_option maxRecDepth 100000 in
theorem se_X7_letters : Cond.selects yX7_letters.cls yX7_letters yX7_letters ∈ tblG := tg1 (List.mem_of_getElem? (i := 542) (by decide +kernel)) rfl
set_option maxRecDepth 100000 in
theorem cd_X7_luck : Cond.code yX7_luck cX7_luck 6 (some .int) ∈ tblG := tg1 (List.mem_of_getElem? (i := 749) (by decide +kernel)) rfl
set_option maxRecDepth 100000 in
theorem ds_X7_luck : yX7_luck.cls ≠ "java/lang/invoke/MethodHandle" ∧ yX7_luck.cls ≠ "java/lang/invoke/VarHandle" ∧ (parseMethodDescriptor yX7_luck.desc).map (fun d => d.parameters.length) = some 2 := by decide +kernel
set_option maxRecDepth 100000 in
theorem im_X7_luck : Cond.instanceMethod yX7_luck ∈ tblG := tg1 (List.mem_of_getElem? (i := 747) (by decide +kernel)) rfl
set_option maxRecDepth 100000 in
theorem se_X7_luck : Cond.selects yX7_luck.cls yX7_luck yX7_luck ∈ tblG := tg1 (List.mem_of_getElem? (i := 748) (by decide +kernel)) rfl
set_option maxRecDepth 100000 in
theorem cd_X7_missing : Cond.code yX7_missing cX7_missing 4 (some .int) ∈ tblG := tg1 (List.mem_of_getElem? (i := 460) (by decide +kernel)) rfl
set_option maxRecDepth 100000 in
theorem ds_X7_missing : yX7_missing.cls ≠ "java/lang/invoke/MethodHandle" ∧ yX7_missing.cls ≠ "java/lang/invoke/VarHandle" ∧ (parseMethodDescriptor yX7_missing.desc).map (fun d => d.parameters.length) = some 1 := by decide +kernel
set_option maxRecDepth 100000 in
theorem im_X7_missing : Cond.instanceMethod yX7_missing ∈ tblG := tg1 (List.mem_of_getElem? (i := 459) (by decide +kernel)) rfl
set_option maxRecDepth 100000 in
theorem se_X7_missing : Cond.selects yX7_missing.cls yX7_missing yX7_missing ∈ tblG := tg (List.mem_append_left _ (List.mem_of_getElem? (i := 37) (by decide +kernel))) rfl
set_option maxRecDepth 100000 in
theorem cd_X7_needs : Cond.code yX7_needs cX7_needs 3 (some .int) ∈ tblG := tg1 (List.mem_of_getElem? (i := 704) (by decide +kernel)) rfl
set_option maxRecDepth 100000 in
theorem ds_X7_needs : yX7_needs.cls ≠ "java/lang/invoke/MethodHandle" ∧ yX7_needs.cls ≠ "java/lang/invoke/VarHandle" ∧ (parseMethodDescriptor yX7_needs.desc).map (fun d => d.parameters.length) = some 2 := by decide +kernel
set_option maxRecDepth 100000 in
theorem im_X7_needs : Cond.instanceMethod yX7_needs ∈ tblG := tg1 (List.mem_of_getElem? (i := 702) (by decide +kernel)) rfl
set_option maxRecDepth 100000 in
theorem se_X7_needs : Cond.selects yX7_needs.cls yX7_needs yX7_needs ∈ tblG := tg1 (List.mem_of_getElem? (i := 703) (by decide +kernel)) rfl
set_option maxRecDepth 100000 in
theorem cd_X7_nthSort : Cond.code yX7_nthSort cX7_nthSort 4 (some .int) ∈ tblG := tg1 (List.mem_of_getElem? (i := 608) (by decide +kernel)) rfl
set_option maxRecDepth 100000 in
theorem ds_X7_nthSort : yX7_nthSort.cls ≠ "java/lang/invoke/MethodHandle" ∧ yX7_nthSort.cls ≠ "java/lang/invoke/VarHandle" ∧ (parseMethodDescriptor yX7_nthSort.desc).map (fun d => d.parameters.length) = some 2 := by decide +kernel
set_option maxRecDepth 100000 in
theorem st_X7_nthSort : Cond.static yX7_nthSort ∈ tblG := tg1 (List.mem_of_getElem? (i := 607) (by decide +kernel)) rfl
set_option maxRecDepth 100000 in
theorem cd_X7_odds : Cond.code yX7_odds cX7_odds 5 (some .int) ∈ tblG := tg1 (List.mem_of_getElem? (i := 561) (by decide +kernel)) rfl
set_option maxRecDepth 100000 in
theorem ds_X7_odds : yX7_odds.cls ≠ "java/lang/invoke/MethodHandle" ∧ yX7_odds.cls ≠ "java/lang/invoke/VarHandle" ∧ (parseMethodDescriptor yX7_odds.desc).map (fun d => d.parameters.length) = some 1 := by decide +kernel
set_option maxRecDepth 100000 in
theorem im_X7_odds : Cond.instanceMethod yX7_odds ∈ tblG := tg1 (List.mem_of_getElem? (i := 560) (by decide +kernel)) rfl
set_option maxRecDepth 100000 in
theorem se_X7_odds : Cond.selects yX7_odds.cls yX7_odds yX7_odds ∈ tblG := tg (List.mem_append_left _ (List.mem_of_getElem? (i := 57) (by decide +kernel))) rfl
set_option maxRecDepth 100000 in
theorem cd_X7_right : Cond.code yX7_right cX7_right 4 (some .int) ∈ tblG := tg1 (List.mem_of_getElem? (i := 737) (by decide +kernel)) rfl
set_option maxRecDepth 100000 in
theorem ds_X7_right : yX7_right.cls ≠ "java/lang/invoke/MethodHandle" ∧ yX7_right.cls ≠ "java/lang/invoke/VarHandle" ∧ (parseMethodDescriptor yX7_right.desc).map (fun d => d.parameters.length) = some 3 := by decide +kernel
set_option maxRecDepth 100000 in
theorem im_X7_right : Cond.instanceMethod yX7_right ∈ tblG := tg1 (List.mem_of_getElem? (i := 735) (by decide +kernel)) rfl
set_option maxRecDepth 100000 in
theorem se_X7_right : Cond.selects yX7_right.cls yX7_right yX7_right ∈ tblG := tg1 (List.mem_of_getElem? (i := 736) (by decide +kernel)) rfl
set_option maxRecDepth 100000 in
theorem cd_X7_say : Cond.code yX7_say cX7_say 4 (some .int) ∈ tblG := tg1 (List.mem_of_getElem? (i := 755) (by decide +kernel)) rfl
set_option maxRecDepth 100000 in
theorem ds_X7_say : yX7_say.cls ≠ "java/lang/invoke/MethodHandle" ∧ yX7_say.cls ≠ "java/lang/invoke/VarHandle" ∧ (parseMethodDescriptor yX7_say.desc).map (fun d => d.parameters.length) = some 3 := by decide +kernel
set_option maxRecDepth 100000 in
theorem im_X7_say : Cond.instanceMethod yX7_say ∈ tblG := tg1 (List.mem_of_getElem? (i := 753) (by decide +kernel)) rfl
set_option maxRecDepth 100000 in
theorem se_X7_say : Cond.selects yX7_say.cls yX7_say yX7_say ∈ tblG := tg1 (List.mem_of_getElem? (i := 754) (by decide +kernel)) rfl
set_option maxRecDepth 100000 in
theorem cd_X7_seed : Cond.code yX7_seed cX7_seed 3 (some .int) ∈ tblG := tg1 (List.mem_of_getElem? (i := 822) (by decide +kernel)) rfl
set_option maxRecDepth 100000 in
theorem ds_X7_seed : yX7_seed.cls ≠ "java/lang/invoke/MethodHandle" ∧ yX7_seed.cls ≠ "java/lang/invoke/VarHandle" ∧ (parseMethodDescriptor yX7_seed.desc).map (fun d => d.parameters.length) = some 1 := by decide +kernel
set_option maxRecDepth 100000 in
theorem im_X7_seed : Cond.instanceMethod yX7_seed ∈ tblG := tg1 (List.mem_of_getElem? (i := 820) (by decide +kernel)) rfl
set_option maxRecDepth 100000 in
theorem se_X7_seed : Cond.selects yX7_seed.cls yX7_seed yX7_seed ∈ tblG := tg1 (List.mem_of_getElem? (i := 821) (by decide +kernel)) rfl
set_option maxRecDepth 100000 in
theorem cd_X7_spelt : Cond.code yX7_spelt cX7_spelt 3 (some .int) ∈ tblG := tg1 (List.mem_of_getElem? (i := 565) (by decide +kernel)) rfl
set_option maxRecDepth 100000 in
theorem ds_X7_spelt : yX7_spelt.cls ≠ "java/lang/invoke/MethodHandle" ∧ yX7_spelt.cls ≠ "java/lang/invoke/VarHandle" ∧ (parseMethodDescriptor yX7_spelt.desc).map (fun d => d.parameters.length) = some 2 := by decide +kernel
set_option maxRecDepth 100000 in
theorem im_X7_spelt : Cond.instanceMethod yX7_spelt ∈ tblG := tg1 (List.mem_of_getElem? (i := 563) (by decide +kernel)) rfl
set_option maxRecDepth 100000 in
theorem se_X7_spelt : Cond.selects yX7_spelt.cls yX7_spelt yX7_spelt ∈ tblG := tg1 (List.mem_of_getElem? (i := 564) (by decide +kernel)) rfl
set_option maxRecDepth 100000 in
theorem cd_X7_sum : Cond.code yX7_sum cX7_sum 6 (some .int) ∈ tblG := tg1 (List.mem_of_getElem? (i := 448) (by decide +kernel)) rfl
set_option maxRecDepth 100000 in
theorem ds_X7_sum : yX7_sum.cls ≠ "java/lang/invoke/MethodHandle" ∧ yX7_sum.cls ≠ "java/lang/invoke/VarHandle" ∧ (parseMethodDescriptor yX7_sum.desc).map (fun d => d.parameters.length) = some 1 := by decide +kernel
set_option maxRecDepth 100000 in
theorem st_X7_sum : Cond.static yX7_sum ∈ tblG := tg1 (List.mem_of_getElem? (i := 447) (by decide +kernel)) rfl
set_option maxRecDepth 100000 in
theorem cd_X7_take : Cond.code yX7_take cX7_take 3 (some .int) ∈ tblG := tg1 (List.mem_of_getElem? (i := 658) (by decide +kernel)) rfl
set_option maxRecDepth 100000 in
theorem ds_X7_take : yX7_take.cls ≠ "java/lang/invoke/MethodHandle" ∧ yX7_take.cls ≠ "java/lang/invoke/VarHandle" ∧ (parseMethodDescriptor yX7_take.desc).map (fun d => d.parameters.length) = some 1 := by decide +kernel
set_option maxRecDepth 100000 in
theorem im_X7_take : Cond.instanceMethod yX7_take ∈ tblG := tg1 (List.mem_of_getElem? (i := 656) (by decide +kernel)) rfl
set_option maxRecDepth 100000 in
theorem se_X7_take : Cond.selects yX7_take.cls yX7_take yX7_take ∈ tblG := tg1 (List.mem_of_getElem? (i := 657) (by decide +kernel)) rfl
set_option maxRecDepth 100000 in
theorem cd_X7_takeOne : Cond.code yX7_takeOne cX7_takeOne 2 none ∈ tblG := tg1 (List.mem_of_getElem? (i := 667) (by decide +kernel)) rfl
set_option maxRecDepth 100000 in
theorem ds_X7_takeOne : yX7_takeOne.cls ≠ "java/lang/invoke/MethodHandle" ∧ yX7_takeOne.cls ≠ "java/lang/invoke/VarHandle" ∧ (parseMethodDescriptor yX7_takeOne.desc).map (fun d => d.parameters.length) = some 1 := by decide +kernel
set_option maxRecDepth 100000 in
theorem im_X7_takeOne : Cond.instanceMethod yX7_takeOne ∈ tblG := tg1 (List.mem_of_getElem? (i := 666) (by decide +kernel)) rfl
set_option maxRecDepth 100000 in
theorem se_X7_takeOne : Cond.selects yX7_takeOne.cls yX7_takeOne yX7_takeOne ∈ tblG := tg (List.mem_append_left _ (List.mem_of_getElem? (i := 73) (by decide +kernel))) rfl
set_option maxRecDepth 100000 in
theorem cd_X7_takeRefusal : Cond.code yX7_takeRefusal cX7_takeRefusal 3 (some .int) ∈ tblG := tg1 (List.mem_of_getElem? (i := 662) (by decide +kernel)) rfl
set_option maxRecDepth 100000 in
theorem ds_X7_takeRefusal : yX7_takeRefusal.cls ≠ "java/lang/invoke/MethodHandle" ∧ yX7_takeRefusal.cls ≠ "java/lang/invoke/VarHandle" ∧ (parseMethodDescriptor yX7_takeRefusal.desc).map (fun d => d.parameters.length) = some 1 := by decide +kernel
set_option maxRecDepth 100000 in
theorem im_X7_takeRefusal : Cond.instanceMethod yX7_takeRefusal ∈ tblG := tg1 (List.mem_of_getElem? (i := 661) (by decide +kernel)) rfl
set_option maxRecDepth 100000 in
theorem se_X7_takeRefusal : Cond.selects yX7_takeRefusal.cls yX7_takeRefusal yX7_takeRefusal ∈ tblG := tg (List.mem_append_left _ (List.mem_of_getElem? (i := 72) (by decide +kernel))) rfl
set_option maxRecDepth 100000 in
theorem cd_X7_tear : Cond.code yX7_tear cX7_tear 2 (some .int) ∈ tblG := tg1 (List.mem_of_getElem? (i := 818) (by decide +kernel)) rfl
set_option maxRecDepth 100000 in
theorem ds_X7_tear : yX7_tear.cls ≠ "java/lang/invoke/MethodHandle" ∧ yX7_tear.cls ≠ "java/lang/invoke/VarHandle" ∧ (parseMethodDescriptor yX7_tear.desc).map (fun d => d.parameters.length) = some 0 := by decide +kernel
set_option maxRecDepth 100000 in
theorem im_X7_tear : Cond.instanceMethod yX7_tear ∈ tblG := tg1 (List.mem_of_getElem? (i := 816) (by decide +kernel)) rfl
set_option maxRecDepth 100000 in
theorem se_X7_tear : Cond.selects yX7_tear.cls yX7_tear yX7_tear ∈ tblG := tg1 (List.mem_of_getElem? (i := 817) (by decide +kernel)) rfl
set_option maxRecDepth 100000 in
theorem cd_X7_told : Cond.code yX7_told cX7_told 2 (some .int) ∈ tblG := tg1 (List.mem_of_getElem? (i := 445) (by decide +kernel)) rfl
set_option maxRecDepth 100000 in
theorem ds_X7_told : yX7_told.cls ≠ "java/lang/invoke/MethodHandle" ∧ yX7_told.cls ≠ "java/lang/invoke/VarHandle" ∧ (parseMethodDescriptor yX7_told.desc).map (fun d => d.parameters.length) = some 1 := by decide +kernel
set_option maxRecDepth 100000 in
theorem im_X7_told : Cond.instanceMethod yX7_told ∈ tblG := tg1 (List.mem_of_getElem? (i := 443) (by decide +kernel)) rfl
set_option maxRecDepth 100000 in
theorem se_X7_told : Cond.selects yX7_told.cls yX7_told yX7_told ∈ tblG := tg1 (List.mem_of_getElem? (i := 444) (by decide +kernel)) rfl
set_option maxRecDepth 100000 in
theorem cd_X7_tried : Cond.code yX7_tried cX7_tried 1 (some (.object "LetterTray$Rows")) ∈ tblG := tg1 (List.mem_of_getElem? (i := 472) (by decide +kernel)) rfl
set_option maxRecDepth 100000 in
theorem ds_X7_tried : yX7_tried.cls ≠ "java/lang/invoke/MethodHandle" ∧ yX7_tried.cls ≠ "java/lang/invoke/VarHandle" ∧ (parseMethodDescriptor yX7_tried.desc).map (fun d => d.parameters.length) = some 0 := by decide +kernel
set_option maxRecDepth 100000 in
theorem im_X7_tried : Cond.instanceMethod yX7_tried ∈ tblG := tg1 (List.mem_of_getElem? (i := 471) (by decide +kernel)) rfl
set_option maxRecDepth 100000 in
theorem se_X7_tried : Cond.selects yX7_tried.cls yX7_tried yX7_tried ∈ tblG := tg (List.mem_append_left _ (List.mem_of_getElem? (i := 39) (by decide +kernel))) rfl
set_option maxRecDepth 100000 in
theorem cd_X7_undo : Cond.code yX7_undo cX7_undo 2 (some .int) ∈ tblG := tg1 (List.mem_of_getElem? (i := 696) (by decide +kernel)) rfl
set_option maxRecDepth 100000 in
theorem ds_X7_undo : yX7_undo.cls ≠ "java/lang/invoke/MethodHandle" ∧ yX7_undo.cls ≠ "java/lang/invoke/VarHandle" ∧ (parseMethodDescriptor yX7_undo.desc).map (fun d => d.parameters.length) = some 1 := by decide +kernel
set_option maxRecDepth 100000 in
theorem im_X7_undo : Cond.instanceMethod yX7_undo ∈ tblG := tg1 (List.mem_of_getElem? (i := 694) (by decide +kernel)) rfl
set_option maxRecDepth 100000 in
theorem se_X7_undo : Cond.selects yX7_undo.cls yX7_undo yX7_undo ∈ tblG := tg1 (List.mem_of_getElem? (i := 695) (by decide +kernel)) rfl
set_option maxRecDepth 100000 in
theorem cd_X7_word : Cond.code yX7_word cX7_word 3 (some .int) ∈ tblG := tg1 (List.mem_of_getElem? (i := 547) (by decide +kernel)) rfl
set_option maxRecDepth 100000 in
theorem ds_X7_word : yX7_word.cls ≠ "java/lang/invoke/MethodHandle" ∧ yX7_word.cls ≠ "java/lang/invoke/VarHandle" ∧ (parseMethodDescriptor yX7_word.desc).map (fun d => d.parameters.length) = some 2 := by decide +kernel
set_option maxRecDepth 100000 in
theorem im_X7_word : Cond.instanceMethod yX7_word ∈ tblG := tg1 (List.mem_of_getElem? (i := 545) (by decide +kernel)) rfl
set_option maxRecDepth 100000 in
theorem se_X7_word : Cond.selects yX7_word.cls yX7_word yX7_word ∈ tblG := tg1 (List.mem_of_getElem? (i := 546) (by decide +kernel)) rfl
set_option maxRecDepth 100000 in
theorem cd_X7_write : Cond.code yX7_write cX7_write 3 (some .int) ∈ tblG := tg1 (List.mem_of_getElem? (i := 801) (by decide +kernel)) rfl
set_option maxRecDepth 100000 in
theorem ds_X7_write : yX7_write.cls ≠ "java/lang/invoke/MethodHandle" ∧ yX7_write.cls ≠ "java/lang/invoke/VarHandle" ∧ (parseMethodDescriptor yX7_write.desc).map (fun d => d.parameters.length) = some 2 := by decide +kernel
set_option maxRecDepth 100000 in
theorem im_X7_write : Cond.instanceMethod yX7_write ∈ tblG := tg1 (List.mem_of_getElem? (i := 799) (by decide +kernel)) rfl
set_option maxRecDepth 100000 in
theorem se_X7_write : Cond.selects yX7_write.cls yX7_write yX7_write ∈ tblG := tg1 (List.mem_of_getElem? (i := 800) (by decide +kernel)) rfl
set_option maxRecDepth 100000 in
theorem cd_X0_init : Cond.code yX0_init cX0_init 1 none ∈ tblG := tg1 (List.mem_of_getElem? (i := 51) (by decide +kernel)) rfl
set_option maxRecDepth 100000 in
theorem ds_X0_init : yX0_init.cls ≠ "java/lang/invoke/MethodHandle" ∧ yX0_init.cls ≠ "java/lang/invoke/VarHandle" ∧ (parseMethodDescriptor yX0_init.desc).map (fun d => d.parameters.length) = some 0 := by decide +kernel
set_option maxRecDepth 100000 in
theorem im_X0_init : Cond.instanceMethod yX0_init ∈ tblG := tg1 (List.mem_of_getElem? (i := 50) (by decide +kernel)) rfl
set_option maxRecDepth 100000 in
theorem cd_X0_become : Cond.code yX0_become cX0_become 2 none ∈ tblG := tg1 (List.mem_of_getElem? (i := 592) (by decide +kernel)) rfl
set_option maxRecDepth 100000 in
theorem ds_X0_become : yX0_become.cls ≠ "java/lang/invoke/MethodHandle" ∧ yX0_become.cls ≠ "java/lang/invoke/VarHandle" ∧ (parseMethodDescriptor yX0_become.desc).map (fun d => d.parameters.length) = some 1 := by decide +kernel
set_option maxRecDepth 100000 in
theorem im_X0_become : Cond.instanceMethod yX0_become ∈ tblG := tg1 (List.mem_of_getElem? (i := 591) (by decide +kernel)) rfl
set_option maxRecDepth 100000 in
theorem se_X0_become : Cond.selects yX0_become.cls yX0_become yX0_become ∈ tblG := tg (List.mem_append_left _ (List.mem_of_getElem? (i := 61) (by decide +kernel))) rfl
set_option maxRecDepth 100000 in
theorem cd_X0_clear : Cond.code yX0_clear cX0_clear 2 none ∈ tblG := tg1 (List.mem_of_getElem? (i := 421) (by decide +kernel)) rfl
set_option maxRecDepth 100000 in
theorem ds_X0_clear : yX0_clear.cls ≠ "java/lang/invoke/MethodHandle" ∧ yX0_clear.cls ≠ "java/lang/invoke/VarHandle" ∧ (parseMethodDescriptor yX0_clear.desc).map (fun d => d.parameters.length) = some 1 := by decide +kernel
set_option maxRecDepth 100000 in
theorem im_X0_clear : Cond.instanceMethod yX0_clear ∈ tblG := tg1 (List.mem_of_getElem? (i := 420) (by decide +kernel)) rfl
set_option maxRecDepth 100000 in
theorem se_X0_clear : Cond.selects yX0_clear.cls yX0_clear yX0_clear ∈ tblG := tg (List.mem_append_left _ (List.mem_of_getElem? (i := 31) (by decide +kernel))) rfl
set_option maxRecDepth 100000 in
theorem cd_X0_hasLaid : Cond.code yX0_hasLaid cX0_hasLaid 2 (some .boolean) ∈ tblG := tg1 (List.mem_of_getElem? (i := 574) (by decide +kernel)) rfl
set_option maxRecDepth 100000 in
theorem ds_X0_hasLaid : yX0_hasLaid.cls ≠ "java/lang/invoke/MethodHandle" ∧ yX0_hasLaid.cls ≠ "java/lang/invoke/VarHandle" ∧ (parseMethodDescriptor yX0_hasLaid.desc).map (fun d => d.parameters.length) = some 1 := by decide +kernel
set_option maxRecDepth 100000 in
theorem im_X0_hasLaid : Cond.instanceMethod yX0_hasLaid ∈ tblG := tg1 (List.mem_of_getElem? (i := 573) (by decide +kernel)) rfl
set_option maxRecDepth 100000 in
theorem se_X0_hasLaid : Cond.selects yX0_hasLaid.cls yX0_hasLaid yX0_hasLaid ∈ tblG := tg (List.mem_append_left _ (List.mem_of_getElem? (i := 58) (by decide +kernel))) rfl
set_option maxRecDepth 100000 in
theorem cd_X0_layDown : Cond.code yX0_layDown cX0_layDown 6 none ∈ tblG := tg1 (List.mem_of_getElem? (i := 648) (by decide +kernel)) rfl
set_option maxRecDepth 100000 in
theorem ds_X0_layDown : yX0_layDown.cls ≠ "java/lang/invoke/MethodHandle" ∧ yX0_layDown.cls ≠ "java/lang/invoke/VarHandle" ∧ (parseMethodDescriptor yX0_layDown.desc).map (fun d => d.parameters.length) = some 2 := by decide +kernel
set_option maxRecDepth 100000 in
theorem im_X0_layDown : Cond.instanceMethod yX0_layDown ∈ tblG := tg1 (List.mem_of_getElem? (i := 647) (by decide +kernel)) rfl
set_option maxRecDepth 100000 in
theorem se_X0_layDown : Cond.selects yX0_layDown.cls yX0_layDown yX0_layDown ∈ tblG := tg (List.mem_append_left _ (List.mem_of_getElem? (i := 70) (by decide +kernel))) rfl
set_option maxRecDepth 100000 in
theorem cd_X0_takeUp : Cond.code yX0_takeUp cX0_takeUp 7 none ∈ tblG := tg1 (List.mem_of_getElem? (i := 671) (by decide +kernel)) rfl
set_option maxRecDepth 100000 in
theorem ds_X0_takeUp : yX0_takeUp.cls ≠ "java/lang/invoke/MethodHandle" ∧ yX0_takeUp.cls ≠ "java/lang/invoke/VarHandle" ∧ (parseMethodDescriptor yX0_takeUp.desc).map (fun d => d.parameters.length) = some 2 := by decide +kernel
set_option maxRecDepth 100000 in
theorem im_X0_takeUp : Cond.instanceMethod yX0_takeUp ∈ tblG := tg1 (List.mem_of_getElem? (i := 670) (by decide +kernel)) rfl
set_option maxRecDepth 100000 in
theorem se_X0_takeUp : Cond.selects yX0_takeUp.cls yX0_takeUp yX0_takeUp ∈ tblG := tg (List.mem_append_left _ (List.mem_of_getElem? (i := 74) (by decide +kernel))) rfl
set_option maxRecDepth 100000 in
theorem cd_X0_toBag : Cond.code yX0_toBag cX0_toBag 2 none ∈ tblG := tg1 (List.mem_of_getElem? (i := 628) (by decide +kernel)) rfl
set_option maxRecDepth 100000 in
theorem ds_X0_toBag : yX0_toBag.cls ≠ "java/lang/invoke/MethodHandle" ∧ yX0_toBag.cls ≠ "java/lang/invoke/VarHandle" ∧ (parseMethodDescriptor yX0_toBag.desc).map (fun d => d.parameters.length) = some 1 := by decide +kernel
set_option maxRecDepth 100000 in
theorem im_X0_toBag : Cond.instanceMethod yX0_toBag ∈ tblG := tg1 (List.mem_of_getElem? (i := 627) (by decide +kernel)) rfl
set_option maxRecDepth 100000 in
theorem se_X0_toBag : Cond.selects yX0_toBag.cls yX0_toBag yX0_toBag ∈ tblG := tg (List.mem_append_left _ (List.mem_of_getElem? (i := 67) (by decide +kernel))) rfl
set_option maxRecDepth 100000 in
theorem cd_X0_toTray : Cond.code yX0_toTray cX0_toTray 2 none ∈ tblG := tg1 (List.mem_of_getElem? (i := 612) (by decide +kernel)) rfl
set_option maxRecDepth 100000 in
theorem ds_X0_toTray : yX0_toTray.cls ≠ "java/lang/invoke/MethodHandle" ∧ yX0_toTray.cls ≠ "java/lang/invoke/VarHandle" ∧ (parseMethodDescriptor yX0_toTray.desc).map (fun d => d.parameters.length) = some 1 := by decide +kernel
set_option maxRecDepth 100000 in
theorem im_X0_toTray : Cond.instanceMethod yX0_toTray ∈ tblG := tg1 (List.mem_of_getElem? (i := 611) (by decide +kernel)) rfl
set_option maxRecDepth 100000 in
theorem se_X0_toTray : Cond.selects yX0_toTray.cls yX0_toTray yX0_toTray ∈ tblG := tg (List.mem_append_left _ (List.mem_of_getElem? (i := 64) (by decide +kernel))) rfl
set_option maxRecDepth 100000 in
theorem cd_X1_init : Cond.code yX1_init cX1_init 2 none ∈ tblG := tg1 (List.mem_of_getElem? (i := 88) (by decide +kernel)) rfl
set_option maxRecDepth 100000 in
theorem ds_X1_init : yX1_init.cls ≠ "java/lang/invoke/MethodHandle" ∧ yX1_init.cls ≠ "java/lang/invoke/VarHandle" ∧ (parseMethodDescriptor yX1_init.desc).map (fun d => d.parameters.length) = some 0 := by decide +kernel
set_option maxRecDepth 100000 in
theorem im_X1_init : Cond.instanceMethod yX1_init ∈ tblG := tg1 (List.mem_of_getElem? (i := 87) (by decide +kernel)) rfl
set_option maxRecDepth 100000 in
theorem cd_X1_clear : Cond.code yX1_clear cX1_clear 1 none ∈ tblG := tg1 (List.mem_of_getElem? (i := 429) (by decide +kernel)) rfl
set_option maxRecDepth 100000 in
theorem ds_X1_clear : yX1_clear.cls ≠ "java/lang/invoke/MethodHandle" ∧ yX1_clear.cls ≠ "java/lang/invoke/VarHandle" ∧ (parseMethodDescriptor yX1_clear.desc).map (fun d => d.parameters.length) = some 0 := by decide +kernel
set_option maxRecDepth 100000 in
theorem im_X1_clear : Cond.instanceMethod yX1_clear ∈ tblG := tg1 (List.mem_of_getElem? (i := 428) (by decide +kernel)) rfl
set_option maxRecDepth 100000 in
theorem se_X1_clear : Cond.selects yX1_clear.cls yX1_clear yX1_clear ∈ tblG := tg (List.mem_append_left _ (List.mem_of_getElem? (i := 32) (by decide +kernel))) rfl
set_option maxRecDepth 100000 in
theorem cd_X1_pop : Cond.code yX1_pop cX1_pop 3 none ∈ tblG := tg1 (List.mem_of_getElem? (i := 700) (by decide +kernel)) rfl
set_option maxRecDepth 100000 in
theorem ds_X1_pop : yX1_pop.cls ≠ "java/lang/invoke/MethodHandle" ∧ yX1_pop.cls ≠ "java/lang/invoke/VarHandle" ∧ (parseMethodDescriptor yX1_pop.desc).map (fun d => d.parameters.length) = some 2 := by decide +kernel
set_option maxRecDepth 100000 in
theorem im_X1_pop : Cond.instanceMethod yX1_pop ∈ tblG := tg1 (List.mem_of_getElem? (i := 699) (by decide +kernel)) rfl
set_option maxRecDepth 100000 in
theorem se_X1_pop : Cond.selects yX1_pop.cls yX1_pop yX1_pop ∈ tblG := tg (List.mem_append_left _ (List.mem_of_getElem? (i := 79) (by decide +kernel))) rfl
set_option maxRecDepth 100000 in
theorem cd_X1_push : Cond.code yX1_push cX1_push 2 none ∈ tblG := tg1 (List.mem_of_getElem? (i := 588) (by decide +kernel)) rfl
set_option maxRecDepth 100000 in
theorem ds_X1_push : yX1_push.cls ≠ "java/lang/invoke/MethodHandle" ∧ yX1_push.cls ≠ "java/lang/invoke/VarHandle" ∧ (parseMethodDescriptor yX1_push.desc).map (fun d => d.parameters.length) = some 1 := by decide +kernel
set_option maxRecDepth 100000 in
theorem im_X1_push : Cond.instanceMethod yX1_push ∈ tblG := tg1 (List.mem_of_getElem? (i := 587) (by decide +kernel)) rfl
set_option maxRecDepth 100000 in
theorem se_X1_push : Cond.selects yX1_push.cls yX1_push yX1_push ∈ tblG := tg (List.mem_append_left _ (List.mem_of_getElem? (i := 60) (by decide +kernel))) rfl
set_option maxRecDepth 100000 in
theorem cd_X2_init : Cond.code yX2_init cX2_init 1 none ∈ tblG := tg1 (List.mem_of_getElem? (i := 109) (by decide +kernel)) rfl
set_option maxRecDepth 100000 in
theorem ds_X2_init : yX2_init.cls ≠ "java/lang/invoke/MethodHandle" ∧ yX2_init.cls ≠ "java/lang/invoke/VarHandle" ∧ (parseMethodDescriptor yX2_init.desc).map (fun d => d.parameters.length) = some 0 := by decide +kernel
set_option maxRecDepth 100000 in
theorem im_X2_init : Cond.instanceMethod yX2_init ∈ tblG := tg1 (List.mem_of_getElem? (i := 108) (by decide +kernel)) rfl
set_option maxRecDepth 100000 in
theorem cd_X3_init : Cond.code yX3_init cX3_init 1 none ∈ tblG := tg1 (List.mem_of_getElem? (i := 26) (by decide +kernel)) rfl
set_option maxRecDepth 100000 in
theorem ds_X3_init : yX3_init.cls ≠ "java/lang/invoke/MethodHandle" ∧ yX3_init.cls ≠ "java/lang/invoke/VarHandle" ∧ (parseMethodDescriptor yX3_init.desc).map (fun d => d.parameters.length) = some 0 := by decide +kernel
set_option maxRecDepth 100000 in
theorem im_X3_init : Cond.instanceMethod yX3_init ∈ tblG := tg1 (List.mem_of_getElem? (i := 25) (by decide +kernel)) rfl
set_option maxRecDepth 100000 in
theorem cd_X3_append : Cond.code yX3_append cX3_append 2 (some .boolean) ∈ tblG := tg1 (List.mem_of_getElem? (i := 285) (by decide +kernel)) rfl
set_option maxRecDepth 100000 in
theorem ds_X3_append : yX3_append.cls ≠ "java/lang/invoke/MethodHandle" ∧ yX3_append.cls ≠ "java/lang/invoke/VarHandle" ∧ (parseMethodDescriptor yX3_append.desc).map (fun d => d.parameters.length) = some 1 := by decide +kernel
set_option maxRecDepth 100000 in
theorem im_X3_append : Cond.instanceMethod yX3_append ∈ tblG := tg1 (List.mem_of_getElem? (i := 284) (by decide +kernel)) rfl
set_option maxRecDepth 100000 in
theorem se_X3_append : Cond.selects yX3_append.cls yX3_append yX3_append ∈ tblG := tg (List.mem_append_left _ (List.mem_of_getElem? (i := 0) (by decide +kernel))) rfl
set_option maxRecDepth 100000 in
theorem cd_X3_endLetters : Cond.code yX3_endLetters cX3_endLetters 2 none ∈ tblG := tg1 (List.mem_of_getElem? (i := 348) (by decide +kernel)) rfl
set_option maxRecDepth 100000 in
theorem ds_X3_endLetters : yX3_endLetters.cls ≠ "java/lang/invoke/MethodHandle" ∧ yX3_endLetters.cls ≠ "java/lang/invoke/VarHandle" ∧ (parseMethodDescriptor yX3_endLetters.desc).map (fun d => d.parameters.length) = some 1 := by decide +kernel
set_option maxRecDepth 100000 in
theorem im_X3_endLetters : Cond.instanceMethod yX3_endLetters ∈ tblG := tg1 (List.mem_of_getElem? (i := 347) (by decide +kernel)) rfl
set_option maxRecDepth 100000 in
theorem se_X3_endLetters : Cond.selects yX3_endLetters.cls yX3_endLetters yX3_endLetters ∈ tblG := tg (List.mem_append_left _ (List.mem_of_getElem? (i := 13) (by decide +kernel))) rfl
set_option maxRecDepth 100000 in
theorem cd_X3_endWord : Cond.code yX3_endWord cX3_endWord 5 none ∈ tblG := tg1 (List.mem_of_getElem? (i := 356) (by decide +kernel)) rfl
set_option maxRecDepth 100000 in
theorem ds_X3_endWord : yX3_endWord.cls ≠ "java/lang/invoke/MethodHandle" ∧ yX3_endWord.cls ≠ "java/lang/invoke/VarHandle" ∧ (parseMethodDescriptor yX3_endWord.desc).map (fun d => d.parameters.length) = some 3 := by decide +kernel
set_option maxRecDepth 100000 in
theorem im_X3_endWord : Cond.instanceMethod yX3_endWord ∈ tblG := tg1 (List.mem_of_getElem? (i := 355) (by decide +kernel)) rfl
set_option maxRecDepth 100000 in
theorem se_X3_endWord : Cond.selects yX3_endWord.cls yX3_endWord yX3_endWord ∈ tblG := tg (List.mem_append_left _ (List.mem_of_getElem? (i := 15) (by decide +kernel))) rfl
set_option maxRecDepth 100000 in
theorem cd_X3_fail : Cond.code yX3_fail cX3_fail 3 none ∈ tblG := tg1 (List.mem_of_getElem? (i := 321) (by decide +kernel)) rfl
set_option maxRecDepth 100000 in
theorem ds_X3_fail : yX3_fail.cls ≠ "java/lang/invoke/MethodHandle" ∧ yX3_fail.cls ≠ "java/lang/invoke/VarHandle" ∧ (parseMethodDescriptor yX3_fail.desc).map (fun d => d.parameters.length) = some 2 := by decide +kernel
set_option maxRecDepth 100000 in
theorem im_X3_fail : Cond.instanceMethod yX3_fail ∈ tblG := tg1 (List.mem_of_getElem? (i := 320) (by decide +kernel)) rfl
set_option maxRecDepth 100000 in
theorem se_X3_fail : Cond.selects yX3_fail.cls yX3_fail yX3_fail ∈ tblG := tg (List.mem_append_left _ (List.mem_of_getElem? (i := 7) (by decide +kernel))) rfl
set_option maxRecDepth 100000 in
theorem cd_X3_pass : Cond.code yX3_pass cX3_pass 2 none ∈ tblG := tg1 (List.mem_of_getElem? (i := 336) (by decide +kernel)) rfl
set_option maxRecDepth 100000 in
theorem ds_X3_pass : yX3_pass.cls ≠ "java/lang/invoke/MethodHandle" ∧ yX3_pass.cls ≠ "java/lang/invoke/VarHandle" ∧ (parseMethodDescriptor yX3_pass.desc).map (fun d => d.parameters.length) = some 1 := by decide +kernel
set_option maxRecDepth 100000 in
theorem im_X3_pass : Cond.instanceMethod yX3_pass ∈ tblG := tg1 (List.mem_of_getElem? (i := 335) (by decide +kernel)) rfl
set_option maxRecDepth 100000 in
theorem se_X3_pass : Cond.selects yX3_pass.cls yX3_pass yX3_pass ∈ tblG := tg (List.mem_append_left _ (List.mem_of_getElem? (i := 10) (by decide +kernel))) rfl
set_option maxRecDepth 100000 in
theorem cd_X3_read : Cond.code yX3_read cX3_read 3 (some .int) ∈ tblG := tg1 (List.mem_of_getElem? (i := 294) (by decide +kernel)) rfl
set_option maxRecDepth 100000 in
theorem ds_X3_read : yX3_read.cls ≠ "java/lang/invoke/MethodHandle" ∧ yX3_read.cls ≠ "java/lang/invoke/VarHandle" ∧ (parseMethodDescriptor yX3_read.desc).map (fun d => d.parameters.length) = some 1 := by decide +kernel
set_option maxRecDepth 100000 in
theorem im_X3_read : Cond.instanceMethod yX3_read ∈ tblG := tg1 (List.mem_of_getElem? (i := 293) (by decide +kernel)) rfl
set_option maxRecDepth 100000 in
theorem se_X3_read : Cond.selects yX3_read.cls yX3_read yX3_read ∈ tblG := tg (List.mem_append_left _ (List.mem_of_getElem? (i := 1) (by decide +kernel))) rfl
set_option maxRecDepth 100000 in
theorem cd_X3_readBag : Cond.code yX3_readBag cX3_readBag 4 none ∈ tblG := tg1 (List.mem_of_getElem? (i := 340) (by decide +kernel)) rfl
set_option maxRecDepth 100000 in
theorem ds_X3_readBag : yX3_readBag.cls ≠ "java/lang/invoke/MethodHandle" ∧ yX3_readBag.cls ≠ "java/lang/invoke/VarHandle" ∧ (parseMethodDescriptor yX3_readBag.desc).map (fun d => d.parameters.length) = some 1 := by decide +kernel
set_option maxRecDepth 100000 in
theorem im_X3_readBag : Cond.instanceMethod yX3_readBag ∈ tblG := tg1 (List.mem_of_getElem? (i := 339) (by decide +kernel)) rfl
set_option maxRecDepth 100000 in
theorem se_X3_readBag : Cond.selects yX3_readBag.cls yX3_readBag yX3_readBag ∈ tblG := tg (List.mem_append_left _ (List.mem_of_getElem? (i := 11) (by decide +kernel))) rfl
set_option maxRecDepth 100000 in
theorem cd_X3_readClause : Cond.code yX3_readClause cX3_readClause 2 none ∈ tblG := tg1 (List.mem_of_getElem? (i := 309) (by decide +kernel)) rfl
set_option maxRecDepth 100000 in
theorem ds_X3_readClause : yX3_readClause.cls ≠ "java/lang/invoke/MethodHandle" ∧ yX3_readClause.cls ≠ "java/lang/invoke/VarHandle" ∧ (parseMethodDescriptor yX3_readClause.desc).map (fun d => d.parameters.length) = some 1 := by decide +kernel
set_option maxRecDepth 100000 in
theorem im_X3_readClause : Cond.instanceMethod yX3_readClause ∈ tblG := tg1 (List.mem_of_getElem? (i := 308) (by decide +kernel)) rfl
set_option maxRecDepth 100000 in
theorem se_X3_readClause : Cond.selects yX3_readClause.cls yX3_readClause yX3_readClause ∈ tblG := tg (List.mem_append_left _ (List.mem_of_getElem? (i := 4) (by decide +kernel))) rfl
set_option maxRecDepth 100000 in
theorem cd_X3_readNumber : Cond.code yX3_readNumber cX3_readNumber 5 (some .int) ∈ tblG := tg1 (List.mem_of_getElem? (i := 329) (by decide +kernel)) rfl
set_option maxRecDepth 100000 in
theorem ds_X3_readNumber : yX3_readNumber.cls ≠ "java/lang/invoke/MethodHandle" ∧ yX3_readNumber.cls ≠ "java/lang/invoke/VarHandle" ∧ (parseMethodDescriptor yX3_readNumber.desc).map (fun d => d.parameters.length) = some 2 := by decide +kernel
set_option maxRecDepth 100000 in
theorem im_X3_readNumber : Cond.instanceMethod yX3_readNumber ∈ tblG := tg1 (List.mem_of_getElem? (i := 328) (by decide +kernel)) rfl
set_option maxRecDepth 100000 in
theorem se_X3_readNumber : Cond.selects yX3_readNumber.cls yX3_readNumber yX3_readNumber ∈ tblG := tg (List.mem_append_left _ (List.mem_of_getElem? (i := 9) (by decide +kernel))) rfl
set_option maxRecDepth 100000 in
theorem cd_X3_readValues : Cond.code yX3_readValues cX3_readValues 3 none ∈ tblG := tg1 (List.mem_of_getElem? (i := 325) (by decide +kernel)) rfl
set_option maxRecDepth 100000 in
theorem ds_X3_readValues : yX3_readValues.cls ≠ "java/lang/invoke/MethodHandle" ∧ yX3_readValues.cls ≠ "java/lang/invoke/VarHandle" ∧ (parseMethodDescriptor yX3_readValues.desc).map (fun d => d.parameters.length) = some 1 := by decide +kernel
set_option maxRecDepth 100000 in
theorem im_X3_readValues : Cond.instanceMethod yX3_readValues ∈ tblG := tg1 (List.mem_of_getElem? (i := 324) (by decide +kernel)) rfl
set_option maxRecDepth 100000 in
theorem se_X3_readValues : Cond.selects yX3_readValues.cls yX3_readValues yX3_readValues ∈ tblG := tg (List.mem_append_left _ (List.mem_of_getElem? (i := 8) (by decide +kernel))) rfl
set_option maxRecDepth 100000 in
theorem cd_X3_readWord : Cond.code yX3_readWord cX3_readWord 5 none ∈ tblG := tg1 (List.mem_of_getElem? (i := 352) (by decide +kernel)) rfl
set_option maxRecDepth 100000 in
theorem ds_X3_readWord : yX3_readWord.cls ≠ "java/lang/invoke/MethodHandle" ∧ yX3_readWord.cls ≠ "java/lang/invoke/VarHandle" ∧ (parseMethodDescriptor yX3_readWord.desc).map (fun d => d.parameters.length) = some 1 := by decide +kernel
set_option maxRecDepth 100000 in
theorem im_X3_readWord : Cond.instanceMethod yX3_readWord ∈ tblG := tg1 (List.mem_of_getElem? (i := 351) (by decide +kernel)) rfl
set_option maxRecDepth 100000 in
theorem se_X3_readWord : Cond.selects yX3_readWord.cls yX3_readWord yX3_readWord ∈ tblG := tg (List.mem_append_left _ (List.mem_of_getElem? (i := 14) (by decide +kernel))) rfl
set_option maxRecDepth 100000 in
theorem cd_X3_skipSpaces : Cond.code yX3_skipSpaces cX3_skipSpaces 1 none ∈ tblG := tg1 (List.mem_of_getElem? (i := 305) (by decide +kernel)) rfl
set_option maxRecDepth 100000 in
theorem ds_X3_skipSpaces : yX3_skipSpaces.cls ≠ "java/lang/invoke/MethodHandle" ∧ yX3_skipSpaces.cls ≠ "java/lang/invoke/VarHandle" ∧ (parseMethodDescriptor yX3_skipSpaces.desc).map (fun d => d.parameters.length) = some 0 := by decide +kernel
set_option maxRecDepth 100000 in
theorem im_X3_skipSpaces : Cond.instanceMethod yX3_skipSpaces ∈ tblG := tg1 (List.mem_of_getElem? (i := 304) (by decide +kernel)) rfl
set_option maxRecDepth 100000 in
theorem se_X3_skipSpaces : Cond.selects yX3_skipSpaces.cls yX3_skipSpaces yX3_skipSpaces ∈ tblG := tg (List.mem_append_left _ (List.mem_of_getElem? (i := 3) (by decide +kernel))) rfl
set_option maxRecDepth 100000 in
theorem cd_X3_sortHere : Cond.code yX3_sortHere cX3_sortHere 2 (some .int) ∈ tblG := tg1 (List.mem_of_getElem? (i := 344) (by decide +kernel)) rfl
set_option maxRecDepth 100000 in
theorem ds_X3_sortHere : yX3_sortHere.cls ≠ "java/lang/invoke/MethodHandle" ∧ yX3_sortHere.cls ≠ "java/lang/invoke/VarHandle" ∧ (parseMethodDescriptor yX3_sortHere.desc).map (fun d => d.parameters.length) = some 0 := by decide +kernel
set_option maxRecDepth 100000 in
theorem im_X3_sortHere : Cond.instanceMethod yX3_sortHere ∈ tblG := tg1 (List.mem_of_getElem? (i := 343) (by decide +kernel)) rfl
set_option maxRecDepth 100000 in
theorem se_X3_sortHere : Cond.selects yX3_sortHere.cls yX3_sortHere yX3_sortHere ∈ tblG := tg (List.mem_append_left _ (List.mem_of_getElem? (i := 12) (by decide +kernel))) rfl
set_option maxRecDepth 100000 in
theorem cd_X3_stands : Cond.code yX3_stands cX3_stands 2 (some .boolean) ∈ tblG := tg1 (List.mem_of_getElem? (i := 313) (by decide +kernel)) rfl
set_option maxRecDepth 100000 in
theorem ds_X3_stands : yX3_stands.cls ≠ "java/lang/invoke/MethodHandle" ∧ yX3_stands.cls ≠ "java/lang/invoke/VarHandle" ∧ (parseMethodDescriptor yX3_stands.desc).map (fun d => d.parameters.length) = some 1 := by decide +kernel
set_option maxRecDepth 100000 in
theorem im_X3_stands : Cond.instanceMethod yX3_stands ∈ tblG := tg1 (List.mem_of_getElem? (i := 312) (by decide +kernel)) rfl
set_option maxRecDepth 100000 in
theorem se_X3_stands : Cond.selects yX3_stands.cls yX3_stands yX3_stands ∈ tblG := tg (List.mem_append_left _ (List.mem_of_getElem? (i := 5) (by decide +kernel))) rfl
set_option maxRecDepth 100000 in
theorem cd_X3_startClause : Cond.code yX3_startClause cX3_startClause 2 none ∈ tblG := tg1 (List.mem_of_getElem? (i := 317) (by decide +kernel)) rfl
set_option maxRecDepth 100000 in
theorem ds_X3_startClause : yX3_startClause.cls ≠ "java/lang/invoke/MethodHandle" ∧ yX3_startClause.cls ≠ "java/lang/invoke/VarHandle" ∧ (parseMethodDescriptor yX3_startClause.desc).map (fun d => d.parameters.length) = some 1 := by decide +kernel
set_option maxRecDepth 100000 in
theorem im_X3_startClause : Cond.instanceMethod yX3_startClause ∈ tblG := tg1 (List.mem_of_getElem? (i := 316) (by decide +kernel)) rfl
set_option maxRecDepth 100000 in
theorem se_X3_startClause : Cond.selects yX3_startClause.cls yX3_startClause yX3_startClause ∈ tblG := tg (List.mem_append_left _ (List.mem_of_getElem? (i := 6) (by decide +kernel))) rfl
set_option maxRecDepth 100000 in
theorem cd_X4_init : Cond.code yX4_init cX4_init 2 none ∈ tblG := tg1 (List.mem_of_getElem? (i := 222) (by decide +kernel)) rfl
set_option maxRecDepth 100000 in
theorem ds_X4_init : yX4_init.cls ≠ "java/lang/invoke/MethodHandle" ∧ yX4_init.cls ≠ "java/lang/invoke/VarHandle" ∧ (parseMethodDescriptor yX4_init.desc).map (fun d => d.parameters.length) = some 1 := by decide +kernel
set_option maxRecDepth 100000 in
theorem im_X4_init : Cond.instanceMethod yX4_init ∈ tblG := tg1 (List.mem_of_getElem? (i := 221) (by decide +kernel)) rfl
set_option maxRecDepth 100000 in
theorem cd_X4_after : Cond.code yX4_after cX4_after 8 (some .int) ∈ tblG := tg1 (List.mem_of_getElem? (i := 495) (by decide +kernel)) rfl
set_option maxRecDepth 100000 in
theorem ds_X4_after : yX4_after.cls ≠ "java/lang/invoke/MethodHandle" ∧ yX4_after.cls ≠ "java/lang/invoke/VarHandle" ∧ (parseMethodDescriptor yX4_after.desc).map (fun d => d.parameters.length) = some 2 := by decide +kernel
set_option maxRecDepth 100000 in
theorem im_X4_after : Cond.instanceMethod yX4_after ∈ tblG := tg1 (List.mem_of_getElem? (i := 494) (by decide +kernel)) rfl
set_option maxRecDepth 100000 in
theorem se_X4_after : Cond.selects yX4_after.cls yX4_after yX4_after ∈ tblG := tg (List.mem_append_left _ (List.mem_of_getElem? (i := 44) (by decide +kernel))) rfl
set_option maxRecDepth 100000 in
theorem cd_X4_all : Cond.code yX4_all cX4_all 1 (some .int) ∈ tblG := tg1 (List.mem_of_getElem? (i := 513) (by decide +kernel)) rfl
set_option maxRecDepth 100000 in
theorem ds_X4_all : yX4_all.cls ≠ "java/lang/invoke/MethodHandle" ∧ yX4_all.cls ≠ "java/lang/invoke/VarHandle" ∧ (parseMethodDescriptor yX4_all.desc).map (fun d => d.parameters.length) = some 0 := by decide +kernel
set_option maxRecDepth 100000 in
theorem im_X4_all : Cond.instanceMethod yX4_all ∈ tblG := tg1 (List.mem_of_getElem? (i := 512) (by decide +kernel)) rfl
set_option maxRecDepth 100000 in
theorem se_X4_all : Cond.selects yX4_all.cls yX4_all yX4_all ∈ tblG := tg (List.mem_append_left _ (List.mem_of_getElem? (i := 48) (by decide +kernel))) rfl
set_option maxRecDepth 100000 in
theorem cd_X4_countIn : Cond.code yX4_countIn cX4_countIn 4 (some .int) ∈ tblG := tg1 (List.mem_of_getElem? (i := 499) (by decide +kernel)) rfl
set_option maxRecDepth 100000 in
theorem ds_X4_countIn : yX4_countIn.cls ≠ "java/lang/invoke/MethodHandle" ∧ yX4_countIn.cls ≠ "java/lang/invoke/VarHandle" ∧ (parseMethodDescriptor yX4_countIn.desc).map (fun d => d.parameters.length) = some 2 := by decide +kernel
set_option maxRecDepth 100000 in
theorem im_X4_countIn : Cond.instanceMethod yX4_countIn ∈ tblG := tg1 (List.mem_of_getElem? (i := 498) (by decide +kernel)) rfl
set_option maxRecDepth 100000 in
theorem se_X4_countIn : Cond.selects yX4_countIn.cls yX4_countIn yX4_countIn ∈ tblG := tg (List.mem_append_left _ (List.mem_of_getElem? (i := 45) (by decide +kernel))) rfl
set_option maxRecDepth 100000 in
theorem cd_X4_countRests : Cond.code yX4_countRests cX4_countRests 2 none ∈ tblG := tg1 (List.mem_of_getElem? (i := 485) (by decide +kernel)) rfl
set_option maxRecDepth 100000 in
theorem ds_X4_countRests : yX4_countRests.cls ≠ "java/lang/invoke/MethodHandle" ∧ yX4_countRests.cls ≠ "java/lang/invoke/VarHandle" ∧ (parseMethodDescriptor yX4_countRests.desc).map (fun d => d.parameters.length) = some 0 := by decide +kernel
set_option maxRecDepth 100000 in
theorem im_X4_countRests : Cond.instanceMethod yX4_countRests ∈ tblG := tg1 (List.mem_of_getElem? (i := 484) (by decide +kernel)) rfl
set_option maxRecDepth 100000 in
theorem se_X4_countRests : Cond.selects yX4_countRests.cls yX4_countRests yX4_countRests ∈ tblG := tg (List.mem_append_left _ (List.mem_of_getElem? (i := 42) (by decide +kernel))) rfl
set_option maxRecDepth 100000 in
theorem cd_X4_countWays : Cond.code yX4_countWays cX4_countWays 4 none ∈ tblG := tg1 (List.mem_of_getElem? (i := 490) (by decide +kernel)) rfl
set_option maxRecDepth 100000 in
theorem ds_X4_countWays : yX4_countWays.cls ≠ "java/lang/invoke/MethodHandle" ∧ yX4_countWays.cls ≠ "java/lang/invoke/VarHandle" ∧ (parseMethodDescriptor yX4_countWays.desc).map (fun d => d.parameters.length) = some 0 := by decide +kernel
set_option maxRecDepth 100000 in
theorem im_X4_countWays : Cond.instanceMethod yX4_countWays ∈ tblG := tg1 (List.mem_of_getElem? (i := 489) (by decide +kernel)) rfl
set_option maxRecDepth 100000 in
theorem se_X4_countWays : Cond.selects yX4_countWays.cls yX4_countWays yX4_countWays ∈ tblG := tg (List.mem_append_left _ (List.mem_of_getElem? (i := 43) (by decide +kernel))) rfl
set_option maxRecDepth 100000 in
theorem cd_X4_forget : Cond.code yX4_forget cX4_forget 1 none ∈ tblG := tg1 (List.mem_of_getElem? (i := 433) (by decide +kernel)) rfl
set_option maxRecDepth 100000 in
theorem ds_X4_forget : yX4_forget.cls ≠ "java/lang/invoke/MethodHandle" ∧ yX4_forget.cls ≠ "java/lang/invoke/VarHandle" ∧ (parseMethodDescriptor yX4_forget.desc).map (fun d => d.parameters.length) = some 0 := by decide +kernel
set_option maxRecDepth 100000 in
theorem im_X4_forget : Cond.instanceMethod yX4_forget ∈ tblG := tg1 (List.mem_of_getElem? (i := 432) (by decide +kernel)) rfl
set_option maxRecDepth 100000 in
theorem se_X4_forget : Cond.selects yX4_forget.cls yX4_forget yX4_forget ∈ tblG := tg (List.mem_append_left _ (List.mem_of_getElem? (i := 33) (by decide +kernel))) rfl
set_option maxRecDepth 100000 in
theorem cd_X4_isTray : Cond.code yX4_isTray cX4_isTray 3 (some .boolean) ∈ tblG := tg1 (List.mem_of_getElem? (i := 480) (by decide +kernel)) rfl
set_option maxRecDepth 100000 in
theorem ds_X4_isTray : yX4_isTray.cls ≠ "java/lang/invoke/MethodHandle" ∧ yX4_isTray.cls ≠ "java/lang/invoke/VarHandle" ∧ (parseMethodDescriptor yX4_isTray.desc).map (fun d => d.parameters.length) = some 1 := by decide +kernel
set_option maxRecDepth 100000 in
theorem im_X4_isTray : Cond.instanceMethod yX4_isTray ∈ tblG := tg1 (List.mem_of_getElem? (i := 479) (by decide +kernel)) rfl
set_option maxRecDepth 100000 in
theorem se_X4_isTray : Cond.selects yX4_isTray.cls yX4_isTray yX4_isTray ∈ tblG := tg (List.mem_append_left _ (List.mem_of_getElem? (i := 41) (by decide +kernel))) rfl
set_option maxRecDepth 100000 in
theorem cd_X4_kth : Cond.code yX4_kth cX4_kth 5 (some .int) ∈ tblG := tg1 (List.mem_of_getElem? (i := 712) (by decide +kernel)) rfl
set_option maxRecDepth 100000 in
theorem ds_X4_kth : yX4_kth.cls ≠ "java/lang/invoke/MethodHandle" ∧ yX4_kth.cls ≠ "java/lang/invoke/VarHandle" ∧ (parseMethodDescriptor yX4_kth.desc).map (fun d => d.parameters.length) = some 1 := by decide +kernel
set_option maxRecDepth 100000 in
theorem im_X4_kth : Cond.instanceMethod yX4_kth ∈ tblG := tg1 (List.mem_of_getElem? (i := 711) (by decide +kernel)) rfl
set_option maxRecDepth 100000 in
theorem se_X4_kth : Cond.selects yX4_kth.cls yX4_kth yX4_kth ∈ tblG := tg (List.mem_append_left _ (List.mem_of_getElem? (i := 80) (by decide +kernel))) rfl
set_option maxRecDepth 100000 in
theorem cd_X4_leastOfBest : Cond.code yX4_leastOfBest cX4_leastOfBest 3 (some .int) ∈ tblG := tg1 (List.mem_of_getElem? (i := 716) (by decide +kernel)) rfl
set_option maxRecDepth 100000 in
theorem ds_X4_leastOfBest : yX4_leastOfBest.cls ≠ "java/lang/invoke/MethodHandle" ∧ yX4_leastOfBest.cls ≠ "java/lang/invoke/VarHandle" ∧ (parseMethodDescriptor yX4_leastOfBest.desc).map (fun d => d.parameters.length) = some 1 := by decide +kernel
set_option maxRecDepth 100000 in
theorem im_X4_leastOfBest : Cond.instanceMethod yX4_leastOfBest ∈ tblG := tg1 (List.mem_of_getElem? (i := 715) (by decide +kernel)) rfl
set_option maxRecDepth 100000 in
theorem se_X4_leastOfBest : Cond.selects yX4_leastOfBest.cls yX4_leastOfBest yX4_leastOfBest ∈ tblG := tg (List.mem_append_left _ (List.mem_of_getElem? (i := 81) (by decide +kernel))) rfl
set_option maxRecDepth 100000 in
theorem cd_X4_many : Cond.code yX4_many cX4_many 1 (some .int) ∈ tblG := tg1 (List.mem_of_getElem? (i := 521) (by decide +kernel)) rfl
set_option maxRecDepth 100000 in
theorem ds_X4_many : yX4_many.cls ≠ "java/lang/invoke/MethodHandle" ∧ yX4_many.cls ≠ "java/lang/invoke/VarHandle" ∧ (parseMethodDescriptor yX4_many.desc).map (fun d => d.parameters.length) = some 0 := by decide +kernel
set_option maxRecDepth 100000 in
theorem im_X4_many : Cond.instanceMethod yX4_many ∈ tblG := tg1 (List.mem_of_getElem? (i := 520) (by decide +kernel)) rfl
set_option maxRecDepth 100000 in
theorem se_X4_many : Cond.selects yX4_many.cls yX4_many yX4_many ∈ tblG := tg (List.mem_append_left _ (List.mem_of_getElem? (i := 50) (by decide +kernel))) rfl
set_option maxRecDepth 100000 in
theorem cd_X4_most : Cond.code yX4_most cX4_most 1 (some .int) ∈ tblG := tg1 (List.mem_of_getElem? (i := 517) (by decide +kernel)) rfl
set_option maxRecDepth 100000 in
theorem ds_X4_most : yX4_most.cls ≠ "java/lang/invoke/MethodHandle" ∧ yX4_most.cls ≠ "java/lang/invoke/VarHandle" ∧ (parseMethodDescriptor yX4_most.desc).map (fun d => d.parameters.length) = some 0 := by decide +kernel
set_option maxRecDepth 100000 in
theorem im_X4_most : Cond.instanceMethod yX4_most ∈ tblG := tg1 (List.mem_of_getElem? (i := 516) (by decide +kernel)) rfl
set_option maxRecDepth 100000 in
theorem se_X4_most : Cond.selects yX4_most.cls yX4_most yX4_most ∈ tblG := tg (List.mem_append_left _ (List.mem_of_getElem? (i := 49) (by decide +kernel))) rfl
set_option maxRecDepth 100000 in
theorem cd_X4_rankRests : Cond.code yX4_rankRests cX4_rankRests 3 none ∈ tblG := tg1 (List.mem_of_getElem? (i := 504) (by decide +kernel)) rfl
set_option maxRecDepth 100000 in
theorem ds_X4_rankRests : yX4_rankRests.cls ≠ "java/lang/invoke/MethodHandle" ∧ yX4_rankRests.cls ≠ "java/lang/invoke/VarHandle" ∧ (parseMethodDescriptor yX4_rankRests.desc).map (fun d => d.parameters.length) = some 0 := by decide +kernel
set_option maxRecDepth 100000 in
theorem im_X4_rankRests : Cond.instanceMethod yX4_rankRests ∈ tblG := tg1 (List.mem_of_getElem? (i := 503) (by decide +kernel)) rfl
set_option maxRecDepth 100000 in
theorem se_X4_rankRests : Cond.selects yX4_rankRests.cls yX4_rankRests yX4_rankRests ∈ tblG := tg (List.mem_append_left _ (List.mem_of_getElem? (i := 46) (by decide +kernel))) rfl
set_option maxRecDepth 100000 in
theorem cd_X4_rankWith : Cond.code yX4_rankWith cX4_rankWith 4 (some .int) ∈ tblG := tg1 (List.mem_of_getElem? (i := 508) (by decide +kernel)) rfl
set_option maxRecDepth 100000 in
theorem ds_X4_rankWith : yX4_rankWith.cls ≠ "java/lang/invoke/MethodHandle" ∧ yX4_rankWith.cls ≠ "java/lang/invoke/VarHandle" ∧ (parseMethodDescriptor yX4_rankWith.desc).map (fun d => d.parameters.length) = some 2 := by decide +kernel
set_option maxRecDepth 100000 in
theorem im_X4_rankWith : Cond.instanceMethod yX4_rankWith ∈ tblG := tg1 (List.mem_of_getElem? (i := 507) (by decide +kernel)) rfl
set_option maxRecDepth 100000 in
theorem se_X4_rankWith : Cond.selects yX4_rankWith.cls yX4_rankWith yX4_rankWith ∈ tblG := tg (List.mem_append_left _ (List.mem_of_getElem? (i := 47) (by decide +kernel))) rfl
set_option maxRecDepth 100000 in
theorem cd_X4_tryOut : Cond.code yX4_tryOut cX4_tryOut 3 none ∈ tblG := tg1 (List.mem_of_getElem? (i := 476) (by decide +kernel)) rfl
set_option maxRecDepth 100000 in
theorem ds_X4_tryOut : yX4_tryOut.cls ≠ "java/lang/invoke/MethodHandle" ∧ yX4_tryOut.cls ≠ "java/lang/invoke/VarHandle" ∧ (parseMethodDescriptor yX4_tryOut.desc).map (fun d => d.parameters.length) = some 2 := by decide +kernel
set_option maxRecDepth 100000 in
theorem im_X4_tryOut : Cond.instanceMethod yX4_tryOut ∈ tblG := tg1 (List.mem_of_getElem? (i := 475) (by decide +kernel)) rfl
set_option maxRecDepth 100000 in
theorem se_X4_tryOut : Cond.selects yX4_tryOut.cls yX4_tryOut yX4_tryOut ∈ tblG := tg (List.mem_append_left _ (List.mem_of_getElem? (i := 40) (by decide +kernel))) rfl
set_option maxRecDepth 100000 in
theorem cd_X5_init : Cond.code yX5_init cX5_init 1 none ∈ tblG := tg1 (List.mem_of_getElem? (i := 130) (by decide +kernel)) rfl
set_option maxRecDepth 100000 in
theorem ds_X5_init : yX5_init.cls ≠ "java/lang/invoke/MethodHandle" ∧ yX5_init.cls ≠ "java/lang/invoke/VarHandle" ∧ (parseMethodDescriptor yX5_init.desc).map (fun d => d.parameters.length) = some 0 := by decide +kernel
set_option maxRecDepth 100000 in
theorem im_X5_init : Cond.instanceMethod yX5_init ∈ tblG := tg1 (List.mem_of_getElem? (i := 129) (by decide +kernel)) rfl
set_option maxRecDepth 100000 in
theorem cd_X5_addEntry : Cond.code yX5_addEntry cX5_addEntry 3 (some .boolean) ∈ tblG := tg1 (List.mem_of_getElem? (i := 805) (by decide +kernel)) rfl
set_option maxRecDepth 100000 in
theorem ds_X5_addEntry : yX5_addEntry.cls ≠ "java/lang/invoke/MethodHandle" ∧ yX5_addEntry.cls ≠ "java/lang/invoke/VarHandle" ∧ (parseMethodDescriptor yX5_addEntry.desc).map (fun d => d.parameters.length) = some 2 := by decide +kernel
set_option maxRecDepth 100000 in
theorem im_X5_addEntry : Cond.instanceMethod yX5_addEntry ∈ tblG := tg1 (List.mem_of_getElem? (i := 804) (by decide +kernel)) rfl
set_option maxRecDepth 100000 in
theorem se_X5_addEntry : Cond.selects yX5_addEntry.cls yX5_addEntry yX5_addEntry ∈ tblG := tg (List.mem_append_left _ (List.mem_of_getElem? (i := 92) (by decide +kernel))) rfl
set_option maxRecDepth 100000 in
theorem cd_X5_addSaid : Cond.code yX5_addSaid cX5_addSaid 4 (some .boolean) ∈ tblG := tg1 (List.mem_of_getElem? (i := 759) (by decide +kernel)) rfl
set_option maxRecDepth 100000 in
theorem ds_X5_addSaid : yX5_addSaid.cls ≠ "java/lang/invoke/MethodHandle" ∧ yX5_addSaid.cls ≠ "java/lang/invoke/VarHandle" ∧ (parseMethodDescriptor yX5_addSaid.desc).map (fun d => d.parameters.length) = some 3 := by decide +kernel
set_option maxRecDepth 100000 in
theorem im_X5_addSaid : Cond.instanceMethod yX5_addSaid ∈ tblG := tg1 (List.mem_of_getElem? (i := 758) (by decide +kernel)) rfl
set_option maxRecDepth 100000 in
theorem se_X5_addSaid : Cond.selects yX5_addSaid.cls yX5_addSaid yX5_addSaid ∈ tblG := tg (List.mem_append_left _ (List.mem_of_getElem? (i := 86) (by decide +kernel))) rfl
set_option maxRecDepth 100000 in
theorem cd_X5_bestToAsk : Cond.code yX5_bestToAsk cX5_bestToAsk 7 (some .int) ∈ tblG := tg1 (List.mem_of_getElem? (i := 781) (by decide +kernel)) rfl
set_option maxRecDepth 100000 in
theorem ds_X5_bestToAsk : yX5_bestToAsk.cls ≠ "java/lang/invoke/MethodHandle" ∧ yX5_bestToAsk.cls ≠ "java/lang/invoke/VarHandle" ∧ (parseMethodDescriptor yX5_bestToAsk.desc).map (fun d => d.parameters.length) = some 1 := by decide +kernel
set_option maxRecDepth 100000 in
theorem im_X5_bestToAsk : Cond.instanceMethod yX5_bestToAsk ∈ tblG := tg1 (List.mem_of_getElem? (i := 780) (by decide +kernel)) rfl
set_option maxRecDepth 100000 in
theorem se_X5_bestToAsk : Cond.selects yX5_bestToAsk.cls yX5_bestToAsk yX5_bestToAsk ∈ tblG := tg (List.mem_append_left _ (List.mem_of_getElem? (i := 89) (by decide +kernel))) rfl
set_option maxRecDepth 100000 in
theorem cd_X5_clear : Cond.code yX5_clear cX5_clear 1 none ∈ tblG := tg1 (List.mem_of_getElem? (i := 437) (by decide +kernel)) rfl
set_option maxRecDepth 100000 in
theorem ds_X5_clear : yX5_clear.cls ≠ "java/lang/invoke/MethodHandle" ∧ yX5_clear.cls ≠ "java/lang/invoke/VarHandle" ∧ (parseMethodDescriptor yX5_clear.desc).map (fun d => d.parameters.length) = some 0 := by decide +kernel
set_option maxRecDepth 100000 in
theorem im_X5_clear : Cond.instanceMethod yX5_clear ∈ tblG := tg1 (List.mem_of_getElem? (i := 436) (by decide +kernel)) rfl
set_option maxRecDepth 100000 in
theorem se_X5_clear : Cond.selects yX5_clear.cls yX5_clear yX5_clear ∈ tblG := tg (List.mem_append_left _ (List.mem_of_getElem? (i := 34) (by decide +kernel))) rfl
set_option maxRecDepth 100000 in
theorem cd_X5_firstWrong : Cond.code yX5_firstWrong cX5_firstWrong 4 (some .int) ∈ tblG := tg1 (List.mem_of_getElem? (i := 813) (by decide +kernel)) rfl
set_option maxRecDepth 100000 in
theorem ds_X5_firstWrong : yX5_firstWrong.cls ≠ "java/lang/invoke/MethodHandle" ∧ yX5_firstWrong.cls ≠ "java/lang/invoke/VarHandle" ∧ (parseMethodDescriptor yX5_firstWrong.desc).map (fun d => d.parameters.length) = some 1 := by decide +kernel
set_option maxRecDepth 100000 in
theorem im_X5_firstWrong : Cond.instanceMethod yX5_firstWrong ∈ tblG := tg1 (List.mem_of_getElem? (i := 812) (by decide +kernel)) rfl
set_option maxRecDepth 100000 in
theorem se_X5_firstWrong : Cond.selects yX5_firstWrong.cls yX5_firstWrong yX5_firstWrong ∈ tblG := tg (List.mem_append_left _ (List.mem_of_getElem? (i := 93) (by decide +kernel))) rfl
set_option maxRecDepth 100000 in
theorem cd_X5_fits : Cond.code yX5_fits cX5_fits 4 (some .boolean) ∈ tblG := tg1 (List.mem_of_getElem? (i := 771) (by decide +kernel)) rfl
set_option maxRecDepth 100000 in
theorem ds_X5_fits : yX5_fits.cls ≠ "java/lang/invoke/MethodHandle" ∧ yX5_fits.cls ≠ "java/lang/invoke/VarHandle" ∧ (parseMethodDescriptor yX5_fits.desc).map (fun d => d.parameters.length) = some 2 := by decide +kernel
set_option maxRecDepth 100000 in
theorem im_X5_fits : Cond.instanceMethod yX5_fits ∈ tblG := tg1 (List.mem_of_getElem? (i := 770) (by decide +kernel)) rfl
set_option maxRecDepth 100000 in
theorem se_X5_fits : Cond.selects yX5_fits.cls yX5_fits yX5_fits ∈ tblG := tg (List.mem_append_left _ (List.mem_of_getElem? (i := 88) (by decide +kernel))) rfl
set_option maxRecDepth 100000 in
theorem cd_X5_fitting : Cond.code yX5_fitting cX5_fitting 4 (some .int) ∈ tblG := tg1 (List.mem_of_getElem? (i := 767) (by decide +kernel)) rfl
set_option maxRecDepth 100000 in
theorem ds_X5_fitting : yX5_fitting.cls ≠ "java/lang/invoke/MethodHandle" ∧ yX5_fitting.cls ≠ "java/lang/invoke/VarHandle" ∧ (parseMethodDescriptor yX5_fitting.desc).map (fun d => d.parameters.length) = some 1 := by decide +kernel
set_option maxRecDepth 100000 in
theorem im_X5_fitting : Cond.instanceMethod yX5_fitting ∈ tblG := tg1 (List.mem_of_getElem? (i := 766) (by decide +kernel)) rfl
set_option maxRecDepth 100000 in
theorem se_X5_fitting : Cond.selects yX5_fitting.cls yX5_fitting yX5_fitting ∈ tblG := tg (List.mem_append_left _ (List.mem_of_getElem? (i := 87) (by decide +kernel))) rfl
set_option maxRecDepth 100000 in
theorem cd_X5_greatestPart : Cond.code yX5_greatestPart cX5_greatestPart 6 (some .int) ∈ tblG := tg1 (List.mem_of_getElem? (i := 792) (by decide +kernel)) rfl
set_option maxRecDepth 100000 in
theorem ds_X5_greatestPart : yX5_greatestPart.cls ≠ "java/lang/invoke/MethodHandle" ∧ yX5_greatestPart.cls ≠ "java/lang/invoke/VarHandle" ∧ (parseMethodDescriptor yX5_greatestPart.desc).map (fun d => d.parameters.length) = some 3 := by decide +kernel
set_option maxRecDepth 100000 in
theorem im_X5_greatestPart : Cond.instanceMethod yX5_greatestPart ∈ tblG := tg1 (List.mem_of_getElem? (i := 791) (by decide +kernel)) rfl
set_option maxRecDepth 100000 in
theorem se_X5_greatestPart : Cond.selects yX5_greatestPart.cls yX5_greatestPart yX5_greatestPart ∈ tblG := tg (List.mem_append_left _ (List.mem_of_getElem? (i := 90) (by decide +kernel))) rfl
set_option maxRecDepth 100000 in
theorem cd_X5_partWith : Cond.code yX5_partWith cX5_partWith 7 (some .int) ∈ tblG := tg1 (List.mem_of_getElem? (i := 796) (by decide +kernel)) rfl
set_option maxRecDepth 100000 in
theorem ds_X5_partWith : yX5_partWith.cls ≠ "java/lang/invoke/MethodHandle" ∧ yX5_partWith.cls ≠ "java/lang/invoke/VarHandle" ∧ (parseMethodDescriptor yX5_partWith.desc).map (fun d => d.parameters.length) = some 4 := by decide +kernel
set_option maxRecDepth 100000 in
theorem im_X5_partWith : Cond.instanceMethod yX5_partWith ∈ tblG := tg1 (List.mem_of_getElem? (i := 795) (by decide +kernel)) rfl
set_option maxRecDepth 100000 in
theorem se_X5_partWith : Cond.selects yX5_partWith.cls yX5_partWith yX5_partWith ∈ tblG := tg (List.mem_append_left _ (List.mem_of_getElem? (i := 91) (by decide +kernel))) rfl
set_option maxRecDepth 100000 in
theorem cd_X6_init : Cond.code yX6_init cX6_init 1 none ∈ tblG := tg1 (List.mem_of_getElem? (i := 160) (by decide +kernel)) rfl
set_option maxRecDepth 100000 in
theorem ds_X6_init : yX6_init.cls ≠ "java/lang/invoke/MethodHandle" ∧ yX6_init.cls ≠ "java/lang/invoke/VarHandle" ∧ (parseMethodDescriptor yX6_init.desc).map (fun d => d.parameters.length) = some 0 := by decide +kernel
set_option maxRecDepth 100000 in
theorem im_X6_init : Cond.instanceMethod yX6_init ∈ tblG := tg1 (List.mem_of_getElem? (i := 159) (by decide +kernel)) rfl
set_option maxRecDepth 100000 in
theorem cd_X6_add : Cond.code yX6_add cX6_add 4 (some .boolean) ∈ tblG := tg1 (List.mem_of_getElem? (i := 360) (by decide +kernel)) rfl
set_option maxRecDepth 100000 in
theorem ds_X6_add : yX6_add.cls ≠ "java/lang/invoke/MethodHandle" ∧ yX6_add.cls ≠ "java/lang/invoke/VarHandle" ∧ (parseMethodDescriptor yX6_add.desc).map (fun d => d.parameters.length) = some 2 := by decide +kernel
set_option maxRecDepth 100000 in
theorem im_X6_add : Cond.instanceMethod yX6_add ∈ tblG := tg1 (List.mem_of_getElem? (i := 359) (by decide +kernel)) rfl
set_option maxRecDepth 100000 in
theorem se_X6_add : Cond.selects yX6_add.cls yX6_add yX6_add ∈ tblG := tg (List.mem_append_left _ (List.mem_of_getElem? (i := 16) (by decide +kernel))) rfl
set_option maxRecDepth 100000 in
theorem cd_X6_areKin : Cond.code yX6_areKin cX6_areKin 3 (some .boolean) ∈ tblG := tg1 (List.mem_of_getElem? (i := 405) (by decide +kernel)) rfl
set_option maxRecDepth 100000 in
theorem ds_X6_areKin : yX6_areKin.cls ≠ "java/lang/invoke/MethodHandle" ∧ yX6_areKin.cls ≠ "java/lang/invoke/VarHandle" ∧ (parseMethodDescriptor yX6_areKin.desc).map (fun d => d.parameters.length) = some 2 := by decide +kernel
set_option maxRecDepth 100000 in
theorem im_X6_areKin : Cond.instanceMethod yX6_areKin ∈ tblG := tg1 (List.mem_of_getElem? (i := 404) (by decide +kernel)) rfl
set_option maxRecDepth 100000 in
theorem se_X6_areKin : Cond.selects yX6_areKin.cls yX6_areKin yX6_areKin ∈ tblG := tg (List.mem_append_left _ (List.mem_of_getElem? (i := 27) (by decide +kernel))) rfl
set_option maxRecDepth 100000 in
theorem cd_X6_clear : Cond.code yX6_clear cX6_clear 1 none ∈ tblG := tg1 (List.mem_of_getElem? (i := 298) (by decide +kernel)) rfl
set_option maxRecDepth 100000 in
theorem ds_X6_clear : yX6_clear.cls ≠ "java/lang/invoke/MethodHandle" ∧ yX6_clear.cls ≠ "java/lang/invoke/VarHandle" ∧ (parseMethodDescriptor yX6_clear.desc).map (fun d => d.parameters.length) = some 0 := by decide +kernel
set_option maxRecDepth 100000 in
theorem im_X6_clear : Cond.instanceMethod yX6_clear ∈ tblG := tg1 (List.mem_of_getElem? (i := 297) (by decide +kernel)) rfl
set_option maxRecDepth 100000 in
theorem se_X6_clear : Cond.selects yX6_clear.cls yX6_clear yX6_clear ∈ tblG := tg (List.mem_append_left _ (List.mem_of_getElem? (i := 2) (by decide +kernel))) rfl
set_option maxRecDepth 100000 in
theorem cd_X6_countNeeds : Cond.code yX6_countNeeds cX6_countNeeds 5 none ∈ tblG := tg1 (List.mem_of_getElem? (i := 376) (by decide +kernel)) rfl
set_option maxRecDepth 100000 in
theorem ds_X6_countNeeds : yX6_countNeeds.cls ≠ "java/lang/invoke/MethodHandle" ∧ yX6_countNeeds.cls ≠ "java/lang/invoke/VarHandle" ∧ (parseMethodDescriptor yX6_countNeeds.desc).map (fun d => d.parameters.length) = some 1 := by decide +kernel
set_option maxRecDepth 100000 in
theorem im_X6_countNeeds : Cond.instanceMethod yX6_countNeeds ∈ tblG := tg1 (List.mem_of_getElem? (i := 375) (by decide +kernel)) rfl
set_option maxRecDepth 100000 in
theorem se_X6_countNeeds : Cond.selects yX6_countNeeds.cls yX6_countNeeds yX6_countNeeds ∈ tblG := tg (List.mem_append_left _ (List.mem_of_getElem? (i := 20) (by decide +kernel))) rfl
set_option maxRecDepth 100000 in
theorem cd_X6_farSet : Cond.code yX6_farSet cX6_farSet 6 (some .int) ∈ tblG := tg1 (List.mem_of_getElem? (i := 733) (by decide +kernel)) rfl
set_option maxRecDepth 100000 in
theorem ds_X6_farSet : yX6_farSet.cls ≠ "java/lang/invoke/MethodHandle" ∧ yX6_farSet.cls ≠ "java/lang/invoke/VarHandle" ∧ (parseMethodDescriptor yX6_farSet.desc).map (fun d => d.parameters.length) = some 2 := by decide +kernel
set_option maxRecDepth 100000 in
theorem im_X6_farSet : Cond.instanceMethod yX6_farSet ∈ tblG := tg1 (List.mem_of_getElem? (i := 732) (by decide +kernel)) rfl
set_option maxRecDepth 100000 in
theorem se_X6_farSet : Cond.selects yX6_farSet.cls yX6_farSet yX6_farSet ∈ tblG := tg (List.mem_append_left _ (List.mem_of_getElem? (i := 83) (by decide +kernel))) rfl
set_option maxRecDepth 100000 in
theorem cd_X6_farthest : Cond.code yX6_farthest cX6_farthest 4 (some .int) ∈ tblG := tg1 (List.mem_of_getElem? (i := 530) (by decide +kernel)) rfl
set_option maxRecDepth 100000 in
theorem ds_X6_farthest : yX6_farthest.cls ≠ "java/lang/invoke/MethodHandle" ∧ yX6_farthest.cls ≠ "java/lang/invoke/VarHandle" ∧ (parseMethodDescriptor yX6_farthest.desc).map (fun d => d.parameters.length) = some 0 := by decide +kernel
set_option maxRecDepth 100000 in
theorem im_X6_farthest : Cond.instanceMethod yX6_farthest ∈ tblG := tg1 (List.mem_of_getElem? (i := 529) (by decide +kernel)) rfl
set_option maxRecDepth 100000 in
theorem se_X6_farthest : Cond.selects yX6_farthest.cls yX6_farthest yX6_farthest ∈ tblG := tg (List.mem_append_left _ (List.mem_of_getElem? (i := 52) (by decide +kernel))) rfl
set_option maxRecDepth 100000 in
theorem cd_X6_has : Cond.code yX6_has cX6_has 2 (some .boolean) ∈ tblG := tg1 (List.mem_of_getElem? (i := 538) (by decide +kernel)) rfl
set_option maxRecDepth 100000 in
theorem ds_X6_has : yX6_has.cls ≠ "java/lang/invoke/MethodHandle" ∧ yX6_has.cls ≠ "java/lang/invoke/VarHandle" ∧ (parseMethodDescriptor yX6_has.desc).map (fun d => d.parameters.length) = some 1 := by decide +kernel
set_option maxRecDepth 100000 in
theorem im_X6_has : Cond.instanceMethod yX6_has ∈ tblG := tg1 (List.mem_of_getElem? (i := 537) (by decide +kernel)) rfl
set_option maxRecDepth 100000 in
theorem se_X6_has : Cond.selects yX6_has.cls yX6_has yX6_has ∈ tblG := tg (List.mem_append_left _ (List.mem_of_getElem? (i := 54) (by decide +kernel))) rfl
set_option maxRecDepth 100000 in
theorem cd_X6_inBoth : Cond.code yX6_inBoth cX6_inBoth 5 (some .int) ∈ tblG := tg1 (List.mem_of_getElem? (i := 396) (by decide +kernel)) rfl
set_option maxRecDepth 100000 in
theorem ds_X6_inBoth : yX6_inBoth.cls ≠ "java/lang/invoke/MethodHandle" ∧ yX6_inBoth.cls ≠ "java/lang/invoke/VarHandle" ∧ (parseMethodDescriptor yX6_inBoth.desc).map (fun d => d.parameters.length) = some 2 := by decide +kernel
set_option maxRecDepth 100000 in
theorem im_X6_inBoth : Cond.instanceMethod yX6_inBoth ∈ tblG := tg1 (List.mem_of_getElem? (i := 395) (by decide +kernel)) rfl
set_option maxRecDepth 100000 in
theorem se_X6_inBoth : Cond.selects yX6_inBoth.cls yX6_inBoth yX6_inBoth ∈ tblG := tg (List.mem_append_left _ (List.mem_of_getElem? (i := 25) (by decide +kernel))) rfl
set_option maxRecDepth 100000 in
theorem cd_X6_insideOf : Cond.code yX6_insideOf cX6_insideOf 4 (some .int) ∈ tblG := tg1 (List.mem_of_getElem? (i := 557) (by decide +kernel)) rfl
set_option maxRecDepth 100000 in
theorem ds_X6_insideOf : yX6_insideOf.cls ≠ "java/lang/invoke/MethodHandle" ∧ yX6_insideOf.cls ≠ "java/lang/invoke/VarHandle" ∧ (parseMethodDescriptor yX6_insideOf.desc).map (fun d => d.parameters.length) = some 1 := by decide +kernel
set_option maxRecDepth 100000 in
theorem im_X6_insideOf : Cond.instanceMethod yX6_insideOf ∈ tblG := tg1 (List.mem_of_getElem? (i := 556) (by decide +kernel)) rfl
set_option maxRecDepth 100000 in
theorem se_X6_insideOf : Cond.selects yX6_insideOf.cls yX6_insideOf yX6_insideOf ∈ tblG := tg (List.mem_append_left _ (List.mem_of_getElem? (i := 56) (by decide +kernel))) rfl
set_option maxRecDepth 100000 in
theorem cd_X6_isLonger : Cond.code yX6_isLonger cX6_isLonger 5 (some .boolean) ∈ tblG := tg1 (List.mem_of_getElem? (i := 409) (by decide +kernel)) rfl
set_option maxRecDepth 100000 in
theorem ds_X6_isLonger : yX6_isLonger.cls ≠ "java/lang/invoke/MethodHandle" ∧ yX6_isLonger.cls ≠ "java/lang/invoke/VarHandle" ∧ (parseMethodDescriptor yX6_isLonger.desc).map (fun d => d.parameters.length) = some 2 := by decide +kernel
set_option maxRecDepth 100000 in
theorem im_X6_isLonger : Cond.instanceMethod yX6_isLonger ∈ tblG := tg1 (List.mem_of_getElem? (i := 408) (by decide +kernel)) rfl
set_option maxRecDepth 100000 in
theorem se_X6_isLonger : Cond.selects yX6_isLonger.cls yX6_isLonger yX6_isLonger ∈ tblG := tg (List.mem_append_left _ (List.mem_of_getElem? (i := 28) (by decide +kernel))) rfl
set_option maxRecDepth 100000 in
theorem cd_X6_isMirror : Cond.code yX6_isMirror cX6_isMirror 4 (some .boolean) ∈ tblG := tg1 (List.mem_of_getElem? (i := 392) (by decide +kernel)) rfl
set_option maxRecDepth 100000 in
theorem ds_X6_isMirror : yX6_isMirror.cls ≠ "java/lang/invoke/MethodHandle" ∧ yX6_isMirror.cls ≠ "java/lang/invoke/VarHandle" ∧ (parseMethodDescriptor yX6_isMirror.desc).map (fun d => d.parameters.length) = some 1 := by decide +kernel
set_option maxRecDepth 100000 in
theorem im_X6_isMirror : Cond.instanceMethod yX6_isMirror ∈ tblG := tg1 (List.mem_of_getElem? (i := 391) (by decide +kernel)) rfl
set_option maxRecDepth 100000 in
theorem se_X6_isMirror : Cond.selects yX6_isMirror.cls yX6_isMirror yX6_isMirror ∈ tblG := tg (List.mem_append_left _ (List.mem_of_getElem? (i := 24) (by decide +kernel))) rfl
set_option maxRecDepth 100000 in
theorem cd_X6_isStep : Cond.code yX6_isStep cX6_isStep 3 (some .boolean) ∈ tblG := tg1 (List.mem_of_getElem? (i := 401) (by decide +kernel)) rfl
set_option maxRecDepth 100000 in
theorem ds_X6_isStep : yX6_isStep.cls ≠ "java/lang/invoke/MethodHandle" ∧ yX6_isStep.cls ≠ "java/lang/invoke/VarHandle" ∧ (parseMethodDescriptor yX6_isStep.desc).map (fun d => d.parameters.length) = some 2 := by decide +kernel
set_option maxRecDepth 100000 in
theorem im_X6_isStep : Cond.instanceMethod yX6_isStep ∈ tblG := tg1 (List.mem_of_getElem? (i := 400) (by decide +kernel)) rfl
set_option maxRecDepth 100000 in
theorem se_X6_isStep : Cond.selects yX6_isStep.cls yX6_isStep yX6_isStep ∈ tblG := tg (List.mem_append_left _ (List.mem_of_getElem? (i := 26) (by decide +kernel))) rfl
set_option maxRecDepth 100000 in
theorem cd_X6_joinSteps : Cond.code yX6_joinSteps cX6_joinSteps 6 none ∈ tblG := tg1 (List.mem_of_getElem? (i := 413) (by decide +kernel)) rfl
set_option maxRecDepth 100000 in
theorem ds_X6_joinSteps : yX6_joinSteps.cls ≠ "java/lang/invoke/MethodHandle" ∧ yX6_joinSteps.cls ≠ "java/lang/invoke/VarHandle" ∧ (parseMethodDescriptor yX6_joinSteps.desc).map (fun d => d.parameters.length) = some 0 := by decide +kernel
set_option maxRecDepth 100000 in
theorem im_X6_joinSteps : Cond.instanceMethod yX6_joinSteps ∈ tblG := tg1 (List.mem_of_getElem? (i := 412) (by decide +kernel)) rfl
set_option maxRecDepth 100000 in
theorem se_X6_joinSteps : Cond.selects yX6_joinSteps.cls yX6_joinSteps yX6_joinSteps ∈ tblG := tg (List.mem_append_left _ (List.mem_of_getElem? (i := 29) (by decide +kernel))) rfl
set_option maxRecDepth 100000 in
theorem cd_X6_kinOf : Cond.code yX6_kinOf cX6_kinOf 4 (some .int) ∈ tblG := tg1 (List.mem_of_getElem? (i := 553) (by decide +kernel)) rfl
set_option maxRecDepth 100000 in
theorem ds_X6_kinOf : yX6_kinOf.cls ≠ "java/lang/invoke/MethodHandle" ∧ yX6_kinOf.cls ≠ "java/lang/invoke/VarHandle" ∧ (parseMethodDescriptor yX6_kinOf.desc).map (fun d => d.parameters.length) = some 1 := by decide +kernel
set_option maxRecDepth 100000 in
theorem im_X6_kinOf : Cond.instanceMethod yX6_kinOf ∈ tblG := tg1 (List.mem_of_getElem? (i := 552) (by decide +kernel)) rfl
set_option maxRecDepth 100000 in
theorem se_X6_kinOf : Cond.selects yX6_kinOf.cls yX6_kinOf yX6_kinOf ∈ tblG := tg (List.mem_append_left _ (List.mem_of_getElem? (i := 55) (by decide +kernel))) rfl
set_option maxRecDepth 100000 in
theorem cd_X6_lengthOf : Cond.code yX6_lengthOf cX6_lengthOf 2 (some .int) ∈ tblG := tg1 (List.mem_of_getElem? (i := 653) (by decide +kernel)) rfl
set_option maxRecDepth 100000 in
theorem ds_X6_lengthOf : yX6_lengthOf.cls ≠ "java/lang/invoke/MethodHandle" ∧ yX6_lengthOf.cls ≠ "java/lang/invoke/VarHandle" ∧ (parseMethodDescriptor yX6_lengthOf.desc).map (fun d => d.parameters.length) = some 1 := by decide +kernel
set_option maxRecDepth 100000 in
theorem im_X6_lengthOf : Cond.instanceMethod yX6_lengthOf ∈ tblG := tg1 (List.mem_of_getElem? (i := 652) (by decide +kernel)) rfl
set_option maxRecDepth 100000 in
theorem se_X6_lengthOf : Cond.selects yX6_lengthOf.cls yX6_lengthOf yX6_lengthOf ∈ tblG := tg (List.mem_append_left _ (List.mem_of_getElem? (i := 71) (by decide +kernel))) rfl
set_option maxRecDepth 100000 in
theorem cd_X6_letterAt : Cond.code yX6_letterAt cX6_letterAt 3 (some .int) ∈ tblG := tg1 (List.mem_of_getElem? (i := 380) (by decide +kernel)) rfl
set_option maxRecDepth 100000 in
theorem ds_X6_letterAt : yX6_letterAt.cls ≠ "java/lang/invoke/MethodHandle" ∧ yX6_letterAt.cls ≠ "java/lang/invoke/VarHandle" ∧ (parseMethodDescriptor yX6_letterAt.desc).map (fun d => d.parameters.length) = some 2 := by decide +kernel
set_option maxRecDepth 100000 in
theorem im_X6_letterAt : Cond.instanceMethod yX6_letterAt ∈ tblG := tg1 (List.mem_of_getElem? (i := 379) (by decide +kernel)) rfl
set_option maxRecDepth 100000 in
theorem se_X6_letterAt : Cond.selects yX6_letterAt.cls yX6_letterAt yX6_letterAt ∈ tblG := tg (List.mem_append_left _ (List.mem_of_getElem? (i := 21) (by decide +kernel))) rfl
set_option maxRecDepth 100000 in
theorem cd_X6_moreOf : Cond.code yX6_moreOf cX6_moreOf 3 (some .int) ∈ tblG := tg1 (List.mem_of_getElem? (i := 745) (by decide +kernel)) rfl
set_option maxRecDepth 100000 in
theorem ds_X6_moreOf : yX6_moreOf.cls ≠ "java/lang/invoke/MethodHandle" ∧ yX6_moreOf.cls ≠ "java/lang/invoke/VarHandle" ∧ (parseMethodDescriptor yX6_moreOf.desc).map (fun d => d.parameters.length) = some 2 := by decide +kernel
set_option maxRecDepth 100000 in
theorem im_X6_moreOf : Cond.instanceMethod yX6_moreOf ∈ tblG := tg1 (List.mem_of_getElem? (i := 744) (by decide +kernel)) rfl
set_option maxRecDepth 100000 in
theorem se_X6_moreOf : Cond.selects yX6_moreOf.cls yX6_moreOf yX6_moreOf ∈ tblG := tg (List.mem_append_left _ (List.mem_of_getElem? (i := 85) (by decide +kernel))) rfl
set_option maxRecDepth 100000 in
theorem cd_X6_needOf : Cond.code yX6_needOf cX6_needOf 3 (some .int) ∈ tblG := tg1 (List.mem_of_getElem? (i := 388) (by decide +kernel)) rfl
set_option maxRecDepth 100000 in
theorem ds_X6_needOf : yX6_needOf.cls ≠ "java/lang/invoke/MethodHandle" ∧ yX6_needOf.cls ≠ "java/lang/invoke/VarHandle" ∧ (parseMethodDescriptor yX6_needOf.desc).map (fun d => d.parameters.length) = some 2 := by decide +kernel
set_option maxRecDepth 100000 in
theorem im_X6_needOf : Cond.instanceMethod yX6_needOf ∈ tblG := tg1 (List.mem_of_getElem? (i := 387) (by decide +kernel)) rfl
set_option maxRecDepth 100000 in
theorem se_X6_needOf : Cond.selects yX6_needOf.cls yX6_needOf yX6_needOf ∈ tblG := tg (List.mem_append_left _ (List.mem_of_getElem? (i := 23) (by decide +kernel))) rfl
set_option maxRecDepth 100000 in
theorem cd_X6_nextTo : Cond.code yX6_nextTo cX6_nextTo 5 (some .int) ∈ tblG := tg1 (List.mem_of_getElem? (i := 725) (by decide +kernel)) rfl
set_option maxRecDepth 100000 in
theorem ds_X6_nextTo : yX6_nextTo.cls ≠ "java/lang/invoke/MethodHandle" ∧ yX6_nextTo.cls ≠ "java/lang/invoke/VarHandle" ∧ (parseMethodDescriptor yX6_nextTo.desc).map (fun d => d.parameters.length) = some 2 := by decide +kernel
set_option maxRecDepth 100000 in
theorem im_X6_nextTo : Cond.instanceMethod yX6_nextTo ∈ tblG := tg1 (List.mem_of_getElem? (i := 724) (by decide +kernel)) rfl
set_option maxRecDepth 100000 in
theorem se_X6_nextTo : Cond.selects yX6_nextTo.cls yX6_nextTo yX6_nextTo ∈ tblG := tg (List.mem_append_left _ (List.mem_of_getElem? (i := 82) (by decide +kernel))) rfl
set_option maxRecDepth 100000 in
theorem cd_X6_prepare : Cond.code yX6_prepare cX6_prepare 4 none ∈ tblG := tg1 (List.mem_of_getElem? (i := 372) (by decide +kernel)) rfl
set_option maxRecDepth 100000 in
theorem ds_X6_prepare : yX6_prepare.cls ≠ "java/lang/invoke/MethodHandle" ∧ yX6_prepare.cls ≠ "java/lang/invoke/VarHandle" ∧ (parseMethodDescriptor yX6_prepare.desc).map (fun d => d.parameters.length) = some 0 := by decide +kernel
set_option maxRecDepth 100000 in
theorem im_X6_prepare : Cond.instanceMethod yX6_prepare ∈ tblG := tg1 (List.mem_of_getElem? (i := 371) (by decide +kernel)) rfl
set_option maxRecDepth 100000 in
theorem se_X6_prepare : Cond.selects yX6_prepare.cls yX6_prepare yX6_prepare ∈ tblG := tg (List.mem_append_left _ (List.mem_of_getElem? (i := 19) (by decide +kernel))) rfl
set_option maxRecDepth 100000 in
theorem cd_X6_rightOf : Cond.code yX6_rightOf cX6_rightOf 3 (some .int) ∈ tblG := tg1 (List.mem_of_getElem? (i := 741) (by decide +kernel)) rfl
set_option maxRecDepth 100000 in
theorem ds_X6_rightOf : yX6_rightOf.cls ≠ "java/lang/invoke/MethodHandle" ∧ yX6_rightOf.cls ≠ "java/lang/invoke/VarHandle" ∧ (parseMethodDescriptor yX6_rightOf.desc).map (fun d => d.parameters.length) = some 2 := by decide +kernel
set_option maxRecDepth 100000 in
theorem im_X6_rightOf : Cond.instanceMethod yX6_rightOf ∈ tblG := tg1 (List.mem_of_getElem? (i := 740) (by decide +kernel)) rfl
set_option maxRecDepth 100000 in
theorem se_X6_rightOf : Cond.selects yX6_rightOf.cls yX6_rightOf yX6_rightOf ∈ tblG := tg (List.mem_append_left _ (List.mem_of_getElem? (i := 84) (by decide +kernel))) rfl
set_option maxRecDepth 100000 in
theorem cd_X6_samePlaces : Cond.code yX6_samePlaces cX6_samePlaces 5 (some .int) ∈ tblG := tg1 (List.mem_of_getElem? (i := 364) (by decide +kernel)) rfl
set_option maxRecDepth 100000 in
theorem ds_X6_samePlaces : yX6_samePlaces.cls ≠ "java/lang/invoke/MethodHandle" ∧ yX6_samePlaces.cls ≠ "java/lang/invoke/VarHandle" ∧ (parseMethodDescriptor yX6_samePlaces.desc).map (fun d => d.parameters.length) = some 2 := by decide +kernel
set_option maxRecDepth 100000 in
theorem im_X6_samePlaces : Cond.instanceMethod yX6_samePlaces ∈ tblG := tg1 (List.mem_of_getElem? (i := 363) (by decide +kernel)) rfl
set_option maxRecDepth 100000 in
theorem se_X6_samePlaces : Cond.selects yX6_samePlaces.cls yX6_samePlaces yX6_samePlaces ∈ tblG := tg (List.mem_append_left _ (List.mem_of_getElem? (i := 17) (by decide +kernel))) rfl
set_option maxRecDepth 100000 in
theorem cd_X6_spell : Cond.code yX6_spell cX6_spell 3 none ∈ tblG := tg1 (List.mem_of_getElem? (i := 368) (by decide +kernel)) rfl
set_option maxRecDepth 100000 in
theorem ds_X6_spell : yX6_spell.cls ≠ "java/lang/invoke/MethodHandle" ∧ yX6_spell.cls ≠ "java/lang/invoke/VarHandle" ∧ (parseMethodDescriptor yX6_spell.desc).map (fun d => d.parameters.length) = some 2 := by decide +kernel
set_option maxRecDepth 100000 in
theorem im_X6_spell : Cond.instanceMethod yX6_spell ∈ tblG := tg1 (List.mem_of_getElem? (i := 367) (by decide +kernel)) rfl
set_option maxRecDepth 100000 in
theorem se_X6_spell : Cond.selects yX6_spell.cls yX6_spell yX6_spell ∈ tblG := tg (List.mem_append_left _ (List.mem_of_getElem? (i := 18) (by decide +kernel))) rfl
set_option maxRecDepth 100000 in
theorem cd_X6_stepsTo : Cond.code yX6_stepsTo cX6_stepsTo 4 (some .int) ∈ tblG := tg1 (List.mem_of_getElem? (i := 534) (by decide +kernel)) rfl
set_option maxRecDepth 100000 in
theorem ds_X6_stepsTo : yX6_stepsTo.cls ≠ "java/lang/invoke/MethodHandle" ∧ yX6_stepsTo.cls ≠ "java/lang/invoke/VarHandle" ∧ (parseMethodDescriptor yX6_stepsTo.desc).map (fun d => d.parameters.length) = some 2 := by decide +kernel
set_option maxRecDepth 100000 in
theorem im_X6_stepsTo : Cond.instanceMethod yX6_stepsTo ∈ tblG := tg1 (List.mem_of_getElem? (i := 533) (by decide +kernel)) rfl
set_option maxRecDepth 100000 in
theorem se_X6_stepsTo : Cond.selects yX6_stepsTo.cls yX6_stepsTo yX6_stepsTo ∈ tblG := tg (List.mem_append_left _ (List.mem_of_getElem? (i := 53) (by decide +kernel))) rfl
set_option maxRecDepth 100000 in
theorem cd_X6_unused : Cond.code yX6_unused cX6_unused 4 (some .int) ∈ tblG := tg1 (List.mem_of_getElem? (i := 526) (by decide +kernel)) rfl
set_option maxRecDepth 100000 in
theorem ds_X6_unused : yX6_unused.cls ≠ "java/lang/invoke/MethodHandle" ∧ yX6_unused.cls ≠ "java/lang/invoke/VarHandle" ∧ (parseMethodDescriptor yX6_unused.desc).map (fun d => d.parameters.length) = some 0 := by decide +kernel
set_option maxRecDepth 100000 in
theorem im_X6_unused : Cond.instanceMethod yX6_unused ∈ tblG := tg1 (List.mem_of_getElem? (i := 525) (by decide +kernel)) rfl
set_option maxRecDepth 100000 in
theorem se_X6_unused : Cond.selects yX6_unused.cls yX6_unused yX6_unused ∈ tblG := tg (List.mem_append_left _ (List.mem_of_getElem? (i := 51) (by decide +kernel))) rfl
set_option maxRecDepth 100000 in
theorem cd_X6_worthOf : Cond.code yX6_worthOf cX6_worthOf 4 (some .int) ∈ tblG := tg1 (List.mem_of_getElem? (i := 384) (by decide +kernel)) rfl
set_option maxRecDepth 100000 in
theorem ds_X6_worthOf : yX6_worthOf.cls ≠ "java/lang/invoke/MethodHandle" ∧ yX6_worthOf.cls ≠ "java/lang/invoke/VarHandle" ∧ (parseMethodDescriptor yX6_worthOf.desc).map (fun d => d.parameters.length) = some 1 := by decide +kernel
set_option maxRecDepth 100000 in
theorem im_X6_worthOf : Cond.instanceMethod yX6_worthOf ∈ tblG := tg1 (List.mem_of_getElem? (i := 383) (by decide +kernel)) rfl
set_option maxRecDepth 100000 in
theorem se_X6_worthOf : Cond.selects yX6_worthOf.cls yX6_worthOf yX6_worthOf ∈ tblG := tg (List.mem_append_left _ (List.mem_of_getElem? (i := 22) (by decide +kernel))) rfl
set_option maxRecDepth 100000 in
theorem cd_X8_init : Cond.code yX8_init cX8_init 1 none ∈ tblG := tg1 (List.mem_of_getElem? (i := 836) (by decide +kernel)) rfl
set_option maxRecDepth 100000 in
theorem ds_X8_init : yX8_init.cls ≠ "java/lang/invoke/MethodHandle" ∧ yX8_init.cls ≠ "java/lang/invoke/VarHandle" ∧ (parseMethodDescriptor yX8_init.desc).map (fun d => d.parameters.length) = some 0 := by decide +kernel
set_option maxRecDepth 100000 in
theorem im_X8_init : Cond.instanceMethod yX8_init ∈ tblG := tg1 (List.mem_of_getElem? (i := 835) (by decide +kernel)) rfl
set_option maxRecDepth 100000 in
theorem cd_X8_areKin : Cond.code yX8_areKin cX8_areKin 3 (some .boolean) ∈ tblG := tg1 (List.mem_of_getElem? (i := 1063) (by decide +kernel)) rfl
set_option maxRecDepth 100000 in
theorem ds_X8_areKin : yX8_areKin.cls ≠ "java/lang/invoke/MethodHandle" ∧ yX8_areKin.cls ≠ "java/lang/invoke/VarHandle" ∧ (parseMethodDescriptor yX8_areKin.desc).map (fun d => d.parameters.length) = some 2 := by decide +kernel
set_option maxRecDepth 100000 in
theorem im_X8_areKin : Cond.instanceMethod yX8_areKin ∈ tblG := tg1 (List.mem_of_getElem? (i := 1062) (by decide +kernel)) rfl
set_option maxRecDepth 100000 in
theorem se_X8_areKin : Cond.selects yX8_areKin.cls yX8_areKin yX8_areKin ∈ tblG := tg (List.mem_append_left _ (List.mem_of_getElem? (i := 110) (by decide +kernel))) rfl
set_option maxRecDepth 100000 in
theorem cd_X8_ask : Cond.code yX8_ask cX8_ask 6 (some .int) ∈ tblG := tg1 (List.mem_of_getElem? (i := 1261) (by decide +kernel)) rfl
set_option maxRecDepth 100000 in
theorem ds_X8_ask : yX8_ask.cls ≠ "java/lang/invoke/MethodHandle" ∧ yX8_ask.cls ≠ "java/lang/invoke/VarHandle" ∧ (parseMethodDescriptor yX8_ask.desc).map (fun d => d.parameters.length) = some 0 := by decide +kernel
set_option maxRecDepth 100000 in
theorem im_X8_ask : Cond.instanceMethod yX8_ask ∈ tblG := tg1 (List.mem_of_getElem? (i := 1259) (by decide +kernel)) rfl
set_option maxRecDepth 100000 in
theorem se_X8_ask : Cond.selects yX8_ask.cls yX8_ask yX8_ask ∈ tblG := tg1 (List.mem_of_getElem? (i := 1260) (by decide +kernel)) rfl
set_option maxRecDepth 100000 in
theorem cd_X8_bestNow : Cond.code yX8_bestNow cX8_bestNow 3 (some .int) ∈ tblG := tg1 (List.mem_of_getElem? (i := 1305) (by decide +kernel)) rfl
set_option maxRecDepth 100000 in
theorem ds_X8_bestNow : yX8_bestNow.cls ≠ "java/lang/invoke/MethodHandle" ∧ yX8_bestNow.cls ≠ "java/lang/invoke/VarHandle" ∧ (parseMethodDescriptor yX8_bestNow.desc).map (fun d => d.parameters.length) = some 0 := by decide +kernel
set_option maxRecDepth 100000 in
theorem im_X8_bestNow : Cond.instanceMethod yX8_bestNow ∈ tblG := tg1 (List.mem_of_getElem? (i := 1304) (by decide +kernel)) rfl
set_option maxRecDepth 100000 in
theorem se_X8_bestNow : Cond.selects yX8_bestNow.cls yX8_bestNow yX8_bestNow ∈ tblG := tg (List.mem_append_left _ (List.mem_of_getElem? (i := 140) (by decide +kernel))) rfl
set_option maxRecDepth 100000 in
theorem cd_X8_byDraws : Cond.code yX8_byDraws cX8_byDraws 3 none ∈ tblG := tg1 (List.mem_of_getElem? (i := 1224) (by decide +kernel)) rfl
set_option maxRecDepth 100000 in
theorem ds_X8_byDraws : yX8_byDraws.cls ≠ "java/lang/invoke/MethodHandle" ∧ yX8_byDraws.cls ≠ "java/lang/invoke/VarHandle" ∧ (parseMethodDescriptor yX8_byDraws.desc).map (fun d => d.parameters.length) = some 0 := by decide +kernel
set_option maxRecDepth 100000 in
theorem im_X8_byDraws : Cond.instanceMethod yX8_byDraws ∈ tblG := tg1 (List.mem_of_getElem? (i := 1223) (by decide +kernel)) rfl
set_option maxRecDepth 100000 in
theorem se_X8_byDraws : Cond.selects yX8_byDraws.cls yX8_byDraws yX8_byDraws ∈ tblG := tg (List.mem_append_left _ (List.mem_of_getElem? (i := 135) (by decide +kernel))) rfl
set_option maxRecDepth 100000 in
theorem cd_X8_can : Cond.code yX8_can cX8_can 2 (some .boolean) ∈ tblG := tg1 (List.mem_of_getElem? (i := 1079) (by decide +kernel)) rfl
set_option maxRecDepth 100000 in
theorem ds_X8_can : yX8_can.cls ≠ "java/lang/invoke/MethodHandle" ∧ yX8_can.cls ≠ "java/lang/invoke/VarHandle" ∧ (parseMethodDescriptor yX8_can.desc).map (fun d => d.parameters.length) = some 1 := by decide +kernel
set_option maxRecDepth 100000 in
theorem im_X8_can : Cond.instanceMethod yX8_can ∈ tblG := tg1 (List.mem_of_getElem? (i := 1078) (by decide +kernel)) rfl
set_option maxRecDepth 100000 in
theorem se_X8_can : Cond.selects yX8_can.cls yX8_can yX8_can ∈ tblG := tg (List.mem_append_left _ (List.mem_of_getElem? (i := 114) (by decide +kernel))) rfl
set_option maxRecDepth 100000 in
theorem cd_X8_canSet : Cond.code yX8_canSet cX8_canSet 3 (some .int) ∈ tblG := tg1 (List.mem_of_getElem? (i := 1301) (by decide +kernel)) rfl
set_option maxRecDepth 100000 in
theorem ds_X8_canSet : yX8_canSet.cls ≠ "java/lang/invoke/MethodHandle" ∧ yX8_canSet.cls ≠ "java/lang/invoke/VarHandle" ∧ (parseMethodDescriptor yX8_canSet.desc).map (fun d => d.parameters.length) = some 0 := by decide +kernel
set_option maxRecDepth 100000 in
theorem im_X8_canSet : Cond.instanceMethod yX8_canSet ∈ tblG := tg1 (List.mem_of_getElem? (i := 1300) (by decide +kernel)) rfl
set_option maxRecDepth 100000 in
theorem se_X8_canSet : Cond.selects yX8_canSet.cls yX8_canSet yX8_canSet ∈ tblG := tg (List.mem_append_left _ (List.mem_of_getElem? (i := 139) (by decide +kernel))) rfl
set_option maxRecDepth 100000 in
theorem cd_X8_change : Cond.code yX8_change cX8_change 3 (some .int) ∈ tblG := tg1 (List.mem_of_getElem? (i := 1195) (by decide +kernel)) rfl
set_option maxRecDepth 100000 in
theorem ds_X8_change : yX8_change.cls ≠ "java/lang/invoke/MethodHandle" ∧ yX8_change.cls ≠ "java/lang/invoke/VarHandle" ∧ (parseMethodDescriptor yX8_change.desc).map (fun d => d.parameters.length) = some 1 := by decide +kernel
set_option maxRecDepth 100000 in
theorem im_X8_change : Cond.instanceMethod yX8_change ∈ tblG := tg1 (List.mem_of_getElem? (i := 1193) (by decide +kernel)) rfl
set_option maxRecDepth 100000 in
theorem se_X8_change : Cond.selects yX8_change.cls yX8_change yX8_change ∈ tblG := tg1 (List.mem_of_getElem? (i := 1194) (by decide +kernel)) rfl
set_option maxRecDepth 100000 in
theorem cd_X8_clear : Cond.code yX8_clear cX8_clear 2 none ∈ tblG := tg1 (List.mem_of_getElem? (i := 1021) (by decide +kernel)) rfl
set_option maxRecDepth 100000 in
theorem ds_X8_clear : yX8_clear.cls ≠ "java/lang/invoke/MethodHandle" ∧ yX8_clear.cls ≠ "java/lang/invoke/VarHandle" ∧ (parseMethodDescriptor yX8_clear.desc).map (fun d => d.parameters.length) = some 0 := by decide +kernel
set_option maxRecDepth 100000 in
theorem im_X8_clear : Cond.instanceMethod yX8_clear ∈ tblG := tg1 (List.mem_of_getElem? (i := 1020) (by decide +kernel)) rfl
set_option maxRecDepth 100000 in
theorem se_X8_clear : Cond.selects yX8_clear.cls yX8_clear yX8_clear ∈ tblG := tg (List.mem_append_left _ (List.mem_of_getElem? (i := 104) (by decide +kernel))) rfl
set_option maxRecDepth 100000 in
theorem cd_X8_couldBe : Cond.code yX8_couldBe cX8_couldBe 5 (some .int) ∈ tblG := tg1 (List.mem_of_getElem? (i := 1257) (by decide +kernel)) rfl
set_option maxRecDepth 100000 in
theorem ds_X8_couldBe : yX8_couldBe.cls ≠ "java/lang/invoke/MethodHandle" ∧ yX8_couldBe.cls ≠ "java/lang/invoke/VarHandle" ∧ (parseMethodDescriptor yX8_couldBe.desc).map (fun d => d.parameters.length) = some 0 := by decide +kernel
set_option maxRecDepth 100000 in
theorem im_X8_couldBe : Cond.instanceMethod yX8_couldBe ∈ tblG := tg1 (List.mem_of_getElem? (i := 1255) (by decide +kernel)) rfl
set_option maxRecDepth 100000 in
theorem se_X8_couldBe : Cond.selects yX8_couldBe.cls yX8_couldBe yX8_couldBe ∈ tblG := tg1 (List.mem_of_getElem? (i := 1256) (by decide +kernel)) rfl
set_option maxRecDepth 100000 in
theorem cd_X8_draw : Cond.code yX8_draw cX8_draw 1 (some .int) ∈ tblG := tg1 (List.mem_of_getElem? (i := 1157) (by decide +kernel)) rfl
set_option maxRecDepth 100000 in
theorem ds_X8_draw : yX8_draw.cls ≠ "java/lang/invoke/MethodHandle" ∧ yX8_draw.cls ≠ "java/lang/invoke/VarHandle" ∧ (parseMethodDescriptor yX8_draw.desc).map (fun d => d.parameters.length) = some 0 := by decide +kernel
set_option maxRecDepth 100000 in
theorem im_X8_draw : Cond.instanceMethod yX8_draw ∈ tblG := tg1 (List.mem_of_getElem? (i := 1155) (by decide +kernel)) rfl
set_option maxRecDepth 100000 in
theorem se_X8_draw : Cond.selects yX8_draw.cls yX8_draw yX8_draw ∈ tblG := tg1 (List.mem_of_getElem? (i := 1156) (by decide +kernel)) rfl
set_option maxRecDepth 100000 in
theorem cd_X8_drawOf : Cond.code yX8_drawOf cX8_drawOf 2 (some .int) ∈ tblG := tg1 (List.mem_of_getElem? (i := 1171) (by decide +kernel)) rfl
set_option maxRecDepth 100000 in
theorem ds_X8_drawOf : yX8_drawOf.cls ≠ "java/lang/invoke/MethodHandle" ∧ yX8_drawOf.cls ≠ "java/lang/invoke/VarHandle" ∧ (parseMethodDescriptor yX8_drawOf.desc).map (fun d => d.parameters.length) = some 1 := by decide +kernel
set_option maxRecDepth 100000 in
theorem im_X8_drawOf : Cond.instanceMethod yX8_drawOf ∈ tblG := tg1 (List.mem_of_getElem? (i := 1170) (by decide +kernel)) rfl
set_option maxRecDepth 100000 in
theorem se_X8_drawOf : Cond.selects yX8_drawOf.cls yX8_drawOf yX8_drawOf ∈ tblG := tg (List.mem_append_left _ (List.mem_of_getElem? (i := 128) (by decide +kernel))) rfl
set_option maxRecDepth 100000 in
theorem cd_X8_drawsOne : Cond.code yX8_drawsOne cX8_drawsOne 2 (some .int) ∈ tblG := tg1 (List.mem_of_getElem? (i := 1167) (by decide +kernel)) rfl
set_option maxRecDepth 100000 in
theorem ds_X8_drawsOne : yX8_drawsOne.cls ≠ "java/lang/invoke/MethodHandle" ∧ yX8_drawsOne.cls ≠ "java/lang/invoke/VarHandle" ∧ (parseMethodDescriptor yX8_drawsOne.desc).map (fun d => d.parameters.length) = some 0 := by decide +kernel
set_option maxRecDepth 100000 in
theorem im_X8_drawsOne : Cond.instanceMethod yX8_drawsOne ∈ tblG := tg1 (List.mem_of_getElem? (i := 1166) (by decide +kernel)) rfl
set_option maxRecDepth 100000 in
theorem se_X8_drawsOne : Cond.selects yX8_drawsOne.cls yX8_drawsOne yX8_drawsOne ∈ tblG := tg (List.mem_append_left _ (List.mem_of_getElem? (i := 127) (by decide +kernel))) rfl
set_option maxRecDepth 100000 in
theorem cd_X8_drift : Cond.code yX8_drift cX8_drift 3 (some .int) ∈ tblG := tg1 (List.mem_of_getElem? (i := 1219) (by decide +kernel)) rfl
set_option maxRecDepth 100000 in
theorem ds_X8_drift : yX8_drift.cls ≠ "java/lang/invoke/MethodHandle" ∧ yX8_drift.cls ≠ "java/lang/invoke/VarHandle" ∧ (parseMethodDescriptor yX8_drift.desc).map (fun d => d.parameters.length) = some 1 := by decide +kernel
set_option maxRecDepth 100000 in
theorem im_X8_drift : Cond.instanceMethod yX8_drift ∈ tblG := tg1 (List.mem_of_getElem? (i := 1217) (by decide +kernel)) rfl
set_option maxRecDepth 100000 in
theorem se_X8_drift : Cond.selects yX8_drift.cls yX8_drift yX8_drift ∈ tblG := tg1 (List.mem_of_getElem? (i := 1218) (by decide +kernel)) rfl
set_option maxRecDepth 100000 in
theorem cd_X8_far : Cond.code yX8_far cX8_far 5 (some .int) ∈ tblG := tg1 (List.mem_of_getElem? (i := 1152) (by decide +kernel)) rfl
set_option maxRecDepth 100000 in
theorem ds_X8_far : yX8_far.cls ≠ "java/lang/invoke/MethodHandle" ∧ yX8_far.cls ≠ "java/lang/invoke/VarHandle" ∧ (parseMethodDescriptor yX8_far.desc).map (fun d => d.parameters.length) = some 2 := by decide +kernel
set_option maxRecDepth 100000 in
theorem im_X8_far : Cond.instanceMethod yX8_far ∈ tblG := tg1 (List.mem_of_getElem? (i := 1150) (by decide +kernel)) rfl
set_option maxRecDepth 100000 in
theorem se_X8_far : Cond.selects yX8_far.cls yX8_far yX8_far ∈ tblG := tg1 (List.mem_of_getElem? (i := 1151) (by decide +kernel)) rfl
set_option maxRecDepth 100000 in
theorem cd_X8_farthest : Cond.code yX8_farthest cX8_farthest 5 (some .int) ∈ tblG := tg1 (List.mem_of_getElem? (i := 1317) (by decide +kernel)) rfl
set_option maxRecDepth 100000 in
theorem ds_X8_farthest : yX8_farthest.cls ≠ "java/lang/invoke/MethodHandle" ∧ yX8_farthest.cls ≠ "java/lang/invoke/VarHandle" ∧ (parseMethodDescriptor yX8_farthest.desc).map (fun d => d.parameters.length) = some 0 := by decide +kernel
set_option maxRecDepth 100000 in
theorem im_X8_farthest : Cond.instanceMethod yX8_farthest ∈ tblG := tg1 (List.mem_of_getElem? (i := 1316) (by decide +kernel)) rfl
set_option maxRecDepth 100000 in
theorem se_X8_farthest : Cond.selects yX8_farthest.cls yX8_farthest yX8_farthest ∈ tblG := tg (List.mem_append_left _ (List.mem_of_getElem? (i := 143) (by decide +kernel))) rfl
set_option maxRecDepth 100000 in
theorem cd_X8_fault : Cond.code yX8_fault cX8_fault 1 (some .int) ∈ tblG := tg1 (List.mem_of_getElem? (i := 1025) (by decide +kernel)) rfl
set_option maxRecDepth 100000 in
theorem ds_X8_fault : yX8_fault.cls ≠ "java/lang/invoke/MethodHandle" ∧ yX8_fault.cls ≠ "java/lang/invoke/VarHandle" ∧ (parseMethodDescriptor yX8_fault.desc).map (fun d => d.parameters.length) = some 0 := by decide +kernel
set_option maxRecDepth 100000 in
theorem im_X8_fault : Cond.instanceMethod yX8_fault ∈ tblG := tg1 (List.mem_of_getElem? (i := 1023) (by decide +kernel)) rfl
set_option maxRecDepth 100000 in
theorem se_X8_fault : Cond.selects yX8_fault.cls yX8_fault yX8_fault ∈ tblG := tg1 (List.mem_of_getElem? (i := 1024) (by decide +kernel)) rfl
set_option maxRecDepth 100000 in
theorem cd_X8_faults : Cond.code yX8_faults cX8_faults 3 (some .boolean) ∈ tblG := tg1 (List.mem_of_getElem? (i := 986) (by decide +kernel)) rfl
set_option maxRecDepth 100000 in
theorem ds_X8_faults : yX8_faults.cls ≠ "java/lang/invoke/MethodHandle" ∧ yX8_faults.cls ≠ "java/lang/invoke/VarHandle" ∧ (parseMethodDescriptor yX8_faults.desc).map (fun d => d.parameters.length) = some 2 := by decide +kernel
set_option maxRecDepth 100000 in
theorem im_X8_faults : Cond.instanceMethod yX8_faults ∈ tblG := tg1 (List.mem_of_getElem? (i := 985) (by decide +kernel)) rfl
set_option maxRecDepth 100000 in
theorem se_X8_faults : Cond.selects yX8_faults.cls yX8_faults yX8_faults ∈ tblG := tg (List.mem_append_left _ (List.mem_of_getElem? (i := 97) (by decide +kernel))) rfl
set_option maxRecDepth 100000 in
theorem cd_X8_feed : Cond.code yX8_feed cX8_feed 2 (some .int) ∈ tblG := tg1 (List.mem_of_getElem? (i := 960) (by decide +kernel)) rfl
set_option maxRecDepth 100000 in
theorem ds_X8_feed : yX8_feed.cls ≠ "java/lang/invoke/MethodHandle" ∧ yX8_feed.cls ≠ "java/lang/invoke/VarHandle" ∧ (parseMethodDescriptor yX8_feed.desc).map (fun d => d.parameters.length) = some 1 := by decide +kernel
set_option maxRecDepth 100000 in
theorem im_X8_feed : Cond.instanceMethod yX8_feed ∈ tblG := tg1 (List.mem_of_getElem? (i := 958) (by decide +kernel)) rfl
set_option maxRecDepth 100000 in
theorem se_X8_feed : Cond.selects yX8_feed.cls yX8_feed yX8_feed ∈ tblG := tg1 (List.mem_of_getElem? (i := 959) (by decide +kernel)) rfl
set_option maxRecDepth 100000 in
theorem cd_X8_first : Cond.code yX8_first cX8_first 2 (some .int) ∈ tblG := tg1 (List.mem_of_getElem? (i := 1100) (by decide +kernel)) rfl
set_option maxRecDepth 100000 in
theorem ds_X8_first : yX8_first.cls ≠ "java/lang/invoke/MethodHandle" ∧ yX8_first.cls ≠ "java/lang/invoke/VarHandle" ∧ (parseMethodDescriptor yX8_first.desc).map (fun d => d.parameters.length) = some 1 := by decide +kernel
set_option maxRecDepth 100000 in
theorem im_X8_first : Cond.instanceMethod yX8_first ∈ tblG := tg1 (List.mem_of_getElem? (i := 1098) (by decide +kernel)) rfl
set_option maxRecDepth 100000 in
theorem se_X8_first : Cond.selects yX8_first.cls yX8_first yX8_first ∈ tblG := tg1 (List.mem_of_getElem? (i := 1099) (by decide +kernel)) rfl
set_option maxRecDepth 100000 in
theorem cd_X8_fits : Cond.code yX8_fits cX8_fits 3 (some .boolean) ∈ tblG := tg1 (List.mem_of_getElem? (i := 1116) (by decide +kernel)) rfl
set_option maxRecDepth 100000 in
theorem ds_X8_fits : yX8_fits.cls ≠ "java/lang/invoke/MethodHandle" ∧ yX8_fits.cls ≠ "java/lang/invoke/VarHandle" ∧ (parseMethodDescriptor yX8_fits.desc).map (fun d => d.parameters.length) = some 0 := by decide +kernel
set_option maxRecDepth 100000 in
theorem im_X8_fits : Cond.instanceMethod yX8_fits ∈ tblG := tg1 (List.mem_of_getElem? (i := 1115) (by decide +kernel)) rfl
set_option maxRecDepth 100000 in
theorem se_X8_fits : Cond.selects yX8_fits.cls yX8_fits yX8_fits ∈ tblG := tg (List.mem_append_left _ (List.mem_of_getElem? (i := 120) (by decide +kernel))) rfl
set_option maxRecDepth 100000 in
theorem cd_X8_game : Cond.code yX8_game cX8_game 5 (some .int) ∈ tblG := tg1 (List.mem_of_getElem? (i := 970) (by decide +kernel)) rfl
set_option maxRecDepth 100000 in
theorem ds_X8_game : yX8_game.cls ≠ "java/lang/invoke/MethodHandle" ∧ yX8_game.cls ≠ "java/lang/invoke/VarHandle" ∧ (parseMethodDescriptor yX8_game.desc).map (fun d => d.parameters.length) = some 0 := by decide +kernel
set_option maxRecDepth 100000 in
theorem im_X8_game : Cond.instanceMethod yX8_game ∈ tblG := tg1 (List.mem_of_getElem? (i := 968) (by decide +kernel)) rfl
set_option maxRecDepth 100000 in
theorem se_X8_game : Cond.selects yX8_game.cls yX8_game yX8_game ∈ tblG := tg1 (List.mem_of_getElem? (i := 969) (by decide +kernel)) rfl
set_option maxRecDepth 100000 in
theorem cd_X8_give : Cond.code yX8_give cX8_give 3 (some .int) ∈ tblG := tg1 (List.mem_of_getElem? (i := 1187) (by decide +kernel)) rfl
set_option maxRecDepth 100000 in
theorem ds_X8_give : yX8_give.cls ≠ "java/lang/invoke/MethodHandle" ∧ yX8_give.cls ≠ "java/lang/invoke/VarHandle" ∧ (parseMethodDescriptor yX8_give.desc).map (fun d => d.parameters.length) = some 1 := by decide +kernel
set_option maxRecDepth 100000 in
theorem im_X8_give : Cond.instanceMethod yX8_give ∈ tblG := tg1 (List.mem_of_getElem? (i := 1185) (by decide +kernel)) rfl
set_option maxRecDepth 100000 in
theorem se_X8_give : Cond.selects yX8_give.cls yX8_give yX8_give ∈ tblG := tg1 (List.mem_of_getElem? (i := 1186) (by decide +kernel)) rfl
set_option maxRecDepth 100000 in
theorem cd_X8_goBack : Cond.code yX8_goBack cX8_goBack 3 (some .int) ∈ tblG := tg1 (List.mem_of_getElem? (i := 1293) (by decide +kernel)) rfl
set_option maxRecDepth 100000 in
theorem ds_X8_goBack : yX8_goBack.cls ≠ "java/lang/invoke/MethodHandle" ∧ yX8_goBack.cls ≠ "java/lang/invoke/VarHandle" ∧ (parseMethodDescriptor yX8_goBack.desc).map (fun d => d.parameters.length) = some 1 := by decide +kernel
set_option maxRecDepth 100000 in
theorem im_X8_goBack : Cond.instanceMethod yX8_goBack ∈ tblG := tg1 (List.mem_of_getElem? (i := 1291) (by decide +kernel)) rfl
set_option maxRecDepth 100000 in
theorem se_X8_goBack : Cond.selects yX8_goBack.cls yX8_goBack yX8_goBack ∈ tblG := tg1 (List.mem_of_getElem? (i := 1292) (by decide +kernel)) rfl
set_option maxRecDepth 100000 in
theorem cd_X8_goRows : Cond.code yX8_goRows cX8_goRows 5 none ∈ tblG := tg1 (List.mem_of_getElem? (i := 1104) (by decide +kernel)) rfl
set_option maxRecDepth 100000 in
theorem ds_X8_goRows : yX8_goRows.cls ≠ "java/lang/invoke/MethodHandle" ∧ yX8_goRows.cls ≠ "java/lang/invoke/VarHandle" ∧ (parseMethodDescriptor yX8_goRows.desc).map (fun d => d.parameters.length) = some 0 := by decide +kernel
set_option maxRecDepth 100000 in
theorem im_X8_goRows : Cond.instanceMethod yX8_goRows ∈ tblG := tg1 (List.mem_of_getElem? (i := 1103) (by decide +kernel)) rfl
set_option maxRecDepth 100000 in
theorem se_X8_goRows : Cond.selects yX8_goRows.cls yX8_goRows yX8_goRows ∈ tblG := tg (List.mem_append_left _ (List.mem_of_getElem? (i := 117) (by decide +kernel))) rfl
set_option maxRecDepth 100000 in
theorem cd_X8_hasRoom : Cond.code yX8_hasRoom cX8_hasRoom 2 (some .boolean) ∈ tblG := tg1 (List.mem_of_getElem? (i := 1211) (by decide +kernel)) rfl
set_option maxRecDepth 100000 in
theorem ds_X8_hasRoom : yX8_hasRoom.cls ≠ "java/lang/invoke/MethodHandle" ∧ yX8_hasRoom.cls ≠ "java/lang/invoke/VarHandle" ∧ (parseMethodDescriptor yX8_hasRoom.desc).map (fun d => d.parameters.length) = some 1 := by decide +kernel
set_option maxRecDepth 100000 in
theorem im_X8_hasRoom : Cond.instanceMethod yX8_hasRoom ∈ tblG := tg1 (List.mem_of_getElem? (i := 1210) (by decide +kernel)) rfl
set_option maxRecDepth 100000 in
theorem se_X8_hasRoom : Cond.selects yX8_hasRoom.cls yX8_hasRoom yX8_hasRoom ∈ tblG := tg (List.mem_append_left _ (List.mem_of_getElem? (i := 133) (by decide +kernel))) rfl
set_option maxRecDepth 100000 in
theorem cd_X8_in : Cond.code yX8_in cX8_in 6 (some .boolean) ∈ tblG := tg1 (List.mem_of_getElem? (i := 964) (by decide +kernel)) rfl
set_option maxRecDepth 100000 in
theorem ds_X8_in : yX8_in.cls ≠ "java/lang/invoke/MethodHandle" ∧ yX8_in.cls ≠ "java/lang/invoke/VarHandle" ∧ (parseMethodDescriptor yX8_in.desc).map (fun d => d.parameters.length) = some 3 := by decide +kernel
set_option maxRecDepth 100000 in
theorem st_X8_in : Cond.static yX8_in ∈ tblG := tg1 (List.mem_of_getElem? (i := 963) (by decide +kernel)) rfl
set_option maxRecDepth 100000 in
theorem cd_X8_insideOf : Cond.code yX8_insideOf cX8_insideOf 4 (some .int) ∈ tblG := tg1 (List.mem_of_getElem? (i := 1071) (by decide +kernel)) rfl
set_option maxRecDepth 100000 in
theorem ds_X8_insideOf : yX8_insideOf.cls ≠ "java/lang/invoke/MethodHandle" ∧ yX8_insideOf.cls ≠ "java/lang/invoke/VarHandle" ∧ (parseMethodDescriptor yX8_insideOf.desc).map (fun d => d.parameters.length) = some 1 := by decide +kernel
set_option maxRecDepth 100000 in
theorem im_X8_insideOf : Cond.instanceMethod yX8_insideOf ∈ tblG := tg1 (List.mem_of_getElem? (i := 1070) (by decide +kernel)) rfl
set_option maxRecDepth 100000 in
theorem se_X8_insideOf : Cond.selects yX8_insideOf.cls yX8_insideOf yX8_insideOf ∈ tblG := tg (List.mem_append_left _ (List.mem_of_getElem? (i := 112) (by decide +kernel))) rfl
set_option maxRecDepth 100000 in
theorem cd_X8_isIn : Cond.code yX8_isIn cX8_isIn 2 (some .boolean) ∈ tblG := tg1 (List.mem_of_getElem? (i := 1132) (by decide +kernel)) rfl
set_option maxRecDepth 100000 in
theorem ds_X8_isIn : yX8_isIn.cls ≠ "java/lang/invoke/MethodHandle" ∧ yX8_isIn.cls ≠ "java/lang/invoke/VarHandle" ∧ (parseMethodDescriptor yX8_isIn.desc).map (fun d => d.parameters.length) = some 2 := by decide +kernel
set_option maxRecDepth 100000 in
theorem st_X8_isIn : Cond.static yX8_isIn ∈ tblG := tg1 (List.mem_of_getElem? (i := 1131) (by decide +kernel)) rfl
set_option maxRecDepth 100000 in
theorem cd_X8_isInside : Cond.code yX8_isInside cX8_isInside 5 (some .boolean) ∈ tblG := tg1 (List.mem_of_getElem? (i := 1067) (by decide +kernel)) rfl
set_option maxRecDepth 100000 in
theorem ds_X8_isInside : yX8_isInside.cls ≠ "java/lang/invoke/MethodHandle" ∧ yX8_isInside.cls ≠ "java/lang/invoke/VarHandle" ∧ (parseMethodDescriptor yX8_isInside.desc).map (fun d => d.parameters.length) = some 2 := by decide +kernel
set_option maxRecDepth 100000 in
theorem im_X8_isInside : Cond.instanceMethod yX8_isInside ∈ tblG := tg1 (List.mem_of_getElem? (i := 1066) (by decide +kernel)) rfl
set_option maxRecDepth 100000 in
theorem se_X8_isInside : Cond.selects yX8_isInside.cls yX8_isInside yX8_isInside ∈ tblG := tg (List.mem_append_left _ (List.mem_of_getElem? (i := 111) (by decide +kernel))) rfl
set_option maxRecDepth 100000 in
theorem cd_X8_isLaid : Cond.code yX8_isLaid cX8_isLaid 2 (some .boolean) ∈ tblG := tg1 (List.mem_of_getElem? (i := 1096) (by decide +kernel)) rfl
set_option maxRecDepth 100000 in
theorem ds_X8_isLaid : yX8_isLaid.cls ≠ "java/lang/invoke/MethodHandle" ∧ yX8_isLaid.cls ≠ "java/lang/invoke/VarHandle" ∧ (parseMethodDescriptor yX8_isLaid.desc).map (fun d => d.parameters.length) = some 1 := by decide +kernel
set_option maxRecDepth 100000 in
theorem im_X8_isLaid : Cond.instanceMethod yX8_isLaid ∈ tblG := tg1 (List.mem_of_getElem? (i := 1095) (by decide +kernel)) rfl
set_option maxRecDepth 100000 in
theorem se_X8_isLaid : Cond.selects yX8_isLaid.cls yX8_isLaid yX8_isLaid ∈ tblG := tg (List.mem_append_left _ (List.mem_of_getElem? (i := 116) (by decide +kernel))) rfl
set_option maxRecDepth 100000 in
theorem cd_X8_isOneMore : Cond.code yX8_isOneMore cX8_isOneMore 4 (some .boolean) ∈ tblG := tg1 (List.mem_of_getElem? (i := 1148) (by decide +kernel)) rfl
set_option maxRecDepth 100000 in
theorem ds_X8_isOneMore : yX8_isOneMore.cls ≠ "java/lang/invoke/MethodHandle" ∧ yX8_isOneMore.cls ≠ "java/lang/invoke/VarHandle" ∧ (parseMethodDescriptor yX8_isOneMore.desc).map (fun d => d.parameters.length) = some 2 := by decide +kernel
set_option maxRecDepth 100000 in
theorem im_X8_isOneMore : Cond.instanceMethod yX8_isOneMore ∈ tblG := tg1 (List.mem_of_getElem? (i := 1147) (by decide +kernel)) rfl
set_option maxRecDepth 100000 in
theorem se_X8_isOneMore : Cond.selects yX8_isOneMore.cls yX8_isOneMore yX8_isOneMore ∈ tblG := tg (List.mem_append_left _ (List.mem_of_getElem? (i := 125) (by decide +kernel))) rfl
set_option maxRecDepth 100000 in
theorem cd_X8_isOneOther : Cond.code yX8_isOneOther cX8_isOneOther 5 (some .boolean) ∈ tblG := tg1 (List.mem_of_getElem? (i := 1144) (by decide +kernel)) rfl
set_option maxRecDepth 100000 in
theorem ds_X8_isOneOther : yX8_isOneOther.cls ≠ "java/lang/invoke/MethodHandle" ∧ yX8_isOneOther.cls ≠ "java/lang/invoke/VarHandle" ∧ (parseMethodDescriptor yX8_isOneOther.desc).map (fun d => d.parameters.length) = some 2 := by decide +kernel
set_option maxRecDepth 100000 in
theorem im_X8_isOneOther : Cond.instanceMethod yX8_isOneOther ∈ tblG := tg1 (List.mem_of_getElem? (i := 1143) (by decide +kernel)) rfl
set_option maxRecDepth 100000 in
theorem se_X8_isOneOther : Cond.selects yX8_isOneOther.cls yX8_isOneOther yX8_isOneOther ∈ tblG := tg (List.mem_append_left _ (List.mem_of_getElem? (i := 124) (by decide +kernel))) rfl
set_option maxRecDepth 100000 in
theorem cd_X8_isSort : Cond.code yX8_isSort cX8_isSort 1 (some .boolean) ∈ tblG := tg1 (List.mem_of_getElem? (i := 1032) (by decide +kernel)) rfl
set_option maxRecDepth 100000 in
theorem ds_X8_isSort : yX8_isSort.cls ≠ "java/lang/invoke/MethodHandle" ∧ yX8_isSort.cls ≠ "java/lang/invoke/VarHandle" ∧ (parseMethodDescriptor yX8_isSort.desc).map (fun d => d.parameters.length) = some 1 := by decide +kernel
set_option maxRecDepth 100000 in
theorem st_X8_isSort : Cond.static yX8_isSort ∈ tblG := tg1 (List.mem_of_getElem? (i := 1031) (by decide +kernel)) rfl
set_option maxRecDepth 100000 in
theorem cd_X8_isStep : Cond.code yX8_isStep cX8_isStep 4 (some .boolean) ∈ tblG := tg1 (List.mem_of_getElem? (i := 1140) (by decide +kernel)) rfl
set_option maxRecDepth 100000 in
theorem ds_X8_isStep : yX8_isStep.cls ≠ "java/lang/invoke/MethodHandle" ∧ yX8_isStep.cls ≠ "java/lang/invoke/VarHandle" ∧ (parseMethodDescriptor yX8_isStep.desc).map (fun d => d.parameters.length) = some 2 := by decide +kernel
set_option maxRecDepth 100000 in
theorem im_X8_isStep : Cond.instanceMethod yX8_isStep ∈ tblG := tg1 (List.mem_of_getElem? (i := 1139) (by decide +kernel)) rfl
set_option maxRecDepth 100000 in
theorem se_X8_isStep : Cond.selects yX8_isStep.cls yX8_isStep yX8_isStep ∈ tblG := tg (List.mem_append_left _ (List.mem_of_getElem? (i := 123) (by decide +kernel))) rfl
set_option maxRecDepth 100000 in
theorem cd_X8_isToldAlready : Cond.code yX8_isToldAlready cX8_isToldAlready 4 (some .boolean) ∈ tblG := tg1 (List.mem_of_getElem? (i := 1017) (by decide +kernel)) rfl
set_option maxRecDepth 100000 in
theorem ds_X8_isToldAlready : yX8_isToldAlready.cls ≠ "java/lang/invoke/MethodHandle" ∧ yX8_isToldAlready.cls ≠ "java/lang/invoke/VarHandle" ∧ (parseMethodDescriptor yX8_isToldAlready.desc).map (fun d => d.parameters.length) = some 0 := by decide +kernel
set_option maxRecDepth 100000 in
theorem im_X8_isToldAlready : Cond.instanceMethod yX8_isToldAlready ∈ tblG := tg1 (List.mem_of_getElem? (i := 1016) (by decide +kernel)) rfl
set_option maxRecDepth 100000 in
theorem se_X8_isToldAlready : Cond.selects yX8_isToldAlready.cls yX8_isToldAlready yX8_isToldAlready ∈ tblG := tg (List.mem_append_left _ (List.mem_of_getElem? (i := 103) (by decide +kernel))) rfl
set_option maxRecDepth 100000 in
theorem cd_X8_isWord : Cond.code yX8_isWord cX8_isWord 2 (some .boolean) ∈ tblG := tg1 (List.mem_of_getElem? (i := 1042) (by decide +kernel)) rfl
set_option maxRecDepth 100000 in
theorem ds_X8_isWord : yX8_isWord.cls ≠ "java/lang/invoke/MethodHandle" ∧ yX8_isWord.cls ≠ "java/lang/invoke/VarHandle" ∧ (parseMethodDescriptor yX8_isWord.desc).map (fun d => d.parameters.length) = some 1 := by decide +kernel
set_option maxRecDepth 100000 in
theorem im_X8_isWord : Cond.instanceMethod yX8_isWord ∈ tblG := tg1 (List.mem_of_getElem? (i := 1041) (by decide +kernel)) rfl
set_option maxRecDepth 100000 in
theorem se_X8_isWord : Cond.selects yX8_isWord.cls yX8_isWord yX8_isWord ∈ tblG := tg (List.mem_append_left _ (List.mem_of_getElem? (i := 105) (by decide +kernel))) rfl
set_option maxRecDepth 100000 in
theorem cd_X8_join : Cond.code yX8_join cX8_join 4 none ∈ tblG := tg1 (List.mem_of_getElem? (i := 1112) (by decide +kernel)) rfl
set_option maxRecDepth 100000 in
theorem ds_X8_join : yX8_join.cls ≠ "java/lang/invoke/MethodHandle" ∧ yX8_join.cls ≠ "java/lang/invoke/VarHandle" ∧ (parseMethodDescriptor yX8_join.desc).map (fun d => d.parameters.length) = some 2 := by decide +kernel
set_option maxRecDepth 100000 in
theorem im_X8_join : Cond.instanceMethod yX8_join ∈ tblG := tg1 (List.mem_of_getElem? (i := 1111) (by decide +kernel)) rfl
set_option maxRecDepth 100000 in
theorem se_X8_join : Cond.selects yX8_join.cls yX8_join yX8_join ∈ tblG := tg (List.mem_append_left _ (List.mem_of_getElem? (i := 119) (by decide +kernel))) rfl
set_option maxRecDepth 100000 in
theorem cd_X8_judge : Cond.code yX8_judge cX8_judge 4 (some .int) ∈ tblG := tg1 (List.mem_of_getElem? (i := 1277) (by decide +kernel)) rfl
set_option maxRecDepth 100000 in
theorem ds_X8_judge : yX8_judge.cls ≠ "java/lang/invoke/MethodHandle" ∧ yX8_judge.cls ≠ "java/lang/invoke/VarHandle" ∧ (parseMethodDescriptor yX8_judge.desc).map (fun d => d.parameters.length) = some 0 := by decide +kernel
set_option maxRecDepth 100000 in
theorem im_X8_judge : Cond.instanceMethod yX8_judge ∈ tblG := tg1 (List.mem_of_getElem? (i := 1275) (by decide +kernel)) rfl
set_option maxRecDepth 100000 in
theorem se_X8_judge : Cond.selects yX8_judge.cls yX8_judge yX8_judge ∈ tblG := tg1 (List.mem_of_getElem? (i := 1276) (by decide +kernel)) rfl
set_option maxRecDepth 100000 in
theorem cd_X8_judgeRow : Cond.code yX8_judgeRow cX8_judgeRow 3 none ∈ tblG := tg1 (List.mem_of_getElem? (i := 1108) (by decide +kernel)) rfl
set_option maxRecDepth 100000 in
theorem ds_X8_judgeRow : yX8_judgeRow.cls ≠ "java/lang/invoke/MethodHandle" ∧ yX8_judgeRow.cls ≠ "java/lang/invoke/VarHandle" ∧ (parseMethodDescriptor yX8_judgeRow.desc).map (fun d => d.parameters.length) = some 1 := by decide +kernel
set_option maxRecDepth 100000 in
theorem im_X8_judgeRow : Cond.instanceMethod yX8_judgeRow ∈ tblG := tg1 (List.mem_of_getElem? (i := 1107) (by decide +kernel)) rfl
set_option maxRecDepth 100000 in
theorem se_X8_judgeRow : Cond.selects yX8_judgeRow.cls yX8_judgeRow yX8_judgeRow ∈ tblG := tg (List.mem_append_left _ (List.mem_of_getElem? (i := 118) (by decide +kernel))) rfl
set_option maxRecDepth 100000 in
theorem cd_X8_keep : Cond.code yX8_keep cX8_keep 3 (some .int) ∈ tblG := tg1 (List.mem_of_getElem? (i := 1289) (by decide +kernel)) rfl
set_option maxRecDepth 100000 in
theorem ds_X8_keep : yX8_keep.cls ≠ "java/lang/invoke/MethodHandle" ∧ yX8_keep.cls ≠ "java/lang/invoke/VarHandle" ∧ (parseMethodDescriptor yX8_keep.desc).map (fun d => d.parameters.length) = some 1 := by decide +kernel
set_option maxRecDepth 100000 in
theorem im_X8_keep : Cond.instanceMethod yX8_keep ∈ tblG := tg1 (List.mem_of_getElem? (i := 1287) (by decide +kernel)) rfl
set_option maxRecDepth 100000 in
theorem se_X8_keep : Cond.selects yX8_keep.cls yX8_keep yX8_keep ∈ tblG := tg1 (List.mem_of_getElem? (i := 1288) (by decide +kernel)) rfl
set_option maxRecDepth 100000 in
theorem cd_X8_kinOf : Cond.code yX8_kinOf cX8_kinOf 4 (some .int) ∈ tblG := tg1 (List.mem_of_getElem? (i := 1059) (by decide +kernel)) rfl
set_option maxRecDepth 100000 in
theorem ds_X8_kinOf : yX8_kinOf.cls ≠ "java/lang/invoke/MethodHandle" ∧ yX8_kinOf.cls ≠ "java/lang/invoke/VarHandle" ∧ (parseMethodDescriptor yX8_kinOf.desc).map (fun d => d.parameters.length) = some 1 := by decide +kernel
set_option maxRecDepth 100000 in
theorem im_X8_kinOf : Cond.instanceMethod yX8_kinOf ∈ tblG := tg1 (List.mem_of_getElem? (i := 1058) (by decide +kernel)) rfl
set_option maxRecDepth 100000 in
theorem se_X8_kinOf : Cond.selects yX8_kinOf.cls yX8_kinOf yX8_kinOf ∈ tblG := tg (List.mem_append_left _ (List.mem_of_getElem? (i := 109) (by decide +kernel))) rfl
set_option maxRecDepth 100000 in
theorem cd_X8_lacksTurn : Cond.code yX8_lacksTurn cX8_lacksTurn 2 (some .int) ∈ tblG := tg1 (List.mem_of_getElem? (i := 1191) (by decide +kernel)) rfl
set_option maxRecDepth 100000 in
theorem ds_X8_lacksTurn : yX8_lacksTurn.cls ≠ "java/lang/invoke/MethodHandle" ∧ yX8_lacksTurn.cls ≠ "java/lang/invoke/VarHandle" ∧ (parseMethodDescriptor yX8_lacksTurn.desc).map (fun d => d.parameters.length) = some 1 := by decide +kernel
set_option maxRecDepth 100000 in
theorem im_X8_lacksTurn : Cond.instanceMethod yX8_lacksTurn ∈ tblG := tg1 (List.mem_of_getElem? (i := 1190) (by decide +kernel)) rfl
set_option maxRecDepth 100000 in
theorem se_X8_lacksTurn : Cond.selects yX8_lacksTurn.cls yX8_lacksTurn yX8_lacksTurn ∈ tblG := tg (List.mem_append_left _ (List.mem_of_getElem? (i := 131) (by decide +kernel))) rfl
set_option maxRecDepth 100000 in
theorem cd_X8_ladder : Cond.code yX8_ladder cX8_ladder 6 (some .int) ∈ tblG := tg1 (List.mem_of_getElem? (i := 1125) (by decide +kernel)) rfl
set_option maxRecDepth 100000 in
theorem ds_X8_ladder : yX8_ladder.cls ≠ "java/lang/invoke/MethodHandle" ∧ yX8_ladder.cls ≠ "java/lang/invoke/VarHandle" ∧ (parseMethodDescriptor yX8_ladder.desc).map (fun d => d.parameters.length) = some 3 := by decide +kernel
set_option maxRecDepth 100000 in
theorem im_X8_ladder : Cond.instanceMethod yX8_ladder ∈ tblG := tg1 (List.mem_of_getElem? (i := 1123) (by decide +kernel)) rfl
set_option maxRecDepth 100000 in
theorem se_X8_ladder : Cond.selects yX8_ladder.cls yX8_ladder yX8_ladder ∈ tblG := tg1 (List.mem_of_getElem? (i := 1124) (by decide +kernel)) rfl
set_option maxRecDepth 100000 in
theorem cd_X8_laid : Cond.code yX8_laid cX8_laid 3 (some .int) ∈ tblG := tg1 (List.mem_of_getElem? (i := 1092) (by decide +kernel)) rfl
set_option maxRecDepth 100000 in
theorem ds_X8_laid : yX8_laid.cls ≠ "java/lang/invoke/MethodHandle" ∧ yX8_laid.cls ≠ "java/lang/invoke/VarHandle" ∧ (parseMethodDescriptor yX8_laid.desc).map (fun d => d.parameters.length) = some 2 := by decide +kernel
set_option maxRecDepth 100000 in
theorem im_X8_laid : Cond.instanceMethod yX8_laid ∈ tblG := tg1 (List.mem_of_getElem? (i := 1090) (by decide +kernel)) rfl
set_option maxRecDepth 100000 in
theorem se_X8_laid : Cond.selects yX8_laid.cls yX8_laid yX8_laid ∈ tblG := tg1 (List.mem_of_getElem? (i := 1091) (by decide +kernel)) rfl
set_option maxRecDepth 100000 in
theorem cd_X8_lay : Cond.code yX8_lay cX8_lay 2 (some .int) ∈ tblG := tg1 (List.mem_of_getElem? (i := 1199) (by decide +kernel)) rfl
set_option maxRecDepth 100000 in
theorem ds_X8_lay : yX8_lay.cls ≠ "java/lang/invoke/MethodHandle" ∧ yX8_lay.cls ≠ "java/lang/invoke/VarHandle" ∧ (parseMethodDescriptor yX8_lay.desc).map (fun d => d.parameters.length) = some 1 := by decide +kernel
set_option maxRecDepth 100000 in
theorem im_X8_lay : Cond.instanceMethod yX8_lay ∈ tblG := tg1 (List.mem_of_getElem? (i := 1197) (by decide +kernel)) rfl
set_option maxRecDepth 100000 in
theorem se_X8_lay : Cond.selects yX8_lay.cls yX8_lay yX8_lay ∈ tblG := tg1 (List.mem_of_getElem? (i := 1198) (by decide +kernel)) rfl
set_option maxRecDepth 100000 in
theorem cd_X8_lays : Cond.code yX8_lays cX8_lays 6 none ∈ tblG := tg1 (List.mem_of_getElem? (i := 1203) (by decide +kernel)) rfl
set_option maxRecDepth 100000 in
theorem ds_X8_lays : yX8_lays.cls ≠ "java/lang/invoke/MethodHandle" ∧ yX8_lays.cls ≠ "java/lang/invoke/VarHandle" ∧ (parseMethodDescriptor yX8_lays.desc).map (fun d => d.parameters.length) = some 1 := by decide +kernel
set_option maxRecDepth 100000 in
theorem im_X8_lays : Cond.instanceMethod yX8_lays ∈ tblG := tg1 (List.mem_of_getElem? (i := 1202) (by decide +kernel)) rfl
set_option maxRecDepth 100000 in
theorem se_X8_lays : Cond.selects yX8_lays.cls yX8_lays yX8_lays ∈ tblG := tg (List.mem_append_left _ (List.mem_of_getElem? (i := 132) (by decide +kernel))) rfl
set_option maxRecDepth 100000 in
theorem cd_X8_letter : Cond.code yX8_letter cX8_letter 1 (some .int) ∈ tblG := tg1 (List.mem_of_getElem? (i := 974) (by decide +kernel)) rfl
set_option maxRecDepth 100000 in
theorem ds_X8_letter : yX8_letter.cls ≠ "java/lang/invoke/MethodHandle" ∧ yX8_letter.cls ≠ "java/lang/invoke/VarHandle" ∧ (parseMethodDescriptor yX8_letter.desc).map (fun d => d.parameters.length) = some 0 := by decide +kernel
set_option maxRecDepth 100000 in
theorem im_X8_letter : Cond.instanceMethod yX8_letter ∈ tblG := tg1 (List.mem_of_getElem? (i := 973) (by decide +kernel)) rfl
set_option maxRecDepth 100000 in
theorem se_X8_letter : Cond.selects yX8_letter.cls yX8_letter yX8_letter ∈ tblG := tg (List.mem_append_left _ (List.mem_of_getElem? (i := 94) (by decide +kernel))) rfl
set_option maxRecDepth 100000 in
theorem cd_X8_letters : Cond.code yX8_letters cX8_letters 3 (some .int) ∈ tblG := tg1 (List.mem_of_getElem? (i := 1029) (by decide +kernel)) rfl
set_option maxRecDepth 100000 in
theorem ds_X8_letters : yX8_letters.cls ≠ "java/lang/invoke/MethodHandle" ∧ yX8_letters.cls ≠ "java/lang/invoke/VarHandle" ∧ (parseMethodDescriptor yX8_letters.desc).map (fun d => d.parameters.length) = some 2 := by decide +kernel
set_option maxRecDepth 100000 in
theorem im_X8_letters : Cond.instanceMethod yX8_letters ∈ tblG := tg1 (List.mem_of_getElem? (i := 1027) (by decide +kernel)) rfl
set_option maxRecDepth 100000 in
theorem se_X8_letters : Cond.selects yX8_letters.cls yX8_letters yX8_letters ∈ tblG := tg1 (List.mem_of_getElem? (i := 1028) (by decide +kernel)) rfl
set_option maxRecDepth 100000 in
theorem cd_X8_luck : Cond.code yX8_luck cX8_luck 6 (some .int) ∈ tblG := tg1 (List.mem_of_getElem? (i := 1245) (by decide +kernel)) rfl
set_option maxRecDepth 100000 in
theorem ds_X8_luck : yX8_luck.cls ≠ "java/lang/invoke/MethodHandle" ∧ yX8_luck.cls ≠ "java/lang/invoke/VarHandle" ∧ (parseMethodDescriptor yX8_luck.desc).map (fun d => d.parameters.length) = some 2 := by decide +kernel
set_option maxRecDepth 100000 in
theorem im_X8_luck : Cond.instanceMethod yX8_luck ∈ tblG := tg1 (List.mem_of_getElem? (i := 1243) (by decide +kernel)) rfl
set_option maxRecDepth 100000 in
theorem se_X8_luck : Cond.selects yX8_luck.cls yX8_luck yX8_luck ∈ tblG := tg1 (List.mem_of_getElem? (i := 1244) (by decide +kernel)) rfl
set_option maxRecDepth 100000 in
theorem cd_X8_missingOf : Cond.code yX8_missingOf cX8_missingOf 5 (some .int) ∈ tblG := tg1 (List.mem_of_getElem? (i := 1055) (by decide +kernel)) rfl
set_option maxRecDepth 100000 in
theorem ds_X8_missingOf : yX8_missingOf.cls ≠ "java/lang/invoke/MethodHandle" ∧ yX8_missingOf.cls ≠ "java/lang/invoke/VarHandle" ∧ (parseMethodDescriptor yX8_missingOf.desc).map (fun d => d.parameters.length) = some 1 := by decide +kernel
set_option maxRecDepth 100000 in
theorem im_X8_missingOf : Cond.instanceMethod yX8_missingOf ∈ tblG := tg1 (List.mem_of_getElem? (i := 1054) (by decide +kernel)) rfl
set_option maxRecDepth 100000 in
theorem se_X8_missingOf : Cond.selects yX8_missingOf.cls yX8_missingOf yX8_missingOf ∈ tblG := tg (List.mem_append_left _ (List.mem_of_getElem? (i := 108) (by decide +kernel))) rfl
set_option maxRecDepth 100000 in
theorem cd_X8_moreOf : Cond.code yX8_moreOf cX8_moreOf 7 (some .int) ∈ tblG := tg1 (List.mem_of_getElem? (i := 1241) (by decide +kernel)) rfl
set_option maxRecDepth 100000 in
theorem ds_X8_moreOf : yX8_moreOf.cls ≠ "java/lang/invoke/MethodHandle" ∧ yX8_moreOf.cls ≠ "java/lang/invoke/VarHandle" ∧ (parseMethodDescriptor yX8_moreOf.desc).map (fun d => d.parameters.length) = some 2 := by decide +kernel
set_option maxRecDepth 100000 in
theorem im_X8_moreOf : Cond.instanceMethod yX8_moreOf ∈ tblG := tg1 (List.mem_of_getElem? (i := 1240) (by decide +kernel)) rfl
set_option maxRecDepth 100000 in
theorem se_X8_moreOf : Cond.selects yX8_moreOf.cls yX8_moreOf yX8_moreOf ∈ tblG := tg (List.mem_append_left _ (List.mem_of_getElem? (i := 137) (by decide +kernel))) rfl
set_option maxRecDepth 100000 in
theorem cd_X8_move : Cond.code yX8_move cX8_move 4 none ∈ tblG := tg1 (List.mem_of_getElem? (i := 1183) (by decide +kernel)) rfl
set_option maxRecDepth 100000 in
theorem ds_X8_move : yX8_move.cls ≠ "java/lang/invoke/MethodHandle" ∧ yX8_move.cls ≠ "java/lang/invoke/VarHandle" ∧ (parseMethodDescriptor yX8_move.desc).map (fun d => d.parameters.length) = some 3 := by decide +kernel
set_option maxRecDepth 100000 in
theorem im_X8_move : Cond.instanceMethod yX8_move ∈ tblG := tg1 (List.mem_of_getElem? (i := 1182) (by decide +kernel)) rfl
set_option maxRecDepth 100000 in
theorem se_X8_move : Cond.selects yX8_move.cls yX8_move yX8_move ∈ tblG := tg (List.mem_append_left _ (List.mem_of_getElem? (i := 130) (by decide +kernel))) rfl
set_option maxRecDepth 100000 in
theorem cd_X8_needs : Cond.code yX8_needs cX8_needs 3 (some .int) ∈ tblG := tg1 (List.mem_of_getElem? (i := 1120) (by decide +kernel)) rfl
set_option maxRecDepth 100000 in
theorem ds_X8_needs : yX8_needs.cls ≠ "java/lang/invoke/MethodHandle" ∧ yX8_needs.cls ≠ "java/lang/invoke/VarHandle" ∧ (parseMethodDescriptor yX8_needs.desc).map (fun d => d.parameters.length) = some 2 := by decide +kernel
set_option maxRecDepth 100000 in
theorem im_X8_needs : Cond.instanceMethod yX8_needs ∈ tblG := tg1 (List.mem_of_getElem? (i := 1118) (by decide +kernel)) rfl
set_option maxRecDepth 100000 in
theorem se_X8_needs : Cond.selects yX8_needs.cls yX8_needs yX8_needs ∈ tblG := tg1 (List.mem_of_getElem? (i := 1119) (by decide +kernel)) rfl
set_option maxRecDepth 100000 in
theorem cd_X8_note : Cond.code yX8_note cX8_note 2 none ∈ tblG := tg1 (List.mem_of_getElem? (i := 1163) (by decide +kernel)) rfl
set_option maxRecDepth 100000 in
theorem ds_X8_note : yX8_note.cls ≠ "java/lang/invoke/MethodHandle" ∧ yX8_note.cls ≠ "java/lang/invoke/VarHandle" ∧ (parseMethodDescriptor yX8_note.desc).map (fun d => d.parameters.length) = some 0 := by decide +kernel
set_option maxRecDepth 100000 in
theorem im_X8_note : Cond.instanceMethod yX8_note ∈ tblG := tg1 (List.mem_of_getElem? (i := 1162) (by decide +kernel)) rfl
set_option maxRecDepth 100000 in
theorem se_X8_note : Cond.selects yX8_note.cls yX8_note yX8_note ∈ tblG := tg (List.mem_append_left _ (List.mem_of_getElem? (i := 126) (by decide +kernel))) rfl
set_option maxRecDepth 100000 in
theorem cd_X8_oddsOf : Cond.code yX8_oddsOf cX8_oddsOf 5 (some .int) ∈ tblG := tg1 (List.mem_of_getElem? (i := 1075) (by decide +kernel)) rfl
set_option maxRecDepth 100000 in
theorem ds_X8_oddsOf : yX8_oddsOf.cls ≠ "java/lang/invoke/MethodHandle" ∧ yX8_oddsOf.cls ≠ "java/lang/invoke/VarHandle" ∧ (parseMethodDescriptor yX8_oddsOf.desc).map (fun d => d.parameters.length) = some 1 := by decide +kernel
set_option maxRecDepth 100000 in
theorem im_X8_oddsOf : Cond.instanceMethod yX8_oddsOf ∈ tblG := tg1 (List.mem_of_getElem? (i := 1074) (by decide +kernel)) rfl
set_option maxRecDepth 100000 in
theorem se_X8_oddsOf : Cond.selects yX8_oddsOf.cls yX8_oddsOf yX8_oddsOf ∈ tblG := tg (List.mem_append_left _ (List.mem_of_getElem? (i := 113) (by decide +kernel))) rfl
set_option maxRecDepth 100000 in
theorem cd_X8_ones : Cond.code yX8_ones cX8_ones 3 (some .int) ∈ tblG := tg1 (List.mem_of_getElem? (i := 1265) (by decide +kernel)) rfl
set_option maxRecDepth 100000 in
theorem ds_X8_ones : yX8_ones.cls ≠ "java/lang/invoke/MethodHandle" ∧ yX8_ones.cls ≠ "java/lang/invoke/VarHandle" ∧ (parseMethodDescriptor yX8_ones.desc).map (fun d => d.parameters.length) = some 1 := by decide +kernel
set_option maxRecDepth 100000 in
theorem st_X8_ones : Cond.static yX8_ones ∈ tblG := tg1 (List.mem_of_getElem? (i := 1264) (by decide +kernel)) rfl
set_option maxRecDepth 100000 in
theorem cd_X8_partBy : Cond.code yX8_partBy cX8_partBy 7 (some .int) ∈ tblG := tg1 (List.mem_of_getElem? (i := 1269) (by decide +kernel)) rfl
set_option maxRecDepth 100000 in
theorem ds_X8_partBy : yX8_partBy.cls ≠ "java/lang/invoke/MethodHandle" ∧ yX8_partBy.cls ≠ "java/lang/invoke/VarHandle" ∧ (parseMethodDescriptor yX8_partBy.desc).map (fun d => d.parameters.length) = some 2 := by decide +kernel
set_option maxRecDepth 100000 in
theorem im_X8_partBy : Cond.instanceMethod yX8_partBy ∈ tblG := tg1 (List.mem_of_getElem? (i := 1268) (by decide +kernel)) rfl
set_option maxRecDepth 100000 in
theorem se_X8_partBy : Cond.selects yX8_partBy.cls yX8_partBy yX8_partBy ∈ tblG := tg (List.mem_append_left _ (List.mem_of_getElem? (i := 138) (by decide +kernel))) rfl
set_option maxRecDepth 100000 in
theorem cd_X8_readBag : Cond.code yX8_readBag cX8_readBag 2 (some .boolean) ∈ tblG := tg1 (List.mem_of_getElem? (i := 1004) (by decide +kernel)) rfl
set_option maxRecDepth 100000 in
theorem ds_X8_readBag : yX8_readBag.cls ≠ "java/lang/invoke/MethodHandle" ∧ yX8_readBag.cls ≠ "java/lang/invoke/VarHandle" ∧ (parseMethodDescriptor yX8_readBag.desc).map (fun d => d.parameters.length) = some 0 := by decide +kernel
set_option maxRecDepth 100000 in
theorem im_X8_readBag : Cond.instanceMethod yX8_readBag ∈ tblG := tg1 (List.mem_of_getElem? (i := 1003) (by decide +kernel)) rfl
set_option maxRecDepth 100000 in
theorem se_X8_readBag : Cond.selects yX8_readBag.cls yX8_readBag yX8_readBag ∈ tblG := tg (List.mem_append_left _ (List.mem_of_getElem? (i := 101) (by decide +kernel))) rfl
set_option maxRecDepth 100000 in
theorem cd_X8_readClause : Cond.code yX8_readClause cX8_readClause 2 (some .boolean) ∈ tblG := tg1 (List.mem_of_getElem? (i := 1000) (by decide +kernel)) rfl
set_option maxRecDepth 100000 in
theorem ds_X8_readClause : yX8_readClause.cls ≠ "java/lang/invoke/MethodHandle" ∧ yX8_readClause.cls ≠ "java/lang/invoke/VarHandle" ∧ (parseMethodDescriptor yX8_readClause.desc).map (fun d => d.parameters.length) = some 0 := by decide +kernel
set_option maxRecDepth 100000 in
theorem im_X8_readClause : Cond.instanceMethod yX8_readClause ∈ tblG := tg1 (List.mem_of_getElem? (i := 999) (by decide +kernel)) rfl
set_option maxRecDepth 100000 in
theorem se_X8_readClause : Cond.selects yX8_readClause.cls yX8_readClause yX8_readClause ∈ tblG := tg (List.mem_append_left _ (List.mem_of_getElem? (i := 100) (by decide +kernel))) rfl
set_option maxRecDepth 100000 in
theorem cd_X8_readGame : Cond.code yX8_readGame cX8_readGame 2 (some .boolean) ∈ tblG := tg1 (List.mem_of_getElem? (i := 978) (by decide +kernel)) rfl
set_option maxRecDepth 100000 in
theorem ds_X8_readGame : yX8_readGame.cls ≠ "java/lang/invoke/MethodHandle" ∧ yX8_readGame.cls ≠ "java/lang/invoke/VarHandle" ∧ (parseMethodDescriptor yX8_readGame.desc).map (fun d => d.parameters.length) = some 0 := by decide +kernel
set_option maxRecDepth 100000 in
theorem im_X8_readGame : Cond.instanceMethod yX8_readGame ∈ tblG := tg1 (List.mem_of_getElem? (i := 977) (by decide +kernel)) rfl
set_option maxRecDepth 100000 in
theorem se_X8_readGame : Cond.selects yX8_readGame.cls yX8_readGame yX8_readGame ∈ tblG := tg (List.mem_append_left _ (List.mem_of_getElem? (i := 95) (by decide +kernel))) rfl
set_option maxRecDepth 100000 in
theorem cd_X8_readValues : Cond.code yX8_readValues cX8_readValues 2 (some .boolean) ∈ tblG := tg1 (List.mem_of_getElem? (i := 990) (by decide +kernel)) rfl
set_option maxRecDepth 100000 in
theorem ds_X8_readValues : yX8_readValues.cls ≠ "java/lang/invoke/MethodHandle" ∧ yX8_readValues.cls ≠ "java/lang/invoke/VarHandle" ∧ (parseMethodDescriptor yX8_readValues.desc).map (fun d => d.parameters.length) = some 0 := by decide +kernel
set_option maxRecDepth 100000 in
theorem im_X8_readValues : Cond.instanceMethod yX8_readValues ∈ tblG := tg1 (List.mem_of_getElem? (i := 989) (by decide +kernel)) rfl
set_option maxRecDepth 100000 in
theorem se_X8_readValues : Cond.selects yX8_readValues.cls yX8_readValues yX8_readValues ∈ tblG := tg (List.mem_append_left _ (List.mem_of_getElem? (i := 98) (by decide +kernel))) rfl
set_option maxRecDepth 100000 in
theorem cd_X8_readWord : Cond.code yX8_readWord cX8_readWord 2 (some .boolean) ∈ tblG := tg1 (List.mem_of_getElem? (i := 1013) (by decide +kernel)) rfl
set_option maxRecDepth 100000 in
theorem ds_X8_readWord : yX8_readWord.cls ≠ "java/lang/invoke/MethodHandle" ∧ yX8_readWord.cls ≠ "java/lang/invoke/VarHandle" ∧ (parseMethodDescriptor yX8_readWord.desc).map (fun d => d.parameters.length) = some 0 := by decide +kernel
set_option maxRecDepth 100000 in
theorem im_X8_readWord : Cond.instanceMethod yX8_readWord ∈ tblG := tg1 (List.mem_of_getElem? (i := 1012) (by decide +kernel)) rfl
set_option maxRecDepth 100000 in
theorem se_X8_readWord : Cond.selects yX8_readWord.cls yX8_readWord yX8_readWord ∈ tblG := tg (List.mem_append_left _ (List.mem_of_getElem? (i := 102) (by decide +kernel))) rfl
set_option maxRecDepth 100000 in
theorem cd_X8_readsAlike : Cond.code yX8_readsAlike cX8_readsAlike 4 (some .boolean) ∈ tblG := tg1 (List.mem_of_getElem? (i := 1051) (by decide +kernel)) rfl
set_option maxRecDepth 100000 in
theorem ds_X8_readsAlike : yX8_readsAlike.cls ≠ "java/lang/invoke/MethodHandle" ∧ yX8_readsAlike.cls ≠ "java/lang/invoke/VarHandle" ∧ (parseMethodDescriptor yX8_readsAlike.desc).map (fun d => d.parameters.length) = some 1 := by decide +kernel
set_option maxRecDepth 100000 in
theorem im_X8_readsAlike : Cond.instanceMethod yX8_readsAlike ∈ tblG := tg1 (List.mem_of_getElem? (i := 1050) (by decide +kernel)) rfl
set_option maxRecDepth 100000 in
theorem se_X8_readsAlike : Cond.selects yX8_readsAlike.cls yX8_readsAlike yX8_readsAlike ∈ tblG := tg (List.mem_append_left _ (List.mem_of_getElem? (i := 107) (by decide +kernel))) rfl
set_option maxRecDepth 100000 in
theorem cd_X8_right : Cond.code yX8_right cX8_right 4 (some .int) ∈ tblG := tg1 (List.mem_of_getElem? (i := 1233) (by decide +kernel)) rfl
set_option maxRecDepth 100000 in
theorem ds_X8_right : yX8_right.cls ≠ "java/lang/invoke/MethodHandle" ∧ yX8_right.cls ≠ "java/lang/invoke/VarHandle" ∧ (parseMethodDescriptor yX8_right.desc).map (fun d => d.parameters.length) = some 3 := by decide +kernel
set_option maxRecDepth 100000 in
theorem im_X8_right : Cond.instanceMethod yX8_right ∈ tblG := tg1 (List.mem_of_getElem? (i := 1231) (by decide +kernel)) rfl
set_option maxRecDepth 100000 in
theorem se_X8_right : Cond.selects yX8_right.cls yX8_right yX8_right ∈ tblG := tg1 (List.mem_of_getElem? (i := 1232) (by decide +kernel)) rfl
set_option maxRecDepth 100000 in
theorem cd_X8_rightOf : Cond.code yX8_rightOf cX8_rightOf 5 (some .int) ∈ tblG := tg1 (List.mem_of_getElem? (i := 1237) (by decide +kernel)) rfl
set_option maxRecDepth 100000 in
theorem ds_X8_rightOf : yX8_rightOf.cls ≠ "java/lang/invoke/MethodHandle" ∧ yX8_rightOf.cls ≠ "java/lang/invoke/VarHandle" ∧ (parseMethodDescriptor yX8_rightOf.desc).map (fun d => d.parameters.length) = some 2 := by decide +kernel
set_option maxRecDepth 100000 in
theorem im_X8_rightOf : Cond.instanceMethod yX8_rightOf ∈ tblG := tg1 (List.mem_of_getElem? (i := 1236) (by decide +kernel)) rfl
set_option maxRecDepth 100000 in
theorem se_X8_rightOf : Cond.selects yX8_rightOf.cls yX8_rightOf yX8_rightOf ∈ tblG := tg (List.mem_append_left _ (List.mem_of_getElem? (i := 136) (by decide +kernel))) rfl
set_option maxRecDepth 100000 in
theorem cd_X8_say : Cond.code yX8_say cX8_say 4 (some .int) ∈ tblG := tg1 (List.mem_of_getElem? (i := 1252) (by decide +kernel)) rfl
set_option maxRecDepth 100000 in
theorem ds_X8_say : yX8_say.cls ≠ "java/lang/invoke/MethodHandle" ∧ yX8_say.cls ≠ "java/lang/invoke/VarHandle" ∧ (parseMethodDescriptor yX8_say.desc).map (fun d => d.parameters.length) = some 3 := by decide +kernel
set_option maxRecDepth 100000 in
theorem im_X8_say : Cond.instanceMethod yX8_say ∈ tblG := tg1 (List.mem_of_getElem? (i := 1250) (by decide +kernel)) rfl
set_option maxRecDepth 100000 in
theorem se_X8_say : Cond.selects yX8_say.cls yX8_say yX8_say ∈ tblG := tg1 (List.mem_of_getElem? (i := 1251) (by decide +kernel)) rfl
set_option maxRecDepth 100000 in
theorem cd_X8_seed : Cond.code yX8_seed cX8_seed 3 (some .int) ∈ tblG := tg1 (List.mem_of_getElem? (i := 1285) (by decide +kernel)) rfl
set_option maxRecDepth 100000 in
theorem ds_X8_seed : yX8_seed.cls ≠ "java/lang/invoke/MethodHandle" ∧ yX8_seed.cls ≠ "java/lang/invoke/VarHandle" ∧ (parseMethodDescriptor yX8_seed.desc).map (fun d => d.parameters.length) = some 1 := by decide +kernel
set_option maxRecDepth 100000 in
theorem im_X8_seed : Cond.instanceMethod yX8_seed ∈ tblG := tg1 (List.mem_of_getElem? (i := 1283) (by decide +kernel)) rfl
set_option maxRecDepth 100000 in
theorem se_X8_seed : Cond.selects yX8_seed.cls yX8_seed yX8_seed ∈ tblG := tg1 (List.mem_of_getElem? (i := 1284) (by decide +kernel)) rfl
set_option maxRecDepth 100000 in
theorem cd_X8_sortAt : Cond.code yX8_sortAt cX8_sortAt 5 (some .int) ∈ tblG := tg1 (List.mem_of_getElem? (i := 1179) (by decide +kernel)) rfl
set_option maxRecDepth 100000 in
theorem ds_X8_sortAt : yX8_sortAt.cls ≠ "java/lang/invoke/MethodHandle" ∧ yX8_sortAt.cls ≠ "java/lang/invoke/VarHandle" ∧ (parseMethodDescriptor yX8_sortAt.desc).map (fun d => d.parameters.length) = some 2 := by decide +kernel
set_option maxRecDepth 100000 in
theorem im_X8_sortAt : Cond.instanceMethod yX8_sortAt ∈ tblG := tg1 (List.mem_of_getElem? (i := 1178) (by decide +kernel)) rfl
set_option maxRecDepth 100000 in
theorem se_X8_sortAt : Cond.selects yX8_sortAt.cls yX8_sortAt yX8_sortAt ∈ tblG := tg (List.mem_append_left _ (List.mem_of_getElem? (i := 129) (by decide +kernel))) rfl
set_option maxRecDepth 100000 in
theorem cd_X8_sortBy : Cond.code yX8_sortBy cX8_sortBy 1 (some .int) ∈ tblG := tg1 (List.mem_of_getElem? (i := 1007) (by decide +kernel)) rfl
set_option maxRecDepth 100000 in
theorem ds_X8_sortBy : yX8_sortBy.cls ≠ "java/lang/invoke/MethodHandle" ∧ yX8_sortBy.cls ≠ "java/lang/invoke/VarHandle" ∧ (parseMethodDescriptor yX8_sortBy.desc).map (fun d => d.parameters.length) = some 1 := by decide +kernel
set_option maxRecDepth 100000 in
theorem st_X8_sortBy : Cond.static yX8_sortBy ∈ tblG := tg1 (List.mem_of_getElem? (i := 1006) (by decide +kernel)) rfl
set_option maxRecDepth 100000 in
theorem cd_X8_spelt : Cond.code yX8_spelt cX8_spelt 3 (some .int) ∈ tblG := tg1 (List.mem_of_getElem? (i := 1087) (by decide +kernel)) rfl
set_option maxRecDepth 100000 in
theorem ds_X8_spelt : yX8_spelt.cls ≠ "java/lang/invoke/MethodHandle" ∧ yX8_spelt.cls ≠ "java/lang/invoke/VarHandle" ∧ (parseMethodDescriptor yX8_spelt.desc).map (fun d => d.parameters.length) = some 2 := by decide +kernel
set_option maxRecDepth 100000 in
theorem im_X8_spelt : Cond.instanceMethod yX8_spelt ∈ tblG := tg1 (List.mem_of_getElem? (i := 1085) (by decide +kernel)) rfl
set_option maxRecDepth 100000 in
theorem se_X8_spelt : Cond.selects yX8_spelt.cls yX8_spelt yX8_spelt ∈ tblG := tg1 (List.mem_of_getElem? (i := 1086) (by decide +kernel)) rfl
set_option maxRecDepth 100000 in
theorem cd_X8_spread : Cond.code yX8_spread cX8_spread 5 (some .int) ∈ tblG := tg1 (List.mem_of_getElem? (i := 1136) (by decide +kernel)) rfl
set_option maxRecDepth 100000 in
theorem ds_X8_spread : yX8_spread.cls ≠ "java/lang/invoke/MethodHandle" ∧ yX8_spread.cls ≠ "java/lang/invoke/VarHandle" ∧ (parseMethodDescriptor yX8_spread.desc).map (fun d => d.parameters.length) = some 1 := by decide +kernel
set_option maxRecDepth 100000 in
theorem im_X8_spread : Cond.instanceMethod yX8_spread ∈ tblG := tg1 (List.mem_of_getElem? (i := 1135) (by decide +kernel)) rfl
set_option maxRecDepth 100000 in
theorem se_X8_spread : Cond.selects yX8_spread.cls yX8_spread yX8_spread ∈ tblG := tg (List.mem_append_left _ (List.mem_of_getElem? (i := 122) (by decide +kernel))) rfl
set_option maxRecDepth 100000 in
theorem cd_X8_stepsTo : Cond.code yX8_stepsTo cX8_stepsTo 6 (some .int) ∈ tblG := tg1 (List.mem_of_getElem? (i := 1129) (by decide +kernel)) rfl
set_option maxRecDepth 100000 in
theorem ds_X8_stepsTo : yX8_stepsTo.cls ≠ "java/lang/invoke/MethodHandle" ∧ yX8_stepsTo.cls ≠ "java/lang/invoke/VarHandle" ∧ (parseMethodDescriptor yX8_stepsTo.desc).map (fun d => d.parameters.length) = some 2 := by decide +kernel
set_option maxRecDepth 100000 in
theorem im_X8_stepsTo : Cond.instanceMethod yX8_stepsTo ∈ tblG := tg1 (List.mem_of_getElem? (i := 1128) (by decide +kernel)) rfl
set_option maxRecDepth 100000 in
theorem se_X8_stepsTo : Cond.selects yX8_stepsTo.cls yX8_stepsTo yX8_stepsTo ∈ tblG := tg (List.mem_append_left _ (List.mem_of_getElem? (i := 121) (by decide +kernel))) rfl
set_option maxRecDepth 100000 in
theorem cd_X8_sumOf : Cond.code yX8_sumOf cX8_sumOf 4 (some .int) ∈ tblG := tg1 (List.mem_of_getElem? (i := 1083) (by decide +kernel)) rfl
set_option maxRecDepth 100000 in
theorem ds_X8_sumOf : yX8_sumOf.cls ≠ "java/lang/invoke/MethodHandle" ∧ yX8_sumOf.cls ≠ "java/lang/invoke/VarHandle" ∧ (parseMethodDescriptor yX8_sumOf.desc).map (fun d => d.parameters.length) = some 1 := by decide +kernel
set_option maxRecDepth 100000 in
theorem im_X8_sumOf : Cond.instanceMethod yX8_sumOf ∈ tblG := tg1 (List.mem_of_getElem? (i := 1082) (by decide +kernel)) rfl
set_option maxRecDepth 100000 in
theorem se_X8_sumOf : Cond.selects yX8_sumOf.cls yX8_sumOf yX8_sumOf ∈ tblG := tg (List.mem_append_left _ (List.mem_of_getElem? (i := 115) (by decide +kernel))) rfl
set_option maxRecDepth 100000 in
theorem cd_X8_take : Cond.code yX8_take cX8_take 2 (some .int) ∈ tblG := tg1 (List.mem_of_getElem? (i := 1207) (by decide +kernel)) rfl
set_option maxRecDepth 100000 in
theorem ds_X8_take : yX8_take.cls ≠ "java/lang/invoke/MethodHandle" ∧ yX8_take.cls ≠ "java/lang/invoke/VarHandle" ∧ (parseMethodDescriptor yX8_take.desc).map (fun d => d.parameters.length) = some 1 := by decide +kernel
set_option maxRecDepth 100000 in
theorem im_X8_take : Cond.instanceMethod yX8_take ∈ tblG := tg1 (List.mem_of_getElem? (i := 1205) (by decide +kernel)) rfl
set_option maxRecDepth 100000 in
theorem se_X8_take : Cond.selects yX8_take.cls yX8_take yX8_take ∈ tblG := tg1 (List.mem_of_getElem? (i := 1206) (by decide +kernel)) rfl
set_option maxRecDepth 100000 in
theorem cd_X8_takes : Cond.code yX8_takes cX8_takes 2 (some .boolean) ∈ tblG := tg1 (List.mem_of_getElem? (i := 982) (by decide +kernel)) rfl
set_option maxRecDepth 100000 in
theorem ds_X8_takes : yX8_takes.cls ≠ "java/lang/invoke/MethodHandle" ∧ yX8_takes.cls ≠ "java/lang/invoke/VarHandle" ∧ (parseMethodDescriptor yX8_takes.desc).map (fun d => d.parameters.length) = some 1 := by decide +kernel
set_option maxRecDepth 100000 in
theorem im_X8_takes : Cond.instanceMethod yX8_takes ∈ tblG := tg1 (List.mem_of_getElem? (i := 981) (by decide +kernel)) rfl
set_option maxRecDepth 100000 in
theorem se_X8_takes : Cond.selects yX8_takes.cls yX8_takes yX8_takes ∈ tblG := tg (List.mem_append_left _ (List.mem_of_getElem? (i := 96) (by decide +kernel))) rfl
set_option maxRecDepth 100000 in
theorem cd_X8_takesNumber : Cond.code yX8_takesNumber cX8_takesNumber 4 (some .boolean) ∈ tblG := tg1 (List.mem_of_getElem? (i := 994) (by decide +kernel)) rfl
set_option maxRecDepth 100000 in
theorem ds_X8_takesNumber : yX8_takesNumber.cls ≠ "java/lang/invoke/MethodHandle" ∧ yX8_takesNumber.cls ≠ "java/lang/invoke/VarHandle" ∧ (parseMethodDescriptor yX8_takesNumber.desc).map (fun d => d.parameters.length) = some 2 := by decide +kernel
set_option maxRecDepth 100000 in
theorem im_X8_takesNumber : Cond.instanceMethod yX8_takesNumber ∈ tblG := tg1 (List.mem_of_getElem? (i := 993) (by decide +kernel)) rfl
set_option maxRecDepth 100000 in
theorem se_X8_takesNumber : Cond.selects yX8_takesNumber.cls yX8_takesNumber yX8_takesNumber ∈ tblG := tg (List.mem_append_left _ (List.mem_of_getElem? (i := 99) (by decide +kernel))) rfl
set_option maxRecDepth 100000 in
theorem cd_X8_takesUp : Cond.code yX8_takesUp cX8_takesUp 5 none ∈ tblG := tg1 (List.mem_of_getElem? (i := 1215) (by decide +kernel)) rfl
set_option maxRecDepth 100000 in
theorem ds_X8_takesUp : yX8_takesUp.cls ≠ "java/lang/invoke/MethodHandle" ∧ yX8_takesUp.cls ≠ "java/lang/invoke/VarHandle" ∧ (parseMethodDescriptor yX8_takesUp.desc).map (fun d => d.parameters.length) = some 1 := by decide +kernel
set_option maxRecDepth 100000 in
theorem im_X8_takesUp : Cond.instanceMethod yX8_takesUp ∈ tblG := tg1 (List.mem_of_getElem? (i := 1214) (by decide +kernel)) rfl
set_option maxRecDepth 100000 in
theorem se_X8_takesUp : Cond.selects yX8_takesUp.cls yX8_takesUp yX8_takesUp ∈ tblG := tg (List.mem_append_left _ (List.mem_of_getElem? (i := 134) (by decide +kernel))) rfl
set_option maxRecDepth 100000 in
theorem cd_X8_tear : Cond.code yX8_tear cX8_tear 2 (some .int) ∈ tblG := tg1 (List.mem_of_getElem? (i := 1281) (by decide +kernel)) rfl
set_option maxRecDepth 100000 in
theorem ds_X8_tear : yX8_tear.cls ≠ "java/lang/invoke/MethodHandle" ∧ yX8_tear.cls ≠ "java/lang/invoke/VarHandle" ∧ (parseMethodDescriptor yX8_tear.desc).map (fun d => d.parameters.length) = some 0 := by decide +kernel
set_option maxRecDepth 100000 in
theorem im_X8_tear : Cond.instanceMethod yX8_tear ∈ tblG := tg1 (List.mem_of_getElem? (i := 1279) (by decide +kernel)) rfl
set_option maxRecDepth 100000 in
theorem se_X8_tear : Cond.selects yX8_tear.cls yX8_tear yX8_tear ∈ tblG := tg1 (List.mem_of_getElem? (i := 1280) (by decide +kernel)) rfl
set_option maxRecDepth 100000 in
theorem cd_X8_told : Cond.code yX8_told cX8_told 2 (some .int) ∈ tblG := tg1 (List.mem_of_getElem? (i := 1297) (by decide +kernel)) rfl
set_option maxRecDepth 100000 in
theorem ds_X8_told : yX8_told.cls ≠ "java/lang/invoke/MethodHandle" ∧ yX8_told.cls ≠ "java/lang/invoke/VarHandle" ∧ (parseMethodDescriptor yX8_told.desc).map (fun d => d.parameters.length) = some 1 := by decide +kernel
set_option maxRecDepth 100000 in
theorem im_X8_told : Cond.instanceMethod yX8_told ∈ tblG := tg1 (List.mem_of_getElem? (i := 1295) (by decide +kernel)) rfl
set_option maxRecDepth 100000 in
theorem se_X8_told : Cond.selects yX8_told.cls yX8_told yX8_told ∈ tblG := tg1 (List.mem_of_getElem? (i := 1296) (by decide +kernel)) rfl
set_option maxRecDepth 100000 in
theorem cd_X8_toldOfRows : Cond.code yX8_toldOfRows cX8_toldOfRows 2 (some .int) ∈ tblG := tg1 (List.mem_of_getElem? (i := 1309) (by decide +kernel)) rfl
set_option maxRecDepth 100000 in
theorem ds_X8_toldOfRows : yX8_toldOfRows.cls ≠ "java/lang/invoke/MethodHandle" ∧ yX8_toldOfRows.cls ≠ "java/lang/invoke/VarHandle" ∧ (parseMethodDescriptor yX8_toldOfRows.desc).map (fun d => d.parameters.length) = some 1 := by decide +kernel
set_option maxRecDepth 100000 in
theorem im_X8_toldOfRows : Cond.instanceMethod yX8_toldOfRows ∈ tblG := tg1 (List.mem_of_getElem? (i := 1308) (by decide +kernel)) rfl
set_option maxRecDepth 100000 in
theorem se_X8_toldOfRows : Cond.selects yX8_toldOfRows.cls yX8_toldOfRows yX8_toldOfRows ∈ tblG := tg (List.mem_append_left _ (List.mem_of_getElem? (i := 141) (by decide +kernel))) rfl
set_option maxRecDepth 100000 in
theorem cd_X8_undo : Cond.code yX8_undo cX8_undo 3 (some .int) ∈ tblG := tg1 (List.mem_of_getElem? (i := 1228) (by decide +kernel)) rfl
set_option maxRecDepth 100000 in
theorem ds_X8_undo : yX8_undo.cls ≠ "java/lang/invoke/MethodHandle" ∧ yX8_undo.cls ≠ "java/lang/invoke/VarHandle" ∧ (parseMethodDescriptor yX8_undo.desc).map (fun d => d.parameters.length) = some 1 := by decide +kernel
set_option maxRecDepth 100000 in
theorem im_X8_undo : Cond.instanceMethod yX8_undo ∈ tblG := tg1 (List.mem_of_getElem? (i := 1226) (by decide +kernel)) rfl
set_option maxRecDepth 100000 in
theorem se_X8_undo : Cond.selects yX8_undo.cls yX8_undo yX8_undo ∈ tblG := tg1 (List.mem_of_getElem? (i := 1227) (by decide +kernel)) rfl
set_option maxRecDepth 100000 in
theorem cd_X8_unusedNow : Cond.code yX8_unusedNow cX8_unusedNow 5 (some .int) ∈ tblG := tg1 (List.mem_of_getElem? (i := 1313) (by decide +kernel)) rfl
set_option maxRecDepth 100000 in
theorem ds_X8_unusedNow : yX8_unusedNow.cls ≠ "java/lang/invoke/MethodHandle" ∧ yX8_unusedNow.cls ≠ "java/lang/invoke/VarHandle" ∧ (parseMethodDescriptor yX8_unusedNow.desc).map (fun d => d.parameters.length) = some 0 := by decide +kernel
set_option maxRecDepth 100000 in
theorem im_X8_unusedNow : Cond.instanceMethod yX8_unusedNow ∈ tblG := tg1 (List.mem_of_getElem? (i := 1312) (by decide +kernel)) rfl
set_option maxRecDepth 100000 in
theorem se_X8_unusedNow : Cond.selects yX8_unusedNow.cls yX8_unusedNow yX8_unusedNow ∈ tblG := tg (List.mem_append_left _ (List.mem_of_getElem? (i := 142) (by decide +kernel))) rfl
set_option maxRecDepth 100000 in
theorem cd_X8_word : Cond.code yX8_word cX8_word 3 (some .int) ∈ tblG := tg1 (List.mem_of_getElem? (i := 1038) (by decide +kernel)) rfl
set_option maxRecDepth 100000 in
theorem ds_X8_word : yX8_word.cls ≠ "java/lang/invoke/MethodHandle" ∧ yX8_word.cls ≠ "java/lang/invoke/VarHandle" ∧ (parseMethodDescriptor yX8_word.desc).map (fun d => d.parameters.length) = some 2 := by decide +kernel
set_option maxRecDepth 100000 in
theorem im_X8_word : Cond.instanceMethod yX8_word ∈ tblG := tg1 (List.mem_of_getElem? (i := 1036) (by decide +kernel)) rfl
set_option maxRecDepth 100000 in
theorem se_X8_word : Cond.selects yX8_word.cls yX8_word yX8_word ∈ tblG := tg1 (List.mem_of_getElem? (i := 1037) (by decide +kernel)) rfl
set_option maxRecDepth 100000 in
theorem cd_X8_worthOf : Cond.code yX8_worthOf cX8_worthOf 4 (some .int) ∈ tblG := tg1 (List.mem_of_getElem? (i := 1047) (by decide +kernel)) rfl
set_option maxRecDepth 100000 in
theorem ds_X8_worthOf : yX8_worthOf.cls ≠ "java/lang/invoke/MethodHandle" ∧ yX8_worthOf.cls ≠ "java/lang/invoke/VarHandle" ∧ (parseMethodDescriptor yX8_worthOf.desc).map (fun d => d.parameters.length) = some 1 := by decide +kernel
set_option maxRecDepth 100000 in
theorem im_X8_worthOf : Cond.instanceMethod yX8_worthOf ∈ tblG := tg1 (List.mem_of_getElem? (i := 1046) (by decide +kernel)) rfl
set_option maxRecDepth 100000 in
theorem se_X8_worthOf : Cond.selects yX8_worthOf.cls yX8_worthOf yX8_worthOf ∈ tblG := tg (List.mem_append_left _ (List.mem_of_getElem? (i := 106) (by decide +kernel))) rfl
set_option maxRecDepth 100000 in
theorem cd_X8_write : Cond.code yX8_write cX8_write 3 (some .int) ∈ tblG := tg1 (List.mem_of_getElem? (i := 1273) (by decide +kernel)) rfl
set_option maxRecDepth 100000 in
theorem ds_X8_write : yX8_write.cls ≠ "java/lang/invoke/MethodHandle" ∧ yX8_write.cls ≠ "java/lang/invoke/VarHandle" ∧ (parseMethodDescriptor yX8_write.desc).map (fun d => d.parameters.length) = some 2 := by decide +kernel
set_option maxRecDepth 100000 in
theorem im_X8_write : Cond.instanceMethod yX8_write ∈ tblG := tg1 (List.mem_of_getElem? (i := 1271) (by decide +kernel)) rfl
set_option maxRecDepth 100000 in
theorem se_X8_write : Cond.selects yX8_write.cls yX8_write yX8_write ∈ tblG := tg1 (List.mem_of_getElem? (i := 1272) (by decide +kernel)) rfl
set_option maxRecDepth 100000 in
theorem cd_J6_bitCount_0f7a4 : Cond.code yJ6_bitCount_0f7a4 cJ6_bitCount_0f7a4 1 (some .int) ∈ tblG := tg1 (List.mem_of_getElem? (i := 785) (by decide +kernel)) rfl
set_option maxRecDepth 100000 in
theorem ds_J6_bitCount_0f7a4 : yJ6_bitCount_0f7a4.cls ≠ "java/lang/invoke/MethodHandle" ∧ yJ6_bitCount_0f7a4.cls ≠ "java/lang/invoke/VarHandle" ∧ (parseMethodDescriptor yJ6_bitCount_0f7a4.desc).map (fun d => d.parameters.length) = some 1 := by decide +kernel
set_option maxRecDepth 100000 in
theorem st_J6_bitCount_0f7a4 : Cond.static yJ6_bitCount_0f7a4 ∈ tblG := tg1 (List.mem_of_getElem? (i := 784) (by decide +kernel)) rfl
set_option maxRecDepth 100000 in
theorem cd_J7_fill_53178 : Cond.code yJ7_fill_53178 cJ7_fill_53178 4 none ∈ tblG := tg1 (List.mem_of_getElem? (i := 301) (by decide +kernel)) rfl
set_option maxRecDepth 100000 in
theorem ds_J7_fill_53178 : yJ7_fill_53178.cls ≠ "java/lang/invoke/MethodHandle" ∧ yJ7_fill_53178.cls ≠ "java/lang/invoke/VarHandle" ∧ (parseMethodDescriptor yJ7_fill_53178.desc).map (fun d => d.parameters.length) = some 2 := by decide +kernel
set_option maxRecDepth 100000 in
theorem st_J7_fill_53178 : Cond.static yJ7_fill_53178 ∈ tblG := tg1 (List.mem_of_getElem? (i := 300) (by decide +kernel)) rfl
set_option maxRecDepth 100000 in
theorem fo_X0_9 : FO RX0 9 0 0 := ⟨by decide, by decide, Or.inl (tg1 (List.mem_of_getElem? (i := 53) (by decide +kernel)) rfl)⟩
set_option maxRecDepth 100000 in
theorem fo_X0_15 : FO RX0 15 0 1 := ⟨by decide, by decide, Or.inl (tg1 (List.mem_of_getElem? (i := 55) (by decide +kernel)) rfl)⟩
set_option maxRecDepth 100000 in
theorem fo_X0_18 : FO RX0 18 0 2 := ⟨by decide, by decide, Or.inl (tg1 (List.mem_of_getElem? (i := 57) (by decide +kernel)) rfl)⟩
set_option maxRecDepth 100000 in
theorem fo_X0_21 : FO RX0 21 0 3 := ⟨by decide, by decide, Or.inl (tg1 (List.mem_of_getElem? (i := 60) (by decide +kernel)) rfl)⟩
set_option maxRecDepth 100000 in
theorem fo_X0_24 : FO RX0 24 0 4 := ⟨by decide, by decide, Or.inl (tg1 (List.mem_of_getElem? (i := 62) (by decide +kernel)) rfl)⟩
set_option maxRecDepth 100000 in
theorem fo_X0_28 : FO RX0 28 0 5 := ⟨by decide, by decide, Or.inl (tg1 (List.mem_of_getElem? (i := 64) (by decide +kernel)) rfl)⟩
set_option maxRecDepth 100000 in
theorem fo_X0_31 : FO RX0 31 0 6 := ⟨by decide, by decide, Or.inl (tg1 (List.mem_of_getElem? (i := 66) (by decide +kernel)) rfl)⟩
set_option maxRecDepth 100000 in
theorem fo_X0_60 : FO RX0 60 6 4 := ⟨by decide, by decide, Or.inr (tn1 (List.mem_of_getElem? (i := 173) (by decide +kernel)) rfl)⟩
set_option maxRecDepth 100000 in
theorem fo_X1_11 : FO RX1 11 1 0 := ⟨by decide, by decide, Or.inl (tg1 (List.mem_of_getElem? (i := 93) (by decide +kernel)) rfl)⟩
set_option maxRecDepth 100000 in
theorem fo_X1_17 : FO RX1 17 1 1 := ⟨by decide, by decide, Or.inl (tg1 (List.mem_of_getElem? (i := 94) (by decide +kernel)) rfl)⟩
set_option maxRecDepth 100000 in
theorem fo_X1_21 : FO RX1 21 1 2 := ⟨by decide, by decide, Or.inl (tg1 (List.mem_of_getElem? (i := 95) (by decide +kernel)) rfl)⟩
set_option maxRecDepth 100000 in
theorem fo_X2_10 : FO RX2 10 2 0 := ⟨by decide, by decide, Or.inl (tg1 (List.mem_of_getElem? (i := 113) (by decide +kernel)) rfl)⟩
set_option maxRecDepth 100000 in
theorem fo_X2_16 : FO RX2 16 2 1 := ⟨by decide, by decide, Or.inl (tg1 (List.mem_of_getElem? (i := 115) (by decide +kernel)) rfl)⟩
set_option maxRecDepth 100000 in
theorem fo_X2_20 : FO RX2 20 2 2 := ⟨by decide, by decide, Or.inl (tg1 (List.mem_of_getElem? (i := 117) (by decide +kernel)) rfl)⟩
set_option maxRecDepth 100000 in
theorem fo_X3_9 : FO RX3 9 3 0 := ⟨by decide, by decide, Or.inl (tg1 (List.mem_of_getElem? (i := 28) (by decide +kernel)) rfl)⟩
set_option maxRecDepth 100000 in
theorem fo_X3_15 : FO RX3 15 3 1 := ⟨by decide, by decide, Or.inl (tg1 (List.mem_of_getElem? (i := 29) (by decide +kernel)) rfl)⟩
set_option maxRecDepth 100000 in
theorem fo_X3_19 : FO RX3 19 3 2 := ⟨by decide, by decide, Or.inl (tg1 (List.mem_of_getElem? (i := 31) (by decide +kernel)) rfl)⟩
set_option maxRecDepth 100000 in
theorem fo_X3_22 : FO RX3 22 3 3 := ⟨by decide, by decide, Or.inl (tg1 (List.mem_of_getElem? (i := 32) (by decide +kernel)) rfl)⟩
set_option maxRecDepth 100000 in
theorem fo_X3_25 : FO RX3 25 3 4 := ⟨by decide, by decide, Or.inl (tg1 (List.mem_of_getElem? (i := 33) (by decide +kernel)) rfl)⟩
set_option maxRecDepth 100000 in
theorem fo_X3_44 : FO RX3 44 6 10 := ⟨by decide, by decide, Or.inr (tn1 (List.mem_of_getElem? (i := 182) (by decide +kernel)) rfl)⟩
set_option maxRecDepth 100000 in
theorem fo_X3_55 : FO RX3 55 6 11 := ⟨by decide, by decide, Or.inr (tn1 (List.mem_of_getElem? (i := 185) (by decide +kernel)) rfl)⟩
set_option maxRecDepth 100000 in
theorem fo_X3_61 : FO RX3 61 6 12 := ⟨by decide, by decide, Or.inr (tn1 (List.mem_of_getElem? (i := 188) (by decide +kernel)) rfl)⟩
set_option maxRecDepth 100000 in
theorem fo_X3_71 : FO RX3 71 6 0 := ⟨by decide, by decide, Or.inr (tn1 (List.mem_of_getElem? (i := 163) (by decide +kernel)) rfl)⟩
set_option maxRecDepth 100000 in
theorem fo_X3_91 : FO RX3 91 6 1 := ⟨by decide, by decide, Or.inr (tn1 (List.mem_of_getElem? (i := 167) (by decide +kernel)) rfl)⟩
set_option maxRecDepth 100000 in
theorem fo_X4_9 : FO RX4 9 4 0 := ⟨by decide, by decide, Or.inl (tg1 (List.mem_of_getElem? (i := 224) (by decide +kernel)) rfl)⟩
set_option maxRecDepth 100000 in
theorem fo_X4_15 : FO RX4 15 4 1 := ⟨by decide, by decide, Or.inl (tg1 (List.mem_of_getElem? (i := 225) (by decide +kernel)) rfl)⟩
set_option maxRecDepth 100000 in
theorem fo_X4_18 : FO RX4 18 4 2 := ⟨by decide, by decide, Or.inl (tg1 (List.mem_of_getElem? (i := 226) (by decide +kernel)) rfl)⟩
set_option maxRecDepth 100000 in
theorem fo_X4_21 : FO RX4 21 4 3 := ⟨by decide, by decide, Or.inl (tg1 (List.mem_of_getElem? (i := 227) (by decide +kernel)) rfl)⟩
set_option maxRecDepth 100000 in
theorem fo_X4_24 : FO RX4 24 4 4 := ⟨by decide, by decide, Or.inl (tg1 (List.mem_of_getElem? (i := 228) (by decide +kernel)) rfl)⟩
set_option maxRecDepth 100000 in
theorem fo_X4_28 : FO RX4 28 4 5 := ⟨by decide, by decide, Or.inl (tg1 (List.mem_of_getElem? (i := 229) (by decide +kernel)) rfl)⟩
set_option maxRecDepth 100000 in
theorem fo_X4_32 : FO RX4 32 4 6 := ⟨by decide, by decide, Or.inl (tg1 (List.mem_of_getElem? (i := 230) (by decide +kernel)) rfl)⟩
set_option maxRecDepth 100000 in
theorem fo_X4_67 : FO RX4 67 6 12 := ⟨by decide, by decide, Or.inr (tn1 (List.mem_of_getElem? (i := 190) (by decide +kernel)) rfl)⟩
set_option maxRecDepth 100000 in
theorem fo_X4_81 : FO RX4 81 6 4 := ⟨by decide, by decide, Or.inr (tn1 (List.mem_of_getElem? (i := 174) (by decide +kernel)) rfl)⟩
set_option maxRecDepth 100000 in
theorem fo_X5_9 : FO RX5 9 5 0 := ⟨by decide, by decide, Or.inl (tg1 (List.mem_of_getElem? (i := 132) (by decide +kernel)) rfl)⟩
set_option maxRecDepth 100000 in
theorem fo_X5_15 : FO RX5 15 5 1 := ⟨by decide, by decide, Or.inl (tg1 (List.mem_of_getElem? (i := 133) (by decide +kernel)) rfl)⟩
set_option maxRecDepth 100000 in
theorem fo_X5_18 : FO RX5 18 5 2 := ⟨by decide, by decide, Or.inl (tg1 (List.mem_of_getElem? (i := 134) (by decide +kernel)) rfl)⟩
set_option maxRecDepth 100000 in
theorem fo_X5_21 : FO RX5 21 5 3 := ⟨by decide, by decide, Or.inl (tg1 (List.mem_of_getElem? (i := 135) (by decide +kernel)) rfl)⟩
set_option maxRecDepth 100000 in
theorem fo_X5_24 : FO RX5 24 5 4 := ⟨by decide, by decide, Or.inl (tg1 (List.mem_of_getElem? (i := 136) (by decide +kernel)) rfl)⟩
set_option maxRecDepth 100000 in
theorem fo_X5_27 : FO RX5 27 5 5 := ⟨by decide, by decide, Or.inl (tg1 (List.mem_of_getElem? (i := 137) (by decide +kernel)) rfl)⟩
set_option maxRecDepth 100000 in
theorem fo_X5_31 : FO RX5 31 5 6 := ⟨by decide, by decide, Or.inl (tg1 (List.mem_of_getElem? (i := 139) (by decide +kernel)) rfl)⟩
set_option maxRecDepth 100000 in
theorem fo_X5_34 : FO RX5 34 6 12 := ⟨by decide, by decide, Or.inr (tn1 (List.mem_of_getElem? (i := 189) (by decide +kernel)) rfl)⟩
set_option maxRecDepth 100000 in
theorem fo_X5_79 : FO RX5 79 0 2 := ⟨by decide, by decide, Or.inr (tn1 (List.mem_of_getElem? (i := 58) (by decide +kernel)) rfl)⟩
set_option maxRecDepth 100000 in
theorem fo_X6_9 : FO RX6 9 6 0 := ⟨by decide, by decide, Or.inl (tg1 (List.mem_of_getElem? (i := 162) (by decide +kernel)) rfl)⟩
set_option maxRecDepth 100000 in
theorem fo_X6_15 : FO RX6 15 6 1 := ⟨by decide, by decide, Or.inl (tg1 (List.mem_of_getElem? (i := 165) (by decide +kernel)) rfl)⟩
set_option maxRecDepth 100000 in
theorem fo_X6_18 : FO RX6 18 6 2 := ⟨by decide, by decide, Or.inl (tg1 (List.mem_of_getElem? (i := 168) (by decide +kernel)) rfl)⟩
set_option maxRecDepth 100000 in
theorem fo_X6_21 : FO RX6 21 6 3 := ⟨by decide, by decide, Or.inl (tg1 (List.mem_of_getElem? (i := 170) (by decide +kernel)) rfl)⟩
set_option maxRecDepth 100000 in
theorem fo_X6_24 : FO RX6 24 6 4 := ⟨by decide, by decide, Or.inl (tg1 (List.mem_of_getElem? (i := 172) (by decide +kernel)) rfl)⟩
set_option maxRecDepth 100000 in
theorem fo_X6_27 : FO RX6 27 6 5 := ⟨by decide, by decide, Or.inl (tg1 (List.mem_of_getElem? (i := 176) (by decide +kernel)) rfl)⟩
set_option maxRecDepth 100000 in
theorem fo_X6_30 : FO RX6 30 6 6 := ⟨by decide, by decide, Or.inl (tg1 (List.mem_of_getElem? (i := 177) (by decide +kernel)) rfl)⟩
set_option maxRecDepth 100000 in
theorem fo_X6_33 : FO RX6 33 6 7 := ⟨by decide, by decide, Or.inl (tg1 (List.mem_of_getElem? (i := 178) (by decide +kernel)) rfl)⟩
set_option maxRecDepth 100000 in
theorem fo_X6_36 : FO RX6 36 6 8 := ⟨by decide, by decide, Or.inl (tg1 (List.mem_of_getElem? (i := 179) (by decide +kernel)) rfl)⟩
set_option maxRecDepth 100000 in
theorem fo_X6_39 : FO RX6 39 6 9 := ⟨by decide, by decide, Or.inl (tg1 (List.mem_of_getElem? (i := 180) (by decide +kernel)) rfl)⟩
set_option maxRecDepth 100000 in
theorem fo_X6_42 : FO RX6 42 6 10 := ⟨by decide, by decide, Or.inl (tg1 (List.mem_of_getElem? (i := 181) (by decide +kernel)) rfl)⟩
set_option maxRecDepth 100000 in
theorem fo_X6_46 : FO RX6 46 6 11 := ⟨by decide, by decide, Or.inl (tg1 (List.mem_of_getElem? (i := 184) (by decide +kernel)) rfl)⟩
set_option maxRecDepth 100000 in
theorem fo_X6_49 : FO RX6 49 6 12 := ⟨by decide, by decide, Or.inl (tg1 (List.mem_of_getElem? (i := 186) (by decide +kernel)) rfl)⟩
set_option maxRecDepth 100000 in
theorem fo_X7_10 : FO RX7 10 7 0 := ⟨by decide, by decide, Or.inl (tg1 (List.mem_of_getElem? (i := 246) (by decide +kernel)) rfl)⟩
set_option maxRecDepth 100000 in
theorem fo_X7_19 : FO RX7 19 7 1 := ⟨by decide, by decide, Or.inl (tg1 (List.mem_of_getElem? (i := 247) (by decide +kernel)) rfl)⟩
set_option maxRecDepth 100000 in
theorem fo_X7_26 : FO RX7 26 7 2 := ⟨by decide, by decide, Or.inl (tg1 (List.mem_of_getElem? (i := 248) (by decide +kernel)) rfl)⟩
set_option maxRecDepth 100000 in
theorem fo_X7_32 : FO RX7 32 7 3 := ⟨by decide, by decide, Or.inl (tg1 (List.mem_of_getElem? (i := 249) (by decide +kernel)) rfl)⟩
set_option maxRecDepth 100000 in
theorem fo_X7_40 : FO RX7 40 7 5 := ⟨by decide, by decide, Or.inl (tg1 (List.mem_of_getElem? (i := 251) (by decide +kernel)) rfl)⟩
set_option maxRecDepth 100000 in
theorem fo_X7_47 : FO RX7 47 7 6 := ⟨by decide, by decide, Or.inl (tg1 (List.mem_of_getElem? (i := 252) (by decide +kernel)) rfl)⟩
set_option maxRecDepth 100000 in
theorem fo_X7_51 : FO RX7 51 7 7 := ⟨by decide, by decide, Or.inl (tg1 (List.mem_of_getElem? (i := 253) (by decide +kernel)) rfl)⟩
set_option maxRecDepth 100000 in
theorem fo_X7_59 : FO RX7 59 7 4 := ⟨by decide, by decide, Or.inl (tg1 (List.mem_of_getElem? (i := 250) (by decide +kernel)) rfl)⟩
set_option maxRecDepth 100000 in
theorem fo_X7_63 : FO RX7 63 7 8 := ⟨by decide, by decide, Or.inl (tg1 (List.mem_of_getElem? (i := 254) (by decide +kernel)) rfl)⟩
set_option maxRecDepth 100000 in
theorem fo_X7_67 : FO RX7 67 7 9 := ⟨by decide, by decide, Or.inl (tg1 (List.mem_of_getElem? (i := 255) (by decide +kernel)) rfl)⟩
set_option maxRecDepth 100000 in
theorem fo_X7_75 : FO RX7 75 3 1 := ⟨by decide, by decide, Or.inr (tn1 (List.mem_of_getElem? (i := 30) (by decide +kernel)) rfl)⟩
set_option maxRecDepth 100000 in
theorem fo_X7_83 : FO RX7 83 3 4 := ⟨by decide, by decide, Or.inr (tn1 (List.mem_of_getElem? (i := 34) (by decide +kernel)) rfl)⟩
set_option maxRecDepth 100000 in
theorem fo_X7_92 : FO RX7 92 6 12 := ⟨by decide, by decide, Or.inr (tn1 (List.mem_of_getElem? (i := 187) (by decide +kernel)) rfl)⟩
set_option maxRecDepth 100000 in
theorem fo_X7_95 : FO RX7 95 6 1 := ⟨by decide, by decide, Or.inr (tn1 (List.mem_of_getElem? (i := 166) (by decide +kernel)) rfl)⟩
set_option maxRecDepth 100000 in
theorem fo_X7_105 : FO RX7 105 2 2 := ⟨by decide, by decide, Or.inr (tn1 (List.mem_of_getElem? (i := 118) (by decide +kernel)) rfl)⟩
set_option maxRecDepth 100000 in
theorem fo_X7_113 : FO RX7 113 6 10 := ⟨by decide, by decide, Or.inr (tn1 (List.mem_of_getElem? (i := 183) (by decide +kernel)) rfl)⟩
set_option maxRecDepth 100000 in
theorem fo_X7_116 : FO RX7 116 0 0 := ⟨by decide, by decide, Or.inr (tn1 (List.mem_of_getElem? (i := 54) (by decide +kernel)) rfl)⟩
set_option maxRecDepth 100000 in
theorem fo_X7_121 : FO RX7 121 0 1 := ⟨by decide, by decide, Or.inr (tn1 (List.mem_of_getElem? (i := 56) (by decide +kernel)) rfl)⟩
set_option maxRecDepth 100000 in
theorem fo_X7_124 : FO RX7 124 0 4 := ⟨by decide, by decide, Or.inr (tn1 (List.mem_of_getElem? (i := 63) (by decide +kernel)) rfl)⟩
set_option maxRecDepth 100000 in
theorem fo_X7_125 : FO RX7 125 0 5 := ⟨by decide, by decide, Or.inr (tn1 (List.mem_of_getElem? (i := 65) (by decide +kernel)) rfl)⟩
set_option maxRecDepth 100000 in
theorem fo_X7_128 : FO RX7 128 0 6 := ⟨by decide, by decide, Or.inr (tn1 (List.mem_of_getElem? (i := 67) (by decide +kernel)) rfl)⟩
set_option maxRecDepth 100000 in
theorem fo_X7_157 : FO RX7 157 5 5 := ⟨by decide, by decide, Or.inr (tn1 (List.mem_of_getElem? (i := 138) (by decide +kernel)) rfl)⟩
set_option maxRecDepth 100000 in
theorem fo_X7_160 : FO RX7 160 5 6 := ⟨by decide, by decide, Or.inr (tn1 (List.mem_of_getElem? (i := 140) (by decide +kernel)) rfl)⟩
set_option maxRecDepth 100000 in
theorem fo_X7_163 : FO RX7 163 1 2 := ⟨by decide, by decide, Or.inr (tn1 (List.mem_of_getElem? (i := 96) (by decide +kernel)) rfl)⟩
set_option maxRecDepth 100000 in
theorem fo_X7_164 : FO RX7 164 6 0 := ⟨by decide, by decide, Or.inr (tn1 (List.mem_of_getElem? (i := 164) (by decide +kernel)) rfl)⟩
set_option maxRecDepth 100000 in
theorem fo_X7_171 : FO RX7 171 6 2 := ⟨by decide, by decide, Or.inr (tn1 (List.mem_of_getElem? (i := 169) (by decide +kernel)) rfl)⟩
set_option maxRecDepth 100000 in
theorem fo_X7_174 : FO RX7 174 6 3 := ⟨by decide, by decide, Or.inr (tn1 (List.mem_of_getElem? (i := 171) (by decide +kernel)) rfl)⟩
set_option maxRecDepth 100000 in
theorem fo_X7_177 : FO RX7 177 6 4 := ⟨by decide, by decide, Or.inr (tn1 (List.mem_of_getElem? (i := 175) (by decide +kernel)) rfl)⟩
set_option maxRecDepth 100000 in
theorem fo_X7_200 : FO RX7 200 0 2 := ⟨by decide, by decide, Or.inr (tn1 (List.mem_of_getElem? (i := 59) (by decide +kernel)) rfl)⟩
set_option maxRecDepth 100000 in
theorem fo_X7_203 : FO RX7 203 0 3 := ⟨by decide, by decide, Or.inr (tn1 (List.mem_of_getElem? (i := 61) (by decide +kernel)) rfl)⟩
set_option maxRecDepth 100000 in
theorem fo_X7_338 : FO RX7 338 2 1 := ⟨by decide, by decide, Or.inr (tn1 (List.mem_of_getElem? (i := 116) (by decide +kernel)) rfl)⟩
set_option maxRecDepth 100000 in
theorem fo_X7_339 : FO RX7 339 2 0 := ⟨by decide, by decide, Or.inr (tn1 (List.mem_of_getElem? (i := 114) (by decide +kernel)) rfl)⟩
set_option maxRecDepth 100000 in
theorem fo_X8_7 : FO RX8 7 8 0 := ⟨by decide, by decide, Or.inl (tg1 (List.mem_of_getElem? (i := 838) (by decide +kernel)) rfl)⟩
set_option maxRecDepth 100000 in
theorem fo_X8_13 : FO RX8 13 8 1 := ⟨by decide, by decide, Or.inl (tg1 (List.mem_of_getElem? (i := 839) (by decide +kernel)) rfl)⟩
set_option maxRecDepth 100000 in
theorem fo_X8_16 : FO RX8 16 8 2 := ⟨by decide, by decide, Or.inl (tg1 (List.mem_of_getElem? (i := 840) (by decide +kernel)) rfl)⟩
set_option maxRecDepth 100000 in
theorem fo_X8_19 : FO RX8 19 8 3 := ⟨by decide, by decide, Or.inl (tg1 (List.mem_of_getElem? (i := 841) (by decide +kernel)) rfl)⟩
set_option maxRecDepth 100000 in
theorem fo_X8_22 : FO RX8 22 8 4 := ⟨by decide, by decide, Or.inl (tg1 (List.mem_of_getElem? (i := 842) (by decide +kernel)) rfl)⟩
set_option maxRecDepth 100000 in
theorem fo_X8_25 : FO RX8 25 8 7 := ⟨by decide, by decide, Or.inl (tg1 (List.mem_of_getElem? (i := 845) (by decide +kernel)) rfl)⟩
set_option maxRecDepth 100000 in
theorem fo_X8_28 : FO RX8 28 8 9 := ⟨by decide, by decide, Or.inl (tg1 (List.mem_of_getElem? (i := 847) (by decide +kernel)) rfl)⟩
set_option maxRecDepth 100000 in
theorem fo_X8_31 : FO RX8 31 8 11 := ⟨by decide, by decide, Or.inl (tg1 (List.mem_of_getElem? (i := 849) (by decide +kernel)) rfl)⟩
set_option maxRecDepth 100000 in
theorem fo_X8_34 : FO RX8 34 8 17 := ⟨by decide, by decide, Or.inl (tg1 (List.mem_of_getElem? (i := 855) (by decide +kernel)) rfl)⟩
set_option maxRecDepth 100000 in
theorem fo_X8_37 : FO RX8 37 8 18 := ⟨by decide, by decide, Or.inl (tg1 (List.mem_of_getElem? (i := 856) (by decide +kernel)) rfl)⟩
set_option maxRecDepth 100000 in
theorem fo_X8_40 : FO RX8 40 8 19 := ⟨by decide, by decide, Or.inl (tg1 (List.mem_of_getElem? (i := 857) (by decide +kernel)) rfl)⟩
set_option maxRecDepth 100000 in
theorem fo_X8_43 : FO RX8 43 8 20 := ⟨by decide, by decide, Or.inl (tg1 (List.mem_of_getElem? (i := 858) (by decide +kernel)) rfl)⟩
set_option maxRecDepth 100000 in
theorem fo_X8_46 : FO RX8 46 8 21 := ⟨by decide, by decide, Or.inl (tg1 (List.mem_of_getElem? (i := 859) (by decide +kernel)) rfl)⟩
set_option maxRecDepth 100000 in
theorem fo_X8_49 : FO RX8 49 8 24 := ⟨by decide, by decide, Or.inl (tg1 (List.mem_of_getElem? (i := 862) (by decide +kernel)) rfl)⟩
set_option maxRecDepth 100000 in
theorem fo_X8_52 : FO RX8 52 8 26 := ⟨by decide, by decide, Or.inl (tg1 (List.mem_of_getElem? (i := 864) (by decide +kernel)) rfl)⟩
set_option maxRecDepth 100000 in
theorem fo_X8_55 : FO RX8 55 8 32 := ⟨by decide, by decide, Or.inl (tg1 (List.mem_of_getElem? (i := 870) (by decide +kernel)) rfl)⟩
set_option maxRecDepth 100000 in
theorem fo_X8_58 : FO RX8 58 8 33 := ⟨by decide, by decide, Or.inl (tg1 (List.mem_of_getElem? (i := 871) (by decide +kernel)) rfl)⟩
set_option maxRecDepth 100000 in
theorem fo_X8_61 : FO RX8 61 8 35 := ⟨by decide, by decide, Or.inl (tg1 (List.mem_of_getElem? (i := 873) (by decide +kernel)) rfl)⟩
set_option maxRecDepth 100000 in
theorem fo_X8_64 : FO RX8 64 8 37 := ⟨by decide, by decide, Or.inl (tg1 (List.mem_of_getElem? (i := 875) (by decide +kernel)) rfl)⟩
set_option maxRecDepth 100000 in
theorem fo_X8_67 : FO RX8 67 8 38 := ⟨by decide, by decide, Or.inl (tg1 (List.mem_of_getElem? (i := 876) (by decide +kernel)) rfl)⟩
set_option maxRecDepth 100000 in
theorem fo_X8_71 : FO RX8 71 8 14 := ⟨by decide, by decide, Or.inl (tg1 (List.mem_of_getElem? (i := 852) (by decide +kernel)) rfl)⟩
set_option maxRecDepth 100000 in
theorem fo_X8_75 : FO RX8 75 8 5 := ⟨by decide, by decide, Or.inl (tg1 (List.mem_of_getElem? (i := 843) (by decide +kernel)) rfl)⟩
set_option maxRecDepth 100000 in
theorem fo_X8_87 : FO RX8 87 8 12 := ⟨by decide, by decide, Or.inl (tg1 (List.mem_of_getElem? (i := 850) (by decide +kernel)) rfl)⟩
set_option maxRecDepth 100000 in
theorem fo_X8_91 : FO RX8 91 8 13 := ⟨by decide, by decide, Or.inl (tg1 (List.mem_of_getElem? (i := 851) (by decide +kernel)) rfl)⟩
set_option maxRecDepth 100000 in
theorem fo_X8_94 : FO RX8 94 8 15 := ⟨by decide, by decide, Or.inl (tg1 (List.mem_of_getElem? (i := 853) (by decide +kernel)) rfl)⟩
set_option maxRecDepth 100000 in
theorem fo_X8_109 : FO RX8 109 8 16 := ⟨by decide, by decide, Or.inl (tg1 (List.mem_of_getElem? (i := 854) (by decide +kernel)) rfl)⟩
set_option maxRecDepth 100000 in
theorem fo_X8_127 : FO RX8 127 8 23 := ⟨by decide, by decide, Or.inl (tg1 (List.mem_of_getElem? (i := 861) (by decide +kernel)) rfl)⟩
set_option maxRecDepth 100000 in
theorem fo_X8_131 : FO RX8 131 8 22 := ⟨by decide, by decide, Or.inl (tg1 (List.mem_of_getElem? (i := 860) (by decide +kernel)) rfl)⟩
set_option maxRecDepth 100000 in
theorem fo_X8_150 : FO RX8 150 8 10 := ⟨by decide, by decide, Or.inl (tg1 (List.mem_of_getElem? (i := 848) (by decide +kernel)) rfl)⟩
set_option maxRecDepth 100000 in
theorem fo_X8_153 : FO RX8 153 8 34 := ⟨by decide, by decide, Or.inl (tg1 (List.mem_of_getElem? (i := 872) (by decide +kernel)) rfl)⟩
set_option maxRecDepth 100000 in
theorem fo_X8_156 : FO RX8 156 8 36 := ⟨by decide, by decide, Or.inl (tg1 (List.mem_of_getElem? (i := 874) (by decide +kernel)) rfl)⟩
set_option maxRecDepth 100000 in
theorem fo_X8_165 : FO RX8 165 8 6 := ⟨by decide, by decide, Or.inl (tg1 (List.mem_of_getElem? (i := 844) (by decide +kernel)) rfl)⟩
set_option maxRecDepth 100000 in
theorem fo_X8_212 : FO RX8 212 8 27 := ⟨by decide, by decide, Or.inl (tg1 (List.mem_of_getElem? (i := 865) (by decide +kernel)) rfl)⟩
set_option maxRecDepth 100000 in
theorem fo_X8_215 : FO RX8 215 8 28 := ⟨by decide, by decide, Or.inl (tg1 (List.mem_of_getElem? (i := 866) (by decide +kernel)) rfl)⟩
set_option maxRecDepth 100000 in
theorem fo_X8_218 : FO RX8 218 8 29 := ⟨by decide, by decide, Or.inl (tg1 (List.mem_of_getElem? (i := 867) (by decide +kernel)) rfl)⟩
set_option maxRecDepth 100000 in
theorem fo_X8_221 : FO RX8 221 8 30 := ⟨by decide, by decide, Or.inl (tg1 (List.mem_of_getElem? (i := 868) (by decide +kernel)) rfl)⟩
set_option maxRecDepth 100000 in
theorem fo_X8_224 : FO RX8 224 8 25 := ⟨by decide, by decide, Or.inl (tg1 (List.mem_of_getElem? (i := 863) (by decide +kernel)) rfl)⟩
set_option maxRecDepth 100000 in
theorem fo_X8_227 : FO RX8 227 8 31 := ⟨by decide, by decide, Or.inl (tg1 (List.mem_of_getElem? (i := 869) (by decide +kernel)) rfl)⟩
set_option maxRecDepth 100000 in
theorem fo_X8_267 : FO RX8 267 8 8 := ⟨by decide, by decide, Or.inl (tg1 (List.mem_of_getElem? (i := 846) (by decide +kernel)) rfl)⟩
set_option maxRecDepth 100000 in
theorem na_copy : Cond.native arraycopyName ∈ tblG ∧ Cond.static arraycopyName ∈ tblG ∧ Cond.initialized "java/lang/System" ∈ tblG := ⟨tg1 (List.mem_of_getElem? (i := 424) (by decide +kernel)) rfl, tg1 (List.mem_of_getElem? (i := 423) (by decide +kernel)) rfl, in_java_lang_System⟩
set_option maxRecDepth 100000 in
theorem mm_min : Cond.static Lib.Math.min.name ∈ tblG ∧ Cond.code Lib.Math.min.name Lib.Math.min.code 2 (some .int) ∈ tblG := ⟨tg1 (List.mem_of_getElem? (i := 331) (by decide +kernel)) rfl, tg1 (List.mem_of_getElem? (i := 332) (by decide +kernel)) rfl⟩
set_option maxRecDepth 100000 in
theorem mm_max : Cond.static Lib.Math.max.name ∈ tblG ∧ Cond.code Lib.Math.max.name Lib.Math.max.code 2 (some .int) ∈ tblG := ⟨tg1 (List.mem_of_getElem? (i := 463) (by decide +kernel)) rfl, tg1 (List.mem_of_getElem? (i := 464) (by decide +kernel)) rfl⟩
set_option maxRecDepth 100000 in
theorem co_L_9 : IO' RL 9 yX7_init cX7_init 2 0 := ⟨cd_X7_init, in_LetterTray, im_X7_init, rfl, ds_X7_init, Or.inl (tg1 (List.mem_of_getElem? (i := 16) (by decide +kernel)) rfl)⟩
set_option maxRecDepth 100000 in
theorem co_L_12 : IO' RL 12 yX8_init cX8_init 1 0 := ⟨cd_X8_init, in_LetterTrayModel, im_X8_init, rfl, ds_X8_init, Or.inl (tg1 (List.mem_of_getElem? (i := 834) (by decide +kernel)) rfl)⟩
set_option maxRecDepth 100000 in
theorem co_L_13 : CO RL 13 yX7_feed cX7_feed 2 (some .int) 1 := ⟨cd_X7_feed, in_LetterTray, im_X7_feed, se_X7_feed, ds_X7_feed, Or.inl (tg1 (List.mem_of_getElem? (i := 277) (by decide +kernel)) rfl)⟩
set_option maxRecDepth 100000 in
theorem co_L_17 : CO RL 17 yX8_feed cX8_feed 2 (some .int) 1 := ⟨cd_X8_feed, in_LetterTrayModel, im_X8_feed, se_X8_feed, ds_X8_feed, Or.inl (tg1 (List.mem_of_getElem? (i := 957) (by decide +kernel)) rfl)⟩
set_option maxRecDepth 100000 in
theorem co_L_18 : CO RL 18 yX7_game cX7_game 3 (some .int) 0 := ⟨cd_X7_game, in_LetterTray, im_X7_game, se_X7_game, ds_X7_game, Or.inl (tg1 (List.mem_of_getElem? (i := 287) (by decide +kernel)) rfl)⟩
set_option maxRecDepth 100000 in
theorem co_L_22 : CO RL 22 yX8_game cX8_game 5 (some .int) 0 := ⟨cd_X8_game, in_LetterTrayModel, im_X8_game, se_X8_game, ds_X8_game, Or.inl (tg1 (List.mem_of_getElem? (i := 967) (by decide +kernel)) rfl)⟩
set_option maxRecDepth 100000 in
theorem co_L_23 : CO RL 23 yX7_fault cX7_fault 1 (some .int) 0 := ⟨cd_X7_fault, in_LetterTray, im_X7_fault, se_X7_fault, ds_X7_fault, Or.inl (tg1 (List.mem_of_getElem? (i := 438) (by decide +kernel)) rfl)⟩
set_option maxRecDepth 100000 in
theorem co_L_26 : CO RL 26 yX8_fault cX8_fault 1 (some .int) 0 := ⟨cd_X8_fault, in_LetterTrayModel, im_X8_fault, se_X8_fault, ds_X8_fault, Or.inl (tg1 (List.mem_of_getElem? (i := 1022) (by decide +kernel)) rfl)⟩
set_option maxRecDepth 100000 in
theorem co_L_27 : CO RL 27 yX7_told cX7_told 2 (some .int) 1 := ⟨cd_X7_told, in_LetterTray, im_X7_told, se_X7_told, ds_X7_told, Or.inl (tg1 (List.mem_of_getElem? (i := 442) (by decide +kernel)) rfl)⟩
set_option maxRecDepth 100000 in
theorem co_L_30 : CO RL 30 yX8_told cX8_told 2 (some .int) 1 := ⟨cd_X8_told, in_LetterTrayModel, im_X8_told, se_X8_told, ds_X8_told, Or.inl (tg1 (List.mem_of_getElem? (i := 1294) (by decide +kernel)) rfl)⟩
set_option maxRecDepth 100000 in
theorem co_L_31 : CO RL 31 yX7_letters cX7_letters 3 (some .int) 2 := ⟨cd_X7_letters, in_LetterTray, im_X7_letters, se_X7_letters, ds_X7_letters, Or.inl (tg1 (List.mem_of_getElem? (i := 540) (by decide +kernel)) rfl)⟩
set_option maxRecDepth 100000 in
theorem co_L_35 : CO RL 35 yX8_letters cX8_letters 3 (some .int) 2 := ⟨cd_X8_letters, in_LetterTrayModel, im_X8_letters, se_X8_letters, ds_X8_letters, Or.inl (tg1 (List.mem_of_getElem? (i := 1026) (by decide +kernel)) rfl)⟩
set_option maxRecDepth 100000 in
theorem co_L_36 : CO RL 36 yX7_word cX7_word 3 (some .int) 2 := ⟨cd_X7_word, in_LetterTray, im_X7_word, se_X7_word, ds_X7_word, Or.inl (tg1 (List.mem_of_getElem? (i := 544) (by decide +kernel)) rfl)⟩
set_option maxRecDepth 100000 in
theorem co_L_39 : CO RL 39 yX8_word cX8_word 3 (some .int) 2 := ⟨cd_X8_word, in_LetterTrayModel, im_X8_word, se_X8_word, ds_X8_word, Or.inl (tg1 (List.mem_of_getElem? (i := 1035) (by decide +kernel)) rfl)⟩
set_option maxRecDepth 100000 in
theorem co_L_40 : CO RL 40 yX7_spelt cX7_spelt 3 (some .int) 2 := ⟨cd_X7_spelt, in_LetterTray, im_X7_spelt, se_X7_spelt, ds_X7_spelt, Or.inl (tg1 (List.mem_of_getElem? (i := 562) (by decide +kernel)) rfl)⟩
set_option maxRecDepth 100000 in
theorem co_L_43 : CO RL 43 yX8_spelt cX8_spelt 3 (some .int) 2 := ⟨cd_X8_spelt, in_LetterTrayModel, im_X8_spelt, se_X8_spelt, ds_X8_spelt, Or.inl (tg1 (List.mem_of_getElem? (i := 1084) (by decide +kernel)) rfl)⟩
set_option maxRecDepth 100000 in
theorem co_L_44 : CO RL 44 yX7_laid cX7_laid 3 (some .int) 2 := ⟨cd_X7_laid, in_LetterTray, im_X7_laid, se_X7_laid, ds_X7_laid, Or.inl (tg1 (List.mem_of_getElem? (i := 567) (by decide +kernel)) rfl)⟩
set_option maxRecDepth 100000 in
theorem co_L_47 : CO RL 47 yX8_laid cX8_laid 3 (some .int) 2 := ⟨cd_X8_laid, in_LetterTrayModel, im_X8_laid, se_X8_laid, ds_X8_laid, Or.inl (tg1 (List.mem_of_getElem? (i := 1089) (by decide +kernel)) rfl)⟩
set_option maxRecDepth 100000 in
theorem co_L_48 : CO RL 48 yX7_draw cX7_draw 2 (some .int) 0 := ⟨cd_X7_draw, in_LetterTray, im_X7_draw, se_X7_draw, ds_X7_draw, Or.inl (tg1 (List.mem_of_getElem? (i := 575) (by decide +kernel)) rfl)⟩
set_option maxRecDepth 100000 in
theorem co_L_51 : CO RL 51 yX8_draw cX8_draw 1 (some .int) 0 := ⟨cd_X8_draw, in_LetterTrayModel, im_X8_draw, se_X8_draw, ds_X8_draw, Or.inl (tg1 (List.mem_of_getElem? (i := 1154) (by decide +kernel)) rfl)⟩
set_option maxRecDepth 100000 in
theorem co_L_52 : CO RL 52 yX7_give cX7_give 3 (some .int) 1 := ⟨cd_X7_give, in_LetterTray, im_X7_give, se_X7_give, ds_X7_give, Or.inl (tg1 (List.mem_of_getElem? (i := 613) (by decide +kernel)) rfl)⟩
set_option maxRecDepth 100000 in
theorem co_L_55 : CO RL 55 yX8_give cX8_give 3 (some .int) 1 := ⟨cd_X8_give, in_LetterTrayModel, im_X8_give, se_X8_give, ds_X8_give, Or.inl (tg1 (List.mem_of_getElem? (i := 1184) (by decide +kernel)) rfl)⟩
set_option maxRecDepth 100000 in
theorem co_L_56 : CO RL 56 yX7_change cX7_change 3 (some .int) 1 := ⟨cd_X7_change, in_LetterTray, im_X7_change, se_X7_change, ds_X7_change, Or.inl (tg1 (List.mem_of_getElem? (i := 629) (by decide +kernel)) rfl)⟩
set_option maxRecDepth 100000 in
theorem co_L_59 : CO RL 59 yX8_change cX8_change 3 (some .int) 1 := ⟨cd_X8_change, in_LetterTrayModel, im_X8_change, se_X8_change, ds_X8_change, Or.inl (tg1 (List.mem_of_getElem? (i := 1192) (by decide +kernel)) rfl)⟩
set_option maxRecDepth 100000 in
theorem co_L_60 : CO RL 60 yX7_lay cX7_lay 3 (some .int) 1 := ⟨cd_X7_lay, in_LetterTray, im_X7_lay, se_X7_lay, ds_X7_lay, Or.inl (tg1 (List.mem_of_getElem? (i := 633) (by decide +kernel)) rfl)⟩
set_option maxRecDepth 100000 in
theorem co_L_63 : CO RL 63 yX8_lay cX8_lay 2 (some .int) 1 := ⟨cd_X8_lay, in_LetterTrayModel, im_X8_lay, se_X8_lay, ds_X8_lay, Or.inl (tg1 (List.mem_of_getElem? (i := 1196) (by decide +kernel)) rfl)⟩
set_option maxRecDepth 100000 in
theorem co_L_64 : CO RL 64 yX7_take cX7_take 3 (some .int) 1 := ⟨cd_X7_take, in_LetterTray, im_X7_take, se_X7_take, ds_X7_take, Or.inl (tg1 (List.mem_of_getElem? (i := 655) (by decide +kernel)) rfl)⟩
set_option maxRecDepth 100000 in
theorem co_L_67 : CO RL 67 yX8_take cX8_take 2 (some .int) 1 := ⟨cd_X8_take, in_LetterTrayModel, im_X8_take, se_X8_take, ds_X8_take, Or.inl (tg1 (List.mem_of_getElem? (i := 1204) (by decide +kernel)) rfl)⟩
set_option maxRecDepth 100000 in
theorem co_L_68 : CO RL 68 yX7_drift cX7_drift 3 (some .int) 1 := ⟨cd_X7_drift, in_LetterTray, im_X7_drift, se_X7_drift, ds_X7_drift, Or.inl (tg1 (List.mem_of_getElem? (i := 673) (by decide +kernel)) rfl)⟩
set_option maxRecDepth 100000 in
theorem co_L_71 : CO RL 71 yX8_drift cX8_drift 3 (some .int) 1 := ⟨cd_X8_drift, in_LetterTrayModel, im_X8_drift, se_X8_drift, ds_X8_drift, Or.inl (tg1 (List.mem_of_getElem? (i := 1216) (by decide +kernel)) rfl)⟩
set_option maxRecDepth 100000 in
theorem co_L_72 : CO RL 72 yX7_undo cX7_undo 2 (some .int) 1 := ⟨cd_X7_undo, in_LetterTray, im_X7_undo, se_X7_undo, ds_X7_undo, Or.inl (tg1 (List.mem_of_getElem? (i := 693) (by decide +kernel)) rfl)⟩
set_option maxRecDepth 100000 in
theorem co_L_75 : CO RL 75 yX8_undo cX8_undo 3 (some .int) 1 := ⟨cd_X8_undo, in_LetterTrayModel, im_X8_undo, se_X8_undo, ds_X8_undo, Or.inl (tg1 (List.mem_of_getElem? (i := 1225) (by decide +kernel)) rfl)⟩
set_option maxRecDepth 100000 in
theorem co_L_76 : CO RL 76 yX7_needs cX7_needs 3 (some .int) 2 := ⟨cd_X7_needs, in_LetterTray, im_X7_needs, se_X7_needs, ds_X7_needs, Or.inl (tg1 (List.mem_of_getElem? (i := 701) (by decide +kernel)) rfl)⟩
set_option maxRecDepth 100000 in
theorem co_L_79 : CO RL 79 yX8_needs cX8_needs 3 (some .int) 2 := ⟨cd_X8_needs, in_LetterTrayModel, im_X8_needs, se_X8_needs, ds_X8_needs, Or.inl (tg1 (List.mem_of_getElem? (i := 1117) (by decide +kernel)) rfl)⟩
set_option maxRecDepth 100000 in
theorem co_L_80 : CO RL 80 yX7_first cX7_first 2 (some .int) 1 := ⟨cd_X7_first, in_LetterTray, im_X7_first, se_X7_first, ds_X7_first, Or.inl (tg1 (List.mem_of_getElem? (i := 705) (by decide +kernel)) rfl)⟩
set_option maxRecDepth 100000 in
theorem co_L_83 : CO RL 83 yX8_first cX8_first 2 (some .int) 1 := ⟨cd_X8_first, in_LetterTrayModel, im_X8_first, se_X8_first, ds_X8_first, Or.inl (tg1 (List.mem_of_getElem? (i := 1097) (by decide +kernel)) rfl)⟩
set_option maxRecDepth 100000 in
theorem co_L_84 : CO RL 84 yX7_ladder cX7_ladder 4 (some .int) 3 := ⟨cd_X7_ladder, in_LetterTray, im_X7_ladder, se_X7_ladder, ds_X7_ladder, Or.inl (tg1 (List.mem_of_getElem? (i := 717) (by decide +kernel)) rfl)⟩
set_option maxRecDepth 100000 in
theorem co_L_88 : CO RL 88 yX8_ladder cX8_ladder 6 (some .int) 3 := ⟨cd_X8_ladder, in_LetterTrayModel, im_X8_ladder, se_X8_ladder, ds_X8_ladder, Or.inl (tg1 (List.mem_of_getElem? (i := 1122) (by decide +kernel)) rfl)⟩
set_option maxRecDepth 100000 in
theorem co_L_89 : CO RL 89 yX7_far cX7_far 3 (some .int) 2 := ⟨cd_X7_far, in_LetterTray, im_X7_far, se_X7_far, ds_X7_far, Or.inl (tg1 (List.mem_of_getElem? (i := 726) (by decide +kernel)) rfl)⟩
set_option maxRecDepth 100000 in
theorem co_L_92 : CO RL 92 yX8_far cX8_far 5 (some .int) 2 := ⟨cd_X8_far, in_LetterTrayModel, im_X8_far, se_X8_far, ds_X8_far, Or.inl (tg1 (List.mem_of_getElem? (i := 1149) (by decide +kernel)) rfl)⟩
set_option maxRecDepth 100000 in
theorem co_L_93 : CO RL 93 yX7_right cX7_right 4 (some .int) 3 := ⟨cd_X7_right, in_LetterTray, im_X7_right, se_X7_right, ds_X7_right, Or.inl (tg1 (List.mem_of_getElem? (i := 734) (by decide +kernel)) rfl)⟩
set_option maxRecDepth 100000 in
theorem co_L_96 : CO RL 96 yX8_right cX8_right 4 (some .int) 3 := ⟨cd_X8_right, in_LetterTrayModel, im_X8_right, se_X8_right, ds_X8_right, Or.inl (tg1 (List.mem_of_getElem? (i := 1230) (by decide +kernel)) rfl)⟩
set_option maxRecDepth 100000 in
theorem co_L_97 : CO RL 97 yX7_luck cX7_luck 6 (some .int) 2 := ⟨cd_X7_luck, in_LetterTray, im_X7_luck, se_X7_luck, ds_X7_luck, Or.inl (tg1 (List.mem_of_getElem? (i := 746) (by decide +kernel)) rfl)⟩
set_option maxRecDepth 100000 in
theorem co_L_100 : CO RL 100 yX8_luck cX8_luck 6 (some .int) 2 := ⟨cd_X8_luck, in_LetterTrayModel, im_X8_luck, se_X8_luck, ds_X8_luck, Or.inl (tg1 (List.mem_of_getElem? (i := 1242) (by decide +kernel)) rfl)⟩
set_option maxRecDepth 100000 in
theorem co_L_101 : CO RL 101 yX7_say cX7_say 4 (some .int) 3 := ⟨cd_X7_say, in_LetterTray, im_X7_say, se_X7_say, ds_X7_say, Or.inl (tg1 (List.mem_of_getElem? (i := 752) (by decide +kernel)) rfl)⟩
set_option maxRecDepth 100000 in
theorem co_L_104 : CO RL 104 yX8_say cX8_say 4 (some .int) 3 := ⟨cd_X8_say, in_LetterTrayModel, im_X8_say, se_X8_say, ds_X8_say, Or.inl (tg1 (List.mem_of_getElem? (i := 1249) (by decide +kernel)) rfl)⟩
set_option maxRecDepth 100000 in
theorem co_L_105 : CO RL 105 yX7_couldBe cX7_couldBe 1 (some .int) 0 := ⟨cd_X7_couldBe, in_LetterTray, im_X7_couldBe, se_X7_couldBe, ds_X7_couldBe, Or.inl (tg1 (List.mem_of_getElem? (i := 760) (by decide +kernel)) rfl)⟩
set_option maxRecDepth 100000 in
theorem co_L_108 : CO RL 108 yX8_couldBe cX8_couldBe 5 (some .int) 0 := ⟨cd_X8_couldBe, in_LetterTrayModel, im_X8_couldBe, se_X8_couldBe, ds_X8_couldBe, Or.inl (tg1 (List.mem_of_getElem? (i := 1254) (by decide +kernel)) rfl)⟩
set_option maxRecDepth 100000 in
theorem co_L_109 : CO RL 109 yX7_ask cX7_ask 1 (some .int) 0 := ⟨cd_X7_ask, in_LetterTray, im_X7_ask, se_X7_ask, ds_X7_ask, Or.inl (tg1 (List.mem_of_getElem? (i := 774) (by decide +kernel)) rfl)⟩
set_option maxRecDepth 100000 in
theorem co_L_112 : CO RL 112 yX8_ask cX8_ask 6 (some .int) 0 := ⟨cd_X8_ask, in_LetterTrayModel, im_X8_ask, se_X8_ask, ds_X8_ask, Or.inl (tg1 (List.mem_of_getElem? (i := 1258) (by decide +kernel)) rfl)⟩
set_option maxRecDepth 100000 in
theorem co_L_113 : CO RL 113 yX7_write cX7_write 3 (some .int) 2 := ⟨cd_X7_write, in_LetterTray, im_X7_write, se_X7_write, ds_X7_write, Or.inl (tg1 (List.mem_of_getElem? (i := 798) (by decide +kernel)) rfl)⟩
set_option maxRecDepth 100000 in
theorem co_L_116 : CO RL 116 yX8_write cX8_write 3 (some .int) 2 := ⟨cd_X8_write, in_LetterTrayModel, im_X8_write, se_X8_write, ds_X8_write, Or.inl (tg1 (List.mem_of_getElem? (i := 1270) (by decide +kernel)) rfl)⟩
set_option maxRecDepth 100000 in
theorem co_L_117 : CO RL 117 yX7_judge cX7_judge 1 (some .int) 0 := ⟨cd_X7_judge, in_LetterTray, im_X7_judge, se_X7_judge, ds_X7_judge, Or.inl (tg1 (List.mem_of_getElem? (i := 806) (by decide +kernel)) rfl)⟩
set_option maxRecDepth 100000 in
theorem co_L_120 : CO RL 120 yX8_judge cX8_judge 4 (some .int) 0 := ⟨cd_X8_judge, in_LetterTrayModel, im_X8_judge, se_X8_judge, ds_X8_judge, Or.inl (tg1 (List.mem_of_getElem? (i := 1274) (by decide +kernel)) rfl)⟩
set_option maxRecDepth 100000 in
theorem co_L_121 : CO RL 121 yX7_tear cX7_tear 2 (some .int) 0 := ⟨cd_X7_tear, in_LetterTray, im_X7_tear, se_X7_tear, ds_X7_tear, Or.inl (tg1 (List.mem_of_getElem? (i := 815) (by decide +kernel)) rfl)⟩
set_option maxRecDepth 100000 in
theorem co_L_124 : CO RL 124 yX8_tear cX8_tear 2 (some .int) 0 := ⟨cd_X8_tear, in_LetterTrayModel, im_X8_tear, se_X8_tear, ds_X8_tear, Or.inl (tg1 (List.mem_of_getElem? (i := 1278) (by decide +kernel)) rfl)⟩
set_option maxRecDepth 100000 in
theorem co_L_125 : CO RL 125 yX7_seed cX7_seed 3 (some .int) 1 := ⟨cd_X7_seed, in_LetterTray, im_X7_seed, se_X7_seed, ds_X7_seed, Or.inl (tg1 (List.mem_of_getElem? (i := 819) (by decide +kernel)) rfl)⟩
set_option maxRecDepth 100000 in
theorem co_L_128 : CO RL 128 yX8_seed cX8_seed 3 (some .int) 1 := ⟨cd_X8_seed, in_LetterTrayModel, im_X8_seed, se_X8_seed, ds_X8_seed, Or.inl (tg1 (List.mem_of_getElem? (i := 1282) (by decide +kernel)) rfl)⟩
set_option maxRecDepth 100000 in
theorem co_L_129 : CO RL 129 yX7_keep cX7_keep 3 (some .int) 1 := ⟨cd_X7_keep, in_LetterTray, im_X7_keep, se_X7_keep, ds_X7_keep, Or.inl (tg1 (List.mem_of_getElem? (i := 823) (by decide +kernel)) rfl)⟩
set_option maxRecDepth 100000 in
theorem co_L_132 : CO RL 132 yX8_keep cX8_keep 3 (some .int) 1 := ⟨cd_X8_keep, in_LetterTrayModel, im_X8_keep, se_X8_keep, ds_X8_keep, Or.inl (tg1 (List.mem_of_getElem? (i := 1286) (by decide +kernel)) rfl)⟩
set_option maxRecDepth 100000 in
theorem co_L_133 : CO RL 133 yX7_goBack cX7_goBack 3 (some .int) 1 := ⟨cd_X7_goBack, in_LetterTray, im_X7_goBack, se_X7_goBack, ds_X7_goBack, Or.inl (tg1 (List.mem_of_getElem? (i := 828) (by decide +kernel)) rfl)⟩
set_option maxRecDepth 100000 in
theorem co_L_136 : CO RL 136 yX8_goBack cX8_goBack 3 (some .int) 1 := ⟨cd_X8_goBack, in_LetterTrayModel, im_X8_goBack, se_X8_goBack, ds_X8_goBack, Or.inl (tg1 (List.mem_of_getElem? (i := 1290) (by decide +kernel)) rfl)⟩
set_option maxRecDepth 100000 in
theorem lk_X0_34 : Cond.methodLink RX0 34 arraycopyName ∈ tblG := tg1 (List.mem_of_getElem? (i := 422) (by decide +kernel)) rfl
set_option maxRecDepth 100000 in
theorem co_X0_40 : SO RX0 40 yJ7_fill_53178 cJ7_fill_53178 4 none 2 := ⟨cd_J7_fill_53178, in_java_util_Arrays, st_J7_fill_53178, ds_J7_fill_53178, tg1 (List.mem_of_getElem? (i := 425) (by decide +kernel)) rfl⟩
set_option maxRecDepth 100000 in
theorem co_X0_46 : CO RX0 46 yX6_has cX6_has 2 (some .boolean) 1 := ⟨cd_X6_has, in_LetterTray_Words, im_X6_has, se_X6_has, ds_X6_has, Or.inr (tn1 (List.mem_of_getElem? (i := 649) (by decide +kernel)) rfl)⟩
set_option maxRecDepth 100000 in
theorem co_X0_52 : CO RX0 52 yX6_lengthOf cX6_lengthOf 2 (some .int) 1 := ⟨cd_X6_lengthOf, in_LetterTray_Words, im_X6_lengthOf, se_X6_lengthOf, ds_X6_lengthOf, Or.inr (tn1 (List.mem_of_getElem? (i := 650) (by decide +kernel)) rfl)⟩
set_option maxRecDepth 100000 in
theorem co_X0_56 : CO RX0 56 yX6_letterAt cX6_letterAt 3 (some .int) 2 := ⟨cd_X6_letterAt, in_LetterTray_Words, im_X6_letterAt, se_X6_letterAt, ds_X6_letterAt, Or.inr (tn1 (List.mem_of_getElem? (i := 654) (by decide +kernel)) rfl)⟩
set_option maxRecDepth 100000 in
theorem co_X0_63 : CO RX0 63 yX0_hasLaid cX0_hasLaid 2 (some .boolean) 1 := ⟨cd_X0_hasLaid, in_LetterTray_Desk, im_X0_hasLaid, se_X0_hasLaid, ds_X0_hasLaid, Or.inl (tg1 (List.mem_of_getElem? (i := 672) (by decide +kernel)) rfl)⟩
set_option maxRecDepth 100000 in
theorem co_X1_24 : IO' RX1 24 yX0_init cX0_init 1 0 := ⟨cd_X0_init, in_LetterTray_Desk, im_X0_init, rfl, ds_X0_init, Or.inr (tn1 (List.mem_of_getElem? (i := 92) (by decide +kernel)) rfl)⟩
set_option maxRecDepth 100000 in
theorem co_X1_25 : CO RX1 25 yX0_become cX0_become 2 none 1 := ⟨cd_X0_become, in_LetterTray_Desk, im_X0_become, se_X0_become, ds_X0_become, Or.inr (tn1 (List.mem_of_getElem? (i := 589) (by decide +kernel)) rfl)⟩
set_option maxRecDepth 100000 in
theorem lk_X1_29 : Cond.methodLink RX1 29 Lib.Math.min.name ∈ tblG := tg1 (List.mem_of_getElem? (i := 593) (by decide +kernel)) rfl
set_option maxRecDepth 100000 in
theorem co_X2_9 : IO' RX2 9 yX0_init cX0_init 1 0 := ⟨cd_X0_init, in_LetterTray_Desk, im_X0_init, rfl, ds_X0_init, Or.inr (tn1 (List.mem_of_getElem? (i := 112) (by decide +kernel)) rfl)⟩
set_option maxRecDepth 100000 in
theorem co_X3_28 : CO RX3 28 yX6_clear cX6_clear 1 none 0 := ⟨cd_X6_clear, in_LetterTray_Words, im_X6_clear, se_X6_clear, ds_X6_clear, Or.inr (tn1 (List.mem_of_getElem? (i := 295) (by decide +kernel)) rfl)⟩
set_option maxRecDepth 100000 in
theorem co_X3_33 : CO RX3 33 yX3_skipSpaces cX3_skipSpaces 1 none 0 := ⟨cd_X3_skipSpaces, in_LetterTray_Reader, im_X3_skipSpaces, se_X3_skipSpaces, ds_X3_skipSpaces, Or.inl (tg1 (List.mem_of_getElem? (i := 302) (by decide +kernel)) rfl)⟩
set_option maxRecDepth 100000 in
theorem co_X3_36 : CO RX3 36 yX3_readClause cX3_readClause 2 none 1 := ⟨cd_X3_readClause, in_LetterTray_Reader, im_X3_readClause, se_X3_readClause, ds_X3_readClause, Or.inl (tg1 (List.mem_of_getElem? (i := 306) (by decide +kernel)) rfl)⟩
set_option maxRecDepth 100000 in
theorem co_X3_40 : CO RX3 40 yX3_stands cX3_stands 2 (some .boolean) 1 := ⟨cd_X3_stands, in_LetterTray_Reader, im_X3_stands, se_X3_stands, ds_X3_stands, Or.inl (tg1 (List.mem_of_getElem? (i := 310) (by decide +kernel)) rfl)⟩
set_option maxRecDepth 100000 in
theorem co_X3_48 : CO RX3 48 yX3_startClause cX3_startClause 2 none 1 := ⟨cd_X3_startClause, in_LetterTray_Reader, im_X3_startClause, se_X3_startClause, ds_X3_startClause, Or.inl (tg1 (List.mem_of_getElem? (i := 314) (by decide +kernel)) rfl)⟩
set_option maxRecDepth 100000 in
theorem co_X3_52 : CO RX3 52 yX3_readValues cX3_readValues 3 none 1 := ⟨cd_X3_readValues, in_LetterTray_Reader, im_X3_readValues, se_X3_readValues, ds_X3_readValues, Or.inl (tg1 (List.mem_of_getElem? (i := 322) (by decide +kernel)) rfl)⟩
set_option maxRecDepth 100000 in
theorem co_X3_58 : CO RX3 58 yX3_readBag cX3_readBag 4 none 1 := ⟨cd_X3_readBag, in_LetterTray_Reader, im_X3_readBag, se_X3_readBag, ds_X3_readBag, Or.inl (tg1 (List.mem_of_getElem? (i := 337) (by decide +kernel)) rfl)⟩
set_option maxRecDepth 100000 in
theorem co_X3_64 : CO RX3 64 yX3_readWord cX3_readWord 5 none 1 := ⟨cd_X3_readWord, in_LetterTray_Reader, im_X3_readWord, se_X3_readWord, ds_X3_readWord, Or.inl (tg1 (List.mem_of_getElem? (i := 349) (by decide +kernel)) rfl)⟩
set_option maxRecDepth 100000 in
theorem co_X3_67 : CO RX3 67 yX3_fail cX3_fail 3 none 2 := ⟨cd_X3_fail, in_LetterTray_Reader, im_X3_fail, se_X3_fail, ds_X3_fail, Or.inl (tg1 (List.mem_of_getElem? (i := 318) (by decide +kernel)) rfl)⟩
set_option maxRecDepth 100000 in
theorem co_X3_75 : CO RX3 75 yX3_readNumber cX3_readNumber 5 (some .int) 2 := ⟨cd_X3_readNumber, in_LetterTray_Reader, im_X3_readNumber, se_X3_readNumber, ds_X3_readNumber, Or.inl (tg1 (List.mem_of_getElem? (i := 326) (by decide +kernel)) rfl)⟩
set_option maxRecDepth 100000 in
theorem co_X3_79 : CO RX3 79 yX3_pass cX3_pass 2 none 1 := ⟨cd_X3_pass, in_LetterTray_Reader, im_X3_pass, se_X3_pass, ds_X3_pass, Or.inl (tg1 (List.mem_of_getElem? (i := 333) (by decide +kernel)) rfl)⟩
set_option maxRecDepth 100000 in
theorem co_X3_83 : CO RX3 83 yX3_sortHere cX3_sortHere 2 (some .int) 0 := ⟨cd_X3_sortHere, in_LetterTray_Reader, im_X3_sortHere, se_X3_sortHere, ds_X3_sortHere, Or.inl (tg1 (List.mem_of_getElem? (i := 341) (by decide +kernel)) rfl)⟩
set_option maxRecDepth 100000 in
theorem co_X3_87 : CO RX3 87 yX3_endLetters cX3_endLetters 2 none 1 := ⟨cd_X3_endLetters, in_LetterTray_Reader, im_X3_endLetters, se_X3_endLetters, ds_X3_endLetters, Or.inl (tg1 (List.mem_of_getElem? (i := 345) (by decide +kernel)) rfl)⟩
set_option maxRecDepth 100000 in
theorem co_X3_94 : CO RX3 94 yX3_endWord cX3_endWord 5 none 3 := ⟨cd_X3_endWord, in_LetterTray_Reader, im_X3_endWord, se_X3_endWord, ds_X3_endWord, Or.inl (tg1 (List.mem_of_getElem? (i := 353) (by decide +kernel)) rfl)⟩
set_option maxRecDepth 100000 in
theorem co_X3_98 : CO RX3 98 yX6_spell cX6_spell 3 none 2 := ⟨cd_X6_spell, in_LetterTray_Words, im_X6_spell, se_X6_spell, ds_X6_spell, Or.inr (tn1 (List.mem_of_getElem? (i := 365) (by decide +kernel)) rfl)⟩
set_option maxRecDepth 100000 in
theorem co_X3_101 : CO RX3 101 yX6_add cX6_add 4 (some .boolean) 2 := ⟨cd_X6_add, in_LetterTray_Words, im_X6_add, se_X6_add, ds_X6_add, Or.inr (tn1 (List.mem_of_getElem? (i := 357) (by decide +kernel)) rfl)⟩
set_option maxRecDepth 100000 in
theorem lk_X3_105 : Cond.methodLink RX3 105 Lib.Math.min.name ∈ tblG := tg1 (List.mem_of_getElem? (i := 330) (by decide +kernel)) rfl
set_option maxRecDepth 100000 in
theorem co_X4_36 : CO RX4 36 yX4_isTray cX4_isTray 3 (some .boolean) 1 := ⟨cd_X4_isTray, in_LetterTray_Rows, im_X4_isTray, se_X4_isTray, ds_X4_isTray, Or.inl (tg1 (List.mem_of_getElem? (i := 477) (by decide +kernel)) rfl)⟩
set_option maxRecDepth 100000 in
theorem lk_X4_40 : Cond.methodLink RX4 40 arraycopyName ∈ tblG := tg1 (List.mem_of_getElem? (i := 481) (by decide +kernel)) rfl
set_option maxRecDepth 100000 in
theorem co_X4_46 : CO RX4 46 yX4_countRests cX4_countRests 2 none 0 := ⟨cd_X4_countRests, in_LetterTray_Rows, im_X4_countRests, se_X4_countRests, ds_X4_countRests, Or.inl (tg1 (List.mem_of_getElem? (i := 482) (by decide +kernel)) rfl)⟩
set_option maxRecDepth 100000 in
theorem co_X4_49 : CO RX4 49 yX4_countWays cX4_countWays 4 none 0 := ⟨cd_X4_countWays, in_LetterTray_Rows, im_X4_countWays, se_X4_countWays, ds_X4_countWays, Or.inl (tg1 (List.mem_of_getElem? (i := 487) (by decide +kernel)) rfl)⟩
set_option maxRecDepth 100000 in
theorem co_X4_52 : CO RX4 52 yX4_rankRests cX4_rankRests 3 none 0 := ⟨cd_X4_rankRests, in_LetterTray_Rows, im_X4_rankRests, se_X4_rankRests, ds_X4_rankRests, Or.inl (tg1 (List.mem_of_getElem? (i := 501) (by decide +kernel)) rfl)⟩
set_option maxRecDepth 100000 in
theorem lk_X4_55 : Cond.methodLink RX4 55 Lib.Math.min.name ∈ tblG := tg1 (List.mem_of_getElem? (i := 486) (by decide +kernel)) rfl
set_option maxRecDepth 100000 in
theorem co_X4_61 : SO RX4 61 yJ7_fill_53178 cJ7_fill_53178 4 none 2 := ⟨cd_J7_fill_53178, in_java_util_Arrays, st_J7_fill_53178, ds_J7_fill_53178, tg1 (List.mem_of_getElem? (i := 491) (by decide +kernel)) rfl⟩
set_option maxRecDepth 100000 in
theorem co_X4_72 : CO RX4 72 yX4_after cX4_after 8 (some .int) 2 := ⟨cd_X4_after, in_LetterTray_Rows, im_X4_after, se_X4_after, ds_X4_after, Or.inl (tg1 (List.mem_of_getElem? (i := 492) (by decide +kernel)) rfl)⟩
set_option maxRecDepth 100000 in
theorem co_X4_75 : CO RX4 75 yX4_rankWith cX4_rankWith 4 (some .int) 2 := ⟨cd_X4_rankWith, in_LetterTray_Rows, im_X4_rankWith, se_X4_rankWith, ds_X4_rankWith, Or.inl (tg1 (List.mem_of_getElem? (i := 505) (by decide +kernel)) rfl)⟩
set_option maxRecDepth 100000 in
theorem lk_X4_78 : Cond.methodLink RX4 78 Lib.Math.max.name ∈ tblG := tg1 (List.mem_of_getElem? (i := 509) (by decide +kernel)) rfl
set_option maxRecDepth 100000 in
theorem co_X4_84 : CO RX4 84 yX4_countIn cX4_countIn 4 (some .int) 2 := ⟨cd_X4_countIn, in_LetterTray_Rows, im_X4_countIn, se_X4_countIn, ds_X4_countIn, Or.inl (tg1 (List.mem_of_getElem? (i := 496) (by decide +kernel)) rfl)⟩
set_option maxRecDepth 100000 in
theorem co_X4_87 : CO RX4 87 yX6_needOf cX6_needOf 3 (some .int) 2 := ⟨cd_X6_needOf, in_LetterTray_Words, im_X6_needOf, se_X6_needOf, ds_X6_needOf, Or.inr (tn1 (List.mem_of_getElem? (i := 500) (by decide +kernel)) rfl)⟩
set_option maxRecDepth 100000 in
theorem co_X4_90 : CO RX4 90 yX4_most cX4_most 1 (some .int) 0 := ⟨cd_X4_most, in_LetterTray_Rows, im_X4_most, se_X4_most, ds_X4_most, Or.inl (tg1 (List.mem_of_getElem? (i := 522) (by decide +kernel)) rfl)⟩
set_option maxRecDepth 100000 in
theorem co_X4_94 : CO RX4 94 yX4_leastOfBest cX4_leastOfBest 3 (some .int) 1 := ⟨cd_X4_leastOfBest, in_LetterTray_Rows, im_X4_leastOfBest, se_X4_leastOfBest, ds_X4_leastOfBest, Or.inl (tg1 (List.mem_of_getElem? (i := 713) (by decide +kernel)) rfl)⟩
set_option maxRecDepth 100000 in
theorem co_X5_39 : CO RX5 39 yX5_fits cX5_fits 4 (some .boolean) 2 := ⟨cd_X5_fits, in_LetterTray_Talk, im_X5_fits, se_X5_fits, ds_X5_fits, Or.inl (tg1 (List.mem_of_getElem? (i := 768) (by decide +kernel)) rfl)⟩
set_option maxRecDepth 100000 in
theorem co_X5_43 : CO RX5 43 yX6_rightOf cX6_rightOf 3 (some .int) 2 := ⟨cd_X6_rightOf, in_LetterTray_Words, im_X6_rightOf, se_X6_rightOf, ds_X6_rightOf, Or.inr (tn1 (List.mem_of_getElem? (i := 772) (by decide +kernel)) rfl)⟩
set_option maxRecDepth 100000 in
theorem co_X5_47 : CO RX5 47 yX6_moreOf cX6_moreOf 3 (some .int) 2 := ⟨cd_X6_moreOf, in_LetterTray_Words, im_X6_moreOf, se_X6_moreOf, ds_X6_moreOf, Or.inr (tn1 (List.mem_of_getElem? (i := 773) (by decide +kernel)) rfl)⟩
set_option maxRecDepth 100000 in
theorem co_X5_50 : CO RX5 50 yX5_fitting cX5_fitting 4 (some .int) 1 := ⟨cd_X5_fitting, in_LetterTray_Talk, im_X5_fitting, se_X5_fitting, ds_X5_fitting, Or.inl (tg1 (List.mem_of_getElem? (i := 782) (by decide +kernel)) rfl)⟩
set_option maxRecDepth 100000 in
theorem co_X5_54 : SO RX5 54 yJ6_bitCount_0f7a4 cJ6_bitCount_0f7a4 1 (some .int) 1 := ⟨cd_J6_bitCount_0f7a4, in_java_lang_Integer, st_J6_bitCount_0f7a4, ds_J6_bitCount_0f7a4, tg1 (List.mem_of_getElem? (i := 783) (by decide +kernel)) rfl⟩
set_option maxRecDepth 100000 in
theorem co_X5_60 : CO RX5 60 yX5_greatestPart cX5_greatestPart 6 (some .int) 3 := ⟨cd_X5_greatestPart, in_LetterTray_Talk, im_X5_greatestPart, se_X5_greatestPart, ds_X5_greatestPart, Or.inl (tg1 (List.mem_of_getElem? (i := 789) (by decide +kernel)) rfl)⟩
set_option maxRecDepth 100000 in
theorem co_X5_64 : CO RX5 64 yX5_partWith cX5_partWith 7 (some .int) 4 := ⟨cd_X5_partWith, in_LetterTray_Talk, im_X5_partWith, se_X5_partWith, ds_X5_partWith, Or.inl (tg1 (List.mem_of_getElem? (i := 793) (by decide +kernel)) rfl)⟩
set_option maxRecDepth 100000 in
theorem lk_X5_68 : Cond.methodLink RX5 68 Lib.Math.max.name ∈ tblG := tg1 (List.mem_of_getElem? (i := 797) (by decide +kernel)) rfl
set_option maxRecDepth 100000 in
theorem co_X5_73 : CO RX5 73 yX0_hasLaid cX0_hasLaid 2 (some .boolean) 1 := ⟨cd_X0_hasLaid, in_LetterTray_Desk, im_X0_hasLaid, se_X0_hasLaid, ds_X0_hasLaid, Or.inr (tn1 (List.mem_of_getElem? (i := 814) (by decide +kernel)) rfl)⟩
set_option maxRecDepth 100000 in
theorem co_X6_53 : SO RX6 53 yJ7_fill_53178 cJ7_fill_53178 4 none 2 := ⟨cd_J7_fill_53178, in_java_util_Arrays, st_J7_fill_53178, ds_J7_fill_53178, tg1 (List.mem_of_getElem? (i := 299) (by decide +kernel)) rfl⟩
set_option maxRecDepth 100000 in
theorem co_X6_59 : CO RX6 59 yX6_samePlaces cX6_samePlaces 5 (some .int) 2 := ⟨cd_X6_samePlaces, in_LetterTray_Words, im_X6_samePlaces, se_X6_samePlaces, ds_X6_samePlaces, Or.inl (tg1 (List.mem_of_getElem? (i := 361) (by decide +kernel)) rfl)⟩
set_option maxRecDepth 100000 in
theorem co_X6_63 : CO RX6 63 yX6_has cX6_has 2 (some .boolean) 1 := ⟨cd_X6_has, in_LetterTray_Words, im_X6_has, se_X6_has, ds_X6_has, Or.inl (tg1 (List.mem_of_getElem? (i := 535) (by decide +kernel)) rfl)⟩
set_option maxRecDepth 100000 in
theorem co_X6_67 : CO RX6 67 yX6_countNeeds cX6_countNeeds 5 none 1 := ⟨cd_X6_countNeeds, in_LetterTray_Words, im_X6_countNeeds, se_X6_countNeeds, ds_X6_countNeeds, Or.inl (tg1 (List.mem_of_getElem? (i := 373) (by decide +kernel)) rfl)⟩
set_option maxRecDepth 100000 in
theorem co_X6_71 : CO RX6 71 yX6_worthOf cX6_worthOf 4 (some .int) 1 := ⟨cd_X6_worthOf, in_LetterTray_Words, im_X6_worthOf, se_X6_worthOf, ds_X6_worthOf, Or.inl (tg1 (List.mem_of_getElem? (i := 381) (by decide +kernel)) rfl)⟩
set_option maxRecDepth 100000 in
theorem co_X6_75 : CO RX6 75 yX6_inBoth cX6_inBoth 5 (some .int) 2 := ⟨cd_X6_inBoth, in_LetterTray_Words, im_X6_inBoth, se_X6_inBoth, ds_X6_inBoth, Or.inl (tg1 (List.mem_of_getElem? (i := 393) (by decide +kernel)) rfl)⟩
set_option maxRecDepth 100000 in
theorem co_X6_78 : CO RX6 78 yX6_isStep cX6_isStep 3 (some .boolean) 2 := ⟨cd_X6_isStep, in_LetterTray_Words, im_X6_isStep, se_X6_isStep, ds_X6_isStep, Or.inl (tg1 (List.mem_of_getElem? (i := 398) (by decide +kernel)) rfl)⟩
set_option maxRecDepth 100000 in
theorem co_X6_82 : CO RX6 82 yX6_joinSteps cX6_joinSteps 6 none 0 := ⟨cd_X6_joinSteps, in_LetterTray_Words, im_X6_joinSteps, se_X6_joinSteps, ds_X6_joinSteps, Or.inl (tg1 (List.mem_of_getElem? (i := 410) (by decide +kernel)) rfl)⟩
set_option maxRecDepth 100000 in
theorem co_X6_85 : CO RX6 85 yX6_letterAt cX6_letterAt 3 (some .int) 2 := ⟨cd_X6_letterAt, in_LetterTray_Words, im_X6_letterAt, se_X6_letterAt, ds_X6_letterAt, Or.inl (tg1 (List.mem_of_getElem? (i := 377) (by decide +kernel)) rfl)⟩
set_option maxRecDepth 100000 in
theorem co_X6_88 : CO RX6 88 yX6_needOf cX6_needOf 3 (some .int) 2 := ⟨cd_X6_needOf, in_LetterTray_Words, im_X6_needOf, se_X6_needOf, ds_X6_needOf, Or.inl (tg1 (List.mem_of_getElem? (i := 385) (by decide +kernel)) rfl)⟩
set_option maxRecDepth 100000 in
theorem co_X6_91 : CO RX6 91 yX6_isMirror cX6_isMirror 4 (some .boolean) 1 := ⟨cd_X6_isMirror, in_LetterTray_Words, im_X6_isMirror, se_X6_isMirror, ds_X6_isMirror, Or.inl (tg1 (List.mem_of_getElem? (i := 389) (by decide +kernel)) rfl)⟩
set_option maxRecDepth 100000 in
theorem lk_X6_94 : Cond.methodLink RX6 94 Lib.Math.min.name ∈ tblG := tg1 (List.mem_of_getElem? (i := 397) (by decide +kernel)) rfl
set_option maxRecDepth 100000 in
theorem co_X6_99 : CO RX6 99 yX6_areKin cX6_areKin 3 (some .boolean) 2 := ⟨cd_X6_areKin, in_LetterTray_Words, im_X6_areKin, se_X6_areKin, ds_X6_areKin, Or.inl (tg1 (List.mem_of_getElem? (i := 402) (by decide +kernel)) rfl)⟩
set_option maxRecDepth 100000 in
theorem co_X6_102 : CO RX6 102 yX6_isLonger cX6_isLonger 5 (some .boolean) 2 := ⟨cd_X6_isLonger, in_LetterTray_Words, im_X6_isLonger, se_X6_isLonger, ds_X6_isLonger, Or.inl (tg1 (List.mem_of_getElem? (i := 406) (by decide +kernel)) rfl)⟩
set_option maxRecDepth 100000 in
theorem co_X6_105 : CO RX6 105 yX6_stepsTo cX6_stepsTo 4 (some .int) 2 := ⟨cd_X6_stepsTo, in_LetterTray_Words, im_X6_stepsTo, se_X6_stepsTo, ds_X6_stepsTo, Or.inl (tg1 (List.mem_of_getElem? (i := 531) (by decide +kernel)) rfl)⟩
set_option maxRecDepth 100000 in
theorem lk_X6_108 : Cond.methodLink RX6 108 Lib.Math.max.name ∈ tblG := tg1 (List.mem_of_getElem? (i := 539) (by decide +kernel)) rfl
set_option maxRecDepth 100000 in
theorem co_X7_9 : IO' RX7 9 yX3_init cX3_init 1 0 := ⟨cd_X3_init, in_LetterTray_Reader, im_X3_init, rfl, ds_X3_init, Or.inr (tn1 (List.mem_of_getElem? (i := 24) (by decide +kernel)) rfl)⟩
set_option maxRecDepth 100000 in
theorem co_X7_18 : IO' RX7 18 yX0_init cX0_init 1 0 := ⟨cd_X0_init, in_LetterTray_Desk, im_X0_init, rfl, ds_X0_init, Or.inr (tn1 (List.mem_of_getElem? (i := 49) (by decide +kernel)) rfl)⟩
set_option maxRecDepth 100000 in
theorem co_X7_25 : IO' RX7 25 yX1_init cX1_init 2 0 := ⟨cd_X1_init, in_LetterTray_History, im_X1_init, rfl, ds_X1_init, Or.inr (tn1 (List.mem_of_getElem? (i := 86) (by decide +kernel)) rfl)⟩
set_option maxRecDepth 100000 in
theorem co_X7_36 : IO' RX7 36 yX2_init cX2_init 1 0 := ⟨cd_X2_init, in_LetterTray_Image, im_X2_init, rfl, ds_X2_init, Or.inr (tn1 (List.mem_of_getElem? (i := 107) (by decide +kernel)) rfl)⟩
set_option maxRecDepth 100000 in
theorem co_X7_39 : IO' RX7 39 yX5_init cX5_init 1 0 := ⟨cd_X5_init, in_LetterTray_Talk, im_X5_init, rfl, ds_X5_init, Or.inr (tn1 (List.mem_of_getElem? (i := 128) (by decide +kernel)) rfl)⟩
set_option maxRecDepth 100000 in
theorem co_X7_46 : IO' RX7 46 yX6_init cX6_init 1 0 := ⟨cd_X6_init, in_LetterTray_Words, im_X6_init, rfl, ds_X6_init, Or.inr (tn1 (List.mem_of_getElem? (i := 158) (by decide +kernel)) rfl)⟩
set_option maxRecDepth 100000 in
theorem co_X7_56 : IO' RX7 56 yX4_init cX4_init 2 1 := ⟨cd_X4_init, in_LetterTray_Rows, im_X4_init, rfl, ds_X4_init, Or.inr (tn1 (List.mem_of_getElem? (i := 220) (by decide +kernel)) rfl)⟩
set_option maxRecDepth 100000 in
theorem co_X7_71 : CO RX7 71 yX3_append cX3_append 2 (some .boolean) 1 := ⟨cd_X3_append, in_LetterTray_Reader, im_X3_append, se_X3_append, ds_X3_append, Or.inr (tn1 (List.mem_of_getElem? (i := 282) (by decide +kernel)) rfl)⟩
set_option maxRecDepth 100000 in
theorem co_X7_79 : CO RX7 79 yX3_read cX3_read 3 (some .int) 1 := ⟨cd_X3_read, in_LetterTray_Reader, im_X3_read, se_X3_read, ds_X3_read, Or.inr (tn1 (List.mem_of_getElem? (i := 291) (by decide +kernel)) rfl)⟩
set_option maxRecDepth 100000 in
theorem co_X7_86 : CO RX7 86 yX6_prepare cX6_prepare 4 none 0 := ⟨cd_X6_prepare, in_LetterTray_Words, im_X6_prepare, se_X6_prepare, ds_X6_prepare, Or.inr (tn1 (List.mem_of_getElem? (i := 369) (by decide +kernel)) rfl)⟩
set_option maxRecDepth 100000 in
theorem co_X7_89 : CO RX7 89 yX7_begin cX7_begin 2 none 0 := ⟨cd_X7_begin, in_LetterTray, im_X7_begin, se_X7_begin, ds_X7_begin, Or.inl (tg1 (List.mem_of_getElem? (i := 414) (by decide +kernel)) rfl)⟩
set_option maxRecDepth 100000 in
theorem co_X7_99 : CO RX7 99 yX0_clear cX0_clear 2 none 1 := ⟨cd_X0_clear, in_LetterTray_Desk, im_X0_clear, se_X0_clear, ds_X0_clear, Or.inr (tn1 (List.mem_of_getElem? (i := 418) (by decide +kernel)) rfl)⟩
set_option maxRecDepth 100000 in
theorem co_X7_103 : CO RX7 103 yX1_clear cX1_clear 1 none 0 := ⟨cd_X1_clear, in_LetterTray_History, im_X1_clear, se_X1_clear, ds_X1_clear, Or.inr (tn1 (List.mem_of_getElem? (i := 426) (by decide +kernel)) rfl)⟩
set_option maxRecDepth 100000 in
theorem co_X7_109 : CO RX7 109 yX4_forget cX4_forget 1 none 0 := ⟨cd_X4_forget, in_LetterTray_Rows, im_X4_forget, se_X4_forget, ds_X4_forget, Or.inr (tn1 (List.mem_of_getElem? (i := 430) (by decide +kernel)) rfl)⟩
set_option maxRecDepth 100000 in
theorem co_X7_112 : CO RX7 112 yX5_clear cX5_clear 1 none 0 := ⟨cd_X5_clear, in_LetterTray_Talk, im_X5_clear, se_X5_clear, ds_X5_clear, Or.inr (tn1 (List.mem_of_getElem? (i := 434) (by decide +kernel)) rfl)⟩
set_option maxRecDepth 100000 in
theorem co_X7_117 : SO RX7 117 yX7_sum cX7_sum 6 (some .int) 1 := ⟨cd_X7_sum, in_LetterTray, st_X7_sum, ds_X7_sum, tg1 (List.mem_of_getElem? (i := 446) (by decide +kernel)) rfl⟩
set_option maxRecDepth 100000 in
theorem co_X7_131 : CO RX7 131 yX7_canSet cX7_canSet 3 (some .int) 0 := ⟨cd_X7_canSet, in_LetterTray, im_X7_canSet, se_X7_canSet, ds_X7_canSet, Or.inl (tg1 (List.mem_of_getElem? (i := 449) (by decide +kernel)) rfl)⟩
set_option maxRecDepth 100000 in
theorem co_X7_135 : CO RX7 135 yX7_bestWord cX7_bestWord 4 (some .int) 0 := ⟨cd_X7_bestWord, in_LetterTray, im_X7_bestWord, se_X7_bestWord, ds_X7_bestWord, Or.inl (tg1 (List.mem_of_getElem? (i := 465) (by decide +kernel)) rfl)⟩
set_option maxRecDepth 100000 in
theorem co_X7_138 : CO RX7 138 yX7_tried cX7_tried 1 (some (.object "LetterTray$Rows")) 0 := ⟨cd_X7_tried, in_LetterTray, im_X7_tried, se_X7_tried, ds_X7_tried, Or.inl (tg1 (List.mem_of_getElem? (i := 469) (by decide +kernel)) rfl)⟩
set_option maxRecDepth 100000 in
theorem co_X7_142 : CO RX7 142 yX4_all cX4_all 1 (some .int) 0 := ⟨cd_X4_all, in_LetterTray_Rows, im_X4_all, se_X4_all, ds_X4_all, Or.inr (tn1 (List.mem_of_getElem? (i := 510) (by decide +kernel)) rfl)⟩
set_option maxRecDepth 100000 in
theorem co_X7_145 : CO RX7 145 yX4_most cX4_most 1 (some .int) 0 := ⟨cd_X4_most, in_LetterTray_Rows, im_X4_most, se_X4_most, ds_X4_most, Or.inr (tn1 (List.mem_of_getElem? (i := 514) (by decide +kernel)) rfl)⟩
set_option maxRecDepth 100000 in
theorem co_X7_148 : CO RX7 148 yX4_many cX4_many 1 (some .int) 0 := ⟨cd_X4_many, in_LetterTray_Rows, im_X4_many, se_X4_many, ds_X4_many, Or.inr (tn1 (List.mem_of_getElem? (i := 518) (by decide +kernel)) rfl)⟩
set_option maxRecDepth 100000 in
theorem co_X7_151 : CO RX7 151 yX6_unused cX6_unused 4 (some .int) 0 := ⟨cd_X6_unused, in_LetterTray_Words, im_X6_unused, se_X6_unused, ds_X6_unused, Or.inr (tn1 (List.mem_of_getElem? (i := 523) (by decide +kernel)) rfl)⟩
set_option maxRecDepth 100000 in
theorem co_X7_154 : CO RX7 154 yX6_farthest cX6_farthest 4 (some .int) 0 := ⟨cd_X6_farthest, in_LetterTray_Words, im_X6_farthest, se_X6_farthest, ds_X6_farthest, Or.inr (tn1 (List.mem_of_getElem? (i := 527) (by decide +kernel)) rfl)⟩
set_option maxRecDepth 100000 in
theorem co_X7_167 : CO RX7 167 yX6_has cX6_has 2 (some .boolean) 1 := ⟨cd_X6_has, in_LetterTray_Words, im_X6_has, se_X6_has, ds_X6_has, Or.inr (tn1 (List.mem_of_getElem? (i := 548) (by decide +kernel)) rfl)⟩
set_option maxRecDepth 100000 in
theorem co_X7_180 : CO RX7 180 yX7_missing cX7_missing 4 (some .int) 1 := ⟨cd_X7_missing, in_LetterTray, im_X7_missing, se_X7_missing, ds_X7_missing, Or.inl (tg1 (List.mem_of_getElem? (i := 457) (by decide +kernel)) rfl)⟩
set_option maxRecDepth 100000 in
theorem co_X7_184 : CO RX7 184 yX6_kinOf cX6_kinOf 4 (some .int) 1 := ⟨cd_X6_kinOf, in_LetterTray_Words, im_X6_kinOf, se_X6_kinOf, ds_X6_kinOf, Or.inr (tn1 (List.mem_of_getElem? (i := 550) (by decide +kernel)) rfl)⟩
set_option maxRecDepth 100000 in
theorem co_X7_187 : CO RX7 187 yX6_insideOf cX6_insideOf 4 (some .int) 1 := ⟨cd_X6_insideOf, in_LetterTray_Words, im_X6_insideOf, se_X6_insideOf, ds_X6_insideOf, Or.inr (tn1 (List.mem_of_getElem? (i := 554) (by decide +kernel)) rfl)⟩
set_option maxRecDepth 100000 in
theorem co_X7_190 : CO RX7 190 yX7_odds cX7_odds 5 (some .int) 1 := ⟨cd_X7_odds, in_LetterTray, im_X7_odds, se_X7_odds, ds_X7_odds, Or.inl (tg1 (List.mem_of_getElem? (i := 558) (by decide +kernel)) rfl)⟩
set_option maxRecDepth 100000 in
theorem co_X7_193 : CO RX7 193 yX6_letterAt cX6_letterAt 3 (some .int) 2 := ⟨cd_X6_letterAt, in_LetterTray_Words, im_X6_letterAt, se_X6_letterAt, ds_X6_letterAt, Or.inr (tn1 (List.mem_of_getElem? (i := 566) (by decide +kernel)) rfl)⟩
set_option maxRecDepth 100000 in
theorem co_X7_197 : CO RX7 197 yX0_hasLaid cX0_hasLaid 2 (some .boolean) 1 := ⟨cd_X0_hasLaid, in_LetterTray_Desk, im_X0_hasLaid, se_X0_hasLaid, ds_X0_hasLaid, Or.inr (tn1 (List.mem_of_getElem? (i := 571) (by decide +kernel)) rfl)⟩
set_option maxRecDepth 100000 in
theorem co_X7_206 : CO RX7 206 yX7_drawRefusal cX7_drawRefusal 1 (some .int) 0 := ⟨cd_X7_drawRefusal, in_LetterTray, im_X7_drawRefusal, se_X7_drawRefusal, ds_X7_drawRefusal, Or.inl (tg1 (List.mem_of_getElem? (i := 579) (by decide +kernel)) rfl)⟩
set_option maxRecDepth 100000 in
theorem co_X7_209 : CO RX7 209 yX1_push cX1_push 2 none 1 := ⟨cd_X1_push, in_LetterTray_History, im_X1_push, se_X1_push, ds_X1_push, Or.inr (tn1 (List.mem_of_getElem? (i := 585) (by decide +kernel)) rfl)⟩
set_option maxRecDepth 100000 in
theorem co_X7_213 : CO RX7 213 yX7_drawOne cX7_drawOne 2 (some .int) 0 := ⟨cd_X7_drawOne, in_LetterTray, im_X7_drawOne, se_X7_drawOne, ds_X7_drawOne, Or.inl (tg1 (List.mem_of_getElem? (i := 594) (by decide +kernel)) rfl)⟩
set_option maxRecDepth 100000 in
theorem co_X7_216 : CO RX7 216 yX7_giveRefusal cX7_giveRefusal 2 (some .int) 1 := ⟨cd_X7_giveRefusal, in_LetterTray, im_X7_giveRefusal, se_X7_giveRefusal, ds_X7_giveRefusal, Or.inl (tg1 (List.mem_of_getElem? (i := 617) (by decide +kernel)) rfl)⟩
set_option maxRecDepth 100000 in
theorem co_X7_219 : CO RX7 219 yX7_giveOne cX7_giveOne 2 none 1 := ⟨cd_X7_giveOne, in_LetterTray, im_X7_giveOne, se_X7_giveOne, ds_X7_giveOne, Or.inl (tg1 (List.mem_of_getElem? (i := 621) (by decide +kernel)) rfl)⟩
set_option maxRecDepth 100000 in
theorem co_X7_223 : CO RX7 223 yX0_toBag cX0_toBag 2 none 1 := ⟨cd_X0_toBag, in_LetterTray_Desk, im_X0_toBag, se_X0_toBag, ds_X0_toBag, Or.inr (tn1 (List.mem_of_getElem? (i := 625) (by decide +kernel)) rfl)⟩
set_option maxRecDepth 100000 in
theorem co_X7_226 : CO RX7 226 yX7_layRefusal cX7_layRefusal 2 (some .int) 1 := ⟨cd_X7_layRefusal, in_LetterTray, im_X7_layRefusal, se_X7_layRefusal, ds_X7_layRefusal, Or.inl (tg1 (List.mem_of_getElem? (i := 637) (by decide +kernel)) rfl)⟩
set_option maxRecDepth 100000 in
theorem co_X7_229 : CO RX7 229 yX7_layOne cX7_layOne 2 none 1 := ⟨cd_X7_layOne, in_LetterTray, im_X7_layOne, se_X7_layOne, ds_X7_layOne, Or.inl (tg1 (List.mem_of_getElem? (i := 641) (by decide +kernel)) rfl)⟩
set_option maxRecDepth 100000 in
theorem co_X7_232 : CO RX7 232 yX7_takeRefusal cX7_takeRefusal 3 (some .int) 1 := ⟨cd_X7_takeRefusal, in_LetterTray, im_X7_takeRefusal, se_X7_takeRefusal, ds_X7_takeRefusal, Or.inl (tg1 (List.mem_of_getElem? (i := 659) (by decide +kernel)) rfl)⟩
set_option maxRecDepth 100000 in
theorem co_X7_235 : CO RX7 235 yX7_takeOne cX7_takeOne 2 none 1 := ⟨cd_X7_takeOne, in_LetterTray, im_X7_takeOne, se_X7_takeOne, ds_X7_takeOne, Or.inl (tg1 (List.mem_of_getElem? (i := 664) (by decide +kernel)) rfl)⟩
set_option maxRecDepth 100000 in
theorem co_X7_240 : CO RX7 240 yX7_drawOf cX7_drawOf 4 (some .int) 1 := ⟨cd_X7_drawOf, in_LetterTray, im_X7_drawOf, se_X7_drawOf, ds_X7_drawOf, Or.inl (tg1 (List.mem_of_getElem? (i := 598) (by decide +kernel)) rfl)⟩
set_option maxRecDepth 100000 in
theorem co_X7_243 : CO RX7 243 yX7_driftOnce cX7_driftOnce 2 none 1 := ⟨cd_X7_driftOnce, in_LetterTray, im_X7_driftOnce, se_X7_driftOnce, ds_X7_driftOnce, Or.inl (tg1 (List.mem_of_getElem? (i := 677) (by decide +kernel)) rfl)⟩
set_option maxRecDepth 100000 in
theorem co_X7_246 : CO RX7 246 yX1_pop cX1_pop 3 none 2 := ⟨cd_X1_pop, in_LetterTray_History, im_X1_pop, se_X1_pop, ds_X1_pop, Or.inr (tn1 (List.mem_of_getElem? (i := 697) (by decide +kernel)) rfl)⟩
set_option maxRecDepth 100000 in
theorem co_X7_250 : CO RX7 250 yX7_can cX7_can 2 (some .boolean) 1 := ⟨cd_X7_can, in_LetterTray, im_X7_can, se_X7_can, ds_X7_can, Or.inl (tg1 (List.mem_of_getElem? (i := 453) (by decide +kernel)) rfl)⟩
set_option maxRecDepth 100000 in
theorem co_X7_253 : CO RX7 253 yX6_lengthOf cX6_lengthOf 2 (some .int) 1 := ⟨cd_X6_lengthOf, in_LetterTray_Words, im_X6_lengthOf, se_X6_lengthOf, ds_X6_lengthOf, Or.inr (tn1 (List.mem_of_getElem? (i := 663) (by decide +kernel)) rfl)⟩
set_option maxRecDepth 100000 in
theorem co_X7_256 : SO RX7 256 yX7_nthSort cX7_nthSort 4 (some .int) 2 := ⟨cd_X7_nthSort, in_LetterTray, st_X7_nthSort, ds_X7_nthSort, tg1 (List.mem_of_getElem? (i := 606) (by decide +kernel)) rfl⟩
set_option maxRecDepth 100000 in
theorem co_X7_260 : CO RX7 260 yX0_toTray cX0_toTray 2 none 1 := ⟨cd_X0_toTray, in_LetterTray_Desk, im_X0_toTray, se_X0_toTray, ds_X0_toTray, Or.inr (tn1 (List.mem_of_getElem? (i := 609) (by decide +kernel)) rfl)⟩
set_option maxRecDepth 100000 in
theorem co_X7_263 : CO RX7 263 yX0_layDown cX0_layDown 6 none 2 := ⟨cd_X0_layDown, in_LetterTray_Desk, im_X0_layDown, se_X0_layDown, ds_X0_layDown, Or.inr (tn1 (List.mem_of_getElem? (i := 645) (by decide +kernel)) rfl)⟩
set_option maxRecDepth 100000 in
theorem co_X7_267 : CO RX7 267 yX0_takeUp cX0_takeUp 7 none 2 := ⟨cd_X0_takeUp, in_LetterTray_Desk, im_X0_takeUp, se_X0_takeUp, ds_X0_takeUp, Or.inr (tn1 (List.mem_of_getElem? (i := 668) (by decide +kernel)) rfl)⟩
set_option maxRecDepth 100000 in
theorem co_X7_270 : CO RX7 270 yX7_driftGive cX7_driftGive 3 none 0 := ⟨cd_X7_driftGive, in_LetterTray, im_X7_driftGive, se_X7_driftGive, ds_X7_driftGive, Or.inl (tg1 (List.mem_of_getElem? (i := 681) (by decide +kernel)) rfl)⟩
set_option maxRecDepth 100000 in
theorem co_X7_273 : CO RX7 273 yX7_driftLay cX7_driftLay 2 none 0 := ⟨cd_X7_driftLay, in_LetterTray, im_X7_driftLay, se_X7_driftLay, ds_X7_driftLay, Or.inl (tg1 (List.mem_of_getElem? (i := 685) (by decide +kernel)) rfl)⟩
set_option maxRecDepth 100000 in
theorem co_X7_276 : CO RX7 276 yX7_driftTake cX7_driftTake 2 none 0 := ⟨cd_X7_driftTake, in_LetterTray, im_X7_driftTake, se_X7_driftTake, ds_X7_driftTake, Or.inl (tg1 (List.mem_of_getElem? (i := 689) (by decide +kernel)) rfl)⟩
set_option maxRecDepth 100000 in
theorem co_X7_286 : CO RX7 286 yX6_needOf cX6_needOf 3 (some .int) 2 := ⟨cd_X6_needOf, in_LetterTray_Words, im_X6_needOf, se_X6_needOf, ds_X6_needOf, Or.inr (tn1 (List.mem_of_getElem? (i := 461) (by decide +kernel)) rfl)⟩
set_option maxRecDepth 100000 in
theorem co_X7_289 : CO RX7 289 yX4_kth cX4_kth 5 (some .int) 1 := ⟨cd_X4_kth, in_LetterTray_Rows, im_X4_kth, se_X4_kth, ds_X4_kth, Or.inr (tn1 (List.mem_of_getElem? (i := 709) (by decide +kernel)) rfl)⟩
set_option maxRecDepth 100000 in
theorem co_X7_292 : CO RX7 292 yX6_stepsTo cX6_stepsTo 4 (some .int) 2 := ⟨cd_X6_stepsTo, in_LetterTray_Words, im_X6_stepsTo, se_X6_stepsTo, ds_X6_stepsTo, Or.inr (tn1 (List.mem_of_getElem? (i := 721) (by decide +kernel)) rfl)⟩
set_option maxRecDepth 100000 in
theorem co_X7_295 : CO RX7 295 yX6_nextTo cX6_nextTo 5 (some .int) 2 := ⟨cd_X6_nextTo, in_LetterTray_Words, im_X6_nextTo, se_X6_nextTo, ds_X6_nextTo, Or.inr (tn1 (List.mem_of_getElem? (i := 722) (by decide +kernel)) rfl)⟩
set_option maxRecDepth 100000 in
theorem co_X7_298 : CO RX7 298 yX6_farSet cX6_farSet 6 (some .int) 2 := ⟨cd_X6_farSet, in_LetterTray_Words, im_X6_farSet, se_X6_farSet, ds_X6_farSet, Or.inr (tn1 (List.mem_of_getElem? (i := 730) (by decide +kernel)) rfl)⟩
set_option maxRecDepth 100000 in
theorem co_X7_301 : CO RX7 301 yX6_rightOf cX6_rightOf 3 (some .int) 2 := ⟨cd_X6_rightOf, in_LetterTray_Words, im_X6_rightOf, se_X6_rightOf, ds_X6_rightOf, Or.inr (tn1 (List.mem_of_getElem? (i := 738) (by decide +kernel)) rfl)⟩
set_option maxRecDepth 100000 in
theorem co_X7_304 : CO RX7 304 yX6_moreOf cX6_moreOf 3 (some .int) 2 := ⟨cd_X6_moreOf, in_LetterTray_Words, im_X6_moreOf, se_X6_moreOf, ds_X6_moreOf, Or.inr (tn1 (List.mem_of_getElem? (i := 742) (by decide +kernel)) rfl)⟩
set_option maxRecDepth 100000 in
theorem lk_X7_311 : Cond.methodLink RX7 311 Lib.Math.max.name ∈ tblG := tg1 (List.mem_of_getElem? (i := 462) (by decide +kernel)) rfl
set_option maxRecDepth 100000 in
theorem co_X7_316 : CO RX7 316 yX4_tryOut cX4_tryOut 3 none 2 := ⟨cd_X4_tryOut, in_LetterTray_Rows, im_X4_tryOut, se_X4_tryOut, ds_X4_tryOut, Or.inr (tn1 (List.mem_of_getElem? (i := 473) (by decide +kernel)) rfl)⟩
set_option maxRecDepth 100000 in
theorem co_X7_320 : CO RX7 320 yX5_addSaid cX5_addSaid 4 (some .boolean) 3 := ⟨cd_X5_addSaid, in_LetterTray_Talk, im_X5_addSaid, se_X5_addSaid, ds_X5_addSaid, Or.inr (tn1 (List.mem_of_getElem? (i := 756) (by decide +kernel)) rfl)⟩
set_option maxRecDepth 100000 in
theorem co_X7_324 : CO RX7 324 yX5_fitting cX5_fitting 4 (some .int) 1 := ⟨cd_X5_fitting, in_LetterTray_Talk, im_X5_fitting, se_X5_fitting, ds_X5_fitting, Or.inr (tn1 (List.mem_of_getElem? (i := 764) (by decide +kernel)) rfl)⟩
set_option maxRecDepth 100000 in
theorem co_X7_327 : CO RX7 327 yX5_bestToAsk cX5_bestToAsk 7 (some .int) 1 := ⟨cd_X5_bestToAsk, in_LetterTray_Talk, im_X5_bestToAsk, se_X5_bestToAsk, ds_X5_bestToAsk, Or.inr (tn1 (List.mem_of_getElem? (i := 778) (by decide +kernel)) rfl)⟩
set_option maxRecDepth 100000 in
theorem co_X7_330 : CO RX7 330 yX5_addEntry cX5_addEntry 3 (some .boolean) 2 := ⟨cd_X5_addEntry, in_LetterTray_Talk, im_X5_addEntry, se_X5_addEntry, ds_X5_addEntry, Or.inr (tn1 (List.mem_of_getElem? (i := 802) (by decide +kernel)) rfl)⟩
set_option maxRecDepth 100000 in
theorem co_X7_334 : CO RX7 334 yX5_firstWrong cX5_firstWrong 4 (some .int) 1 := ⟨cd_X5_firstWrong, in_LetterTray_Talk, im_X5_firstWrong, se_X5_firstWrong, ds_X5_firstWrong, Or.inr (tn1 (List.mem_of_getElem? (i := 810) (by decide +kernel)) rfl)⟩
set_option maxRecDepth 100000 in
theorem co_X7_340 : CO RX7 340 yX0_become cX0_become 2 none 1 := ⟨cd_X0_become, in_LetterTray_Desk, im_X0_become, se_X0_become, ds_X0_become, Or.inr (tn1 (List.mem_of_getElem? (i := 827) (by decide +kernel)) rfl)⟩
set_option maxRecDepth 100000 in
theorem co_X8_78 : SO RX8 78 yX8_in cX8_in 6 (some .boolean) 3 := ⟨cd_X8_in, in_LetterTrayModel, st_X8_in, ds_X8_in, tg1 (List.mem_of_getElem? (i := 962) (by decide +kernel)) rfl⟩
set_option maxRecDepth 100000 in
theorem co_X8_97 : CO RX8 97 yX8_letter cX8_letter 1 (some .int) 0 := ⟨cd_X8_letter, in_LetterTrayModel, im_X8_letter, se_X8_letter, ds_X8_letter, Or.inl (tg1 (List.mem_of_getElem? (i := 971) (by decide +kernel)) rfl)⟩
set_option maxRecDepth 100000 in
theorem co_X8_101 : CO RX8 101 yX8_faults cX8_faults 3 (some .boolean) 2 := ⟨cd_X8_faults, in_LetterTrayModel, im_X8_faults, se_X8_faults, ds_X8_faults, Or.inl (tg1 (List.mem_of_getElem? (i := 983) (by decide +kernel)) rfl)⟩
set_option maxRecDepth 100000 in
theorem co_X8_112 : CO RX8 112 yX8_takes cX8_takes 2 (some .boolean) 1 := ⟨cd_X8_takes, in_LetterTrayModel, im_X8_takes, se_X8_takes, ds_X8_takes, Or.inl (tg1 (List.mem_of_getElem? (i := 979) (by decide +kernel)) rfl)⟩
set_option maxRecDepth 100000 in
theorem co_X8_116 : CO RX8 116 yX8_takesNumber cX8_takesNumber 4 (some .boolean) 2 := ⟨cd_X8_takesNumber, in_LetterTrayModel, im_X8_takesNumber, se_X8_takesNumber, ds_X8_takesNumber, Or.inl (tg1 (List.mem_of_getElem? (i := 991) (by decide +kernel)) rfl)⟩
set_option maxRecDepth 100000 in
theorem co_X8_123 : SO RX8 123 yX8_sortBy cX8_sortBy 1 (some .int) 1 := ⟨cd_X8_sortBy, in_LetterTrayModel, st_X8_sortBy, ds_X8_sortBy, tg1 (List.mem_of_getElem? (i := 1005) (by decide +kernel)) rfl⟩
set_option maxRecDepth 100000 in
theorem co_X8_134 : CO RX8 134 yX8_isToldAlready cX8_isToldAlready 4 (some .boolean) 0 := ⟨cd_X8_isToldAlready, in_LetterTrayModel, im_X8_isToldAlready, se_X8_isToldAlready, ds_X8_isToldAlready, Or.inl (tg1 (List.mem_of_getElem? (i := 1014) (by decide +kernel)) rfl)⟩
set_option maxRecDepth 100000 in
theorem co_X8_138 : CO RX8 138 yX8_readBag cX8_readBag 2 (some .boolean) 0 := ⟨cd_X8_readBag, in_LetterTrayModel, im_X8_readBag, se_X8_readBag, ds_X8_readBag, Or.inl (tg1 (List.mem_of_getElem? (i := 1001) (by decide +kernel)) rfl)⟩
set_option maxRecDepth 100000 in
theorem co_X8_141 : CO RX8 141 yX8_readWord cX8_readWord 2 (some .boolean) 0 := ⟨cd_X8_readWord, in_LetterTrayModel, im_X8_readWord, se_X8_readWord, ds_X8_readWord, Or.inl (tg1 (List.mem_of_getElem? (i := 1010) (by decide +kernel)) rfl)⟩
set_option maxRecDepth 100000 in
theorem co_X8_144 : CO RX8 144 yX8_readValues cX8_readValues 2 (some .boolean) 0 := ⟨cd_X8_readValues, in_LetterTrayModel, im_X8_readValues, se_X8_readValues, ds_X8_readValues, Or.inl (tg1 (List.mem_of_getElem? (i := 987) (by decide +kernel)) rfl)⟩
set_option maxRecDepth 100000 in
theorem co_X8_147 : CO RX8 147 yX8_readClause cX8_readClause 2 (some .boolean) 0 := ⟨cd_X8_readClause, in_LetterTrayModel, im_X8_readClause, se_X8_readClause, ds_X8_readClause, Or.inl (tg1 (List.mem_of_getElem? (i := 997) (by decide +kernel)) rfl)⟩
set_option maxRecDepth 100000 in
theorem co_X8_159 : CO RX8 159 yX8_readGame cX8_readGame 2 (some .boolean) 0 := ⟨cd_X8_readGame, in_LetterTrayModel, im_X8_readGame, se_X8_readGame, ds_X8_readGame, Or.inl (tg1 (List.mem_of_getElem? (i := 975) (by decide +kernel)) rfl)⟩
set_option maxRecDepth 100000 in
theorem co_X8_162 : CO RX8 162 yX8_clear cX8_clear 2 none 0 := ⟨cd_X8_clear, in_LetterTrayModel, im_X8_clear, se_X8_clear, ds_X8_clear, Or.inl (tg1 (List.mem_of_getElem? (i := 1018) (by decide +kernel)) rfl)⟩
set_option maxRecDepth 100000 in
theorem co_X8_168 : CO RX8 168 yX8_readsAlike cX8_readsAlike 4 (some .boolean) 1 := ⟨cd_X8_readsAlike, in_LetterTrayModel, im_X8_readsAlike, se_X8_readsAlike, ds_X8_readsAlike, Or.inl (tg1 (List.mem_of_getElem? (i := 1048) (by decide +kernel)) rfl)⟩
set_option maxRecDepth 100000 in
theorem co_X8_171 : CO RX8 171 yX8_missingOf cX8_missingOf 5 (some .int) 1 := ⟨cd_X8_missingOf, in_LetterTrayModel, im_X8_missingOf, se_X8_missingOf, ds_X8_missingOf, Or.inl (tg1 (List.mem_of_getElem? (i := 1052) (by decide +kernel)) rfl)⟩
set_option maxRecDepth 100000 in
theorem co_X8_174 : CO RX8 174 yX8_can cX8_can 2 (some .boolean) 1 := ⟨cd_X8_can, in_LetterTrayModel, im_X8_can, se_X8_can, ds_X8_can, Or.inl (tg1 (List.mem_of_getElem? (i := 1076) (by decide +kernel)) rfl)⟩
set_option maxRecDepth 100000 in
theorem co_X8_177 : CO RX8 177 yX8_worthOf cX8_worthOf 4 (some .int) 1 := ⟨cd_X8_worthOf, in_LetterTrayModel, im_X8_worthOf, se_X8_worthOf, ds_X8_worthOf, Or.inl (tg1 (List.mem_of_getElem? (i := 1044) (by decide +kernel)) rfl)⟩
set_option maxRecDepth 100000 in
theorem co_X8_180 : CO RX8 180 yX8_isInside cX8_isInside 5 (some .boolean) 2 := ⟨cd_X8_isInside, in_LetterTrayModel, im_X8_isInside, se_X8_isInside, ds_X8_isInside, Or.inl (tg1 (List.mem_of_getElem? (i := 1064) (by decide +kernel)) rfl)⟩
set_option maxRecDepth 100000 in
theorem co_X8_183 : CO RX8 183 yX8_areKin cX8_areKin 3 (some .boolean) 2 := ⟨cd_X8_areKin, in_LetterTrayModel, im_X8_areKin, se_X8_areKin, ds_X8_areKin, Or.inl (tg1 (List.mem_of_getElem? (i := 1060) (by decide +kernel)) rfl)⟩
set_option maxRecDepth 100000 in
theorem co_X8_186 : CO RX8 186 yX8_sumOf cX8_sumOf 4 (some .int) 1 := ⟨cd_X8_sumOf, in_LetterTrayModel, im_X8_sumOf, se_X8_sumOf, ds_X8_sumOf, Or.inl (tg1 (List.mem_of_getElem? (i := 1080) (by decide +kernel)) rfl)⟩
set_option maxRecDepth 100000 in
theorem co_X8_189 : SO RX8 189 yX8_isSort cX8_isSort 1 (some .boolean) 1 := ⟨cd_X8_isSort, in_LetterTrayModel, st_X8_isSort, ds_X8_isSort, tg1 (List.mem_of_getElem? (i := 1030) (by decide +kernel)) rfl⟩
set_option maxRecDepth 100000 in
theorem co_X8_194 : CO RX8 194 yX8_isWord cX8_isWord 2 (some .boolean) 1 := ⟨cd_X8_isWord, in_LetterTrayModel, im_X8_isWord, se_X8_isWord, ds_X8_isWord, Or.inl (tg1 (List.mem_of_getElem? (i := 1039) (by decide +kernel)) rfl)⟩
set_option maxRecDepth 100000 in
theorem co_X8_198 : CO RX8 198 yX8_kinOf cX8_kinOf 4 (some .int) 1 := ⟨cd_X8_kinOf, in_LetterTrayModel, im_X8_kinOf, se_X8_kinOf, ds_X8_kinOf, Or.inl (tg1 (List.mem_of_getElem? (i := 1056) (by decide +kernel)) rfl)⟩
set_option maxRecDepth 100000 in
theorem co_X8_201 : CO RX8 201 yX8_insideOf cX8_insideOf 4 (some .int) 1 := ⟨cd_X8_insideOf, in_LetterTrayModel, im_X8_insideOf, se_X8_insideOf, ds_X8_insideOf, Or.inl (tg1 (List.mem_of_getElem? (i := 1068) (by decide +kernel)) rfl)⟩
set_option maxRecDepth 100000 in
theorem co_X8_204 : CO RX8 204 yX8_oddsOf cX8_oddsOf 5 (some .int) 1 := ⟨cd_X8_oddsOf, in_LetterTrayModel, im_X8_oddsOf, se_X8_oddsOf, ds_X8_oddsOf, Or.inl (tg1 (List.mem_of_getElem? (i := 1072) (by decide +kernel)) rfl)⟩
set_option maxRecDepth 100000 in
theorem co_X8_209 : CO RX8 209 yX8_isLaid cX8_isLaid 2 (some .boolean) 1 := ⟨cd_X8_isLaid, in_LetterTrayModel, im_X8_isLaid, se_X8_isLaid, ds_X8_isLaid, Or.inl (tg1 (List.mem_of_getElem? (i := 1093) (by decide +kernel)) rfl)⟩
set_option maxRecDepth 100000 in
theorem co_X8_230 : CO RX8 230 yX8_judgeRow cX8_judgeRow 3 none 1 := ⟨cd_X8_judgeRow, in_LetterTrayModel, im_X8_judgeRow, se_X8_judgeRow, ds_X8_judgeRow, Or.inl (tg1 (List.mem_of_getElem? (i := 1105) (by decide +kernel)) rfl)⟩
set_option maxRecDepth 100000 in
theorem co_X8_234 : CO RX8 234 yX8_join cX8_join 4 none 2 := ⟨cd_X8_join, in_LetterTrayModel, im_X8_join, se_X8_join, ds_X8_join, Or.inl (tg1 (List.mem_of_getElem? (i := 1109) (by decide +kernel)) rfl)⟩
set_option maxRecDepth 100000 in
theorem co_X8_238 : CO RX8 238 yX8_fits cX8_fits 3 (some .boolean) 0 := ⟨cd_X8_fits, in_LetterTrayModel, im_X8_fits, se_X8_fits, ds_X8_fits, Or.inl (tg1 (List.mem_of_getElem? (i := 1113) (by decide +kernel)) rfl)⟩
set_option maxRecDepth 100000 in
theorem co_X8_241 : CO RX8 241 yX8_goRows cX8_goRows 5 none 0 := ⟨cd_X8_goRows, in_LetterTrayModel, im_X8_goRows, se_X8_goRows, ds_X8_goRows, Or.inl (tg1 (List.mem_of_getElem? (i := 1101) (by decide +kernel)) rfl)⟩
set_option maxRecDepth 100000 in
theorem co_X8_246 : CO RX8 246 yX8_isOneOther cX8_isOneOther 5 (some .boolean) 2 := ⟨cd_X8_isOneOther, in_LetterTrayModel, im_X8_isOneOther, se_X8_isOneOther, ds_X8_isOneOther, Or.inl (tg1 (List.mem_of_getElem? (i := 1141) (by decide +kernel)) rfl)⟩
set_option maxRecDepth 100000 in
theorem co_X8_249 : CO RX8 249 yX8_isOneMore cX8_isOneMore 4 (some .boolean) 2 := ⟨cd_X8_isOneMore, in_LetterTrayModel, im_X8_isOneMore, se_X8_isOneMore, ds_X8_isOneMore, Or.inl (tg1 (List.mem_of_getElem? (i := 1145) (by decide +kernel)) rfl)⟩
set_option maxRecDepth 100000 in
theorem co_X8_252 : SO RX8 252 yX8_isIn cX8_isIn 2 (some .boolean) 2 := ⟨cd_X8_isIn, in_LetterTrayModel, st_X8_isIn, ds_X8_isIn, tg1 (List.mem_of_getElem? (i := 1130) (by decide +kernel)) rfl⟩
set_option maxRecDepth 100000 in
theorem co_X8_255 : CO RX8 255 yX8_isStep cX8_isStep 4 (some .boolean) 2 := ⟨cd_X8_isStep, in_LetterTrayModel, im_X8_isStep, se_X8_isStep, ds_X8_isStep, Or.inl (tg1 (List.mem_of_getElem? (i := 1137) (by decide +kernel)) rfl)⟩
set_option maxRecDepth 100000 in
theorem co_X8_258 : CO RX8 258 yX8_spread cX8_spread 5 (some .int) 1 := ⟨cd_X8_spread, in_LetterTrayModel, im_X8_spread, se_X8_spread, ds_X8_spread, Or.inl (tg1 (List.mem_of_getElem? (i := 1133) (by decide +kernel)) rfl)⟩
set_option maxRecDepth 100000 in
theorem co_X8_261 : CO RX8 261 yX8_stepsTo cX8_stepsTo 6 (some .int) 2 := ⟨cd_X8_stepsTo, in_LetterTrayModel, im_X8_stepsTo, se_X8_stepsTo, ds_X8_stepsTo, Or.inl (tg1 (List.mem_of_getElem? (i := 1126) (by decide +kernel)) rfl)⟩
set_option maxRecDepth 100000 in
theorem co_X8_277 : CO RX8 277 yX8_drawOf cX8_drawOf 2 (some .int) 1 := ⟨cd_X8_drawOf, in_LetterTrayModel, im_X8_drawOf, se_X8_drawOf, ds_X8_drawOf, Or.inl (tg1 (List.mem_of_getElem? (i := 1168) (by decide +kernel)) rfl)⟩
set_option maxRecDepth 100000 in
theorem co_X8_280 : CO RX8 280 yX8_sortAt cX8_sortAt 5 (some .int) 2 := ⟨cd_X8_sortAt, in_LetterTrayModel, im_X8_sortAt, se_X8_sortAt, ds_X8_sortAt, Or.inl (tg1 (List.mem_of_getElem? (i := 1176) (by decide +kernel)) rfl)⟩
set_option maxRecDepth 100000 in
theorem co_X8_283 : CO RX8 283 yX8_move cX8_move 4 none 3 := ⟨cd_X8_move, in_LetterTrayModel, im_X8_move, se_X8_move, ds_X8_move, Or.inl (tg1 (List.mem_of_getElem? (i := 1180) (by decide +kernel)) rfl)⟩
set_option maxRecDepth 100000 in
theorem co_X8_289 : CO RX8 289 yX8_note cX8_note 2 none 0 := ⟨cd_X8_note, in_LetterTrayModel, im_X8_note, se_X8_note, ds_X8_note, Or.inl (tg1 (List.mem_of_getElem? (i := 1160) (by decide +kernel)) rfl)⟩
set_option maxRecDepth 100000 in
theorem co_X8_292 : CO RX8 292 yX8_drawsOne cX8_drawsOne 2 (some .int) 0 := ⟨cd_X8_drawsOne, in_LetterTrayModel, im_X8_drawsOne, se_X8_drawsOne, ds_X8_drawsOne, Or.inl (tg1 (List.mem_of_getElem? (i := 1164) (by decide +kernel)) rfl)⟩
set_option maxRecDepth 100000 in
theorem co_X8_295 : CO RX8 295 yX8_lacksTurn cX8_lacksTurn 2 (some .int) 1 := ⟨cd_X8_lacksTurn, in_LetterTrayModel, im_X8_lacksTurn, se_X8_lacksTurn, ds_X8_lacksTurn, Or.inl (tg1 (List.mem_of_getElem? (i := 1188) (by decide +kernel)) rfl)⟩
set_option maxRecDepth 100000 in
theorem co_X8_298 : CO RX8 298 yX8_lays cX8_lays 6 none 1 := ⟨cd_X8_lays, in_LetterTrayModel, im_X8_lays, se_X8_lays, ds_X8_lays, Or.inl (tg1 (List.mem_of_getElem? (i := 1200) (by decide +kernel)) rfl)⟩
set_option maxRecDepth 100000 in
theorem co_X8_301 : CO RX8 301 yX8_hasRoom cX8_hasRoom 2 (some .boolean) 1 := ⟨cd_X8_hasRoom, in_LetterTrayModel, im_X8_hasRoom, se_X8_hasRoom, ds_X8_hasRoom, Or.inl (tg1 (List.mem_of_getElem? (i := 1208) (by decide +kernel)) rfl)⟩
set_option maxRecDepth 100000 in
theorem co_X8_304 : CO RX8 304 yX8_takesUp cX8_takesUp 5 none 1 := ⟨cd_X8_takesUp, in_LetterTrayModel, im_X8_takesUp, se_X8_takesUp, ds_X8_takesUp, Or.inl (tg1 (List.mem_of_getElem? (i := 1212) (by decide +kernel)) rfl)⟩
set_option maxRecDepth 100000 in
theorem co_X8_309 : CO RX8 309 yX8_byDraws cX8_byDraws 3 none 0 := ⟨cd_X8_byDraws, in_LetterTrayModel, im_X8_byDraws, se_X8_byDraws, ds_X8_byDraws, Or.inl (tg1 (List.mem_of_getElem? (i := 1221) (by decide +kernel)) rfl)⟩
set_option maxRecDepth 100000 in
theorem co_X8_314 : CO RX8 314 yX8_rightOf cX8_rightOf 5 (some .int) 2 := ⟨cd_X8_rightOf, in_LetterTrayModel, im_X8_rightOf, se_X8_rightOf, ds_X8_rightOf, Or.inl (tg1 (List.mem_of_getElem? (i := 1234) (by decide +kernel)) rfl)⟩
set_option maxRecDepth 100000 in
theorem co_X8_317 : CO RX8 317 yX8_moreOf cX8_moreOf 7 (some .int) 2 := ⟨cd_X8_moreOf, in_LetterTrayModel, im_X8_moreOf, se_X8_moreOf, ds_X8_moreOf, Or.inl (tg1 (List.mem_of_getElem? (i := 1238) (by decide +kernel)) rfl)⟩
set_option maxRecDepth 100000 in
theorem co_X8_328 : CO RX8 328 yX8_couldBe cX8_couldBe 5 (some .int) 0 := ⟨cd_X8_couldBe, in_LetterTrayModel, im_X8_couldBe, se_X8_couldBe, ds_X8_couldBe, Or.inl (tg1 (List.mem_of_getElem? (i := 1262) (by decide +kernel)) rfl)⟩
set_option maxRecDepth 100000 in
theorem co_X8_331 : SO RX8 331 yX8_ones cX8_ones 3 (some .int) 1 := ⟨cd_X8_ones, in_LetterTrayModel, st_X8_ones, ds_X8_ones, tg1 (List.mem_of_getElem? (i := 1263) (by decide +kernel)) rfl⟩
set_option maxRecDepth 100000 in
theorem co_X8_334 : CO RX8 334 yX8_partBy cX8_partBy 7 (some .int) 2 := ⟨cd_X8_partBy, in_LetterTrayModel, im_X8_partBy, se_X8_partBy, ds_X8_partBy, Or.inl (tg1 (List.mem_of_getElem? (i := 1266) (by decide +kernel)) rfl)⟩
set_option maxRecDepth 100000 in
theorem co_X8_337 : CO RX8 337 yX8_canSet cX8_canSet 3 (some .int) 0 := ⟨cd_X8_canSet, in_LetterTrayModel, im_X8_canSet, se_X8_canSet, ds_X8_canSet, Or.inl (tg1 (List.mem_of_getElem? (i := 1298) (by decide +kernel)) rfl)⟩
set_option maxRecDepth 100000 in
theorem co_X8_340 : CO RX8 340 yX8_bestNow cX8_bestNow 3 (some .int) 0 := ⟨cd_X8_bestNow, in_LetterTrayModel, im_X8_bestNow, se_X8_bestNow, ds_X8_bestNow, Or.inl (tg1 (List.mem_of_getElem? (i := 1302) (by decide +kernel)) rfl)⟩
set_option maxRecDepth 100000 in
theorem co_X8_343 : CO RX8 343 yX8_toldOfRows cX8_toldOfRows 2 (some .int) 1 := ⟨cd_X8_toldOfRows, in_LetterTrayModel, im_X8_toldOfRows, se_X8_toldOfRows, ds_X8_toldOfRows, Or.inl (tg1 (List.mem_of_getElem? (i := 1306) (by decide +kernel)) rfl)⟩
set_option maxRecDepth 100000 in
theorem co_X8_346 : CO RX8 346 yX8_unusedNow cX8_unusedNow 5 (some .int) 0 := ⟨cd_X8_unusedNow, in_LetterTrayModel, im_X8_unusedNow, se_X8_unusedNow, ds_X8_unusedNow, Or.inl (tg1 (List.mem_of_getElem? (i := 1310) (by decide +kernel)) rfl)⟩
set_option maxRecDepth 100000 in
theorem co_X8_349 : CO RX8 349 yX8_farthest cX8_farthest 5 (some .int) 0 := ⟨cd_X8_farthest, in_LetterTrayModel, im_X8_farthest, se_X8_farthest, ds_X8_farthest, Or.inl (tg1 (List.mem_of_getElem? (i := 1314) (by decide +kernel)) rfl)⟩
set_option maxRecDepth 100000 in
theorem ks_X7_70 : Cond.constant RX7 70 (-1000000002) ∈ tblG := tg1 (List.mem_of_getElem? (i := 281) (by decide +kernel)) rfl
set_option maxRecDepth 100000 in
theorem ks_X7_78 : Cond.constant RX7 78 (-1000000004) ∈ tblG := tg1 (List.mem_of_getElem? (i := 286) (by decide +kernel)) rfl
set_option maxRecDepth 100000 in
theorem ks_X7_170 : Cond.constant RX7 170 (-1000000001) ∈ tblG := tg1 (List.mem_of_getElem? (i := 549) (by decide +kernel)) rfl
set_option maxRecDepth 100000 in
theorem ks_X7_238 : Cond.constant RX7 238 (-1000000003) ∈ tblG := tg1 (List.mem_of_getElem? (i := 583) (by decide +kernel)) rfl
set_option maxRecDepth 100000 in
theorem ks_X7_239 : Cond.constant RX7 239 (90000) ∈ tblG := tg1 (List.mem_of_getElem? (i := 584) (by decide +kernel)) rfl
set_option maxRecDepth 100000 in
theorem ks_X7_279 : Cond.constantLong RX7 279 (1103515245) ∈ tblG := tg1 (List.mem_of_getElem? (i := 602) (by decide +kernel)) rfl
set_option maxRecDepth 100000 in
theorem ks_X7_281 : Cond.constantLong RX7 281 (12345) ∈ tblG := tg1 (List.mem_of_getElem? (i := 603) (by decide +kernel)) rfl
set_option maxRecDepth 100000 in
theorem ks_X7_283 : Cond.constantLong RX7 283 (2147483647) ∈ tblG := tg1 (List.mem_of_getElem? (i := 604) (by decide +kernel)) rfl
set_option maxRecDepth 100000 in
theorem ks_X7_285 : Cond.constant RX7 285 (65536) ∈ tblG := tg1 (List.mem_of_getElem? (i := 605) (by decide +kernel)) rfl
set_option maxRecDepth 100000 in
theorem ks_X7_307 : Cond.constantLong RX7 307 (1000000000) ∈ tblG := tg1 (List.mem_of_getElem? (i := 750) (by decide +kernel)) rfl
set_option maxRecDepth 100000 in
theorem ks_X7_309 : Cond.constantLong RX7 309 (100) ∈ tblG := tg1 (List.mem_of_getElem? (i := 751) (by decide +kernel)) rfl
set_option maxRecDepth 100000 in
theorem ks_X8_82 : Cond.constantLong RX8 82 (8) ∈ tblG := tg1 (List.mem_of_getElem? (i := 1033) (by decide +kernel)) rfl
set_option maxRecDepth 100000 in
theorem ks_X8_84 : Cond.constantLong RX8 84 (255) ∈ tblG := tg1 (List.mem_of_getElem? (i := 961) (by decide +kernel)) rfl
set_option maxRecDepth 100000 in
theorem ks_X8_86 : Cond.constant RX8 86 (-1000000002) ∈ tblG := tg1 (List.mem_of_getElem? (i := 965) (by decide +kernel)) rfl
set_option maxRecDepth 100000 in
theorem ks_X8_90 : Cond.constant RX8 90 (-1000000004) ∈ tblG := tg1 (List.mem_of_getElem? (i := 966) (by decide +kernel)) rfl
set_option maxRecDepth 100000 in
theorem ks_X8_105 : Cond.constantLong RX8 105 (48) ∈ tblG := tg1 (List.mem_of_getElem? (i := 995) (by decide +kernel)) rfl
set_option maxRecDepth 100000 in
theorem ks_X8_107 : Cond.constantLong RX8 107 (57) ∈ tblG := tg1 (List.mem_of_getElem? (i := 996) (by decide +kernel)) rfl
set_option maxRecDepth 100000 in
theorem ks_X8_119 : Cond.constantLong RX8 119 (97) ∈ tblG := tg1 (List.mem_of_getElem? (i := 1008) (by decide +kernel)) rfl
set_option maxRecDepth 100000 in
theorem ks_X8_121 : Cond.constantLong RX8 121 (104) ∈ tblG := tg1 (List.mem_of_getElem? (i := 1009) (by decide +kernel)) rfl
set_option maxRecDepth 100000 in
theorem ks_X8_192 : Cond.constantLong RX8 192 (2) ∈ tblG := tg1 (List.mem_of_getElem? (i := 1034) (by decide +kernel)) rfl
set_option maxRecDepth 100000 in
theorem ks_X8_197 : Cond.constant RX8 197 (-1000000001) ∈ tblG := tg1 (List.mem_of_getElem? (i := 1043) (by decide +kernel)) rfl
set_option maxRecDepth 100000 in
theorem ks_X8_207 : Cond.constantLong RX8 207 (5) ∈ tblG := tg1 (List.mem_of_getElem? (i := 1088) (by decide +kernel)) rfl
set_option maxRecDepth 100000 in
theorem ks_X8_244 : Cond.constantLong RX8 244 (7) ∈ tblG := tg1 (List.mem_of_getElem? (i := 1121) (by decide +kernel)) rfl
set_option maxRecDepth 100000 in
theorem ks_X8_265 : Cond.constantLong RX8 265 (9) ∈ tblG := tg1 (List.mem_of_getElem? (i := 1153) (by decide +kernel)) rfl
set_option maxRecDepth 100000 in
theorem ks_X8_270 : Cond.constantLong RX8 270 (1103515245) ∈ tblG := tg1 (List.mem_of_getElem? (i := 1172) (by decide +kernel)) rfl
set_option maxRecDepth 100000 in
theorem ks_X8_272 : Cond.constantLong RX8 272 (12345) ∈ tblG := tg1 (List.mem_of_getElem? (i := 1173) (by decide +kernel)) rfl
set_option maxRecDepth 100000 in
theorem ks_X8_274 : Cond.constantLong RX8 274 (2147483647) ∈ tblG := tg1 (List.mem_of_getElem? (i := 1174) (by decide +kernel)) rfl
set_option maxRecDepth 100000 in
theorem ks_X8_276 : Cond.constant RX8 276 (65536) ∈ tblG := tg1 (List.mem_of_getElem? (i := 1175) (by decide +kernel)) rfl
set_option maxRecDepth 100000 in
theorem ks_X8_287 : Cond.constant RX8 287 (-1000000003) ∈ tblG := tg1 (List.mem_of_getElem? (i := 1158) (by decide +kernel)) rfl
set_option maxRecDepth 100000 in
theorem ks_X8_288 : Cond.constant RX8 288 (90000) ∈ tblG := tg1 (List.mem_of_getElem? (i := 1159) (by decide +kernel)) rfl
set_option maxRecDepth 100000 in
theorem ks_X8_307 : Cond.constantLong RX8 307 (20) ∈ tblG := tg1 (List.mem_of_getElem? (i := 1220) (by decide +kernel)) rfl
set_option maxRecDepth 100000 in
theorem ks_X8_312 : Cond.constantLong RX8 312 (30) ∈ tblG := tg1 (List.mem_of_getElem? (i := 1229) (by decide +kernel)) rfl
set_option maxRecDepth 100000 in
theorem ks_X8_320 : Cond.constantLong RX8 320 (60) ∈ tblG := tg1 (List.mem_of_getElem? (i := 1246) (by decide +kernel)) rfl
set_option maxRecDepth 100000 in
theorem ks_X8_322 : Cond.constantLong RX8 322 (100) ∈ tblG := tg1 (List.mem_of_getElem? (i := 1247) (by decide +kernel)) rfl
set_option maxRecDepth 100000 in
theorem ks_X8_324 : Cond.constantLong RX8 324 (1000000000) ∈ tblG := tg1 (List.mem_of_getElem? (i := 1248) (by decide +kernel)) rfl
set_option maxRecDepth 100000 in
theorem ks_X8_326 : Cond.constantLong RX8 326 (6) ∈ tblG := tg1 (List.mem_of_getElem? (i := 1253) (by decide +kernel)) rfl
