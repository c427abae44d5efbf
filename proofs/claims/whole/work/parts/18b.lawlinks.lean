theorem mclX7_feed : Cond.code yX7_feed cX7_feed 5 (some .int) ∈ ztb := ztb_in (List.mem_of_getElem? (i := 306) (by decide +kernel)) rfl
theorem mdlX7_feed : (yX7_feed.cls ≠ "java/lang/invoke/MethodHandle" ∧ yX7_feed.cls ≠ "java/lang/invoke/VarHandle") ∧ (parseMethodDescriptor yX7_feed.desc).map (fun d => d.parameters.length) = some 2 := by decide +kernel
theorem milX7_feed : Cond.instanceMethod yX7_feed ∈ ztb := ztb_in (List.mem_of_getElem? (i := 304) (by decide +kernel)) rfl
theorem melX7_feed : Cond.selects yX7_feed.cls yX7_feed yX7_feed ∈ ztb := ztb_in (List.mem_of_getElem? (i := 305) (by decide +kernel)) rfl
theorem mclX8_feed : Cond.code yX8_feed cX8_feed 4 (some .int) ∈ ztb := ztb_in (List.mem_of_getElem? (i := 777) (by decide +kernel)) rfl
theorem mdlX8_feed : (yX8_feed.cls ≠ "java/lang/invoke/MethodHandle" ∧ yX8_feed.cls ≠ "java/lang/invoke/VarHandle") ∧ (parseMethodDescriptor yX8_feed.desc).map (fun d => d.parameters.length) = some 2 := by decide +kernel
theorem milX8_feed : Cond.instanceMethod yX8_feed ∈ ztb := ztb_in (List.mem_of_getElem? (i := 775) (by decide +kernel)) rfl
theorem melX8_feed : Cond.selects yX8_feed.cls yX8_feed yX8_feed ∈ ztb := ztb_in (List.mem_of_getElem? (i := 776) (by decide +kernel)) rfl
theorem mclX7_text : Cond.code yX7_text cX7_text 1 (some .int) ∈ ztb := ztb_in (List.mem_of_getElem? (i := 318) (by decide +kernel)) rfl
theorem mdlX7_text : (yX7_text.cls ≠ "java/lang/invoke/MethodHandle" ∧ yX7_text.cls ≠ "java/lang/invoke/VarHandle") ∧ (parseMethodDescriptor yX7_text.desc).map (fun d => d.parameters.length) = some 0 := by decide +kernel
theorem milX7_text : Cond.instanceMethod yX7_text ∈ ztb := ztb_in (List.mem_of_getElem? (i := 316) (by decide +kernel)) rfl
theorem melX7_text : Cond.selects yX7_text.cls yX7_text yX7_text ∈ ztb := ztb_in (List.mem_of_getElem? (i := 317) (by decide +kernel)) rfl
theorem mclX8_text : Cond.code yX8_text cX8_text 2 (some .int) ∈ ztb := ztb_in (List.mem_of_getElem? (i := 784) (by decide +kernel)) rfl
theorem mdlX8_text : (yX8_text.cls ≠ "java/lang/invoke/MethodHandle" ∧ yX8_text.cls ≠ "java/lang/invoke/VarHandle") ∧ (parseMethodDescriptor yX8_text.desc).map (fun d => d.parameters.length) = some 0 := by decide +kernel
theorem milX8_text : Cond.instanceMethod yX8_text ∈ ztb := ztb_in (List.mem_of_getElem? (i := 782) (by decide +kernel)) rfl
theorem melX8_text : Cond.selects yX8_text.cls yX8_text yX8_text ∈ ztb := ztb_in (List.mem_of_getElem? (i := 783) (by decide +kernel)) rfl
theorem mclX7_write : Cond.code yX7_write cX7_write 2 (some .int) ∈ ztb := ztb_in (List.mem_of_getElem? (i := 333) (by decide +kernel)) rfl
theorem mdlX7_write : (yX7_write.cls ≠ "java/lang/invoke/MethodHandle" ∧ yX7_write.cls ≠ "java/lang/invoke/VarHandle") ∧ (parseMethodDescriptor yX7_write.desc).map (fun d => d.parameters.length) = some 1 := by decide +kernel
theorem milX7_write : Cond.instanceMethod yX7_write ∈ ztb := ztb_in (List.mem_of_getElem? (i := 331) (by decide +kernel)) rfl
theorem melX7_write : Cond.selects yX7_write.cls yX7_write yX7_write ∈ ztb := ztb_in (List.mem_of_getElem? (i := 332) (by decide +kernel)) rfl
theorem mclX8_write : Cond.code yX8_write cX8_write 2 (some .int) ∈ ztb := ztb_in (List.mem_of_getElem? (i := 792) (by decide +kernel)) rfl
theorem mdlX8_write : (yX8_write.cls ≠ "java/lang/invoke/MethodHandle" ∧ yX8_write.cls ≠ "java/lang/invoke/VarHandle") ∧ (parseMethodDescriptor yX8_write.desc).map (fun d => d.parameters.length) = some 1 := by decide +kernel
theorem milX8_write : Cond.instanceMethod yX8_write ∈ ztb := ztb_in (List.mem_of_getElem? (i := 790) (by decide +kernel)) rfl
theorem melX8_write : Cond.selects yX8_write.cls yX8_write yX8_write ∈ ztb := ztb_in (List.mem_of_getElem? (i := 791) (by decide +kernel)) rfl
theorem mclX7_lack : Cond.code yX7_lack cX7_lack 4 (some .int) ∈ ztb := ztb_in (List.mem_of_getElem? (i := 341) (by decide +kernel)) rfl
theorem mdlX7_lack : (yX7_lack.cls ≠ "java/lang/invoke/MethodHandle" ∧ yX7_lack.cls ≠ "java/lang/invoke/VarHandle") ∧ (parseMethodDescriptor yX7_lack.desc).map (fun d => d.parameters.length) = some 2 := by decide +kernel
theorem milX7_lack : Cond.instanceMethod yX7_lack ∈ ztb := ztb_in (List.mem_of_getElem? (i := 339) (by decide +kernel)) rfl
theorem melX7_lack : Cond.selects yX7_lack.cls yX7_lack yX7_lack ∈ ztb := ztb_in (List.mem_of_getElem? (i := 340) (by decide +kernel)) rfl
theorem mclX8_lack : Cond.code yX8_lack cX8_lack 4 (some .int) ∈ ztb := ztb_in (List.mem_of_getElem? (i := 800) (by decide +kernel)) rfl
theorem mdlX8_lack : (yX8_lack.cls ≠ "java/lang/invoke/MethodHandle" ∧ yX8_lack.cls ≠ "java/lang/invoke/VarHandle") ∧ (parseMethodDescriptor yX8_lack.desc).map (fun d => d.parameters.length) = some 2 := by decide +kernel
theorem milX8_lack : Cond.instanceMethod yX8_lack ∈ ztb := ztb_in (List.mem_of_getElem? (i := 798) (by decide +kernel)) rfl
theorem melX8_lack : Cond.selects yX8_lack.cls yX8_lack yX8_lack ∈ ztb := ztb_in (List.mem_of_getElem? (i := 799) (by decide +kernel)) rfl
theorem mclX7_word : Cond.code yX7_word cX7_word 5 (some .int) ∈ ztb := ztb_in (List.mem_of_getElem? (i := 351) (by decide +kernel)) rfl
theorem mdlX7_word : (yX7_word.cls ≠ "java/lang/invoke/MethodHandle" ∧ yX7_word.cls ≠ "java/lang/invoke/VarHandle") ∧ (parseMethodDescriptor yX7_word.desc).map (fun d => d.parameters.length) = some 3 := by decide +kernel
theorem milX7_word : Cond.instanceMethod yX7_word ∈ ztb := ztb_in (List.mem_of_getElem? (i := 349) (by decide +kernel)) rfl
theorem melX7_word : Cond.selects yX7_word.cls yX7_word yX7_word ∈ ztb := ztb_in (List.mem_of_getElem? (i := 350) (by decide +kernel)) rfl
theorem mclX8_word : Cond.code yX8_word cX8_word 5 (some .int) ∈ ztb := ztb_in (List.mem_of_getElem? (i := 804) (by decide +kernel)) rfl
theorem mdlX8_word : (yX8_word.cls ≠ "java/lang/invoke/MethodHandle" ∧ yX8_word.cls ≠ "java/lang/invoke/VarHandle") ∧ (parseMethodDescriptor yX8_word.desc).map (fun d => d.parameters.length) = some 3 := by decide +kernel
theorem milX8_word : Cond.instanceMethod yX8_word ∈ ztb := ztb_in (List.mem_of_getElem? (i := 802) (by decide +kernel)) rfl
theorem melX8_word : Cond.selects yX8_word.cls yX8_word yX8_word ∈ ztb := ztb_in (List.mem_of_getElem? (i := 803) (by decide +kernel)) rfl
theorem mclX7_copy : Cond.code yX7_copy cX7_copy 4 (some .int) ∈ ztb := ztb_in (List.mem_of_getElem? (i := 361) (by decide +kernel)) rfl
theorem mdlX7_copy : (yX7_copy.cls ≠ "java/lang/invoke/MethodHandle" ∧ yX7_copy.cls ≠ "java/lang/invoke/VarHandle") ∧ (parseMethodDescriptor yX7_copy.desc).map (fun d => d.parameters.length) = some 2 := by decide +kernel
theorem milX7_copy : Cond.instanceMethod yX7_copy ∈ ztb := ztb_in (List.mem_of_getElem? (i := 359) (by decide +kernel)) rfl
theorem melX7_copy : Cond.selects yX7_copy.cls yX7_copy yX7_copy ∈ ztb := ztb_in (List.mem_of_getElem? (i := 360) (by decide +kernel)) rfl
theorem mclX8_copy : Cond.code yX8_copy cX8_copy 5 (some .int) ∈ ztb := ztb_in (List.mem_of_getElem? (i := 814) (by decide +kernel)) rfl
theorem mdlX8_copy : (yX8_copy.cls ≠ "java/lang/invoke/MethodHandle" ∧ yX8_copy.cls ≠ "java/lang/invoke/VarHandle") ∧ (parseMethodDescriptor yX8_copy.desc).map (fun d => d.parameters.length) = some 2 := by decide +kernel
theorem milX8_copy : Cond.instanceMethod yX8_copy ∈ ztb := ztb_in (List.mem_of_getElem? (i := 812) (by decide +kernel)) rfl
theorem melX8_copy : Cond.selects yX8_copy.cls yX8_copy yX8_copy ∈ ztb := ztb_in (List.mem_of_getElem? (i := 813) (by decide +kernel)) rfl
theorem mclX7_step : Cond.code yX7_step cX7_step 4 (some .int) ∈ ztb := ztb_in (List.mem_of_getElem? (i := 379) (by decide +kernel)) rfl
theorem mdlX7_step : (yX7_step.cls ≠ "java/lang/invoke/MethodHandle" ∧ yX7_step.cls ≠ "java/lang/invoke/VarHandle") ∧ (parseMethodDescriptor yX7_step.desc).map (fun d => d.parameters.length) = some 3 := by decide +kernel
theorem milX7_step : Cond.instanceMethod yX7_step ∈ ztb := ztb_in (List.mem_of_getElem? (i := 377) (by decide +kernel)) rfl
theorem melX7_step : Cond.selects yX7_step.cls yX7_step yX7_step ∈ ztb := ztb_in (List.mem_of_getElem? (i := 378) (by decide +kernel)) rfl
theorem mclX8_step : Cond.code yX8_step cX8_step 4 (some .int) ∈ ztb := ztb_in (List.mem_of_getElem? (i := 818) (by decide +kernel)) rfl
theorem mdlX8_step : (yX8_step.cls ≠ "java/lang/invoke/MethodHandle" ∧ yX8_step.cls ≠ "java/lang/invoke/VarHandle") ∧ (parseMethodDescriptor yX8_step.desc).map (fun d => d.parameters.length) = some 3 := by decide +kernel
theorem milX8_step : Cond.instanceMethod yX8_step ∈ ztb := ztb_in (List.mem_of_getElem? (i := 816) (by decide +kernel)) rfl
theorem melX8_step : Cond.selects yX8_step.cls yX8_step yX8_step ∈ ztb := ztb_in (List.mem_of_getElem? (i := 817) (by decide +kernel)) rfl
theorem mclX7_need : Cond.code yX7_need cX7_need 3 (some .int) ∈ ztb := ztb_in (List.mem_of_getElem? (i := 391) (by decide +kernel)) rfl
theorem mdlX7_need : (yX7_need.cls ≠ "java/lang/invoke/MethodHandle" ∧ yX7_need.cls ≠ "java/lang/invoke/VarHandle") ∧ (parseMethodDescriptor yX7_need.desc).map (fun d => d.parameters.length) = some 2 := by decide +kernel
theorem milX7_need : Cond.instanceMethod yX7_need ∈ ztb := ztb_in (List.mem_of_getElem? (i := 389) (by decide +kernel)) rfl
theorem melX7_need : Cond.selects yX7_need.cls yX7_need yX7_need ∈ ztb := ztb_in (List.mem_of_getElem? (i := 390) (by decide +kernel)) rfl
theorem mclX8_need : Cond.code yX8_need cX8_need 5 (some .int) ∈ ztb := ztb_in (List.mem_of_getElem? (i := 822) (by decide +kernel)) rfl
theorem mdlX8_need : (yX8_need.cls ≠ "java/lang/invoke/MethodHandle" ∧ yX8_need.cls ≠ "java/lang/invoke/VarHandle") ∧ (parseMethodDescriptor yX8_need.desc).map (fun d => d.parameters.length) = some 2 := by decide +kernel
theorem milX8_need : Cond.instanceMethod yX8_need ∈ ztb := ztb_in (List.mem_of_getElem? (i := 820) (by decide +kernel)) rfl
theorem melX8_need : Cond.selects yX8_need.cls yX8_need yX8_need ∈ ztb := ztb_in (List.mem_of_getElem? (i := 821) (by decide +kernel)) rfl
theorem mclX7_made : Cond.code yX7_made cX7_made 3 (some .int) ∈ ztb := ztb_in (List.mem_of_getElem? (i := 407) (by decide +kernel)) rfl
theorem mdlX7_made : (yX7_made.cls ≠ "java/lang/invoke/MethodHandle" ∧ yX7_made.cls ≠ "java/lang/invoke/VarHandle") ∧ (parseMethodDescriptor yX7_made.desc).map (fun d => d.parameters.length) = some 2 := by decide +kernel
theorem milX7_made : Cond.instanceMethod yX7_made ∈ ztb := ztb_in (List.mem_of_getElem? (i := 405) (by decide +kernel)) rfl
theorem melX7_made : Cond.selects yX7_made.cls yX7_made yX7_made ∈ ztb := ztb_in (List.mem_of_getElem? (i := 406) (by decide +kernel)) rfl
theorem mclX8_made : Cond.code yX8_made cX8_made 3 (some .int) ∈ ztb := ztb_in (List.mem_of_getElem? (i := 830) (by decide +kernel)) rfl
theorem mdlX8_made : (yX8_made.cls ≠ "java/lang/invoke/MethodHandle" ∧ yX8_made.cls ≠ "java/lang/invoke/VarHandle") ∧ (parseMethodDescriptor yX8_made.desc).map (fun d => d.parameters.length) = some 2 := by decide +kernel
theorem milX8_made : Cond.instanceMethod yX8_made ∈ ztb := ztb_in (List.mem_of_getElem? (i := 828) (by decide +kernel)) rfl
theorem melX8_made : Cond.selects yX8_made.cls yX8_made yX8_made ∈ ztb := ztb_in (List.mem_of_getElem? (i := 829) (by decide +kernel)) rfl
theorem mclX7_at : Cond.code yX7_at cX7_at 5 (some .int) ∈ ztb := ztb_in (List.mem_of_getElem? (i := 462) (by decide +kernel)) rfl
theorem mdlX7_at : (yX7_at.cls ≠ "java/lang/invoke/MethodHandle" ∧ yX7_at.cls ≠ "java/lang/invoke/VarHandle") ∧ (parseMethodDescriptor yX7_at.desc).map (fun d => d.parameters.length) = some 3 := by decide +kernel
theorem milX7_at : Cond.instanceMethod yX7_at ∈ ztb := ztb_in (List.mem_of_getElem? (i := 460) (by decide +kernel)) rfl
theorem melX7_at : Cond.selects yX7_at.cls yX7_at yX7_at ∈ ztb := ztb_in (List.mem_of_getElem? (i := 461) (by decide +kernel)) rfl
theorem mclX8_at : Cond.code yX8_at cX8_at 4 (some .int) ∈ ztb := ztb_in (List.mem_of_getElem? (i := 880) (by decide +kernel)) rfl
theorem mdlX8_at : (yX8_at.cls ≠ "java/lang/invoke/MethodHandle" ∧ yX8_at.cls ≠ "java/lang/invoke/VarHandle") ∧ (parseMethodDescriptor yX8_at.desc).map (fun d => d.parameters.length) = some 3 := by decide +kernel
theorem milX8_at : Cond.instanceMethod yX8_at ∈ ztb := ztb_in (List.mem_of_getElem? (i := 878) (by decide +kernel)) rfl
theorem melX8_at : Cond.selects yX8_at.cls yX8_at yX8_at ∈ ztb := ztb_in (List.mem_of_getElem? (i := 879) (by decide +kernel)) rfl
theorem mclX7_reads : Cond.code yX7_reads cX7_reads 4 (some .int) ∈ ztb := ztb_in (List.mem_of_getElem? (i := 466) (by decide +kernel)) rfl
theorem mdlX7_reads : (yX7_reads.cls ≠ "java/lang/invoke/MethodHandle" ∧ yX7_reads.cls ≠ "java/lang/invoke/VarHandle") ∧ (parseMethodDescriptor yX7_reads.desc).map (fun d => d.parameters.length) = some 3 := by decide +kernel
theorem milX7_reads : Cond.instanceMethod yX7_reads ∈ ztb := ztb_in (List.mem_of_getElem? (i := 464) (by decide +kernel)) rfl
theorem melX7_reads : Cond.selects yX7_reads.cls yX7_reads yX7_reads ∈ ztb := ztb_in (List.mem_of_getElem? (i := 465) (by decide +kernel)) rfl
theorem mclX8_reads : Cond.code yX8_reads cX8_reads 4 (some .int) ∈ ztb := ztb_in (List.mem_of_getElem? (i := 884) (by decide +kernel)) rfl
theorem mdlX8_reads : (yX8_reads.cls ≠ "java/lang/invoke/MethodHandle" ∧ yX8_reads.cls ≠ "java/lang/invoke/VarHandle") ∧ (parseMethodDescriptor yX8_reads.desc).map (fun d => d.parameters.length) = some 3 := by decide +kernel
theorem milX8_reads : Cond.instanceMethod yX8_reads ∈ ztb := ztb_in (List.mem_of_getElem? (i := 882) (by decide +kernel)) rfl
theorem melX8_reads : Cond.selects yX8_reads.cls yX8_reads yX8_reads ∈ ztb := ztb_in (List.mem_of_getElem? (i := 883) (by decide +kernel)) rfl
theorem mclX7_uses : Cond.code yX7_uses cX7_uses 3 (some .int) ∈ ztb := ztb_in (List.mem_of_getElem? (i := 475) (by decide +kernel)) rfl
theorem mdlX7_uses : (yX7_uses.cls ≠ "java/lang/invoke/MethodHandle" ∧ yX7_uses.cls ≠ "java/lang/invoke/VarHandle") ∧ (parseMethodDescriptor yX7_uses.desc).map (fun d => d.parameters.length) = some 2 := by decide +kernel
theorem milX7_uses : Cond.instanceMethod yX7_uses ∈ ztb := ztb_in (List.mem_of_getElem? (i := 473) (by decide +kernel)) rfl
theorem melX7_uses : Cond.selects yX7_uses.cls yX7_uses yX7_uses ∈ ztb := ztb_in (List.mem_of_getElem? (i := 474) (by decide +kernel)) rfl
theorem mclX8_uses : Cond.code yX8_uses cX8_uses 7 (some .int) ∈ ztb := ztb_in (List.mem_of_getElem? (i := 900) (by decide +kernel)) rfl
theorem mdlX8_uses : (yX8_uses.cls ≠ "java/lang/invoke/MethodHandle" ∧ yX8_uses.cls ≠ "java/lang/invoke/VarHandle") ∧ (parseMethodDescriptor yX8_uses.desc).map (fun d => d.parameters.length) = some 2 := by decide +kernel
theorem milX8_uses : Cond.instanceMethod yX8_uses ∈ ztb := ztb_in (List.mem_of_getElem? (i := 898) (by decide +kernel)) rfl
theorem melX8_uses : Cond.selects yX8_uses.cls yX8_uses yX8_uses ∈ ztb := ztb_in (List.mem_of_getElem? (i := 899) (by decide +kernel)) rfl
theorem mclX7_orders : Cond.code yX7_orders cX7_orders 2 (some .long) ∈ ztb := ztb_in (List.mem_of_getElem? (i := 479) (by decide +kernel)) rfl
theorem mdlX7_orders : (yX7_orders.cls ≠ "java/lang/invoke/MethodHandle" ∧ yX7_orders.cls ≠ "java/lang/invoke/VarHandle") ∧ (parseMethodDescriptor yX7_orders.desc).map (fun d => d.parameters.length) = some 1 := by decide +kernel
theorem milX7_orders : Cond.instanceMethod yX7_orders ∈ ztb := ztb_in (List.mem_of_getElem? (i := 477) (by decide +kernel)) rfl
theorem melX7_orders : Cond.selects yX7_orders.cls yX7_orders yX7_orders ∈ ztb := ztb_in (List.mem_of_getElem? (i := 478) (by decide +kernel)) rfl
theorem mclX8_orders : Cond.code yX8_orders cX8_orders 7 (some .long) ∈ ztb := ztb_in (List.mem_of_getElem? (i := 904) (by decide +kernel)) rfl
theorem mdlX8_orders : (yX8_orders.cls ≠ "java/lang/invoke/MethodHandle" ∧ yX8_orders.cls ≠ "java/lang/invoke/VarHandle") ∧ (parseMethodDescriptor yX8_orders.desc).map (fun d => d.parameters.length) = some 1 := by decide +kernel
theorem milX8_orders : Cond.instanceMethod yX8_orders ∈ ztb := ztb_in (List.mem_of_getElem? (i := 902) (by decide +kernel)) rfl
theorem melX8_orders : Cond.selects yX8_orders.cls yX8_orders yX8_orders ∈ ztb := ztb_in (List.mem_of_getElem? (i := 903) (by decide +kernel)) rfl
theorem mclX7_built : Cond.code yX7_built cX7_built 4 (some .int) ∈ ztb := ztb_in (List.mem_of_getElem? (i := 505) (by decide +kernel)) rfl
theorem mdlX7_built : (yX7_built.cls ≠ "java/lang/invoke/MethodHandle" ∧ yX7_built.cls ≠ "java/lang/invoke/VarHandle") ∧ (parseMethodDescriptor yX7_built.desc).map (fun d => d.parameters.length) = some 1 := by decide +kernel
theorem milX7_built : Cond.instanceMethod yX7_built ∈ ztb := ztb_in (List.mem_of_getElem? (i := 503) (by decide +kernel)) rfl
theorem melX7_built : Cond.selects yX7_built.cls yX7_built yX7_built ∈ ztb := ztb_in (List.mem_of_getElem? (i := 504) (by decide +kernel)) rfl
theorem mclX8_built : Cond.code yX8_built cX8_built 4 (some .int) ∈ ztb := ztb_in (List.mem_of_getElem? (i := 913) (by decide +kernel)) rfl
theorem mdlX8_built : (yX8_built.cls ≠ "java/lang/invoke/MethodHandle" ∧ yX8_built.cls ≠ "java/lang/invoke/VarHandle") ∧ (parseMethodDescriptor yX8_built.desc).map (fun d => d.parameters.length) = some 1 := by decide +kernel
theorem milX8_built : Cond.instanceMethod yX8_built ∈ ztb := ztb_in (List.mem_of_getElem? (i := 911) (by decide +kernel)) rfl
theorem melX8_built : Cond.selects yX8_built.cls yX8_built yX8_built ∈ ztb := ztb_in (List.mem_of_getElem? (i := 912) (by decide +kernel)) rfl
theorem mclX7_alike : Cond.code yX7_alike cX7_alike 4 (some .int) ∈ ztb := ztb_in (List.mem_of_getElem? (i := 511) (by decide +kernel)) rfl
theorem mdlX7_alike : (yX7_alike.cls ≠ "java/lang/invoke/MethodHandle" ∧ yX7_alike.cls ≠ "java/lang/invoke/VarHandle") ∧ (parseMethodDescriptor yX7_alike.desc).map (fun d => d.parameters.length) = some 3 := by decide +kernel
theorem milX7_alike : Cond.instanceMethod yX7_alike ∈ ztb := ztb_in (List.mem_of_getElem? (i := 509) (by decide +kernel)) rfl
theorem melX7_alike : Cond.selects yX7_alike.cls yX7_alike yX7_alike ∈ ztb := ztb_in (List.mem_of_getElem? (i := 510) (by decide +kernel)) rfl
theorem mclX8_alike : Cond.code yX8_alike cX8_alike 4 (some .int) ∈ ztb := ztb_in (List.mem_of_getElem? (i := 917) (by decide +kernel)) rfl
theorem mdlX8_alike : (yX8_alike.cls ≠ "java/lang/invoke/MethodHandle" ∧ yX8_alike.cls ≠ "java/lang/invoke/VarHandle") ∧ (parseMethodDescriptor yX8_alike.desc).map (fun d => d.parameters.length) = some 3 := by decide +kernel
theorem milX8_alike : Cond.instanceMethod yX8_alike ∈ ztb := ztb_in (List.mem_of_getElem? (i := 915) (by decide +kernel)) rfl
theorem melX8_alike : Cond.selects yX8_alike.cls yX8_alike yX8_alike ∈ ztb := ztb_in (List.mem_of_getElem? (i := 916) (by decide +kernel)) rfl
theorem mclX7_changes : Cond.code yX7_changes cX7_changes 4 (some .int) ∈ ztb := ztb_in (List.mem_of_getElem? (i := 527) (by decide +kernel)) rfl
theorem mdlX7_changes : (yX7_changes.cls ≠ "java/lang/invoke/MethodHandle" ∧ yX7_changes.cls ≠ "java/lang/invoke/VarHandle") ∧ (parseMethodDescriptor yX7_changes.desc).map (fun d => d.parameters.length) = some 3 := by decide +kernel
theorem milX7_changes : Cond.instanceMethod yX7_changes ∈ ztb := ztb_in (List.mem_of_getElem? (i := 525) (by decide +kernel)) rfl
theorem melX7_changes : Cond.selects yX7_changes.cls yX7_changes yX7_changes ∈ ztb := ztb_in (List.mem_of_getElem? (i := 526) (by decide +kernel)) rfl
theorem mclX8_changes : Cond.code yX8_changes cX8_changes 10 (some .int) ∈ ztb := ztb_in (List.mem_of_getElem? (i := 929) (by decide +kernel)) rfl
theorem mdlX8_changes : (yX8_changes.cls ≠ "java/lang/invoke/MethodHandle" ∧ yX8_changes.cls ≠ "java/lang/invoke/VarHandle") ∧ (parseMethodDescriptor yX8_changes.desc).map (fun d => d.parameters.length) = some 3 := by decide +kernel
theorem milX8_changes : Cond.instanceMethod yX8_changes ∈ ztb := ztb_in (List.mem_of_getElem? (i := 927) (by decide +kernel)) rfl
theorem melX8_changes : Cond.selects yX8_changes.cls yX8_changes yX8_changes ∈ ztb := ztb_in (List.mem_of_getElem? (i := 928) (by decide +kernel)) rfl
theorem mclX7_change : Cond.code yX7_change cX7_change 3 (some .int) ∈ ztb := ztb_in (List.mem_of_getElem? (i := 561) (by decide +kernel)) rfl
theorem mdlX7_change : (yX7_change.cls ≠ "java/lang/invoke/MethodHandle" ∧ yX7_change.cls ≠ "java/lang/invoke/VarHandle") ∧ (parseMethodDescriptor yX7_change.desc).map (fun d => d.parameters.length) = some 2 := by decide +kernel
theorem milX7_change : Cond.instanceMethod yX7_change ∈ ztb := ztb_in (List.mem_of_getElem? (i := 559) (by decide +kernel)) rfl
theorem melX7_change : Cond.selects yX7_change.cls yX7_change yX7_change ∈ ztb := ztb_in (List.mem_of_getElem? (i := 560) (by decide +kernel)) rfl
theorem mclX8_change : Cond.code yX8_change cX8_change 3 (some .int) ∈ ztb := ztb_in (List.mem_of_getElem? (i := 949) (by decide +kernel)) rfl
theorem mdlX8_change : (yX8_change.cls ≠ "java/lang/invoke/MethodHandle" ∧ yX8_change.cls ≠ "java/lang/invoke/VarHandle") ∧ (parseMethodDescriptor yX8_change.desc).map (fun d => d.parameters.length) = some 2 := by decide +kernel
theorem milX8_change : Cond.instanceMethod yX8_change ∈ ztb := ztb_in (List.mem_of_getElem? (i := 947) (by decide +kernel)) rfl
theorem melX8_change : Cond.selects yX8_change.cls yX8_change yX8_change ∈ ztb := ztb_in (List.mem_of_getElem? (i := 948) (by decide +kernel)) rfl
theorem mclX7_cause : Cond.code yX7_cause cX7_cause 5 (some .int) ∈ ztb := ztb_in (List.mem_of_getElem? (i := 565) (by decide +kernel)) rfl
theorem mdlX7_cause : (yX7_cause.cls ≠ "java/lang/invoke/MethodHandle" ∧ yX7_cause.cls ≠ "java/lang/invoke/VarHandle") ∧ (parseMethodDescriptor yX7_cause.desc).map (fun d => d.parameters.length) = some 3 := by decide +kernel
theorem milX7_cause : Cond.instanceMethod yX7_cause ∈ ztb := ztb_in (List.mem_of_getElem? (i := 563) (by decide +kernel)) rfl
theorem melX7_cause : Cond.selects yX7_cause.cls yX7_cause yX7_cause ∈ ztb := ztb_in (List.mem_of_getElem? (i := 564) (by decide +kernel)) rfl
theorem mclX8_cause : Cond.code yX8_cause cX8_cause 8 (some .int) ∈ ztb := ztb_in (List.mem_of_getElem? (i := 953) (by decide +kernel)) rfl
theorem mdlX8_cause : (yX8_cause.cls ≠ "java/lang/invoke/MethodHandle" ∧ yX8_cause.cls ≠ "java/lang/invoke/VarHandle") ∧ (parseMethodDescriptor yX8_cause.desc).map (fun d => d.parameters.length) = some 3 := by decide +kernel
theorem milX8_cause : Cond.instanceMethod yX8_cause ∈ ztb := ztb_in (List.mem_of_getElem? (i := 951) (by decide +kernel)) rfl
theorem melX8_cause : Cond.selects yX8_cause.cls yX8_cause yX8_cause ∈ ztb := ztb_in (List.mem_of_getElem? (i := 952) (by decide +kernel)) rfl
theorem mclX7_fix : Cond.code yX7_fix cX7_fix 7 (some .int) ∈ ztb := ztb_in (List.mem_of_getElem? (i := 569) (by decide +kernel)) rfl
theorem mdlX7_fix : (yX7_fix.cls ≠ "java/lang/invoke/MethodHandle" ∧ yX7_fix.cls ≠ "java/lang/invoke/VarHandle") ∧ (parseMethodDescriptor yX7_fix.desc).map (fun d => d.parameters.length) = some 3 := by decide +kernel
theorem milX7_fix : Cond.instanceMethod yX7_fix ∈ ztb := ztb_in (List.mem_of_getElem? (i := 567) (by decide +kernel)) rfl
theorem melX7_fix : Cond.selects yX7_fix.cls yX7_fix yX7_fix ∈ ztb := ztb_in (List.mem_of_getElem? (i := 568) (by decide +kernel)) rfl
theorem mclX8_fix : Cond.code yX8_fix cX8_fix 7 (some .int) ∈ ztb := ztb_in (List.mem_of_getElem? (i := 957) (by decide +kernel)) rfl
theorem mdlX8_fix : (yX8_fix.cls ≠ "java/lang/invoke/MethodHandle" ∧ yX8_fix.cls ≠ "java/lang/invoke/VarHandle") ∧ (parseMethodDescriptor yX8_fix.desc).map (fun d => d.parameters.length) = some 3 := by decide +kernel
theorem milX8_fix : Cond.instanceMethod yX8_fix ∈ ztb := ztb_in (List.mem_of_getElem? (i := 955) (by decide +kernel)) rfl
theorem melX8_fix : Cond.selects yX8_fix.cls yX8_fix yX8_fix ∈ ztb := ztb_in (List.mem_of_getElem? (i := 956) (by decide +kernel)) rfl
theorem mclX7_stable : Cond.code yX7_stable cX7_stable 5 (some .int) ∈ ztb := ztb_in (List.mem_of_getElem? (i := 588) (by decide +kernel)) rfl
theorem mdlX7_stable : (yX7_stable.cls ≠ "java/lang/invoke/MethodHandle" ∧ yX7_stable.cls ≠ "java/lang/invoke/VarHandle") ∧ (parseMethodDescriptor yX7_stable.desc).map (fun d => d.parameters.length) = some 4 := by decide +kernel
theorem milX7_stable : Cond.instanceMethod yX7_stable ∈ ztb := ztb_in (List.mem_of_getElem? (i := 586) (by decide +kernel)) rfl
theorem melX7_stable : Cond.selects yX7_stable.cls yX7_stable yX7_stable ∈ ztb := ztb_in (List.mem_of_getElem? (i := 587) (by decide +kernel)) rfl
theorem mclX8_stable : Cond.code yX8_stable cX8_stable 5 (some .int) ∈ ztb := ztb_in (List.mem_of_getElem? (i := 961) (by decide +kernel)) rfl
theorem mdlX8_stable : (yX8_stable.cls ≠ "java/lang/invoke/MethodHandle" ∧ yX8_stable.cls ≠ "java/lang/invoke/VarHandle") ∧ (parseMethodDescriptor yX8_stable.desc).map (fun d => d.parameters.length) = some 4 := by decide +kernel
theorem milX8_stable : Cond.instanceMethod yX8_stable ∈ ztb := ztb_in (List.mem_of_getElem? (i := 959) (by decide +kernel)) rfl
theorem melX8_stable : Cond.selects yX8_stable.cls yX8_stable yX8_stable ∈ ztb := ztb_in (List.mem_of_getElem? (i := 960) (by decide +kernel)) rfl
theorem mclX7_breaks : Cond.code yX7_breaks cX7_breaks 5 (some .int) ∈ ztb := ztb_in (List.mem_of_getElem? (i := 596) (by decide +kernel)) rfl
theorem mdlX7_breaks : (yX7_breaks.cls ≠ "java/lang/invoke/MethodHandle" ∧ yX7_breaks.cls ≠ "java/lang/invoke/VarHandle") ∧ (parseMethodDescriptor yX7_breaks.desc).map (fun d => d.parameters.length) = some 3 := by decide +kernel
theorem milX7_breaks : Cond.instanceMethod yX7_breaks ∈ ztb := ztb_in (List.mem_of_getElem? (i := 594) (by decide +kernel)) rfl
theorem melX7_breaks : Cond.selects yX7_breaks.cls yX7_breaks yX7_breaks ∈ ztb := ztb_in (List.mem_of_getElem? (i := 595) (by decide +kernel)) rfl
theorem mclX8_breaks : Cond.code yX8_breaks cX8_breaks 4 (some .int) ∈ ztb := ztb_in (List.mem_of_getElem? (i := 969) (by decide +kernel)) rfl
theorem mdlX8_breaks : (yX8_breaks.cls ≠ "java/lang/invoke/MethodHandle" ∧ yX8_breaks.cls ≠ "java/lang/invoke/VarHandle") ∧ (parseMethodDescriptor yX8_breaks.desc).map (fun d => d.parameters.length) = some 3 := by decide +kernel
theorem milX8_breaks : Cond.instanceMethod yX8_breaks ∈ ztb := ztb_in (List.mem_of_getElem? (i := 967) (by decide +kernel)) rfl
theorem melX8_breaks : Cond.selects yX8_breaks.cls yX8_breaks yX8_breaks ∈ ztb := ztb_in (List.mem_of_getElem? (i := 968) (by decide +kernel)) rfl
theorem mclX7_rooms : Cond.code yX7_rooms cX7_rooms 6 (some .int) ∈ ztb := ztb_in (List.mem_of_getElem? (i := 600) (by decide +kernel)) rfl
theorem mdlX7_rooms : (yX7_rooms.cls ≠ "java/lang/invoke/MethodHandle" ∧ yX7_rooms.cls ≠ "java/lang/invoke/VarHandle") ∧ (parseMethodDescriptor yX7_rooms.desc).map (fun d => d.parameters.length) = some 2 := by decide +kernel
theorem milX7_rooms : Cond.instanceMethod yX7_rooms ∈ ztb := ztb_in (List.mem_of_getElem? (i := 598) (by decide +kernel)) rfl
theorem melX7_rooms : Cond.selects yX7_rooms.cls yX7_rooms yX7_rooms ∈ ztb := ztb_in (List.mem_of_getElem? (i := 599) (by decide +kernel)) rfl
theorem mclX8_rooms : Cond.code yX8_rooms cX8_rooms 6 (some .int) ∈ ztb := ztb_in (List.mem_of_getElem? (i := 973) (by decide +kernel)) rfl
theorem mdlX8_rooms : (yX8_rooms.cls ≠ "java/lang/invoke/MethodHandle" ∧ yX8_rooms.cls ≠ "java/lang/invoke/VarHandle") ∧ (parseMethodDescriptor yX8_rooms.desc).map (fun d => d.parameters.length) = some 2 := by decide +kernel
theorem milX8_rooms : Cond.instanceMethod yX8_rooms ∈ ztb := ztb_in (List.mem_of_getElem? (i := 971) (by decide +kernel)) rfl
theorem melX8_rooms : Cond.selects yX8_rooms.cls yX8_rooms yX8_rooms ∈ ztb := ztb_in (List.mem_of_getElem? (i := 972) (by decide +kernel)) rfl
theorem mclX7_maker : Cond.code yX7_maker cX7_maker 4 (some .int) ∈ ztb := ztb_in (List.mem_of_getElem? (i := 612) (by decide +kernel)) rfl
theorem mdlX7_maker : (yX7_maker.cls ≠ "java/lang/invoke/MethodHandle" ∧ yX7_maker.cls ≠ "java/lang/invoke/VarHandle") ∧ (parseMethodDescriptor yX7_maker.desc).map (fun d => d.parameters.length) = some 3 := by decide +kernel
theorem milX7_maker : Cond.instanceMethod yX7_maker ∈ ztb := ztb_in (List.mem_of_getElem? (i := 610) (by decide +kernel)) rfl
theorem melX7_maker : Cond.selects yX7_maker.cls yX7_maker yX7_maker ∈ ztb := ztb_in (List.mem_of_getElem? (i := 611) (by decide +kernel)) rfl
theorem mclX8_maker : Cond.code yX8_maker cX8_maker 4 (some .int) ∈ ztb := ztb_in (List.mem_of_getElem? (i := 981) (by decide +kernel)) rfl
theorem mdlX8_maker : (yX8_maker.cls ≠ "java/lang/invoke/MethodHandle" ∧ yX8_maker.cls ≠ "java/lang/invoke/VarHandle") ∧ (parseMethodDescriptor yX8_maker.desc).map (fun d => d.parameters.length) = some 3 := by decide +kernel
theorem milX8_maker : Cond.instanceMethod yX8_maker ∈ ztb := ztb_in (List.mem_of_getElem? (i := 979) (by decide +kernel)) rfl
theorem melX8_maker : Cond.selects yX8_maker.cls yX8_maker yX8_maker ∈ ztb := ztb_in (List.mem_of_getElem? (i := 980) (by decide +kernel)) rfl
theorem mclX7_down : Cond.code yX7_down cX7_down 2 (some .int) ∈ ztb := ztb_in (List.mem_of_getElem? (i := 619) (by decide +kernel)) rfl
theorem mdlX7_down : (yX7_down.cls ≠ "java/lang/invoke/MethodHandle" ∧ yX7_down.cls ≠ "java/lang/invoke/VarHandle") ∧ (parseMethodDescriptor yX7_down.desc).map (fun d => d.parameters.length) = some 1 := by decide +kernel
theorem milX7_down : Cond.instanceMethod yX7_down ∈ ztb := ztb_in (List.mem_of_getElem? (i := 617) (by decide +kernel)) rfl
theorem melX7_down : Cond.selects yX7_down.cls yX7_down yX7_down ∈ ztb := ztb_in (List.mem_of_getElem? (i := 618) (by decide +kernel)) rfl
theorem mclX8_down : Cond.code yX8_down cX8_down 2 (some .int) ∈ ztb := ztb_in (List.mem_of_getElem? (i := 988) (by decide +kernel)) rfl
theorem mdlX8_down : (yX8_down.cls ≠ "java/lang/invoke/MethodHandle" ∧ yX8_down.cls ≠ "java/lang/invoke/VarHandle") ∧ (parseMethodDescriptor yX8_down.desc).map (fun d => d.parameters.length) = some 1 := by decide +kernel
theorem milX8_down : Cond.instanceMethod yX8_down ∈ ztb := ztb_in (List.mem_of_getElem? (i := 986) (by decide +kernel)) rfl
theorem melX8_down : Cond.selects yX8_down.cls yX8_down yX8_down ∈ ztb := ztb_in (List.mem_of_getElem? (i := 987) (by decide +kernel)) rfl
theorem mclX7_ring : Cond.code yX7_ring cX7_ring 4 (some .int) ∈ ztb := ztb_in (List.mem_of_getElem? (i := 637) (by decide +kernel)) rfl
theorem mdlX7_ring : (yX7_ring.cls ≠ "java/lang/invoke/MethodHandle" ∧ yX7_ring.cls ≠ "java/lang/invoke/VarHandle") ∧ (parseMethodDescriptor yX7_ring.desc).map (fun d => d.parameters.length) = some 2 := by decide +kernel
theorem milX7_ring : Cond.instanceMethod yX7_ring ∈ ztb := ztb_in (List.mem_of_getElem? (i := 635) (by decide +kernel)) rfl
theorem melX7_ring : Cond.selects yX7_ring.cls yX7_ring yX7_ring ∈ ztb := ztb_in (List.mem_of_getElem? (i := 636) (by decide +kernel)) rfl
theorem mclX8_ring : Cond.code yX8_ring cX8_ring 6 (some .int) ∈ ztb := ztb_in (List.mem_of_getElem? (i := 996) (by decide +kernel)) rfl
theorem mdlX8_ring : (yX8_ring.cls ≠ "java/lang/invoke/MethodHandle" ∧ yX8_ring.cls ≠ "java/lang/invoke/VarHandle") ∧ (parseMethodDescriptor yX8_ring.desc).map (fun d => d.parameters.length) = some 2 := by decide +kernel
theorem milX8_ring : Cond.instanceMethod yX8_ring ∈ ztb := ztb_in (List.mem_of_getElem? (i := 994) (by decide +kernel)) rfl
theorem melX8_ring : Cond.selects yX8_ring.cls yX8_ring yX8_ring ∈ ztb := ztb_in (List.mem_of_getElem? (i := 995) (by decide +kernel)) rfl
theorem mclX7_needs : Cond.code yX7_needs cX7_needs 4 (some .int) ∈ ztb := ztb_in (List.mem_of_getElem? (i := 642) (by decide +kernel)) rfl
theorem mdlX7_needs : (yX7_needs.cls ≠ "java/lang/invoke/MethodHandle" ∧ yX7_needs.cls ≠ "java/lang/invoke/VarHandle") ∧ (parseMethodDescriptor yX7_needs.desc).map (fun d => d.parameters.length) = some 2 := by decide +kernel
theorem milX7_needs : Cond.instanceMethod yX7_needs ∈ ztb := ztb_in (List.mem_of_getElem? (i := 640) (by decide +kernel)) rfl
theorem melX7_needs : Cond.selects yX7_needs.cls yX7_needs yX7_needs ∈ ztb := ztb_in (List.mem_of_getElem? (i := 641) (by decide +kernel)) rfl
theorem mclX8_needs : Cond.code yX8_needs cX8_needs 6 (some .int) ∈ ztb := ztb_in (List.mem_of_getElem? (i := 1004) (by decide +kernel)) rfl
theorem mdlX8_needs : (yX8_needs.cls ≠ "java/lang/invoke/MethodHandle" ∧ yX8_needs.cls ≠ "java/lang/invoke/VarHandle") ∧ (parseMethodDescriptor yX8_needs.desc).map (fun d => d.parameters.length) = some 2 := by decide +kernel
theorem milX8_needs : Cond.instanceMethod yX8_needs ∈ ztb := ztb_in (List.mem_of_getElem? (i := 1002) (by decide +kernel)) rfl
theorem melX8_needs : Cond.selects yX8_needs.cls yX8_needs yX8_needs ∈ ztb := ztb_in (List.mem_of_getElem? (i := 1003) (by decide +kernel)) rfl
theorem mclX7_forge : Cond.code yX7_forge cX7_forge 4 (some .int) ∈ ztb := ztb_in (List.mem_of_getElem? (i := 650) (by decide +kernel)) rfl
theorem mdlX7_forge : (yX7_forge.cls ≠ "java/lang/invoke/MethodHandle" ∧ yX7_forge.cls ≠ "java/lang/invoke/VarHandle") ∧ (parseMethodDescriptor yX7_forge.desc).map (fun d => d.parameters.length) = some 2 := by decide +kernel
theorem milX7_forge : Cond.instanceMethod yX7_forge ∈ ztb := ztb_in (List.mem_of_getElem? (i := 648) (by decide +kernel)) rfl
theorem melX7_forge : Cond.selects yX7_forge.cls yX7_forge yX7_forge ∈ ztb := ztb_in (List.mem_of_getElem? (i := 649) (by decide +kernel)) rfl
theorem mclX8_forge : Cond.code yX8_forge cX8_forge 4 (some .int) ∈ ztb := ztb_in (List.mem_of_getElem? (i := 1008) (by decide +kernel)) rfl
theorem mdlX8_forge : (yX8_forge.cls ≠ "java/lang/invoke/MethodHandle" ∧ yX8_forge.cls ≠ "java/lang/invoke/VarHandle") ∧ (parseMethodDescriptor yX8_forge.desc).map (fun d => d.parameters.length) = some 2 := by decide +kernel
theorem milX8_forge : Cond.instanceMethod yX8_forge ∈ ztb := ztb_in (List.mem_of_getElem? (i := 1006) (by decide +kernel)) rfl
theorem melX8_forge : Cond.selects yX8_forge.cls yX8_forge yX8_forge ∈ ztb := ztb_in (List.mem_of_getElem? (i := 1007) (by decide +kernel)) rfl
theorem mclX7_trust : Cond.code yX7_trust cX7_trust 2 (some .int) ∈ ztb := ztb_in (List.mem_of_getElem? (i := 654) (by decide +kernel)) rfl
theorem mdlX7_trust : (yX7_trust.cls ≠ "java/lang/invoke/MethodHandle" ∧ yX7_trust.cls ≠ "java/lang/invoke/VarHandle") ∧ (parseMethodDescriptor yX7_trust.desc).map (fun d => d.parameters.length) = some 1 := by decide +kernel
theorem milX7_trust : Cond.instanceMethod yX7_trust ∈ ztb := ztb_in (List.mem_of_getElem? (i := 652) (by decide +kernel)) rfl
theorem melX7_trust : Cond.selects yX7_trust.cls yX7_trust yX7_trust ∈ ztb := ztb_in (List.mem_of_getElem? (i := 653) (by decide +kernel)) rfl
theorem mclX8_trust : Cond.code yX8_trust cX8_trust 4 (some .int) ∈ ztb := ztb_in (List.mem_of_getElem? (i := 1012) (by decide +kernel)) rfl
theorem mdlX8_trust : (yX8_trust.cls ≠ "java/lang/invoke/MethodHandle" ∧ yX8_trust.cls ≠ "java/lang/invoke/VarHandle") ∧ (parseMethodDescriptor yX8_trust.desc).map (fun d => d.parameters.length) = some 1 := by decide +kernel
theorem milX8_trust : Cond.instanceMethod yX8_trust ∈ ztb := ztb_in (List.mem_of_getElem? (i := 1010) (by decide +kernel)) rfl
theorem melX8_trust : Cond.selects yX8_trust.cls yX8_trust yX8_trust ∈ ztb := ztb_in (List.mem_of_getElem? (i := 1011) (by decide +kernel)) rfl
theorem mclX7_heirs : Cond.code yX7_heirs cX7_heirs 4 (some .int) ∈ ztb := ztb_in (List.mem_of_getElem? (i := 658) (by decide +kernel)) rfl
theorem mdlX7_heirs : (yX7_heirs.cls ≠ "java/lang/invoke/MethodHandle" ∧ yX7_heirs.cls ≠ "java/lang/invoke/VarHandle") ∧ (parseMethodDescriptor yX7_heirs.desc).map (fun d => d.parameters.length) = some 1 := by decide +kernel
theorem milX7_heirs : Cond.instanceMethod yX7_heirs ∈ ztb := ztb_in (List.mem_of_getElem? (i := 656) (by decide +kernel)) rfl
theorem melX7_heirs : Cond.selects yX7_heirs.cls yX7_heirs yX7_heirs ∈ ztb := ztb_in (List.mem_of_getElem? (i := 657) (by decide +kernel)) rfl
theorem mclX8_heirs : Cond.code yX8_heirs cX8_heirs 5 (some .int) ∈ ztb := ztb_in (List.mem_of_getElem? (i := 1016) (by decide +kernel)) rfl
theorem mdlX8_heirs : (yX8_heirs.cls ≠ "java/lang/invoke/MethodHandle" ∧ yX8_heirs.cls ≠ "java/lang/invoke/VarHandle") ∧ (parseMethodDescriptor yX8_heirs.desc).map (fun d => d.parameters.length) = some 1 := by decide +kernel
theorem milX8_heirs : Cond.instanceMethod yX8_heirs ∈ ztb := ztb_in (List.mem_of_getElem? (i := 1014) (by decide +kernel)) rfl
theorem melX8_heirs : Cond.selects yX8_heirs.cls yX8_heirs yX8_heirs ∈ ztb := ztb_in (List.mem_of_getElem? (i := 1015) (by decide +kernel)) rfl
theorem mclX7_count : Cond.code yX7_count cX7_count 2 (some .int) ∈ ztb := ztb_in (List.mem_of_getElem? (i := 662) (by decide +kernel)) rfl
theorem mdlX7_count : (yX7_count.cls ≠ "java/lang/invoke/MethodHandle" ∧ yX7_count.cls ≠ "java/lang/invoke/VarHandle") ∧ (parseMethodDescriptor yX7_count.desc).map (fun d => d.parameters.length) = some 1 := by decide +kernel
theorem milX7_count : Cond.instanceMethod yX7_count ∈ ztb := ztb_in (List.mem_of_getElem? (i := 660) (by decide +kernel)) rfl
theorem melX7_count : Cond.selects yX7_count.cls yX7_count yX7_count ∈ ztb := ztb_in (List.mem_of_getElem? (i := 661) (by decide +kernel)) rfl
theorem mclX8_count : Cond.code yX8_count cX8_count 4 (some .int) ∈ ztb := ztb_in (List.mem_of_getElem? (i := 1020) (by decide +kernel)) rfl
theorem mdlX8_count : (yX8_count.cls ≠ "java/lang/invoke/MethodHandle" ∧ yX8_count.cls ≠ "java/lang/invoke/VarHandle") ∧ (parseMethodDescriptor yX8_count.desc).map (fun d => d.parameters.length) = some 1 := by decide +kernel
theorem milX8_count : Cond.instanceMethod yX8_count ∈ ztb := ztb_in (List.mem_of_getElem? (i := 1018) (by decide +kernel)) rfl
theorem melX8_count : Cond.selects yX8_count.cls yX8_count yX8_count ∈ ztb := ztb_in (List.mem_of_getElem? (i := 1019) (by decide +kernel)) rfl
theorem mzlX7 : Cond.initialized RX7 ∈ ztb := ztb_in (List.mem_of_getElem? (i := 51) (by decide +kernel)) rfl
theorem mzlX8 : Cond.initialized RX8 ∈ ztb := ztb_in (List.mem_of_getElem? (i := 61) (by decide +kernel)) rfl
theorem mlL_13 : zMV RL 13 yX7_feed cX7_feed 5 (some .int) 2 7 := ⟨⟨ztb_in (List.mem_of_getElem? (i := 303) (by decide +kernel)) rfl, mzlX7, mclX7_feed, mdlX7_feed.1, mdlX7_feed.2⟩, milX7_feed, melX7_feed, rfl, by decide⟩
theorem mlL_17 : zMV RL 17 yX8_feed cX8_feed 4 (some .int) 2 8 := ⟨⟨ztb_in (List.mem_of_getElem? (i := 774) (by decide +kernel)) rfl, mzlX8, mclX8_feed, mdlX8_feed.1, mdlX8_feed.2⟩, milX8_feed, melX8_feed, rfl, by decide⟩
theorem mlL_18 : zMV RL 18 yX7_text cX7_text 1 (some .int) 0 7 := ⟨⟨ztb_in (List.mem_of_getElem? (i := 315) (by decide +kernel)) rfl, mzlX7, mclX7_text, mdlX7_text.1, mdlX7_text.2⟩, milX7_text, melX7_text, rfl, by decide⟩
theorem mlL_22 : zMV RL 22 yX8_text cX8_text 2 (some .int) 0 8 := ⟨⟨ztb_in (List.mem_of_getElem? (i := 781) (by decide +kernel)) rfl, mzlX8, mclX8_text, mdlX8_text.1, mdlX8_text.2⟩, milX8_text, melX8_text, rfl, by decide⟩
theorem mlL_23 : zMV RL 23 yX7_write cX7_write 2 (some .int) 1 7 := ⟨⟨ztb_in (List.mem_of_getElem? (i := 330) (by decide +kernel)) rfl, mzlX7, mclX7_write, mdlX7_write.1, mdlX7_write.2⟩, milX7_write, melX7_write, rfl, by decide⟩
theorem mlL_27 : zMV RL 27 yX8_write cX8_write 2 (some .int) 1 8 := ⟨⟨ztb_in (List.mem_of_getElem? (i := 789) (by decide +kernel)) rfl, mzlX8, mclX8_write, mdlX8_write.1, mdlX8_write.2⟩, milX8_write, melX8_write, rfl, by decide⟩
theorem mlL_28 : zMV RL 28 yX7_lack cX7_lack 4 (some .int) 2 7 := ⟨⟨ztb_in (List.mem_of_getElem? (i := 338) (by decide +kernel)) rfl, mzlX7, mclX7_lack, mdlX7_lack.1, mdlX7_lack.2⟩, milX7_lack, melX7_lack, rfl, by decide⟩
theorem mlL_31 : zMV RL 31 yX8_lack cX8_lack 4 (some .int) 2 8 := ⟨⟨ztb_in (List.mem_of_getElem? (i := 797) (by decide +kernel)) rfl, mzlX8, mclX8_lack, mdlX8_lack.1, mdlX8_lack.2⟩, milX8_lack, melX8_lack, rfl, by decide⟩
theorem mlL_32 : zMV RL 32 yX7_word cX7_word 5 (some .int) 3 7 := ⟨⟨ztb_in (List.mem_of_getElem? (i := 348) (by decide +kernel)) rfl, mzlX7, mclX7_word, mdlX7_word.1, mdlX7_word.2⟩, milX7_word, melX7_word, rfl, by decide⟩
theorem mlL_36 : zMV RL 36 yX8_word cX8_word 5 (some .int) 3 8 := ⟨⟨ztb_in (List.mem_of_getElem? (i := 801) (by decide +kernel)) rfl, mzlX8, mclX8_word, mdlX8_word.1, mdlX8_word.2⟩, milX8_word, melX8_word, rfl, by decide⟩
theorem mlL_37 : zMV RL 37 yX7_copy cX7_copy 4 (some .int) 2 7 := ⟨⟨ztb_in (List.mem_of_getElem? (i := 358) (by decide +kernel)) rfl, mzlX7, mclX7_copy, mdlX7_copy.1, mdlX7_copy.2⟩, milX7_copy, melX7_copy, rfl, by decide⟩
theorem mlL_40 : zMV RL 40 yX8_copy cX8_copy 5 (some .int) 2 8 := ⟨⟨ztb_in (List.mem_of_getElem? (i := 811) (by decide +kernel)) rfl, mzlX8, mclX8_copy, mdlX8_copy.1, mdlX8_copy.2⟩, milX8_copy, melX8_copy, rfl, by decide⟩
theorem mlL_41 : zMV RL 41 yX7_step cX7_step 4 (some .int) 3 7 := ⟨⟨ztb_in (List.mem_of_getElem? (i := 376) (by decide +kernel)) rfl, mzlX7, mclX7_step, mdlX7_step.1, mdlX7_step.2⟩, milX7_step, melX7_step, rfl, by decide⟩
theorem mlL_44 : zMV RL 44 yX8_step cX8_step 4 (some .int) 3 8 := ⟨⟨ztb_in (List.mem_of_getElem? (i := 815) (by decide +kernel)) rfl, mzlX8, mclX8_step, mdlX8_step.1, mdlX8_step.2⟩, milX8_step, melX8_step, rfl, by decide⟩
theorem mlL_45 : zMV RL 45 yX7_need cX7_need 3 (some .int) 2 7 := ⟨⟨ztb_in (List.mem_of_getElem? (i := 388) (by decide +kernel)) rfl, mzlX7, mclX7_need, mdlX7_need.1, mdlX7_need.2⟩, milX7_need, melX7_need, rfl, by decide⟩
theorem mlL_48 : zMV RL 48 yX8_need cX8_need 5 (some .int) 2 8 := ⟨⟨ztb_in (List.mem_of_getElem? (i := 819) (by decide +kernel)) rfl, mzlX8, mclX8_need, mdlX8_need.1, mdlX8_need.2⟩, milX8_need, melX8_need, rfl, by decide⟩
theorem mlL_49 : zMV RL 49 yX7_made cX7_made 3 (some .int) 2 7 := ⟨⟨ztb_in (List.mem_of_getElem? (i := 404) (by decide +kernel)) rfl, mzlX7, mclX7_made, mdlX7_made.1, mdlX7_made.2⟩, milX7_made, melX7_made, rfl, by decide⟩
theorem mlL_52 : zMV RL 52 yX8_made cX8_made 3 (some .int) 2 8 := ⟨⟨ztb_in (List.mem_of_getElem? (i := 827) (by decide +kernel)) rfl, mzlX8, mclX8_made, mdlX8_made.1, mdlX8_made.2⟩, milX8_made, melX8_made, rfl, by decide⟩
theorem mlL_53 : zMV RL 53 yX7_at cX7_at 5 (some .int) 3 7 := ⟨⟨ztb_in (List.mem_of_getElem? (i := 459) (by decide +kernel)) rfl, mzlX7, mclX7_at, mdlX7_at.1, mdlX7_at.2⟩, milX7_at, melX7_at, rfl, by decide⟩
theorem mlL_56 : zMV RL 56 yX8_at cX8_at 4 (some .int) 3 8 := ⟨⟨ztb_in (List.mem_of_getElem? (i := 877) (by decide +kernel)) rfl, mzlX8, mclX8_at, mdlX8_at.1, mdlX8_at.2⟩, milX8_at, melX8_at, rfl, by decide⟩
theorem mlL_57 : zMV RL 57 yX7_reads cX7_reads 4 (some .int) 3 7 := ⟨⟨ztb_in (List.mem_of_getElem? (i := 463) (by decide +kernel)) rfl, mzlX7, mclX7_reads, mdlX7_reads.1, mdlX7_reads.2⟩, milX7_reads, melX7_reads, rfl, by decide⟩
theorem mlL_60 : zMV RL 60 yX8_reads cX8_reads 4 (some .int) 3 8 := ⟨⟨ztb_in (List.mem_of_getElem? (i := 881) (by decide +kernel)) rfl, mzlX8, mclX8_reads, mdlX8_reads.1, mdlX8_reads.2⟩, milX8_reads, melX8_reads, rfl, by decide⟩
theorem mlL_61 : zMV RL 61 yX7_uses cX7_uses 3 (some .int) 2 7 := ⟨⟨ztb_in (List.mem_of_getElem? (i := 472) (by decide +kernel)) rfl, mzlX7, mclX7_uses, mdlX7_uses.1, mdlX7_uses.2⟩, milX7_uses, melX7_uses, rfl, by decide⟩
theorem mlL_64 : zMV RL 64 yX8_uses cX8_uses 7 (some .int) 2 8 := ⟨⟨ztb_in (List.mem_of_getElem? (i := 897) (by decide +kernel)) rfl, mzlX8, mclX8_uses, mdlX8_uses.1, mdlX8_uses.2⟩, milX8_uses, melX8_uses, rfl, by decide⟩
theorem mlL_65 : zMV RL 65 yX7_orders cX7_orders 2 (some .long) 1 7 := ⟨⟨ztb_in (List.mem_of_getElem? (i := 476) (by decide +kernel)) rfl, mzlX7, mclX7_orders, mdlX7_orders.1, mdlX7_orders.2⟩, milX7_orders, melX7_orders, rfl, by decide⟩
theorem mlL_69 : zMV RL 69 yX8_orders cX8_orders 7 (some .long) 1 8 := ⟨⟨ztb_in (List.mem_of_getElem? (i := 901) (by decide +kernel)) rfl, mzlX8, mclX8_orders, mdlX8_orders.1, mdlX8_orders.2⟩, milX8_orders, melX8_orders, rfl, by decide⟩
theorem mlL_70 : zMV RL 70 yX7_built cX7_built 4 (some .int) 1 7 := ⟨⟨ztb_in (List.mem_of_getElem? (i := 502) (by decide +kernel)) rfl, mzlX7, mclX7_built, mdlX7_built.1, mdlX7_built.2⟩, milX7_built, melX7_built, rfl, by decide⟩
theorem mlL_73 : zMV RL 73 yX8_built cX8_built 4 (some .int) 1 8 := ⟨⟨ztb_in (List.mem_of_getElem? (i := 910) (by decide +kernel)) rfl, mzlX8, mclX8_built, mdlX8_built.1, mdlX8_built.2⟩, milX8_built, melX8_built, rfl, by decide⟩
theorem mlL_74 : zMV RL 74 yX7_alike cX7_alike 4 (some .int) 3 7 := ⟨⟨ztb_in (List.mem_of_getElem? (i := 508) (by decide +kernel)) rfl, mzlX7, mclX7_alike, mdlX7_alike.1, mdlX7_alike.2⟩, milX7_alike, melX7_alike, rfl, by decide⟩
theorem mlL_77 : zMV RL 77 yX8_alike cX8_alike 4 (some .int) 3 8 := ⟨⟨ztb_in (List.mem_of_getElem? (i := 914) (by decide +kernel)) rfl, mzlX8, mclX8_alike, mdlX8_alike.1, mdlX8_alike.2⟩, milX8_alike, melX8_alike, rfl, by decide⟩
theorem mlL_78 : zMV RL 78 yX7_changes cX7_changes 4 (some .int) 3 7 := ⟨⟨ztb_in (List.mem_of_getElem? (i := 524) (by decide +kernel)) rfl, mzlX7, mclX7_changes, mdlX7_changes.1, mdlX7_changes.2⟩, milX7_changes, melX7_changes, rfl, by decide⟩
theorem mlL_81 : zMV RL 81 yX8_changes cX8_changes 10 (some .int) 3 8 := ⟨⟨ztb_in (List.mem_of_getElem? (i := 926) (by decide +kernel)) rfl, mzlX8, mclX8_changes, mdlX8_changes.1, mdlX8_changes.2⟩, milX8_changes, melX8_changes, rfl, by decide⟩
theorem mlL_82 : zMV RL 82 yX7_change cX7_change 3 (some .int) 2 7 := ⟨⟨ztb_in (List.mem_of_getElem? (i := 558) (by decide +kernel)) rfl, mzlX7, mclX7_change, mdlX7_change.1, mdlX7_change.2⟩, milX7_change, melX7_change, rfl, by decide⟩
theorem mlL_85 : zMV RL 85 yX8_change cX8_change 3 (some .int) 2 8 := ⟨⟨ztb_in (List.mem_of_getElem? (i := 946) (by decide +kernel)) rfl, mzlX8, mclX8_change, mdlX8_change.1, mdlX8_change.2⟩, milX8_change, melX8_change, rfl, by decide⟩
theorem mlL_86 : zMV RL 86 yX7_cause cX7_cause 5 (some .int) 3 7 := ⟨⟨ztb_in (List.mem_of_getElem? (i := 562) (by decide +kernel)) rfl, mzlX7, mclX7_cause, mdlX7_cause.1, mdlX7_cause.2⟩, milX7_cause, melX7_cause, rfl, by decide⟩
theorem mlL_89 : zMV RL 89 yX8_cause cX8_cause 8 (some .int) 3 8 := ⟨⟨ztb_in (List.mem_of_getElem? (i := 950) (by decide +kernel)) rfl, mzlX8, mclX8_cause, mdlX8_cause.1, mdlX8_cause.2⟩, milX8_cause, melX8_cause, rfl, by decide⟩
theorem mlL_90 : zMV RL 90 yX7_fix cX7_fix 7 (some .int) 3 7 := ⟨⟨ztb_in (List.mem_of_getElem? (i := 566) (by decide +kernel)) rfl, mzlX7, mclX7_fix, mdlX7_fix.1, mdlX7_fix.2⟩, milX7_fix, melX7_fix, rfl, by decide⟩
theorem mlL_93 : zMV RL 93 yX8_fix cX8_fix 7 (some .int) 3 8 := ⟨⟨ztb_in (List.mem_of_getElem? (i := 954) (by decide +kernel)) rfl, mzlX8, mclX8_fix, mdlX8_fix.1, mdlX8_fix.2⟩, milX8_fix, melX8_fix, rfl, by decide⟩
theorem mlL_94 : zMV RL 94 yX7_stable cX7_stable 5 (some .int) 4 7 := ⟨⟨ztb_in (List.mem_of_getElem? (i := 585) (by decide +kernel)) rfl, mzlX7, mclX7_stable, mdlX7_stable.1, mdlX7_stable.2⟩, milX7_stable, melX7_stable, rfl, by decide⟩
theorem mlL_98 : zMV RL 98 yX8_stable cX8_stable 5 (some .int) 4 8 := ⟨⟨ztb_in (List.mem_of_getElem? (i := 958) (by decide +kernel)) rfl, mzlX8, mclX8_stable, mdlX8_stable.1, mdlX8_stable.2⟩, milX8_stable, melX8_stable, rfl, by decide⟩
theorem mlL_99 : zMV RL 99 yX7_breaks cX7_breaks 5 (some .int) 3 7 := ⟨⟨ztb_in (List.mem_of_getElem? (i := 593) (by decide +kernel)) rfl, mzlX7, mclX7_breaks, mdlX7_breaks.1, mdlX7_breaks.2⟩, milX7_breaks, melX7_breaks, rfl, by decide⟩
theorem mlL_102 : zMV RL 102 yX8_breaks cX8_breaks 4 (some .int) 3 8 := ⟨⟨ztb_in (List.mem_of_getElem? (i := 966) (by decide +kernel)) rfl, mzlX8, mclX8_breaks, mdlX8_breaks.1, mdlX8_breaks.2⟩, milX8_breaks, melX8_breaks, rfl, by decide⟩
theorem mlL_103 : zMV RL 103 yX7_rooms cX7_rooms 6 (some .int) 2 7 := ⟨⟨ztb_in (List.mem_of_getElem? (i := 597) (by decide +kernel)) rfl, mzlX7, mclX7_rooms, mdlX7_rooms.1, mdlX7_rooms.2⟩, milX7_rooms, melX7_rooms, rfl, by decide⟩
theorem mlL_106 : zMV RL 106 yX8_rooms cX8_rooms 6 (some .int) 2 8 := ⟨⟨ztb_in (List.mem_of_getElem? (i := 970) (by decide +kernel)) rfl, mzlX8, mclX8_rooms, mdlX8_rooms.1, mdlX8_rooms.2⟩, milX8_rooms, melX8_rooms, rfl, by decide⟩
theorem mlL_107 : zMV RL 107 yX7_maker cX7_maker 4 (some .int) 3 7 := ⟨⟨ztb_in (List.mem_of_getElem? (i := 609) (by decide +kernel)) rfl, mzlX7, mclX7_maker, mdlX7_maker.1, mdlX7_maker.2⟩, milX7_maker, melX7_maker, rfl, by decide⟩
theorem mlL_110 : zMV RL 110 yX8_maker cX8_maker 4 (some .int) 3 8 := ⟨⟨ztb_in (List.mem_of_getElem? (i := 978) (by decide +kernel)) rfl, mzlX8, mclX8_maker, mdlX8_maker.1, mdlX8_maker.2⟩, milX8_maker, melX8_maker, rfl, by decide⟩
theorem mlL_111 : zMV RL 111 yX7_down cX7_down 2 (some .int) 1 7 := ⟨⟨ztb_in (List.mem_of_getElem? (i := 616) (by decide +kernel)) rfl, mzlX7, mclX7_down, mdlX7_down.1, mdlX7_down.2⟩, milX7_down, melX7_down, rfl, by decide⟩
theorem mlL_114 : zMV RL 114 yX8_down cX8_down 2 (some .int) 1 8 := ⟨⟨ztb_in (List.mem_of_getElem? (i := 985) (by decide +kernel)) rfl, mzlX8, mclX8_down, mdlX8_down.1, mdlX8_down.2⟩, milX8_down, melX8_down, rfl, by decide⟩
theorem mlL_115 : zMV RL 115 yX7_ring cX7_ring 4 (some .int) 2 7 := ⟨⟨ztb_in (List.mem_of_getElem? (i := 634) (by decide +kernel)) rfl, mzlX7, mclX7_ring, mdlX7_ring.1, mdlX7_ring.2⟩, milX7_ring, melX7_ring, rfl, by decide⟩
theorem mlL_118 : zMV RL 118 yX8_ring cX8_ring 6 (some .int) 2 8 := ⟨⟨ztb_in (List.mem_of_getElem? (i := 993) (by decide +kernel)) rfl, mzlX8, mclX8_ring, mdlX8_ring.1, mdlX8_ring.2⟩, milX8_ring, melX8_ring, rfl, by decide⟩
theorem mlL_119 : zMV RL 119 yX7_needs cX7_needs 4 (some .int) 2 7 := ⟨⟨ztb_in (List.mem_of_getElem? (i := 639) (by decide +kernel)) rfl, mzlX7, mclX7_needs, mdlX7_needs.1, mdlX7_needs.2⟩, milX7_needs, melX7_needs, rfl, by decide⟩
theorem mlL_122 : zMV RL 122 yX8_needs cX8_needs 6 (some .int) 2 8 := ⟨⟨ztb_in (List.mem_of_getElem? (i := 1001) (by decide +kernel)) rfl, mzlX8, mclX8_needs, mdlX8_needs.1, mdlX8_needs.2⟩, milX8_needs, melX8_needs, rfl, by decide⟩
theorem mlL_123 : zMV RL 123 yX7_forge cX7_forge 4 (some .int) 2 7 := ⟨⟨ztb_in (List.mem_of_getElem? (i := 647) (by decide +kernel)) rfl, mzlX7, mclX7_forge, mdlX7_forge.1, mdlX7_forge.2⟩, milX7_forge, melX7_forge, rfl, by decide⟩
theorem mlL_126 : zMV RL 126 yX8_forge cX8_forge 4 (some .int) 2 8 := ⟨⟨ztb_in (List.mem_of_getElem? (i := 1005) (by decide +kernel)) rfl, mzlX8, mclX8_forge, mdlX8_forge.1, mdlX8_forge.2⟩, milX8_forge, melX8_forge, rfl, by decide⟩
theorem mlL_127 : zMV RL 127 yX7_trust cX7_trust 2 (some .int) 1 7 := ⟨⟨ztb_in (List.mem_of_getElem? (i := 651) (by decide +kernel)) rfl, mzlX7, mclX7_trust, mdlX7_trust.1, mdlX7_trust.2⟩, milX7_trust, melX7_trust, rfl, by decide⟩
theorem mlL_130 : zMV RL 130 yX8_trust cX8_trust 4 (some .int) 1 8 := ⟨⟨ztb_in (List.mem_of_getElem? (i := 1009) (by decide +kernel)) rfl, mzlX8, mclX8_trust, mdlX8_trust.1, mdlX8_trust.2⟩, milX8_trust, melX8_trust, rfl, by decide⟩
theorem mlL_131 : zMV RL 131 yX7_heirs cX7_heirs 4 (some .int) 1 7 := ⟨⟨ztb_in (List.mem_of_getElem? (i := 655) (by decide +kernel)) rfl, mzlX7, mclX7_heirs, mdlX7_heirs.1, mdlX7_heirs.2⟩, milX7_heirs, melX7_heirs, rfl, by decide⟩
theorem mlL_134 : zMV RL 134 yX8_heirs cX8_heirs 5 (some .int) 1 8 := ⟨⟨ztb_in (List.mem_of_getElem? (i := 1013) (by decide +kernel)) rfl, mzlX8, mclX8_heirs, mdlX8_heirs.1, mdlX8_heirs.2⟩, milX8_heirs, melX8_heirs, rfl, by decide⟩
theorem mlL_135 : zMV RL 135 yX7_count cX7_count 2 (some .int) 1 7 := ⟨⟨ztb_in (List.mem_of_getElem? (i := 659) (by decide +kernel)) rfl, mzlX7, mclX7_count, mdlX7_count.1, mdlX7_count.2⟩, milX7_count, melX7_count, rfl, by decide⟩
theorem mlL_138 : zMV RL 138 yX8_count cX8_count 4 (some .int) 1 8 := ⟨⟨ztb_in (List.mem_of_getElem? (i := 1017) (by decide +kernel)) rfl, mzlX8, mclX8_count, mdlX8_count.1, mdlX8_count.2⟩, milX8_count, melX8_count, rfl, by decide⟩
theorem mlL_9 : zMI RL 9 yX7_init cX7_init 1 0 := ⟨Or.inl ⟨ztb_in (List.mem_of_getElem? (i := 66) (by decide +kernel)) rfl, mzlX7, ztb_in (List.mem_of_getElem? (i := 68) (by decide +kernel)) rfl, by decide +kernel, by decide +kernel⟩, by decide +kernel, ztb_in (List.mem_of_getElem? (i := 67) (by decide +kernel)) rfl⟩
theorem mlL_12 : zMI RL 12 yX8_init cX8_init 1 0 := ⟨Or.inl ⟨ztb_in (List.mem_of_getElem? (i := 669) (by decide +kernel)) rfl, mzlX8, ztb_in (List.mem_of_getElem? (i := 671) (by decide +kernel)) rfl, by decide +kernel, by decide +kernel⟩, by decide +kernel, ztb_in (List.mem_of_getElem? (i := 670) (by decide +kernel)) rfl⟩
theorem nlL_7 : zNL RL 7 7 8 := ⟨RX7, TX7, tyX7, rfl, inX7, tyX7_ok, ztb_in (List.mem_of_getElem? (i := 64) (by decide +kernel)) rfl, ztb_in (List.mem_of_getElem? (i := 65) (by decide +kernel)) rfl, ztb_in (List.mem_of_getElem? (i := 51) (by decide +kernel)) rfl, by decide +kernel, rfl, by decide⟩
theorem nlL_10 : zNL RL 10 8 33 := ⟨RX8, TX8, tyX8, rfl, inX8, tyX8_ok, ztb_in (List.mem_of_getElem? (i := 667) (by decide +kernel)) rfl, ztb_in (List.mem_of_getElem? (i := 668) (by decide +kernel)) rfl, ztb_in (List.mem_of_getElem? (i := 61) (by decide +kernel)) rfl, by decide +kernel, rfl, by decide⟩
